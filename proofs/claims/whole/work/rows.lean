section
-- ===== PART A: goes FIRST, ahead of the names: the tables' words, and 'selects' of the private methods out of them =====
/-- a private method of a class that the tables say can be made, by its rows of tables_1 -/
def lw_okq (q : MethodName × Nat) : Prop := (q.1.cls ≠ "java/lang/invoke/MethodHandle" ∧ q.1.cls ≠ "java/lang/invoke/VarHandle") ∧ Cond.instantiable q.1.cls q.2 ∈ tables_1 ∧ Cond.privateMethod q.1 ∈ tables_1 ∧ Cond.instanceMethod q.1 ∈ tables_1
theorem lw_p0 : lw_okq (⟨"SuffixWright$Automaton", "addState", "(II)I"⟩, 7) := ⟨⟨by decide +kernel, by decide +kernel⟩, List.mem_of_getElem? (i := 47) (by decide +kernel), List.mem_of_getElem? (i := 73) (by decide +kernel), List.mem_of_getElem? (i := 74) (by decide +kernel)⟩
theorem lw_p1 : lw_okq (⟨"SuffixWright$Automaton", "putLink", "(II)V"⟩, 7) := ⟨⟨by decide +kernel, by decide +kernel⟩, List.mem_of_getElem? (i := 47) (by decide +kernel), List.mem_of_getElem? (i := 80) (by decide +kernel), List.mem_of_getElem? (i := 81) (by decide +kernel)⟩
theorem lw_p2 : lw_okq (⟨"SuffixWright$Automaton", "putStep", "(III)V"⟩, 7) := ⟨⟨by decide +kernel, by decide +kernel⟩, List.mem_of_getElem? (i := 47) (by decide +kernel), List.mem_of_getElem? (i := 88) (by decide +kernel), List.mem_of_getElem? (i := 89) (by decide +kernel)⟩
theorem lw_p3 : lw_okq (⟨"SuffixWright$Automaton", "sortIn", "(I)V"⟩, 7) := ⟨⟨by decide +kernel, by decide +kernel⟩, List.mem_of_getElem? (i := 47) (by decide +kernel), List.mem_of_getElem? (i := 99) (by decide +kernel), List.mem_of_getElem? (i := 100) (by decide +kernel)⟩
theorem lw_p4 : lw_okq (⟨"SuffixWright", "partState", "()I"⟩, 6) := ⟨⟨by decide +kernel, by decide +kernel⟩, List.mem_of_getElem? (i := 15) (by decide +kernel), List.mem_of_getElem? (i := 190) (by decide +kernel), List.mem_of_getElem? (i := 191) (by decide +kernel)⟩
theorem lw_p5 : lw_okq (⟨"SuffixWright", "walkPattern", "(I)I"⟩, 6) := ⟨⟨by decide +kernel, by decide +kernel⟩, List.mem_of_getElem? (i := 15) (by decide +kernel), List.mem_of_getElem? (i := 194) (by decide +kernel), List.mem_of_getElem? (i := 195) (by decide +kernel)⟩
theorem lw_p6 : lw_okq (⟨"SuffixWright$Automaton", "linkOf", "(I)I"⟩, 7) := ⟨⟨by decide +kernel, by decide +kernel⟩, List.mem_of_getElem? (i := 47) (by decide +kernel), List.mem_of_getElem? (i := 245) (by decide +kernel), List.mem_of_getElem? (i := 246) (by decide +kernel)⟩
theorem lw_p7 : lw_okq (⟨"SuffixWright$Guide", "aheadOf", "(I)I"⟩, 3) := ⟨⟨by decide +kernel, by decide +kernel⟩, List.mem_of_getElem? (i := 41) (by decide +kernel), List.mem_of_getElem? (i := 272) (by decide +kernel), List.mem_of_getElem? (i := 273) (by decide +kernel)⟩
theorem lw_p8 : lw_okq (⟨"SuffixWright$Guide", "putAhead", "(II)V"⟩, 3) := ⟨⟨by decide +kernel, by decide +kernel⟩, List.mem_of_getElem? (i := 41) (by decide +kernel), List.mem_of_getElem? (i := 277) (by decide +kernel), List.mem_of_getElem? (i := 278) (by decide +kernel)⟩
theorem lw_p9 : lw_okq (⟨"java/lang/Throwable", "fillInStackTrace", "(I)Ljava/lang/Throwable;"⟩, 6) := ⟨⟨by decide +kernel, by decide +kernel⟩, List.mem_of_getElem? (i := 333) (by decide +kernel), List.mem_of_getElem? (i := 331) (by decide +kernel), List.mem_of_getElem? (i := 332) (by decide +kernel)⟩
theorem lw_p10 : lw_okq (⟨"SuffixWright", "demandText", "(I)LSuffixWright$Word;"⟩, 6) := ⟨⟨by decide +kernel, by decide +kernel⟩, List.mem_of_getElem? (i := 15) (by decide +kernel), List.mem_of_getElem? (i := 372) (by decide +kernel), List.mem_of_getElem? (i := 373) (by decide +kernel)⟩
theorem lw_p11 : lw_okq (⟨"SuffixWright$Automaton", "extend", "(II)I"⟩, 7) := ⟨⟨by decide +kernel, by decide +kernel⟩, List.mem_of_getElem? (i := 47) (by decide +kernel), List.mem_of_getElem? (i := 417) (by decide +kernel), List.mem_of_getElem? (i := 418) (by decide +kernel)⟩
theorem lw_p12 : lw_okq (⟨"SuffixWright$Automaton", "stateBehind", "(II)I"⟩, 7) := ⟨⟨by decide +kernel, by decide +kernel⟩, List.mem_of_getElem? (i := 47) (by decide +kernel), List.mem_of_getElem? (i := 421) (by decide +kernel), List.mem_of_getElem? (i := 422) (by decide +kernel)⟩
theorem lw_p13 : lw_okq (⟨"SuffixWright", "beginOfPattern", "(I)I"⟩, 6) := ⟨⟨by decide +kernel, by decide +kernel⟩, List.mem_of_getElem? (i := 15) (by decide +kernel), List.mem_of_getElem? (i := 503) (by decide +kernel), List.mem_of_getElem? (i := 504) (by decide +kernel)⟩
theorem lw_p14 : lw_okq (⟨"SuffixWright$Guide", "suits", "(III)Z"⟩, 3) := ⟨⟨by decide +kernel, by decide +kernel⟩, List.mem_of_getElem? (i := 41) (by decide +kernel), List.mem_of_getElem? (i := 545) (by decide +kernel), List.mem_of_getElem? (i := 546) (by decide +kernel)⟩
theorem lw_p15 : lw_okq (⟨"SuffixWrightModel", "holds", "(I)Z"⟩, 13) := ⟨⟨by decide +kernel, by decide +kernel⟩, List.mem_of_getElem? (i := 581) (by decide +kernel), List.mem_of_getElem? (i := 639) (by decide +kernel), List.mem_of_getElem? (i := 640) (by decide +kernel)⟩
def lw_privs_1 : List (MethodName × Nat) := [(⟨"SuffixWright$Automaton", "addState", "(II)I"⟩, 7), (⟨"SuffixWright$Automaton", "putLink", "(II)V"⟩, 7), (⟨"SuffixWright$Automaton", "putStep", "(III)V"⟩, 7), (⟨"SuffixWright$Automaton", "sortIn", "(I)V"⟩, 7), (⟨"SuffixWright", "partState", "()I"⟩, 6), (⟨"SuffixWright", "walkPattern", "(I)I"⟩, 6), (⟨"SuffixWright$Automaton", "linkOf", "(I)I"⟩, 7), (⟨"SuffixWright$Guide", "aheadOf", "(I)I"⟩, 3), (⟨"SuffixWright$Guide", "putAhead", "(II)V"⟩, 3), (⟨"java/lang/Throwable", "fillInStackTrace", "(I)Ljava/lang/Throwable;"⟩, 6), (⟨"SuffixWright", "demandText", "(I)LSuffixWright$Word;"⟩, 6), (⟨"SuffixWright$Automaton", "extend", "(II)I"⟩, 7), (⟨"SuffixWright$Automaton", "stateBehind", "(II)I"⟩, 7), (⟨"SuffixWright", "beginOfPattern", "(I)I"⟩, 6), (⟨"SuffixWright$Guide", "suits", "(III)Z"⟩, 3), (⟨"SuffixWrightModel", "holds", "(I)Z"⟩, 13)]
theorem lw_r1 : ∀ q ∈ lw_privs_1, lw_okq q := List.forall_mem_cons.mpr ⟨lw_p0, List.forall_mem_cons.mpr ⟨lw_p1, List.forall_mem_cons.mpr ⟨lw_p2, List.forall_mem_cons.mpr ⟨lw_p3, List.forall_mem_cons.mpr ⟨lw_p4, List.forall_mem_cons.mpr ⟨lw_p5, List.forall_mem_cons.mpr ⟨lw_p6, List.forall_mem_cons.mpr ⟨lw_p7, List.forall_mem_cons.mpr ⟨lw_p8, List.forall_mem_cons.mpr ⟨lw_p9, List.forall_mem_cons.mpr ⟨lw_p10, List.forall_mem_cons.mpr ⟨lw_p11, List.forall_mem_cons.mpr ⟨lw_p12, List.forall_mem_cons.mpr ⟨lw_p13, List.forall_mem_cons.mpr ⟨lw_p14, List.forall_mem_cons.mpr ⟨lw_p15, fun _ h => absurd h List.not_mem_nil⟩⟩⟩⟩⟩⟩⟩⟩⟩⟩⟩⟩⟩⟩⟩⟩
theorem lw_p16 : lw_okq (⟨"SuffixWrightModel", "isText", "(I)Z"⟩, 13) := ⟨⟨by decide +kernel, by decide +kernel⟩, List.mem_of_getElem? (i := 581) (by decide +kernel), List.mem_of_getElem? (i := 647) (by decide +kernel), List.mem_of_getElem? (i := 648) (by decide +kernel)⟩
theorem lw_p17 : lw_okq (⟨"SuffixWrightModel", "lays", "(II)V"⟩, 13) := ⟨⟨by decide +kernel, by decide +kernel⟩, List.mem_of_getElem? (i := 581) (by decide +kernel), List.mem_of_getElem? (i := 682) (by decide +kernel), List.mem_of_getElem? (i := 683) (by decide +kernel)⟩
theorem lw_p18 : lw_okq (⟨"SuffixWrightModel", "count", "(I)I"⟩, 13) := ⟨⟨by decide +kernel, by decide +kernel⟩, List.mem_of_getElem? (i := 581) (by decide +kernel), List.mem_of_getElem? (i := 698) (by decide +kernel), List.mem_of_getElem? (i := 699) (by decide +kernel)⟩
theorem lw_p19 : lw_okq (⟨"SuffixWrightModel", "countIn", "(II)I"⟩, 13) := ⟨⟨by decide +kernel, by decide +kernel⟩, List.mem_of_getElem? (i := 581) (by decide +kernel), List.mem_of_getElem? (i := 702) (by decide +kernel), List.mem_of_getElem? (i := 703) (by decide +kernel)⟩
theorem lw_p20 : lw_okq (⟨"SuffixWrightModel", "stands", "(III)Z"⟩, 13) := ⟨⟨by decide +kernel, by decide +kernel⟩, List.mem_of_getElem? (i := 581) (by decide +kernel), List.mem_of_getElem? (i := 706) (by decide +kernel), List.mem_of_getElem? (i := 707) (by decide +kernel)⟩
theorem lw_p21 : lw_okq (⟨"SuffixWrightModel", "beside", "(I)I"⟩, 13) := ⟨⟨by decide +kernel, by decide +kernel⟩, List.mem_of_getElem? (i := 581) (by decide +kernel), List.mem_of_getElem? (i := 730) (by decide +kernel), List.mem_of_getElem? (i := 731) (by decide +kernel)⟩
theorem lw_p22 : lw_okq (⟨"SuffixWrightModel", "sorts", "()V"⟩, 13) := ⟨⟨by decide +kernel, by decide +kernel⟩, List.mem_of_getElem? (i := 581) (by decide +kernel), List.mem_of_getElem? (i := 742) (by decide +kernel), List.mem_of_getElem? (i := 743) (by decide +kernel)⟩
theorem lw_p23 : lw_okq (⟨"SuffixWrightModel", "comes", "(II)Z"⟩, 13) := ⟨⟨by decide +kernel, by decide +kernel⟩, List.mem_of_getElem? (i := 581) (by decide +kernel), List.mem_of_getElem? (i := 746) (by decide +kernel), List.mem_of_getElem? (i := 747) (by decide +kernel)⟩
theorem lw_p24 : lw_okq (⟨"SuffixWrightModel", "same", "(II)I"⟩, 13) := ⟨⟨by decide +kernel, by decide +kernel⟩, List.mem_of_getElem? (i := 581) (by decide +kernel), List.mem_of_getElem? (i := 750) (by decide +kernel), List.mem_of_getElem? (i := 751) (by decide +kernel)⟩
theorem lw_p25 : lw_okq (⟨"SuffixWrightModel", "left", "(I)I"⟩, 13) := ⟨⟨by decide +kernel, by decide +kernel⟩, List.mem_of_getElem? (i := 581) (by decide +kernel), List.mem_of_getElem? (i := 754) (by decide +kernel), List.mem_of_getElem? (i := 755) (by decide +kernel)⟩
theorem lw_p26 : lw_okq (⟨"SuffixWrightModel", "looks", "(II)V"⟩, 13) := ⟨⟨by decide +kernel, by decide +kernel⟩, List.mem_of_getElem? (i := 581) (by decide +kernel), List.mem_of_getElem? (i := 758) (by decide +kernel), List.mem_of_getElem? (i := 759) (by decide +kernel)⟩
theorem lw_p27 : lw_okq (⟨"SuffixWrightModel", "areLed", "(I)Z"⟩, 13) := ⟨⟨by decide +kernel, by decide +kernel⟩, List.mem_of_getElem? (i := 581) (by decide +kernel), List.mem_of_getElem? (i := 766) (by decide +kernel), List.mem_of_getElem? (i := 767) (by decide +kernel)⟩
theorem lw_p28 : lw_okq (⟨"SuffixWrightModel", "partsNow", "()I"⟩, 13) := ⟨⟨by decide +kernel, by decide +kernel⟩, List.mem_of_getElem? (i := 581) (by decide +kernel), List.mem_of_getElem? (i := 778) (by decide +kernel), List.mem_of_getElem? (i := 779) (by decide +kernel)⟩
theorem lw_p29 : lw_okq (⟨"SuffixWrightModel", "agreed", "(I)I"⟩, 13) := ⟨⟨by decide +kernel, by decide +kernel⟩, List.mem_of_getElem? (i := 581) (by decide +kernel), List.mem_of_getElem? (i := 786) (by decide +kernel), List.mem_of_getElem? (i := 787) (by decide +kernel)⟩
theorem lw_p30 : lw_okq (⟨"SuffixWrightModel", "finds", "(II)I"⟩, 13) := ⟨⟨by decide +kernel, by decide +kernel⟩, List.mem_of_getElem? (i := 581) (by decide +kernel), List.mem_of_getElem? (i := 798) (by decide +kernel), List.mem_of_getElem? (i := 799) (by decide +kernel)⟩
theorem lw_p31 : lw_okq (⟨"SuffixWrightModel", "goesOn", "(I)Z"⟩, 13) := ⟨⟨by decide +kernel, by decide +kernel⟩, List.mem_of_getElem? (i := 581) (by decide +kernel), List.mem_of_getElem? (i := 810) (by decide +kernel), List.mem_of_getElem? (i := 811) (by decide +kernel)⟩
def lw_privs_2 : List (MethodName × Nat) := [(⟨"SuffixWrightModel", "isText", "(I)Z"⟩, 13), (⟨"SuffixWrightModel", "lays", "(II)V"⟩, 13), (⟨"SuffixWrightModel", "count", "(I)I"⟩, 13), (⟨"SuffixWrightModel", "countIn", "(II)I"⟩, 13), (⟨"SuffixWrightModel", "stands", "(III)Z"⟩, 13), (⟨"SuffixWrightModel", "beside", "(I)I"⟩, 13), (⟨"SuffixWrightModel", "sorts", "()V"⟩, 13), (⟨"SuffixWrightModel", "comes", "(II)Z"⟩, 13), (⟨"SuffixWrightModel", "same", "(II)I"⟩, 13), (⟨"SuffixWrightModel", "left", "(I)I"⟩, 13), (⟨"SuffixWrightModel", "looks", "(II)V"⟩, 13), (⟨"SuffixWrightModel", "areLed", "(I)Z"⟩, 13), (⟨"SuffixWrightModel", "partsNow", "()I"⟩, 13), (⟨"SuffixWrightModel", "agreed", "(I)I"⟩, 13), (⟨"SuffixWrightModel", "finds", "(II)I"⟩, 13), (⟨"SuffixWrightModel", "goesOn", "(I)Z"⟩, 13)]
theorem lw_r2 : ∀ q ∈ lw_privs_2, lw_okq q := List.forall_mem_cons.mpr ⟨lw_p16, List.forall_mem_cons.mpr ⟨lw_p17, List.forall_mem_cons.mpr ⟨lw_p18, List.forall_mem_cons.mpr ⟨lw_p19, List.forall_mem_cons.mpr ⟨lw_p20, List.forall_mem_cons.mpr ⟨lw_p21, List.forall_mem_cons.mpr ⟨lw_p22, List.forall_mem_cons.mpr ⟨lw_p23, List.forall_mem_cons.mpr ⟨lw_p24, List.forall_mem_cons.mpr ⟨lw_p25, List.forall_mem_cons.mpr ⟨lw_p26, List.forall_mem_cons.mpr ⟨lw_p27, List.forall_mem_cons.mpr ⟨lw_p28, List.forall_mem_cons.mpr ⟨lw_p29, List.forall_mem_cons.mpr ⟨lw_p30, List.forall_mem_cons.mpr ⟨lw_p31, fun _ h => absurd h List.not_mem_nil⟩⟩⟩⟩⟩⟩⟩⟩⟩⟩⟩⟩⟩⟩⟩⟩
def lw_privs : List (MethodName × Nat) := lw_privs_1 ++ (lw_privs_2)
def lw_tbl : List Cond := k2_sels lw_privs ++ tables_1
theorem lw_privs_ok : ∀ q ∈ lw_privs, lw_okq q := by
  show ∀ q ∈ lw_privs_1 ++ (lw_privs_2), lw_okq q
  exact List.forall_mem_append.mpr ⟨lw_r1, lw_r2⟩
-- ===== end of PART A; then your names; then what follows =====
end
section
/-! ===== BEGIN words of one list among another's, by their places ===== -/
theorem goodIn_r {big : List Cond} (ws : List Cond) (ps : List Nat) (hp : ws = ps.filterMap (fun i => big[i]?)) (h : ws.all goodWord = true) : GoodIn big ws := by
  intro w hw
  have h1 := List.all_eq_true.mp h w hw
  rw [hp] at hw
  obtain ⟨i, -, hi⟩ := List.mem_filterMap.mp hw
  have hm : w ∈ big := by first | exact List.mem_of_getElem? hi | exact List.getElem?_mem hi
  exact ⟨hm, good_of_word h1⟩
theorem goodIn_app {big a b : List Cond} (ha : GoodIn big a) (hb : GoodIn big b) : GoodIn big (a ++ b) := fun w h => (List.mem_append.mp h).elim (ha w) (hb w)
theorem goodIn_ca {big a b : List Cond} {c : Cond} (ha : GoodIn big (c :: a)) (hb : GoodIn big b) : GoodIn big (c :: (a ++ b)) := fun w h => (List.mem_cons.mp h).elim (fun e => ha w (List.mem_cons.mpr (Or.inl e))) (fun h => (List.mem_append.mp h).elim (fun h => ha w (List.mem_cons.mpr (Or.inr h))) (hb w))
theorem goodIn_sub {big ws : List Cond} (hm : ∀ w ∈ ws, w ∈ big) (h : ws.all goodWord = true) : GoodIn big ws := fun w hw => ⟨hm w hw, good_of_word (List.all_eq_true.mp h w hw)⟩
/-! ===== END ===== -/

/-! ===== BEGIN exceptions that leave a method, and their catching by the caller (launches without stack traces) ===== -/
section VXA
/-! The laws vx_back, vx_callV, vx_callS, vx_callSW, vx_throw0, vx_throwS follow proofs of the library, with one case more: JvmDerived/Free/Laws.lean (Back.of_free), Shelf42/LK1.lean (callV, callS), Shelf/KitTraced.lean (throwNew0V, throwNewS). -/
/-- where a method has thrown q: the class by its name, the cell, what was written, the world -/
def vx_T (XC : String → State → State → Prop) (st : State) (q : Addr) (t : State) (mc ms : Nat) (free : Addr → Prop) : Prop :=
  ∃ (E : String) (ce : Cell) (L : List Loc), XC E st t ∧ t.heap[q]? = some ce ∧ ce.vm = .none ∧ st.vm.findClass E = some ce.cls ∧ st.WarmedH t.vm ∧ st.sameButNew ({ t with vm := st.vm } : State) L mc ms ∧ ∀ z ∈ L, free z.base
def vx_Q (Qc : Array Value → State → Outcome → State → Prop) (XC : String → State → State → Prop) (mc ms : Nat) (free : Addr → Prop) : Array Value → State → Outcome → State → Prop := fun a st o t =>
  (Qc a st o t ∧ ∃ L, FrameEnd st o t L mc ms ∧ ∀ q ∈ L, free q.base) ∨ ∃ q, o = .threw q ∧ vx_T XC st q t mc ms free
/-- a callee that returns or throws -/
def vx_Met (l : Launch) (y : MethodName) (ws : List Cond) (rm : Room) (Pc : Array Value → State → Prop) (Qc : Array Value → State → Outcome → State → Prop) (XC : String → State → State → Prop) (mc ms : Nat) (free : Addr → Prop) : Prop :=
  MetFree l y (headSpec ws rm) Pc (fun _ _ _ _ _ => True) (vx_Q Qc XC mc ms free)
def vx_Post (XC : String → State → State → Prop) (mc ms : Nat) (free : Addr → Prop) : Pt → Array Value → Addr → Pt → Prop := fun A a q B =>
  ∃ (g : JFrame) (mk : MethodId) (t : State) (L : List Loc) (E : String) (ce : Cell), B.U.heap = t.heap ∧ B.U.vm = t.vm ∧ XC E (A.U.calling g mk a) t ∧ t.heap[q]? = some ce ∧ ce.vm = .none ∧ A.U.vm.findClass E = some ce.cls ∧ B.locs = A.locs ++ L ∧ (∀ z ∈ L, free z.base) ∧ B.cells = A.cells + mc ∧ B.slots = A.slots + ms
def vx_Back (l : Launch) (R : Room) (p : Program) (e : Env) (below : List Frame) (s : State) (sargs : Array Value) (y : MethodName) (len W9 : Nat)
    (Pre : Pt → Array Value → Prop) (Post : Pt → Array Value → Option Value → Pt → Prop) (PostX : Pt → Array Value → Addr → Pt → Prop) : Prop :=
  ∀ (m : MethodId) (meth : Method) (c : Code) (A : Pt) (g : JFrame) (ig : Instr) (mk : MethodId) (a : Array Value),
    Stand p l e R s m sargs below meth c A.U A.locs A.cells A.slots → g.method = m → g.locals.size = c.maxLocals → decode c.code g.pc = .ok (ig, len) →
    2 * g.monitorRoom + (g.stack.map fun v => v.category).sum ≤ W9 → A.U.methodNamed? y = some mk → Pre A a →
    (∃ (v : Option Value) (B : Pt), Stand p l e R s m sargs below meth c B.U B.locs B.cells B.slots ∧ Post A a v B ∧
      Steps p.tables e below (doInvoke e (A.U.setTop g) [] mk a).1 (B.U.setTop { g with pc := g.pc + len, stack := v.toList ++ g.stack })) ∨
    (∃ (q : Addr) (B : Pt), Stand p l e R s m sargs below meth c B.U B.locs B.cells B.slots ∧ PostX A a q B ∧
      Steps p.tables e below (doInvoke e (A.U.setTop g) [] mk a).1 ((B.U.setTop g).pushFrame (.throwing q)))
section Payer
variable {l : Launch} {R : Room} {p : Program} {e : Env} {below : List Frame} {s : State} {sargs : Array Value} {y : MethodName} {len W9 : Nat}
theorem vx_back {ws : List Cond} {rm : Room} {Pc : Array Value → State → Prop} {Qc : Array Value → State → Outcome → State → Prop} {XC : String → State → State → Prop} {mc ms : Nat} {free : Addr → Prop} {bytes : ByteArray} {maxL : Nat} {ret : Option FieldType}
    (hM : vx_Met l y ws rm Pc Qc XC mc ms free) (hblind : FrameBlind Pc) (hrc : rm.cells = mc) (hrs : rm.slots = ms)
    (hframes : rm.frames + 1 ≤ R.frames) (hlocals : W9 + (maxL + 11) + rm.locals ≤ R.locals)
    (hws : ∀ w ∈ ws, ∀ a' U, s.WarmedH U.vm → w.before a' U = true) (hcode : Cond.code y bytes maxL ret ∈ ws) (hinit : ∀ a' U, s.WarmedH U.vm → (Cond.initialized y.cls).before a' U = true) :
    vx_Back l R p e below s sargs y len W9 (PreOf R mc ms Pc) (PostOf Qc mc ms free) (vx_Post XC mc ms free) := by
  intro m meth c A g ig mk a X hg hsize hdg hW hn hp
  have h1 : (headSpec ws rm).pre.before a A.U = true := atoms_intro fun w hw => hws w hw _ _ X.warmed
  have h2 : (Cond.code y bytes maxL ret).before a A.U = true := hws _ hcode _ _ X.warmed
  have h3 : (Cond.initialized y.cls).before a A.U = true := hinit _ _ X.warmed
  have h4 : A.cells + (headSpec ws rm).room.cells ≤ R.cells := by rw [show (headSpec ws rm).room.cells = mc from hrc]; exact hp.1
  have h5 : A.slots + (headSpec ws rm).room.slots ≤ R.slots := by rw [show (headSpec ws rm).room.slots = ms from hrs]; exact hp.2.1
  have hPc : Pc a (A.U.calling g mk a) := hblind _ _ _ _ hp.2.2
  obtain ⟨U, Ls, c0, s0⟩ := A
  dsimp only [Pt.U, Pt.locs, Pt.cells, Pt.slots] at h1 h2 h3 h4 h5 X hn hPc ⊢
  obtain ⟨methY, cY, hmY, hcY, -, hlY, -, -, -, -⟩ := Cond.code_spec hn h2
  obtain ⟨kY, hkY, -⟩ := className_of_methodNamed hn
  have hinitY : kY.init = .initialized := Cond.initialized_spec (findClass_of_methodNamed hn) hkY h3
  have h : At U g.method c below := by rw [hg]; exact X.here
  have hlocals9 : W9 + (maxL + 11) + (headSpec ws rm).room.locals ≤ R.locals := hlocals
  have happ : (headSpec ws rm).appliesLoose y e.platform (U.calling g mk a) = true :=
    Spec.appliesLoose_calling (g := g) h hdg hn hkY hinitY
      (X.room_calling (g := g) (R' := (headSpec ws rm).room) hsize hmY hcY hframes (by rw [hlY]; omega) h4 h5) h1
  obtain ⟨mid, hmid⟩ := h.above
  have hfr : (U.setTop g).frames = (.java g :: mid) ++ below := by rw [State.frames_setTop' g h.top, hmid]; rfl
  obtain ⟨o, s₂, hsteps, -, hend, hq⟩ := Steps.callFree hM p X.admits X.cas X.clock (acts := []) hfr happ hPc trivial
  have hq' : vx_Q Qc XC mc ms free a (U.calling g mk a) o s₂ := hq
  rw [State.frames_setTop' g h.top] at hend
  obtain ⟨g₀, hg0⟩ := Option.isSome_iff_exists.mp h.top
  obtain ⟨r, hr⟩ := State.topJava?_eq_some.mp hg0
  have hr' : (({ U with heap := s₂.heap, slotsUsed := s₂.slotsUsed } : State).setVm s₂.vm).frames = .java g₀ :: r := hr
  rcases hq' with ⟨hqc, L, hfe, hL⟩ | ⟨q, rfl, E, ce, L, hx, hce, hcv, hcl, hW₂, hsm, hL⟩
  · obtain ⟨⟨v, rfl⟩, hW₂, e2, q2, q3, q4, q5, q6⟩ := id hfe
    have e3 : s₂ = ({ (U.calling g mk a).setFrames s₂.frames with heap := s₂.heap, slotsUsed := s₂.slotsUsed } : State).setVm s₂.vm := by
      have : s₂ = ({ s₂ with vm := (U.calling g mk a).vm } : State).setVm s₂.vm := rfl
      rw [e2] at this
      exact this
    obtain ⟨c₂, i₂, len₂, hc₂, hd₂, hf₂⟩ := hend
    have hW' : U.WarmedH s₂.vm := hW₂
    have hcc : c₂ = c := by
      have h1 : s₂.code? g.method = U.code? g.method := by
        rw [State.code?_eq, State.code?_eq, hW'.alike.method?]
      exact Option.some.inj (hc₂.symm.trans (h1.trans h.code))
    subst hcc
    have hlen : len₂ = len := by rw [hdg] at hd₂; cases hd₂; rfl
    subst hlen
    have hs₂ : s₂ = (({ U with heap := s₂.heap, slotsUsed := s₂.slotsUsed } : State).setVm s₂.vm).setTop { g with pc := g.pc + len₂, stack := v.toList ++ g.stack } := by
      refine e3.trans ?_
      rw [hf₂, State.calling_eq h.top, State.setFrames_setFrames, State.setTop_of_frames _ hr', hr]
      rfl
    have hsame : U.sameButNew ({ U with heap := s₂.heap, slotsUsed := s₂.slotsUsed } : State) L mc ms := by
      refine ⟨?_, q2, q3, q4, q5, q6⟩
      obtain ⟨t, ht, -⟩ := State.frames_cons hr
      show ({ U with heap := s₂.heap, slotsUsed := s₂.slotsUsed } : State) = { U.setFrames U.frames with heap := s₂.heap, slotsUsed := s₂.slotsUsed }
      rw [State.setFrames_self ht]
    subst hg
    refine Or.inl ⟨v, ⟨(({ U with heap := s₂.heap, slotsUsed := s₂.slotsUsed } : State).setVm s₂.vm), Ls ++ L, c0 + mc, s0 + ms⟩,
      ⟨X.admits, X.cas, X.clock, X.frames, X.room, X.hears, X.method, X.code, (X.here.setHeapUsed s₂.heap s₂.slotsUsed).setVm hW'.alike, X.tail, State.WarmedH.trans X.warmed hW', X.limits, X.bytes, X.same.trans (hsame.setVm s.vm)⟩,
      ⟨g, mk, s₂, L, rfl, rfl, hqc, rfl, hL, rfl, rfl⟩, ?_⟩
    show Steps p.tables e below _ ((({ U with heap := s₂.heap, slotsUsed := s₂.slotsUsed } : State).setVm s₂.vm).setTop { g with pc := g.pc + len₂, stack := v.toList ++ g.stack })
    rw [← hs₂]
    exact hsteps
  · obtain ⟨e2, q2, q3, q4, q5, q6⟩ := id hsm
    have e3 : s₂ = ({ (U.calling g mk a).setFrames s₂.frames with heap := s₂.heap, slotsUsed := s₂.slotsUsed } : State).setVm s₂.vm := by
      have : s₂ = ({ s₂ with vm := (U.calling g mk a).vm } : State).setVm s₂.vm := rfl
      rw [e2] at this
      exact this
    have hf₂ : s₂.frames = .throwing q :: .java g :: U.frames.tail := hend
    have hW' : U.WarmedH s₂.vm := hW₂
    have hs₂ : s₂ = ((({ U with heap := s₂.heap, slotsUsed := s₂.slotsUsed } : State).setVm s₂.vm).setTop g).pushFrame (.throwing q) := by
      refine e3.trans ?_
      rw [hf₂, State.calling_eq h.top, State.setFrames_setFrames, State.pushFrame, State.frames_setTop _ hr', State.setTop_of_frames _ hr', State.setFrames_setFrames, hr]
      rfl
    have hsame : U.sameButNew ({ U with heap := s₂.heap, slotsUsed := s₂.slotsUsed } : State) L mc ms := by
      refine ⟨?_, q2, q3, q4, q5, q6⟩
      obtain ⟨t, ht, -⟩ := State.frames_cons hr
      show ({ U with heap := s₂.heap, slotsUsed := s₂.slotsUsed } : State) = { U.setFrames U.frames with heap := s₂.heap, slotsUsed := s₂.slotsUsed }
      rw [State.setFrames_self ht]
    subst hg
    refine Or.inr ⟨q, ⟨(({ U with heap := s₂.heap, slotsUsed := s₂.slotsUsed } : State).setVm s₂.vm), Ls ++ L, c0 + mc, s0 + ms⟩,
      ⟨X.admits, X.cas, X.clock, X.frames, X.room, X.hears, X.method, X.code, (X.here.setHeapUsed s₂.heap s₂.slotsUsed).setVm hW'.alike, X.tail, State.WarmedH.trans X.warmed hW', X.limits, X.bytes, X.same.trans (hsame.setVm s.vm)⟩,
      ⟨g, mk, s₂, L, E, ce, rfl, rfl, hx, hce, hcv, hcl, rfl, hL, rfl, rfl⟩, ?_⟩
    show Steps p.tables e below _ (((({ U with heap := s₂.heap, slotsUsed := s₂.slotsUsed } : State).setVm s₂.vm).setTop g).pushFrame (.throwing q))
    rw [← hs₂]
    exact hsteps
end Payer
section Calls
variable {p : Program} {l : Launch} {e : Env} {R : Room} {s : State} {m : MethodId} {args : Array Value} {below : List Frame} {meth : Method} {c : Code} {T : State} {locs : List Loc} {cells slots : Nat}
theorem vx_callV (X : Stand p l e R s m args below meth c T locs cells slots) (hexec : p.tables.exec = Jvm.exec) {own C : String} {index : Nat} {y : MethodName} {bytes : ByteArray} {maxL : Nat} {ret : Option FieldType}
    (hown : s.vm.findClass own = some m.cls) (hlink : (Cond.methodLink own index y).before args s = true) (hinst : (Cond.instanceMethod y).before args s = true) (hsel : (Cond.selects C y y).before args s = true)
    (hcode : (Cond.code y bytes maxL ret).before args s = true) (hy : y.cls ≠ "java/lang/invoke/MethodHandle" ∧ y.cls ≠ "java/lang/invoke/VarHandle")
    {W9 : Nat} {Pre : Pt → Array Value → Prop} {Post : Pt → Array Value → Option Value → Pt → Prop} {PostX : Pt → Array Value → Addr → Pt → Prop} (hK : vx_Back l R p e below s args y 3 W9 Pre Post PostX)
    {b : Addr} {cellB : Cell} (hcell : T.heap[b]? = some cellB) (hobj : cellB.vm.isStatics = false) (hcls : s.vm.findClass C = some cellB.cls)
    {g : JFrame} (hg : g.method = m) (hsize : g.locals.size = c.maxLocals) {argsL rest : List Value} (hlen : ∀ sig, parseMethodDescriptor y.desc = some sig → argsL.length = sig.parameters.length)
    (hstack : g.stack = argsL.reverse ++ .ref b :: rest) (hW : 2 * g.monitorRoom + (rest.map fun v => v.category).sum ≤ W9) (hdg : decode c.code g.pc = .ok (.invokevirtual index, 3))
    (hpre : ∀ vm₁, s.WarmedH vm₁ → Pre ⟨T.setVm vm₁, locs, cells, slots⟩ (Value.ref b :: argsL).toArray) :
    (∃ (v : Option Value) (vm₁ : Vm) (B : Pt), s.WarmedH vm₁ ∧ Stand p l e R s m args below meth c B.U B.locs B.cells B.slots ∧ Post ⟨T.setVm vm₁, locs, cells, slots⟩ (Value.ref b :: argsL).toArray v B ∧
      ∀ target, Steps p.tables e below (B.U.setTop { g with pc := g.pc + 3, stack := v.toList ++ rest }) target → Steps p.tables e below (T.setTop g) target) ∨
    (∃ (q : Addr) (vm₁ : Vm) (B : Pt), s.WarmedH vm₁ ∧ Stand p l e R s m args below meth c B.U B.locs B.cells B.slots ∧ PostX ⟨T.setVm vm₁, locs, cells, slots⟩ (Value.ref b :: argsL).toArray q B ∧
      Steps p.tables e below (T.setTop g) ((B.U.setTop { g with stack := rest }).pushFrame (.throwing q))) := by
  obtain ⟨mk, methM, hnamed, hmethM, hstM, habM⟩ := Cond.instanceMethod_spec hinst
  obtain ⟨methM', cM, hmethM', -, -, -, -, -, -, hsigM⟩ := Cond.code_spec hnamed hcode
  cases hmethM.symm.trans hmethM'
  obtain ⟨c2, r2, m2, q1, q2, q3, q4, kP, hkP, hkPi⟩ := Cond.selects_spec hsel
  cases hcls.symm.trans q1
  cases (State.methodFound?_of_named hnamed hy).symm.trans q2
  cases hnamed.symm.trans q3
  have hselP : selectMethod e.platform s.vm cellB.cls mk = .method mk := by rw [Launch.admits_selectMethod X.admits]; exact q4
  obtain ⟨vm₁, X₁, hstep₁⟩ := X.invokevirtual hexec hown hlink hnamed hmethM hstM hkP hkPi hy (a := b) (cell := cellB) hcell
    (fun z h => by rw [h] at hobj; cases hobj) hselP hmethM habM hkP hkPi (g := g) hg (argsL := argsL) (rest := rest) (hlen _ hsigM) hstack hdg
  rcases hK m meth c ⟨T.setVm vm₁, locs, cells, slots⟩ { g with stack := rest } (.invokevirtual index) mk (Value.ref b :: argsL).toArray X₁ hg hsize hdg hW (X₁.named hnamed) (hpre vm₁ X₁.warmed) with ⟨v, B, X', hpost, hsteps⟩ | ⟨q, B, X', hpost, hsteps⟩
  · exact Or.inl ⟨v, vm₁, B, X₁.warmed, X', hpost, fun target h => hstep₁ _ fun acts => by rw [doInvoke_state]; exact hsteps.trans h⟩
  · exact Or.inr ⟨q, vm₁, B, X₁.warmed, X', hpost, hstep₁ _ fun acts => by rw [doInvoke_state]; exact hsteps⟩
theorem vx_callS (X : Stand p l e R s m args below meth c T locs cells slots) (hexec : p.tables.exec = Jvm.exec) {own : String} {index : Nat} {y : MethodName} {bytes : ByteArray} {maxL : Nat} {ret : Option FieldType}
    (hown : s.vm.findClass own = some m.cls) (hlink : (Cond.methodLink own index y).before args s = true) (hstat : (Cond.static y).before args s = true) (hinit : (Cond.initialized y.cls).before args s = true)
    (hcode : (Cond.code y bytes maxL ret).before args s = true) (hy : y.cls ≠ "java/lang/invoke/MethodHandle" ∧ y.cls ≠ "java/lang/invoke/VarHandle")
    {W9 : Nat} {Pre : Pt → Array Value → Prop} {Post : Pt → Array Value → Option Value → Pt → Prop} {PostX : Pt → Array Value → Addr → Pt → Prop} (hK : vx_Back l R p e below s args y 3 W9 Pre Post PostX)
    {g : JFrame} (hg : g.method = m) (hsize : g.locals.size = c.maxLocals) {argsL rest : List Value} (hlen : ∀ sig, parseMethodDescriptor y.desc = some sig → argsL.length = sig.parameters.length)
    (hstack : g.stack = argsL.reverse ++ rest) (hW : 2 * g.monitorRoom + (rest.map fun v => v.category).sum ≤ W9) (hdg : decode c.code g.pc = .ok (.invokestatic index, 3))
    (hpre : ∀ vm₁, s.WarmedH vm₁ → Pre ⟨T.setVm vm₁, locs, cells, slots⟩ argsL.toArray) :
    (∃ (v : Option Value) (vm₁ : Vm) (B : Pt), s.WarmedH vm₁ ∧ Stand p l e R s m args below meth c B.U B.locs B.cells B.slots ∧ Post ⟨T.setVm vm₁, locs, cells, slots⟩ argsL.toArray v B ∧
      ∀ target, Steps p.tables e below (B.U.setTop { g with pc := g.pc + 3, stack := v.toList ++ rest }) target → Steps p.tables e below (T.setTop g) target) ∨
    (∃ (q : Addr) (vm₁ : Vm) (B : Pt), s.WarmedH vm₁ ∧ Stand p l e R s m args below meth c B.U B.locs B.cells B.slots ∧ PostX ⟨T.setVm vm₁, locs, cells, slots⟩ argsL.toArray q B ∧
      Steps p.tables e below (T.setTop g) ((B.U.setTop { g with stack := rest }).pushFrame (.throwing q))) := by
  obtain ⟨mk, hnamed⟩ := Cond.code_named hcode
  obtain ⟨methM, cM, hmethM, -, -, -, -, -, -, hsigM⟩ := Cond.code_spec hnamed hcode
  have hstatic : methM.isStatic = true := Cond.static_spec hnamed hmethM hstat
  obtain ⟨kP, hkP, -⟩ := className_of_methodNamed hnamed
  have hinitP : kP.init = .initialized := Cond.initialized_spec (findClass_of_methodNamed hnamed) hkP hinit
  obtain ⟨vm₁, X₁, hstep₁⟩ := X.invokestatic hexec hown hlink hnamed hmethM hstatic hkP hinitP hy (g := g) hg (argsL := argsL) (rest := rest) (hlen _ hsigM) hstack hdg
  rcases hK m meth c ⟨T.setVm vm₁, locs, cells, slots⟩ { g with stack := rest } (.invokestatic index) mk argsL.toArray X₁ hg hsize hdg hW (X₁.named hnamed) (hpre vm₁ X₁.warmed) with ⟨v, B, X', hpost, hsteps⟩ | ⟨q, B, X', hpost, hsteps⟩
  · exact Or.inl ⟨v, vm₁, B, X₁.warmed, X', hpost, fun target h => hstep₁ _ fun acts => by rw [doInvoke_state]; exact hsteps.trans h⟩
  · exact Or.inr ⟨q, vm₁, B, X₁.warmed, X', hpost, hstep₁ _ fun acts => by rw [doInvoke_state]; exact hsteps⟩
end Calls
theorem vx_cls {s : State} {T : State} {vm₁ : Vm} {E : String} {k : ClassId} (hW : s.WarmedH vm₁) (h : (T.setVm vm₁).vm.findClass E = some k) : s.vm.findClass E = some k := by
  have h1 : vm₁.findClass E = some k := h
  rw [hW.alike.findClass] at h1
  exact h1
/-- the method's frame g, with q thrown over it -/
def vx_W (p : Program) (l : Launch) (e : Env) (R : Room) (s : State) (m : MethodId) (args : Array Value) (below : List Frame) (meth : Method) (c : Code) (H : Heap) (locs : List Loc) (cells slots : Nat) (Q : State → Prop) (g : JFrame) (q : Addr) : Prop :=
  ∀ T : State, T.heap = H → Stand p l e R s m args below meth c T locs cells slots → ∃ t, Steps p.tables e below ((T.setTop g).pushFrame (.throwing q)) t ∧ Q t
def vx_Run (p : Program) (l : Launch) (e : Env) (R : Room) (s : State) (m : MethodId) (args : Array Value) (below : List Frame) (meth : Method) (c : Code) (H : Heap) (locs : List Loc) (cells slots mc ms : Nat) (g : JFrame) (rest : List Value) (Qa : State → Outcome → State → Prop) (XC : String → State → State → Prop) (free : Addr → Prop) : Prop :=
  ∀ T : State, T.heap = H → Stand p l e R s m args below meth c T locs cells slots →
    (∃ (v : Option Value) (st₀ t T' : State) (L : List Loc), st₀.heap = H ∧ Stand p l e R s m args below meth c T' (locs ++ L) (cells + mc) (slots + ms) ∧ (∀ q ∈ L, free q.base) ∧ T'.heap = t.heap ∧ T'.vm = t.vm ∧ Qa st₀ (.returned v) t ∧
      Goes p e below T g T' { g with pc := g.pc + 3, stack := v.toList ++ rest }) ∨
    (∃ (q : Addr) (st₀ t T' : State) (L : List Loc) (E : String) (ce : Cell), st₀.heap = H ∧ Stand p l e R s m args below meth c T' (locs ++ L) (cells + mc) (slots + ms) ∧ (∀ z ∈ L, free z.base) ∧ T'.heap = t.heap ∧ T'.vm = t.vm ∧ XC E st₀ t ∧ t.heap[q]? = some ce ∧ ce.vm = .none ∧ s.vm.findClass E = some ce.cls ∧
      Steps p.tables e below (T.setTop g) ((T'.setTop { g with stack := rest }).pushFrame (.throwing q)))
def vx_X {S : Type} (px : S → Prop) (B : String → S → State → Prop) (A : Nat → Prop) : String → State → State → Prop := fun E st t => ∃ u : S, px u ∧ B E u t ∧ va_F A st t
section Runs
variable {p : Program} {l : Launch} {e : Env} {R : Room} {s : State} {m : MethodId} {args : Array Value} {below : List Frame} {meth : Method} {c : Code} {H : Heap} {locs : List Loc} {cells slots : Nat}
variable {y : MethodName} {bytes cc : ByteArray} {maxL nL mc ms n index : Nat} {ret : Option FieldType} {ws : List Cond} {rm : Room} {Pc : Array Value → State → Prop} {Qc : Array Value → State → Outcome → State → Prop} {XC : String → State → State → Prop} {free : Addr → Prop} {Ts : List Cond} {own C : String} {b : Addr} {As rest : List Value} {g : JFrame}
theorem vx_callBack (cb : CallB R s args own index y bytes maxL ret ws rm mc ms n) (hM : vx_Met l y ws rm Pc Qc XC mc ms free) (hbl : FrameBlind Pc) : vx_Back l R p e below s args y 3 8 (PreOf R mc ms Pc) (PostOf Qc mc ms free) (vx_Post XC mc ms free) := by
  obtain ⟨hrc, hrs, hfr, hlo, hws, hcw, -, hini, -⟩ := cb
  exact vx_back (bytes := bytes) (maxL := maxL) (ret := ret) hM hbl hrc hrs hfr hlo hws hcw (fun a' U hW => word_at hW (Or.inl (by first | rfl | simp [Cond.onTables, Cond.keeps, Cond.steady])) hini)
theorem vx_runV (S : CallFix p m c cc nL s args Ts own) (hM : vx_Met l y ws rm Pc Qc XC mc ms free) (cw : CallW R s args own C index y bytes maxL ret ws rm mc ms n) (hp : PreV s H C b Pc As)
    (hg : g.method = m) (hn : As.length = n) (hsize : g.locals.size = nL) (hstack : g.stack = As.reverse ++ .ref b :: rest) (hW : 2 * g.monitorRoom + (rest.map fun v => v.category).sum ≤ 8) (hdg : decode cc g.pc = .ok (.invokevirtual index, 3)) (hf : cells + mc ≤ R.cells ∧ slots + ms ≤ R.slots) :
    vx_Run p l e R s m args below meth c H locs cells slots mc ms g rest (Qc (Value.ref b :: As).toArray) XC free := by
  have hK : vx_Back l R p e below s args y 3 8 (PreOf R mc ms Pc) (PostOf Qc mc ms free) (vx_Post XC mc ms free) := vx_callBack cw.1 hM hp.1
  obtain ⟨⟨-, -, -, -, -, -, hcode, -, hy, hlen, hl⟩, hin, hse⟩ := cw
  obtain ⟨hx, hb, hml, ho, -⟩ := S
  obtain ⟨-, ⟨cellB, hcB, hoB, hclB⟩, hPc⟩ := hp
  intro T hT X
  rcases vx_callV X hx (C := C) (bytes := bytes) (maxL := maxL) (ret := ret) ho hl hin hse hcode hy hK (by rw [hT]; exact hcB) hoB hclB hg (hsize.trans hml.symm) (argsL := As) (rest := rest) (fun sig h => hn.trans (hlen sig h)) hstack hW (by rw [hb]; exact hdg)
    (fun vm₁ hW₁ => ⟨hf.1, hf.2, hPc (T.setVm vm₁) hT hW₁⟩) with ⟨v, vm₁, ⟨U', l2, c2, s2⟩, hW₁, X', ⟨g', mk, t, L, e1, e2, hq, h1, hL, h2, h3⟩, st⟩ | ⟨q, vm₁, ⟨U', l2, c2, s2⟩, hW₁, X', ⟨g', mk, t, L, E, ce, e1, e2, hq, hce, hcv, hcl, h1, hL, h2, h3⟩, st⟩
  · dsimp only [Pt.U, Pt.locs, Pt.cells, Pt.slots] at X' e1 e2 h1 h2 h3 st
    subst h1; subst h2; subst h3
    exact Or.inl ⟨v, (T.setVm vm₁).calling g' mk (Value.ref b :: As).toArray, t, U', L, hT, X', hL, e1, e2, hq, st⟩
  · dsimp only [Pt.U, Pt.locs, Pt.cells, Pt.slots] at X' e1 e2 h1 h2 h3 st hcl
    subst h1; subst h2; subst h3
    exact Or.inr ⟨q, (T.setVm vm₁).calling g' mk (Value.ref b :: As).toArray, t, U', L, E, ce, hT, X', hL, e1, e2, hq, hce, hcv, vx_cls hW₁ hcl, st⟩
theorem vx_runS (S : CallFix p m c cc nL s args Ts own) (hM : vx_Met l y ws rm Pc Qc XC mc ms free) (cw : CallB R s args own index y bytes maxL ret ws rm mc ms n ∧ (Cond.static y).before args s = true) (hp : PreS s H Pc As)
    (hg : g.method = m) (hn : As.length = n) (hsize : g.locals.size = nL) (hstack : g.stack = As.reverse ++ rest) (hW : 2 * g.monitorRoom + (rest.map fun v => v.category).sum ≤ 8) (hdg : decode cc g.pc = .ok (.invokestatic index, 3)) (hf : cells + mc ≤ R.cells ∧ slots + ms ≤ R.slots) :
    vx_Run p l e R s m args below meth c H locs cells slots mc ms g rest (Qc As.toArray) XC free := by
  have hK : vx_Back l R p e below s args y 3 8 (PreOf R mc ms Pc) (PostOf Qc mc ms free) (vx_Post XC mc ms free) := vx_callBack cw.1 hM hp.1
  obtain ⟨⟨-, -, -, -, -, -, hcode, hini, hy, hlen, hl⟩, hstt⟩ := cw
  obtain ⟨hx, hb, hml, ho, -⟩ := S
  intro T hT X
  rcases vx_callS X hx (bytes := bytes) (maxL := maxL) (ret := ret) ho hl hstt hini hcode hy hK hg (hsize.trans hml.symm) (argsL := As) (rest := rest) (fun sig h => hn.trans (hlen sig h)) hstack hW (by rw [hb]; exact hdg)
    (fun vm₁ hW₁ => ⟨hf.1, hf.2, hp.2 (T.setVm vm₁) hT hW₁⟩) with ⟨v, vm₁, ⟨U', l2, c2, s2⟩, hW₁, X', ⟨g', mk, t, L, e1, e2, hq, h1, hL, h2, h3⟩, st⟩ | ⟨q, vm₁, ⟨U', l2, c2, s2⟩, hW₁, X', ⟨g', mk, t, L, E, ce, e1, e2, hq, hce, hcv, hcl, h1, hL, h2, h3⟩, st⟩
  · dsimp only [Pt.U, Pt.locs, Pt.cells, Pt.slots] at X' e1 e2 h1 h2 h3 st
    subst h1; subst h2; subst h3
    exact Or.inl ⟨v, (T.setVm vm₁).calling g' mk As.toArray, t, U', L, hT, X', hL, e1, e2, hq, st⟩
  · dsimp only [Pt.U, Pt.locs, Pt.cells, Pt.slots] at X' e1 e2 h1 h2 h3 st hcl
    subst h1; subst h2; subst h3
    exact Or.inr ⟨q, (T.setVm vm₁).calling g' mk As.toArray, t, U', L, E, ce, hT, X', hL, e1, e2, hq, hce, hcv, vx_cls hW₁ hcl, st⟩
end Runs
section Rows
variable {p : Program} {l : Launch} {e : Env} {R : Room} {s : State} {m : MethodId} {args : Array Value} {below : List Frame} {meth : Method} {c : Code} {H : Heap} {locs : List Loc} {cells slots : Nat} {Q : State → Prop}
variable {mc ms : Nat} {free : Addr → Prop} {A0 A1 : Nat → Prop} {H0 : Heap} {a : Array Value} {pc : Nat} {ls : Array Slot} {st0 rest : List Value}
theorem vx_keep {st₀ t T' : State} {L : List Loc} (h0 : st₀.heap = H) (e1 : T'.heap = t.heap) (hS : va_S A0 H0 H locs) (hA : ∀ q, q < H.size → A1 q → A0 q) (hf : ∀ q, free q → A0 q) (hL : ∀ q ∈ L, free q.base) (hF : va_F A1 st₀ t) :
    H.size ≤ T'.heap.size ∧ (∀ q : Nat, q < H.size → ¬ A1 q → T'.heap[q]? = H[q]?) ∧ va_S A0 H0 T'.heap (locs ++ L) := by
  obtain ⟨hz, hk⟩ := hF
  rw [h0] at hz hk
  exact ⟨by rw [e1]; exact hz, fun q h1 h2 => by rw [e1]; exact hk q h1 h2,
    ⟨Nat.le_trans hS.1 (by rw [e1]; exact hz), fun q h1 h2 => by rw [e1, hk q (Nat.lt_of_lt_of_le h1 hS.1) (fun z => h2 (hA q (Nat.lt_of_lt_of_le h1 hS.1) z))]; exact hS.2.1 q h1 h2, fun q hq => by
      rcases List.mem_append.mp hq with h | h
      · exact hS.2.2 q h
      · exact hf _ (hL q h)⟩⟩
theorem vx_calli {S SX : Type} {post : Int32 → S → Prop} {px : SX → Prop} {B : S → State → Prop} {BX : String → SX → State → Prop} {AX : Nat → Prop} (hr : vx_Run p l e R s m args below meth c H locs cells slots mc ms (F0 m pc ls st0) rest (va_Qi post B A1 a) (vx_X px BX AX) free) (hS : va_S A0 H0 H locs) (hA : ∀ q, q < H.size → A1 q → A0 q) (hf : ∀ q, free q → A0 q) (hAX : ∀ q, q < H.size → AX q → A0 q)
    (kx : ∀ (E : String) (ce : Cell) (q9 : Addr) (u : SX) (t : State) (H1 : Heap) (locs1 : List Loc), t.heap = H1 → s.vm.Alike t.vm → px u → BX E u t → H.size ≤ H1.size → (∀ q : Nat, q < H.size → ¬ AX q → H1[q]? = H[q]?) → va_S A0 H0 H1 locs1 → H1[q9]? = some ce → ce.vm = .none → s.vm.findClass E = some ce.cls → vx_W p l e R s m args below meth c H1 locs1 (cells + mc) (slots + ms) Q (F0 m pc ls rest) q9)
    (kk : ∀ (r : Int32) (u : S) (t : State) (H1 : Heap) (locs1 : List Loc), t.heap = H1 → s.vm.Alike t.vm → post r u → B u t → H.size ≤ H1.size → (∀ q : Nat, q < H.size → ¬ A1 q → H1[q]? = H[q]?) → va_S A0 H0 H1 locs1 → W p l e R s m args below meth c H1 locs1 (cells + mc) (slots + ms) Q (F0 m (pc + 3) ls (.int r :: rest))) : W p l e R s m args below meth c H locs cells slots Q (F0 m pc ls st0) := by
  intro T hT X
  rcases hr T hT X with ⟨v, st₀, t, T', L, h0, X', hL, e1, e2, ⟨⟨r, u, hv, hp, hb⟩, hF⟩, st⟩ | ⟨q, st₀, t, T', L, E, ce, h0, X', hL, e1, e2, ⟨u, hp, hb, hF⟩, hce, hcv, hcl, st⟩
  · cases hv
    obtain ⟨k1, k2, k3⟩ := vx_keep h0 e1 hS hA hf hL hF
    obtain ⟨t2, a1, b1⟩ := kk r u t T'.heap (locs ++ L) e1.symm (by rw [← e2]; exact X'.warmed.alike) hp hb k1 k2 k3 T' rfl X'
    exact ⟨t2, st t2 a1, b1⟩
  · obtain ⟨k1, k2, k3⟩ := vx_keep h0 e1 hS hAX hf hL hF
    obtain ⟨t2, a1, b1⟩ := kx E ce q u t T'.heap (locs ++ L) e1.symm (by rw [← e2]; exact X'.warmed.alike) hp hb k1 k2 k3 (by rw [e1]; exact hce) hcv hcl T' rfl X'
    exact ⟨t2, st.trans a1, b1⟩
theorem vx_calll {S SX : Type} {post : Int64 → S → Prop} {px : SX → Prop} {B : S → State → Prop} {BX : String → SX → State → Prop} {AX : Nat → Prop} (hr : vx_Run p l e R s m args below meth c H locs cells slots mc ms (F0 m pc ls st0) rest (va_Ql post B A1 a) (vx_X px BX AX) free) (hS : va_S A0 H0 H locs) (hA : ∀ q, q < H.size → A1 q → A0 q) (hf : ∀ q, free q → A0 q) (hAX : ∀ q, q < H.size → AX q → A0 q)
    (kx : ∀ (E : String) (ce : Cell) (q9 : Addr) (u : SX) (t : State) (H1 : Heap) (locs1 : List Loc), t.heap = H1 → s.vm.Alike t.vm → px u → BX E u t → H.size ≤ H1.size → (∀ q : Nat, q < H.size → ¬ AX q → H1[q]? = H[q]?) → va_S A0 H0 H1 locs1 → H1[q9]? = some ce → ce.vm = .none → s.vm.findClass E = some ce.cls → vx_W p l e R s m args below meth c H1 locs1 (cells + mc) (slots + ms) Q (F0 m pc ls rest) q9)
    (kk : ∀ (r : Int64) (u : S) (t : State) (H1 : Heap) (locs1 : List Loc), t.heap = H1 → s.vm.Alike t.vm → post r u → B u t → H.size ≤ H1.size → (∀ q : Nat, q < H.size → ¬ A1 q → H1[q]? = H[q]?) → va_S A0 H0 H1 locs1 → W p l e R s m args below meth c H1 locs1 (cells + mc) (slots + ms) Q (F0 m (pc + 3) ls (.long r :: rest))) : W p l e R s m args below meth c H locs cells slots Q (F0 m pc ls st0) := by
  intro T hT X
  rcases hr T hT X with ⟨v, st₀, t, T', L, h0, X', hL, e1, e2, ⟨⟨r, u, hv, hp, hb⟩, hF⟩, st⟩ | ⟨q, st₀, t, T', L, E, ce, h0, X', hL, e1, e2, ⟨u, hp, hb, hF⟩, hce, hcv, hcl, st⟩
  · cases hv
    obtain ⟨k1, k2, k3⟩ := vx_keep h0 e1 hS hA hf hL hF
    obtain ⟨t2, a1, b1⟩ := kk r u t T'.heap (locs ++ L) e1.symm (by rw [← e2]; exact X'.warmed.alike) hp hb k1 k2 k3 T' rfl X'
    exact ⟨t2, st t2 a1, b1⟩
  · obtain ⟨k1, k2, k3⟩ := vx_keep h0 e1 hS hAX hf hL hF
    obtain ⟨t2, a1, b1⟩ := kx E ce q u t T'.heap (locs ++ L) e1.symm (by rw [← e2]; exact X'.warmed.alike) hp hb k1 k2 k3 (by rw [e1]; exact hce) hcv hcl T' rfl X'
    exact ⟨t2, st.trans a1, b1⟩
theorem vx_callf {S SX : Type} {post : UInt32 → S → Prop} {px : SX → Prop} {B : S → State → Prop} {BX : String → SX → State → Prop} {AX : Nat → Prop} (hr : vx_Run p l e R s m args below meth c H locs cells slots mc ms (F0 m pc ls st0) rest (va_Qf post B A1 a) (vx_X px BX AX) free) (hS : va_S A0 H0 H locs) (hA : ∀ q, q < H.size → A1 q → A0 q) (hf : ∀ q, free q → A0 q) (hAX : ∀ q, q < H.size → AX q → A0 q)
    (kx : ∀ (E : String) (ce : Cell) (q9 : Addr) (u : SX) (t : State) (H1 : Heap) (locs1 : List Loc), t.heap = H1 → s.vm.Alike t.vm → px u → BX E u t → H.size ≤ H1.size → (∀ q : Nat, q < H.size → ¬ AX q → H1[q]? = H[q]?) → va_S A0 H0 H1 locs1 → H1[q9]? = some ce → ce.vm = .none → s.vm.findClass E = some ce.cls → vx_W p l e R s m args below meth c H1 locs1 (cells + mc) (slots + ms) Q (F0 m pc ls rest) q9)
    (kk : ∀ (r : UInt32) (u : S) (t : State) (H1 : Heap) (locs1 : List Loc), t.heap = H1 → s.vm.Alike t.vm → post r u → B u t → H.size ≤ H1.size → (∀ q : Nat, q < H.size → ¬ A1 q → H1[q]? = H[q]?) → va_S A0 H0 H1 locs1 → W p l e R s m args below meth c H1 locs1 (cells + mc) (slots + ms) Q (F0 m (pc + 3) ls (.float r :: rest))) : W p l e R s m args below meth c H locs cells slots Q (F0 m pc ls st0) := by
  intro T hT X
  rcases hr T hT X with ⟨v, st₀, t, T', L, h0, X', hL, e1, e2, ⟨⟨r, u, hv, hp, hb⟩, hF⟩, st⟩ | ⟨q, st₀, t, T', L, E, ce, h0, X', hL, e1, e2, ⟨u, hp, hb, hF⟩, hce, hcv, hcl, st⟩
  · cases hv
    obtain ⟨k1, k2, k3⟩ := vx_keep h0 e1 hS hA hf hL hF
    obtain ⟨t2, a1, b1⟩ := kk r u t T'.heap (locs ++ L) e1.symm (by rw [← e2]; exact X'.warmed.alike) hp hb k1 k2 k3 T' rfl X'
    exact ⟨t2, st t2 a1, b1⟩
  · obtain ⟨k1, k2, k3⟩ := vx_keep h0 e1 hS hAX hf hL hF
    obtain ⟨t2, a1, b1⟩ := kx E ce q u t T'.heap (locs ++ L) e1.symm (by rw [← e2]; exact X'.warmed.alike) hp hb k1 k2 k3 (by rw [e1]; exact hce) hcv hcl T' rfl X'
    exact ⟨t2, st.trans a1, b1⟩
theorem vx_calld {S SX : Type} {post : UInt64 → S → Prop} {px : SX → Prop} {B : S → State → Prop} {BX : String → SX → State → Prop} {AX : Nat → Prop} (hr : vx_Run p l e R s m args below meth c H locs cells slots mc ms (F0 m pc ls st0) rest (va_Qd post B A1 a) (vx_X px BX AX) free) (hS : va_S A0 H0 H locs) (hA : ∀ q, q < H.size → A1 q → A0 q) (hf : ∀ q, free q → A0 q) (hAX : ∀ q, q < H.size → AX q → A0 q)
    (kx : ∀ (E : String) (ce : Cell) (q9 : Addr) (u : SX) (t : State) (H1 : Heap) (locs1 : List Loc), t.heap = H1 → s.vm.Alike t.vm → px u → BX E u t → H.size ≤ H1.size → (∀ q : Nat, q < H.size → ¬ AX q → H1[q]? = H[q]?) → va_S A0 H0 H1 locs1 → H1[q9]? = some ce → ce.vm = .none → s.vm.findClass E = some ce.cls → vx_W p l e R s m args below meth c H1 locs1 (cells + mc) (slots + ms) Q (F0 m pc ls rest) q9)
    (kk : ∀ (r : UInt64) (u : S) (t : State) (H1 : Heap) (locs1 : List Loc), t.heap = H1 → s.vm.Alike t.vm → post r u → B u t → H.size ≤ H1.size → (∀ q : Nat, q < H.size → ¬ A1 q → H1[q]? = H[q]?) → va_S A0 H0 H1 locs1 → W p l e R s m args below meth c H1 locs1 (cells + mc) (slots + ms) Q (F0 m (pc + 3) ls (.double r :: rest))) : W p l e R s m args below meth c H locs cells slots Q (F0 m pc ls st0) := by
  intro T hT X
  rcases hr T hT X with ⟨v, st₀, t, T', L, h0, X', hL, e1, e2, ⟨⟨r, u, hv, hp, hb⟩, hF⟩, st⟩ | ⟨q, st₀, t, T', L, E, ce, h0, X', hL, e1, e2, ⟨u, hp, hb, hF⟩, hce, hcv, hcl, st⟩
  · cases hv
    obtain ⟨k1, k2, k3⟩ := vx_keep h0 e1 hS hA hf hL hF
    obtain ⟨t2, a1, b1⟩ := kk r u t T'.heap (locs ++ L) e1.symm (by rw [← e2]; exact X'.warmed.alike) hp hb k1 k2 k3 T' rfl X'
    exact ⟨t2, st t2 a1, b1⟩
  · obtain ⟨k1, k2, k3⟩ := vx_keep h0 e1 hS hAX hf hL hF
    obtain ⟨t2, a1, b1⟩ := kx E ce q u t T'.heap (locs ++ L) e1.symm (by rw [← e2]; exact X'.warmed.alike) hp hb k1 k2 k3 (by rw [e1]; exact hce) hcv hcl T' rfl X'
    exact ⟨t2, st.trans a1, b1⟩
theorem vx_callv {S SX : Type} {post : S → Prop} {px : SX → Prop} {B : S → State → Prop} {BX : String → SX → State → Prop} {AX : Nat → Prop} (hr : vx_Run p l e R s m args below meth c H locs cells slots mc ms (F0 m pc ls st0) rest (va_Qv post B A1 a) (vx_X px BX AX) free) (hS : va_S A0 H0 H locs) (hA : ∀ q, q < H.size → A1 q → A0 q) (hf : ∀ q, free q → A0 q) (hAX : ∀ q, q < H.size → AX q → A0 q)
    (kx : ∀ (E : String) (ce : Cell) (q9 : Addr) (u : SX) (t : State) (H1 : Heap) (locs1 : List Loc), t.heap = H1 → s.vm.Alike t.vm → px u → BX E u t → H.size ≤ H1.size → (∀ q : Nat, q < H.size → ¬ AX q → H1[q]? = H[q]?) → va_S A0 H0 H1 locs1 → H1[q9]? = some ce → ce.vm = .none → s.vm.findClass E = some ce.cls → vx_W p l e R s m args below meth c H1 locs1 (cells + mc) (slots + ms) Q (F0 m pc ls rest) q9)
    (kk : ∀ (u : S) (t : State) (H1 : Heap) (locs1 : List Loc), t.heap = H1 → s.vm.Alike t.vm → post u → B u t → H.size ≤ H1.size → (∀ q : Nat, q < H.size → ¬ A1 q → H1[q]? = H[q]?) → va_S A0 H0 H1 locs1 → W p l e R s m args below meth c H1 locs1 (cells + mc) (slots + ms) Q (F0 m (pc + 3) ls (rest))) : W p l e R s m args below meth c H locs cells slots Q (F0 m pc ls st0) := by
  intro T hT X
  rcases hr T hT X with ⟨v, st₀, t, T', L, h0, X', hL, e1, e2, ⟨⟨u, hv, hp, hb⟩, hF⟩, st⟩ | ⟨q, st₀, t, T', L, E, ce, h0, X', hL, e1, e2, ⟨u, hp, hb, hF⟩, hce, hcv, hcl, st⟩
  · cases hv
    obtain ⟨k1, k2, k3⟩ := vx_keep h0 e1 hS hA hf hL hF
    obtain ⟨t2, a1, b1⟩ := kk u t T'.heap (locs ++ L) e1.symm (by rw [← e2]; exact X'.warmed.alike) hp hb k1 k2 k3 T' rfl X'
    exact ⟨t2, st t2 a1, b1⟩
  · obtain ⟨k1, k2, k3⟩ := vx_keep h0 e1 hS hAX hf hL hF
    obtain ⟨t2, a1, b1⟩ := kx E ce q u t T'.heap (locs ++ L) e1.symm (by rw [← e2]; exact X'.warmed.alike) hp hb k1 k2 k3 (by rw [e1]; exact hce) hcv hcl T' rfl X'
    exact ⟨t2, st.trans a1, b1⟩
/-- caught by the row x of this method's table; the rows ahead don't take it -/
theorem vx_catch {own name : String} {E : String} {ce : Cell} {q : Addr} (hown : s.vm.findClass own = some m.cls) (pre : List ExceptionTableEntry) (x : ExceptionTableEntry) (suf : List ExceptionTableEntry) (hsplit : c.exceptionTable.toList = pre ++ x :: suf)
    (hpass : ∀ z ∈ pre, covers z pc = false ∨ (z.catchType ≠ 0 ∧ ∃ nm : String, (Cond.classLink own z.catchType nm).before args s = true ∧ va_Nc E nm s)) (hx : covers x pc = true) (h0 : x.catchType ≠ 0)
    (hlink : (Cond.classLink own x.catchType name).before args s = true) (hcast : (Cond.castable E name).before args s = true) (hcell : H[q]? = some ce) (hv : ce.vm = .none) (hcl : s.vm.findClass E = some ce.cls)
    (kk : W p l e R s m args below meth c H locs cells slots Q (F0 m x.handlerPc ls [.ref q])) : vx_W p l e R s m args below meth c H locs cells slots Q (F0 m pc ls rest) q := by
  intro T hT X
  have hpl : e.platform.magicAccessors = ({} : Platform).magicAccessors := by rw [X.admits.platform]
  obtain ⟨c3, c4, hc3, hc4, hasg⟩ := Cond.castable_spec hcast
  cases Option.some.inj (hc3.symm.trans hcl)
  obtain ⟨c5, hc5, hcl5⟩ := Cond.classLink_spec hown hlink e.platform hpl
  cases Option.some.inj (hc4.symm.trans hc5)
  obtain ⟨vm', X', st⟩ := X.thenCaughtThrough q (g := F0 m pc ls rest) rfl (Steps.refl _) (by rw [hT]; exact hcell) (by rw [hv]; rfl) (by obtain ⟨k9, h9, -⟩ := Vm.findClass_spec hcl; exact ⟨k9, h9⟩) pre x suf hsplit
    (fun z hz => by
      rcases hpass z hz with h | ⟨hz0, nm, hl1, hn1⟩
      · exact Or.inl h
      · obtain ⟨c6, hc6, hcl6⟩ := Cond.classLink_spec hown hl1 e.platform hpl
        obtain ⟨a8, b8, h1, h2, h3⟩ := hn1
        cases Option.some.inj (h1.symm.trans hcl)
        cases Option.some.inj (h2.symm.trans hc6)
        exact Or.inr ⟨hz0, _, hcl6, h3⟩) hx (Or.inr ⟨h0, c4, hcl5, hasg⟩)
  obtain ⟨t, a1, b1⟩ := kk (T.setVm vm') hT X'
  exact ⟨t, st.trans a1, b1⟩
end Rows
section Ends
variable {p : Program} {l : Launch} {e : Env} {R : Room} {s : State} {m : MethodId} {args : Array Value} {below : List Frame} {meth : Method} {c : Code} {H : Heap} {locs : List Loc} {cells slots : Nat} {Q : State → Prop}
variable {mc ms : Nat} {free : Addr → Prop} {A0 A1 : Nat → Prop} {H0 : Heap} {a : Array Value} {ls : Array Slot} {st0 rest : List Value}
variable {Qc : Array Value → State → Outcome → State → Prop} {XC : String → State → State → Prop}
/-- what a body that may throw owes at its end -/
def vx_MQ (below : List Frame) (Qc : Array Value → State → Outcome → State → Prop) (XC : String → State → State → Prop) (a : Array Value) (s : State) (mc ms : Nat) (free : Addr → Prop) : State → Prop := fun t =>
  ∃ o, t.status = .running ∧ Ended t below o ∧ vx_Q Qc XC mc ms free a s o t
theorem vx_ret {g : JFrame} {mc ms : Nat} (k : W p l e R s m args below meth c H locs cells slots (MQ below Qc args s mc ms free) g) : W p l e R s m args below meth c H locs cells slots (vx_MQ below Qc XC args s mc ms free) g := by
  intro T hT X
  obtain ⟨t, a1, o, b1, b2, b3, b4⟩ := k T hT X
  exact ⟨t, a1, o, b1, b2, Or.inl ⟨b3, b4⟩⟩
/-- not caught here: it goes on to the caller -/
theorem vx_widen {g : JFrame} {q : Addr} {k n : Nat} (h1 : cells ≤ k) (h2 : slots ≤ n) (kk : vx_W p l e R s m args below meth c H locs k n Q g q) : vx_W p l e R s m args below meth c H locs cells slots Q g q := fun T hT X => kk T hT (stand_widen X h1 h2)
theorem vx_out {pc : Nat} {E : String} {ce : Cell} {q : Addr} {mc ms : Nat} (hout : ∀ x ∈ c.exceptionTable.toList, covers x pc = false) (hlocks : meth.locks = false) (hcell : H[q]? = some ce) (hv : ce.vm = .none) (hcl : s.vm.findClass E = some ce.cls)
    (hx : ∀ t : State, t.heap = H → s.vm.Alike t.vm → XC E s t) (hf : ∀ z ∈ locs, free z.base) (hc : cells ≤ mc) (hs : slots ≤ ms) :
    vx_W p l e R s m args below meth c H locs cells slots (vx_MQ below Qc XC args s mc ms free) (F0 m pc ls rest) q := by
  intro T hT X
  obtain ⟨st1, hrun, hend, hW, hsm⟩ := X.leaveThrown q (g := F0 m pc ls rest) rfl rfl rfl hout hlocks
  have hcell9 : (T.setFrames (.throwing q :: below)).heap[q]? = some ce := by
    show T.heap[q]? = some ce
    rw [hT]; exact hcell
  exact ⟨_, st1, .threw q, hrun, hend, Or.inr ⟨q, rfl, E, ce, locs, hx _ hT hW.alike, hcell9, hv, hcl, hW, hsm.mono hc hs, hf⟩⟩
theorem vx_frame {U : State} {k n : Nat} (h : s.sameButNew ({ U with vm := s.vm } : State) locs k n) : s.heap.size ≤ U.heap.size ∧ ∀ q : Nat, q < s.heap.size → (∀ z ∈ locs, z.base ≠ q) → U.heap[q]? = s.heap[q]? := by
  obtain ⟨-, h2, -, -, -, h6⟩ := h
  refine ⟨h2, fun q hq hz => ?_⟩
  obtain ⟨c9, e1, e2, e3, e4⟩ := h6 q _ (Array.getElem?_eq_getElem hq)
  have hs : c9.slots = (s.heap[q]).slots := Array.ext_getElem? fun i => e4 i fun hm => hz _ hm rfl
  have h9 : c9 = s.heap[q] := by
    rw [hs] at e2
    exact e2
  have e5 : U.heap[q]? = some c9 := e1
  rw [e5, h9, Array.getElem?_eq_getElem hq]
/-- the words of a throw but the four that speak of the heap -/
def vx_no (w : Cond) : Bool := decide (w ≠ .isRef (.static Bundle.tN "UNASSIGNED_STACK" Bundle.steD)) && decide (w ≠ .isRef (.static Bundle.tN "SUPPRESSED_SENTINEL" Bundle.listD)) && decide (w ≠ .laysStatic Bundle.tN "UNASSIGNED_STACK" Bundle.steD) && decide (w ≠ .laysStatic Bundle.tN "SUPPRESSED_SENTINEL" Bundle.listD)
def vx_at0 (own : String) (ic : Nat) (X : String) (names : List String) : List Cond := (Bundle.ownAtoms0 own ic X names).filter vx_no
def vx_atS (own : String) (ic : Nat) (X : String) (names : List String) : List Cond := (Bundle.ownAtoms own ic X names).filter vx_no
/-- a word that the tables alone decide, or a good one -/
def vx_ot (w : Cond) : Bool := w.onTables || goodWord w
theorem vx_ot_at {args a' : Array Value} {s U : State} {w : Cond} (hW : s.WarmedH U.vm) (hvm : s.vm = U.vm) (hg : vx_ot w = true) (h : w.before args s = true) : w.before a' U = true := by
  simp only [vx_ot, Bool.or_eq_true] at hg
  rcases hg with hg | hg
  · exact va_tabs hg hvm h
  · exact word_at hW (good_of_word hg) h
/-- a list's words: the good ones out of the method's own list, the others by premises of their own -/
theorem vx_hat {args : Array Value} {s : State} {L B : List Cond} (h1 : ∀ w ∈ L.filter goodWord, w.before args s = true) (h2 : ∀ w ∈ L.filter (fun w => !goodWord w), w ∈ B) (h3 : ∀ w ∈ B, w.before args s = true) : ∀ w ∈ L, w.before args s = true := by
  intro w hw
  by_cases g : goodWord w = true
  · exact h1 w (List.mem_filter.mpr ⟨hw, g⟩)
  · refine h3 w (h2 w (List.mem_filter.mpr ⟨hw, ?_⟩))
    show (!goodWord w) = true
    cases hgw : goodWord w
    · rfl
    · exact absurd hgw g
theorem vx_c {args : Array Value} {s : State} {w : Cond} {B : List Cond} (h : w.before args s = true) (t : ∀ w ∈ B, w.before args s = true) : ∀ w' ∈ w :: B, w'.before args s = true := fun w' h' => (List.mem_cons.mp h').elim (fun e => by rw [e]; exact h) (t w')
theorem vx_n {args : Array Value} {s : State} : ∀ w ∈ ([] : List Cond), w.before args s = true := fun _ h => nomatch h
theorem vx_own {args : Array Value} {s : State} {L : List Cond} (h1 : ∀ w ∈ L.filter vx_no, w.before args s = true)
    (hU : (Cond.isRef (.static Bundle.tN "UNASSIGNED_STACK" Bundle.steD)).before args s = true) (hN : (Cond.isRef (.static Bundle.tN "SUPPRESSED_SENTINEL" Bundle.listD)).before args s = true)
    (lU : (Cond.laysStatic Bundle.tN "UNASSIGNED_STACK" Bundle.steD).before args s = true) (lN : (Cond.laysStatic Bundle.tN "SUPPRESSED_SENTINEL" Bundle.listD).before args s = true) : ∀ w ∈ L, w.before args s = true := by
  intro w hw
  by_cases e1 : w = .isRef (.static Bundle.tN "UNASSIGNED_STACK" Bundle.steD)
  · rw [e1]; exact hU
  · by_cases e2 : w = .isRef (.static Bundle.tN "SUPPRESSED_SENTINEL" Bundle.listD)
    · rw [e2]; exact hN
    · by_cases e3 : w = .laysStatic Bundle.tN "UNASSIGNED_STACK" Bundle.steD
      · rw [e3]; exact lU
      · by_cases e4 : w = .laysStatic Bundle.tN "SUPPRESSED_SENTINEL" Bundle.listD
        · rw [e4]; exact lN
        · exact h1 w (List.mem_filter.mpr ⟨hw, by unfold vx_no; rw [decide_eq_true e1, decide_eq_true e2, decide_eq_true e3, decide_eq_true e4]; rfl⟩)
/-- where a static field lies, its class's statics cell in H -/
def vx_L (C n d : String) (A : Nat → Prop) (U : State) (H : Heap) : Prop := ∃ (c : ClassId) (k : Class) (i : Nat) (f : Field) (a : Nat) (cell : Cell), U.vm.findClass C = some c ∧ U.fieldFound? C n d = some (c, k, i, f) ∧ f.isStatic = true ∧ k.statics = some a ∧ H[a]? = some cell ∧ cell.vm.isStatics = true ∧ cell.cls = c ∧ f.slot < cell.slots.size ∧ k.staticTypes[f.slot]? = some f.type ∧ ¬ A a
theorem vx_L.moved {C n d : String} {A : Nat → Prop} {u U : State} {H : Heap} (hvm : u.vm.Alike U.vm) (h : vx_L C n d A u H) : vx_L C n d A U H := by
  obtain ⟨c, k, i, f, a, cell, h1, h2, h3, h4, h5, h6, h7, h8, h9, h10⟩ := h
  obtain ⟨k', hi', he⟩ := State.fieldFound?_setVm hvm h2
  exact ⟨c, k', i, f, a, cell, by rw [hvm.findClass]; exact h1, hi', h3, by rw [he]; exact h4, h5, h6, h7, h8, by rw [he]; exact h9, h10⟩
theorem vx_L.kept {C n d : String} {A : Nat → Prop} {U : State} {H H1 : Heap} (h : vx_L C n d A U H) (hq : ∀ a : Nat, a < H.size → ¬ A a → H1[a]? = H[a]?) : vx_L C n d A U H1 := by
  obtain ⟨c, k, i, f, a, cell, h1, h2, h3, h4, h5, h6, h7, h8, h9, h10⟩ := h
  exact ⟨c, k, i, f, a, cell, h1, h2, h3, h4, by rw [hq a (Array.getElem?_eq_some_iff.mp h5).1 h10]; exact h5, h6, h7, h8, h9, h10⟩
theorem vx_L.narrow {C n d : String} {A B : Nat → Prop} {U : State} {H : Heap} (h : vx_L C n d A U H) (hAB : ∀ q, B q → A q) : vx_L C n d B U H := by
  obtain ⟨c, k, i, f, a, cell, h1, h2, h3, h4, h5, h6, h7, h8, h9, h10⟩ := h
  exact ⟨c, k, i, f, a, cell, h1, h2, h3, h4, h5, h6, h7, h8, h9, fun z => h10 (hAB _ z)⟩
theorem vx_L.word {C n d : String} {A : Nat → Prop} {s : State} {args : Array Value} (h : vx_L C n d A s s.heap) : (Cond.laysStatic C n d).before args s = true := by
  obtain ⟨c, k, i, f, a, cell, h1, h2, h3, h4, h5, h6, h7, h8, h9, -⟩ := h
  show (Cond.laysStatic C n d).holds args s none s [] = true
  exact Cond.laysStatic_of h1 h2 h3 h4 h5 h6 h7 h8 h9
/-- .. and what it holds: null or some reference -/
def vx_Zq (C n d : String) (A : Nat → Prop) (U : State) (H : Heap) : Prop := va_Zq C n d A U H ∧ vx_L C n d A U H
theorem vx_Zq.moved {C n d : String} {A : Nat → Prop} {u U : State} {H : Heap} (hvm : u.vm.Alike U.vm) (h : vx_Zq C n d A u H) : vx_Zq C n d A U H := ⟨va_Zq.moved hvm h.1, vx_L.moved hvm h.2⟩
theorem vx_Zq.kept {C n d : String} {A : Nat → Prop} {U : State} {H H1 : Heap} (h : vx_Zq C n d A U H) (hq : ∀ a : Nat, a < H.size → ¬ A a → H1[a]? = H[a]?) : vx_Zq C n d A U H1 := ⟨va_Zq.kept h.1 hq, vx_L.kept h.2 hq⟩
theorem vx_Zq.narrow {C n d : String} {A B : Nat → Prop} {U : State} {H : Heap} (h : vx_Zq C n d A U H) (hAB : ∀ q, B q → A q) : vx_Zq C n d B U H := ⟨va_Zq.narrow h.1 hAB, vx_L.narrow h.2 hAB⟩
theorem vx_Zqof {args : Array Value} {s : State} {C n d : String} {A : Nat → Prop} (hl : (Cond.laysStatic C n d).before args s = true) (hini : (Cond.initialized C).before args s = true) (h : (Cond.isRef (.static C n d)).before args s = true) (hA : ∀ a : Nat, a < s.heap.size → ¬ A a) : vx_Zq C n d A s s.heap := by
  refine ⟨va_Zqof hl hini h hA, ?_⟩
  obtain ⟨c, k, i, f, a, cell, h1, h2, h3, h4, h5, h6, h7, h8, h9⟩ := Cond.laysStatic_spec hl
  exact ⟨c, k, i, f, a, cell, h1, h2, h3, h4, h5, h6, h7, h8, h9, hA a (Array.getElem?_eq_some_iff.mp h5).1⟩
theorem vx_isRef {C n d : String} {v : Value} {A : Nat → Prop} {s : State} {args : Array Value} (h : va_Z C n d v A s s.heap) (hv : v.isRef = true) : (Cond.isRef (.static C n d)).before args s = true := by
  obtain ⟨cf, kf, fi, f, a, cell, h1, h2, h3, h4, h5, h6, h7, -⟩ := h
  have he : (Term.static C n d).eval args s none [] s = some v := by
    simp [Term.eval, State.fieldNamed?, h1, h2, h4, h5, h6, h7]
  simp only [Cond.before, Cond.holds, Cond.value, he]
  cases v <;> simp_all [Value.isRef]
theorem vx_isRefq {C n d : String} {A : Nat → Prop} {s : State} {args : Array Value} (h : va_Zq C n d A s s.heap) : (Cond.isRef (.static C n d)).before args s = true := by
  rcases h with h | ⟨t, h⟩
  · exact vx_isRef h rfl
  · exact vx_isRef h rfl
/-- the same frame, seen from here: as if the method were called anew in this heap -/
theorem vx_rebase {T : State} (X : Stand p l e R s m args below meth c T locs cells slots) {R' : Room} (hf : R'.frames ≤ R.frames) (hl : R'.locals ≤ R.locals) (hc : cells + R'.cells ≤ R.cells) (hs : slots + R'.slots ≤ R.slots) :
    Stand p l e R' ((T.setVm s.vm).setFrames (.invoking m args :: below)) m args below meth c T [] 0 0 := by
  have htop : (T.setVm s.vm).topJava?.isSome := X.here.top
  have hF : ((T.setVm s.vm).setFrames (.invoking m args :: below)).frames = .invoking m args :: below := State.frames_setFrames _ (State.cur_lt_of_top htop)
  obtain ⟨g₀, hg0⟩ := Option.isSome_iff_exists.mp htop
  obtain ⟨r, hr⟩ := State.topJava?_eq_some.mp hg0
  have hl9 : e.platform.stackLimits (T.setVm s.vm).me = e.platform.stackLimits s.me := X.limits
  have hb9 : (T.setVm s.vm).me.stackBytes = s.me.stackBytes := X.bytes
  refine ⟨X.admits, X.cas, X.clock, hF, ?_, X.hears, X.method, X.code, X.here, X.tail, X.warmed, ?_, ?_, ?_⟩
  · have h := X.room
    have hU : ((T.setVm s.vm).setFrames (.invoking m args :: below)).localsInUse = s.localsInUse := by
      rw [State.localsInUse_invoking hF (meth := meth) (c := c) X.method X.code, State.localsInUse_invoking X.frames X.method X.code]
    simp only [State.hasRoom, Bool.and_eq_true, decide_eq_true_eq] at h ⊢
    obtain ⟨⟨⟨⟨h1, h2, h3, h4, h5, h6⟩, h7⟩, h8⟩, h9⟩ := h
    rw [X.frames, List.length_cons] at h2 h3
    have q1 := X.heapSize
    have q2 := X.used
    simp only [hF, hU, List.length_cons, State.stackLimits_setFrames, State.stackBytes_setFrames, hl9, hb9]
    refine ⟨⟨⟨⟨by omega, by omega, by omega, by omega, by omega, h6⟩, ?_⟩, ?_⟩, X.book⟩
    · show T.heap.size + R'.cells ≤ e.platform.maxCells
      omega
    · show T.slotsUsed + R'.slots ≤ e.platform.maxSlots
      omega
  · rw [State.stackLimits_setFrames]; rfl
  · rw [State.stackBytes_setFrames]; rfl
  · refine ⟨?_, Nat.le_refl _, Nat.le_refl _, ?_, ?_, fun a c9 h9 => ⟨c9, h9, rfl, rfl, fun _ _ => rfl⟩⟩
    · obtain ⟨t, ht, -⟩ := State.frames_cons hr
      show T.setVm s.vm = { ((T.setVm s.vm).setFrames (.invoking m args :: below)).setFrames (T.setVm s.vm).frames with heap := T.heap, slotsUsed := T.slotsUsed }
      rw [State.setFrames_setFrames, State.setFrames_self ht]
      rfl
    · show T.slotsUsed = T.slotsUsed + ((T.heap.toList.drop T.heap.size).map (·.slots.size)).sum
      rw [List.drop_eq_nil_of_le (Nat.le_of_eq Array.length_toList)]
      rfl
    · show ((T.heap.toList.drop T.heap.size).map (·.slots.size)).sum ≤ 0
      rw [List.drop_eq_nil_of_le (Nat.le_of_eq Array.length_toList)]
      exact Nat.le_refl _
/-- 'throw new E()': new; dup; invokespecial; athrow -/
theorem vx_throw0 {cc : ByteArray} {pc : Nat} (hexec : p.tables.exec = Jvm.exec) (hb : c.code = cc) (hl : l.stackTraces = false) {own cls : String} {names : List String} {ik ic mc ms : Nat} {A : Nat → Prop}
    (hown : s.vm.findClass own = some m.cls) (hcls : Bundle.fit cls = true) (hnames : ∀ n ∈ names, Bundle.fit n = true)
    (hk : (Cond.classLink own ik cls).before args s = true) (hini : (Cond.initialized cls).before args s = true) (hat : ∀ w ∈ vx_at0 own ic cls names, w.before args s = true)
    (hgood : ∀ w ∈ Cond.classLink own ik cls :: Cond.initialized cls :: vx_at0 own ic cls names, vx_ot w = true)
    (hU : vx_Zq Bundle.tN "UNASSIGNED_STACK" Bundle.steD A s s.heap) (hN : vx_Zq Bundle.tN "SUPPRESSED_SENTINEL" Bundle.listD A s s.heap) (hS : va_S A s.heap H locs) (hsize : ls.size = c.maxLocals)
    (d0 : decode cc pc = .ok (.new ik, 3)) (d3 : decode cc (pc + 3) = .ok (.dup, 1)) (d4 : decode cc (pc + 4) = .ok (.invokespecial ic, 3)) (d7 : decode cc (pc + 7) = .ok (.athrow, 1))
    (hout : ∀ x ∈ c.exceptionTable.toList, covers x (pc + 7) = false)
    (hRframes : names.length + 3 < R.frames) (hRlocals : (rest.map fun v => v.category).sum + (13 * (names.length + 1) + 42) ≤ R.locals) (hRcells : cells + 1 ≤ R.cells) (hRslots : slots + 6 ≤ R.slots) (hlocks : meth.locks = false)
    (hx : ∀ t : State, s.vm.Alike t.vm → H.size ≤ t.heap.size → (∀ q : Nat, q < H.size → t.heap[q]? = H[q]?) → XC cls s t)
    (hf : ∀ z ∈ locs, free z.base) (hc : cells + 1 ≤ mc) (hs : slots + 6 ≤ ms) :
    W p l e R s m args below meth c H locs cells slots (vx_MQ below Qc XC args s mc ms free) (F0 m pc ls rest) := by
  intro T hT X
  have htr : e.platform.stackTraces = false := (show e.platform.stackTraces = l.stackTraces by rw [X.admits.platform]).trans hl
  have Y := vx_rebase X (R' := { frames := R.frames, locals := R.locals, cells := 1, slots := 6 }) (Nat.le_refl _) (Nat.le_refl _) hRcells hRslots
  obtain ⟨s', hA⟩ : ∃ z, z = (T.setVm s.vm).setFrames (.invoking m args :: below) := ⟨_, rfl⟩
  rw [← hA] at Y
  have hvm : s'.vm = s.vm := by rw [hA]; rfl
  have hhp : s'.heap = H := by rw [hA]; exact hT
  have hW0 : s.WarmedH s'.vm := by rw [hvm]; exact State.WarmedH.refl s
  have hat' : ∀ w ∈ vx_at0 own ic cls names, w.before args s' = true := fun w hw => vx_ot_at hW0 hvm.symm (hgood w (List.mem_cons_of_mem _ (List.mem_cons_of_mem _ hw))) (hat w hw)
  have hk' : (Cond.classLink own ik cls).before args s' = true := vx_ot_at hW0 hvm.symm (hgood _ List.mem_cons_self) hk
  have hini' : (Cond.initialized cls).before args s' = true := vx_ot_at hW0 hvm.symm (hgood _ (List.mem_cons_of_mem _ List.mem_cons_self)) hini
  have hU' : vx_Zq Bundle.tN "UNASSIGNED_STACK" Bundle.steD A s' s'.heap := by rw [hhp]; exact vx_Zq.moved hW0.alike (hU.kept hS.2.1)
  have hN' : vx_Zq Bundle.tN "SUPPRESSED_SENTINEL" Bundle.listD A s' s'.heap := by rw [hhp]; exact vx_Zq.moved hW0.alike (hN.kept hS.2.1)
  have h : ∀ w ∈ Bundle.ownAtoms0 own ic cls names, w.before args s' = true := vx_own hat' (vx_isRefq hU'.1) (vx_isRefq hN'.1) hU'.2.word hN'.2.word
  have hown' : s'.vm.findClass own = some m.cls := by rw [hvm]; exact hown
  have hins : (Cond.instantiable cls 6).before args s' = true := h _ (by simp [Bundle.ownAtoms0])
  obtain ⟨vm₁, cX, kX, hfX, hkX, -, -, X₁, st1⟩ := Y.newCold hexec (own := own) (C := cls) (index := ik) (n := 6) hown' hk' hins hini'
    (g := F0 m pc ls rest) rfl (by rw [hb]; exact d0) (Nat.le_refl _) (Nat.le_refl _)
  generalize hT1 : (T.setVm vm₁).pushCell { cls := cX, slots := kX.instanceTypes.map defaultValue, vm := .none } = T1 at X₁ st1
  have hcat : (Value.ref T.heap.size).category = 1 := rfl
  have hcellA : T1.heap[T.heap.size]? = some (freshCell cX kX) := by rw [← hT1]; exact State.heap_pushCell_size _ _
  have d3' : decode c.code (pc + 3) = .ok (.dup, 1) := by rw [hb]; exact d3
  obtain ⟨U, hsteps, hrun, hend, hW, hsame, ce, hce, hO⟩ := X₁.ctorThrow0 hexec htr (own := own) (cls := cls) (names := names) (ic := ic) hown' hcls hnames h (fun x hx => nomatch hx) hfX hkX hcellA (by rw [hhp, hT]; exact Nat.le_refl _)
    (g := { method := m, pc := pc + 4, locals := ls, stack := .ref T.heap.size :: .ref T.heap.size :: rest, locked := none }) rfl hsize rfl rfl (rest := rest) rfl
    (by rw [hb]; exact d4) (by rw [hb]; exact d7) hout hRframes (by simp only [List.map_cons, List.sum_cons, hcat]; omega) hlocks
  obtain ⟨f1, f2⟩ := vx_frame hsame
  rw [hhp] at f1 f2
  have hWs : s.WarmedH U.vm := State.WarmedH.trans hW0 hW
  have hcl : s.vm.findClass cls = some ce.cls := by
    have h9 := hO.cls
    rw [hvm] at h9
    exact h9
  have hall : s.sameButNew ({ U with vm := s.vm } : State) locs mc ms := by
    subst hA
    obtain ⟨e1, e2⟩ := hsame
    rw [State.setFrames_setFrames] at e1
    have h2 : (T.setVm s.vm).sameButNew ({ U with vm := s.vm } : State) [] (0 + 1) (0 + 6) := ⟨e1, e2⟩
    have h3 := X.same.trans h2
    rw [List.append_nil] at h3
    exact h3.mono hc hs
  refine ⟨U, ?_, .threw T.heap.size, hrun, hend, Or.inr ⟨T.heap.size, rfl, cls, ce, locs, hx U hWs.alike f1 (fun q hq => f2 q hq (fun z hz => nomatch hz)), hce, hO.vm, hcl, hWs, hall, hf⟩⟩
  refine st1 _ ?_
  show Steps p.tables e below (T1.setTop { method := m, pc := pc + 3, locals := ls, stack := .ref T.heap.size :: rest, locked := none }) _
  jvm_step X₁.here [X₁.here.top, hexec, d3', Value.category]
  exact hsteps
/-- 'throw new E("text")': new; dup; ldc; invokespecial; athrow -/
theorem vx_throwS {cc : ByteArray} {pc : Nat} (hexec : p.tables.exec = Jvm.exec) (hb : c.code = cc) (hl : l.stackTraces = false) {own cls text : String} {names : List String} {ik is ic mc ms sa : Nat} {A : Nat → Prop}
    (hown : s.vm.findClass own = some m.cls) (hcls : Bundle.fit cls = true) (hnames : ∀ n ∈ names, Bundle.fit n = true)
    (hk : (Cond.classLink own ik cls).before args s = true) (hini : (Cond.initialized cls).before args s = true) (hstr : vk_R own is text sa s) (hat : ∀ w ∈ vx_atS own ic cls names, w.before args s = true)
    (hgood : ∀ w ∈ Cond.classLink own ik cls :: Cond.initialized cls :: vx_atS own ic cls names, vx_ot w = true)
    (hU : vx_Zq Bundle.tN "UNASSIGNED_STACK" Bundle.steD A s s.heap) (hN : vx_Zq Bundle.tN "SUPPRESSED_SENTINEL" Bundle.listD A s s.heap) (hS : va_S A s.heap H locs) (hsize : ls.size = c.maxLocals)
    (d0 : decode cc pc = .ok (.new ik, 3)) (d3 : decode cc (pc + 3) = .ok (.dup, 1)) (d4 : decode cc (pc + 4) = .ok (.ldc is, 2)) (d6 : decode cc (pc + 6) = .ok (.invokespecial ic, 3)) (d9 : decode cc (pc + 9) = .ok (.athrow, 1))
    (hout : ∀ x ∈ c.exceptionTable.toList, covers x (pc + 9) = false)
    (hRframes : names.length + 3 < R.frames) (hRlocals : (rest.map fun v => v.category).sum + (13 * (names.length + 1) + 43) ≤ R.locals) (hRcells : cells + 1 ≤ R.cells) (hRslots : slots + 6 ≤ R.slots) (hlocks : meth.locks = false)
    (hx : ∀ t : State, s.vm.Alike t.vm → H.size ≤ t.heap.size → (∀ q : Nat, q < H.size → t.heap[q]? = H[q]?) → XC cls s t)
    (hf : ∀ z ∈ locs, free z.base) (hc : cells + 1 ≤ mc) (hs : slots + 6 ≤ ms) :
    W p l e R s m args below meth c H locs cells slots (vx_MQ below Qc XC args s mc ms free) (F0 m pc ls rest) := by
  intro T hT X
  have htr : e.platform.stackTraces = false := (show e.platform.stackTraces = l.stackTraces by rw [X.admits.platform]).trans hl
  have Y := vx_rebase X (R' := { frames := R.frames, locals := R.locals, cells := 1, slots := 6 }) (Nat.le_refl _) (Nat.le_refl _) hRcells hRslots
  obtain ⟨s', hA⟩ : ∃ z, z = (T.setVm s.vm).setFrames (.invoking m args :: below) := ⟨_, rfl⟩
  rw [← hA] at Y
  have hvm : s'.vm = s.vm := by rw [hA]; rfl
  have hhp : s'.heap = H := by rw [hA]; exact hT
  have hW0 : s.WarmedH s'.vm := by rw [hvm]; exact State.WarmedH.refl s
  have hat' : ∀ w ∈ vx_atS own ic cls names, w.before args s' = true := fun w hw => vx_ot_at hW0 hvm.symm (hgood w (List.mem_cons_of_mem _ (List.mem_cons_of_mem _ hw))) (hat w hw)
  have hk' : (Cond.classLink own ik cls).before args s' = true := vx_ot_at hW0 hvm.symm (hgood _ List.mem_cons_self) hk
  have hini' : (Cond.initialized cls).before args s' = true := vx_ot_at hW0 hvm.symm (hgood _ (List.mem_cons_of_mem _ List.mem_cons_self)) hini
  have hU' : vx_Zq Bundle.tN "UNASSIGNED_STACK" Bundle.steD A s' s'.heap := by rw [hhp]; exact vx_Zq.moved hW0.alike (hU.kept hS.2.1)
  have hN' : vx_Zq Bundle.tN "SUPPRESSED_SENTINEL" Bundle.listD A s' s'.heap := by rw [hhp]; exact vx_Zq.moved hW0.alike (hN.kept hS.2.1)
  have h : ∀ w ∈ Bundle.ownAtoms own ic cls names, w.before args s' = true := vx_own hat' (vx_isRefq hU'.1) (vx_isRefq hN'.1) hU'.2.word hN'.2.word
  have hown' : s'.vm.findClass own = some m.cls := by rw [hvm]; exact hown
  have hins : (Cond.instantiable cls 6).before args s' = true := h _ (by simp [Bundle.ownAtoms])
  obtain ⟨vm₁, cX, kX, hfX, hkX, -, -, X₁, st1⟩ := Y.newCold hexec (own := own) (C := cls) (index := ik) (n := 6) hown' hk' hins hini'
    (g := F0 m pc ls rest) rfl (by rw [hb]; exact d0) (Nat.le_refl _) (Nat.le_refl _)
  generalize hT1 : (T.setVm vm₁).pushCell { cls := cX, slots := kX.instanceTypes.map defaultValue, vm := .none } = T1 at X₁ st1
  have hcat : (Value.ref T.heap.size).category = 1 := rfl
  have hcellA : T1.heap[T.heap.size]? = some (freshCell cX kX) := by rw [← hT1]; exact State.heap_pushCell_size _ _
  have d3' : decode c.code (pc + 3) = .ok (.dup, 1) := by rw [hb]; exact d3
  have d4' : decode c.code (pc + 4) = .ok (.ldc is, 2) := by rw [hb]; exact d4
  have hstr' : vk_R own is text sa s' := vk_R.warm hW0 hstr
  obtain ⟨U, hsteps, hrun, hend, hW, hsame, ce, hce, hO⟩ := X₁.ctorThrowS hexec htr (own := own) (cls := cls) (names := names) (ic := ic) hown' hcls hnames h (fun x hx => nomatch hx) hfX hkX hcellA (by rw [hhp, hT]; exact Nat.le_refl _) (msg := .ref sa) rfl
    (g := { method := m, pc := pc + 6, locals := ls, stack := .ref sa :: .ref T.heap.size :: .ref T.heap.size :: rest, locked := none }) rfl hsize rfl rfl (rest := rest) rfl
    (by rw [hb]; exact d6) (by rw [hb]; exact d9) hout hRframes (by simp only [List.map_cons, List.sum_cons, hcat]; omega) hlocks
  obtain ⟨f1, f2⟩ := vx_frame hsame
  rw [hhp] at f1 f2
  have hWs : s.WarmedH U.vm := State.WarmedH.trans hW0 hW
  have hcl : s.vm.findClass cls = some ce.cls := by
    have h9 := hO.cls
    rw [hvm] at h9
    exact h9
  have hall : s.sameButNew ({ U with vm := s.vm } : State) locs mc ms := by
    subst hA
    obtain ⟨e1, e2⟩ := hsame
    rw [State.setFrames_setFrames] at e1
    have h2 : (T.setVm s.vm).sameButNew ({ U with vm := s.vm } : State) [] (0 + 1) (0 + 6) := ⟨e1, e2⟩
    have h3 := X.same.trans h2
    rw [List.append_nil] at h3
    exact h3.mono hc hs
  refine ⟨U, ?_, .threw T.heap.size, hrun, hend, Or.inr ⟨T.heap.size, rfl, cls, ce, locs, hx U hWs.alike f1 (fun q hq => f2 q hq (fun z hz => nomatch hz)), hce, hO.vm, hcl, hWs, hall, hf⟩⟩
  refine st1 _ ?_
  show Steps p.tables e below (T1.setTop { method := m, pc := pc + 3, locals := ls, stack := .ref T.heap.size :: rest, locked := none }) _
  jvm_step X₁.here [X₁.here.top, hexec, d3', Value.category]
  exact X₁.ldcString hexec (own := own) (text := text) (index := is) (a := sa) hown' hstr'.1 hstr'.2
    (g := { method := m, pc := pc + 4, locals := ls, stack := .ref T.heap.size :: .ref T.heap.size :: rest, locked := none }) rfl d4' _ hsteps
/-- 'throw new E("text")', the text by a wide index -/
theorem vx_throwSW {cc : ByteArray} {pc : Nat} (hexec : p.tables.exec = Jvm.exec) (hb : c.code = cc) (hl : l.stackTraces = false) {own cls text : String} {names : List String} {ik is ic mc ms sa : Nat} {A : Nat → Prop}
    (hown : s.vm.findClass own = some m.cls) (hcls : Bundle.fit cls = true) (hnames : ∀ n ∈ names, Bundle.fit n = true)
    (hk : (Cond.classLink own ik cls).before args s = true) (hini : (Cond.initialized cls).before args s = true) (hstr : vk_R own is text sa s) (hat : ∀ w ∈ vx_atS own ic cls names, w.before args s = true)
    (hgood : ∀ w ∈ Cond.classLink own ik cls :: Cond.initialized cls :: vx_atS own ic cls names, vx_ot w = true)
    (hU : vx_Zq Bundle.tN "UNASSIGNED_STACK" Bundle.steD A s s.heap) (hN : vx_Zq Bundle.tN "SUPPRESSED_SENTINEL" Bundle.listD A s s.heap) (hS : va_S A s.heap H locs) (hsize : ls.size = c.maxLocals)
    (d0 : decode cc pc = .ok (.new ik, 3)) (d3 : decode cc (pc + 3) = .ok (.dup, 1)) (d4 : decode cc (pc + 4) = .ok (.ldc_w is, 3)) (d7 : decode cc (pc + 7) = .ok (.invokespecial ic, 3)) (d10 : decode cc (pc + 10) = .ok (.athrow, 1))
    (hout : ∀ x ∈ c.exceptionTable.toList, covers x (pc + 10) = false)
    (hRframes : names.length + 3 < R.frames) (hRlocals : (rest.map fun v => v.category).sum + (13 * (names.length + 1) + 43) ≤ R.locals) (hRcells : cells + 1 ≤ R.cells) (hRslots : slots + 6 ≤ R.slots) (hlocks : meth.locks = false)
    (hx : ∀ t : State, s.vm.Alike t.vm → H.size ≤ t.heap.size → (∀ q : Nat, q < H.size → t.heap[q]? = H[q]?) → XC cls s t)
    (hf : ∀ z ∈ locs, free z.base) (hc : cells + 1 ≤ mc) (hs : slots + 6 ≤ ms) :
    W p l e R s m args below meth c H locs cells slots (vx_MQ below Qc XC args s mc ms free) (F0 m pc ls rest) := by
  intro T hT X
  have htr : e.platform.stackTraces = false := (show e.platform.stackTraces = l.stackTraces by rw [X.admits.platform]).trans hl
  have Y := vx_rebase X (R' := { frames := R.frames, locals := R.locals, cells := 1, slots := 6 }) (Nat.le_refl _) (Nat.le_refl _) hRcells hRslots
  obtain ⟨s', hA⟩ : ∃ z, z = (T.setVm s.vm).setFrames (.invoking m args :: below) := ⟨_, rfl⟩
  rw [← hA] at Y
  have hvm : s'.vm = s.vm := by rw [hA]; rfl
  have hhp : s'.heap = H := by rw [hA]; exact hT
  have hW0 : s.WarmedH s'.vm := by rw [hvm]; exact State.WarmedH.refl s
  have hat' : ∀ w ∈ vx_atS own ic cls names, w.before args s' = true := fun w hw => vx_ot_at hW0 hvm.symm (hgood w (List.mem_cons_of_mem _ (List.mem_cons_of_mem _ hw))) (hat w hw)
  have hk' : (Cond.classLink own ik cls).before args s' = true := vx_ot_at hW0 hvm.symm (hgood _ List.mem_cons_self) hk
  have hini' : (Cond.initialized cls).before args s' = true := vx_ot_at hW0 hvm.symm (hgood _ (List.mem_cons_of_mem _ List.mem_cons_self)) hini
  have hU' : vx_Zq Bundle.tN "UNASSIGNED_STACK" Bundle.steD A s' s'.heap := by rw [hhp]; exact vx_Zq.moved hW0.alike (hU.kept hS.2.1)
  have hN' : vx_Zq Bundle.tN "SUPPRESSED_SENTINEL" Bundle.listD A s' s'.heap := by rw [hhp]; exact vx_Zq.moved hW0.alike (hN.kept hS.2.1)
  have h : ∀ w ∈ Bundle.ownAtoms own ic cls names, w.before args s' = true := vx_own hat' (vx_isRefq hU'.1) (vx_isRefq hN'.1) hU'.2.word hN'.2.word
  have hown' : s'.vm.findClass own = some m.cls := by rw [hvm]; exact hown
  have hins : (Cond.instantiable cls 6).before args s' = true := h _ (by simp [Bundle.ownAtoms])
  obtain ⟨vm₁, cX, kX, hfX, hkX, -, -, X₁, st1⟩ := Y.newCold hexec (own := own) (C := cls) (index := ik) (n := 6) hown' hk' hins hini'
    (g := F0 m pc ls rest) rfl (by rw [hb]; exact d0) (Nat.le_refl _) (Nat.le_refl _)
  generalize hT1 : (T.setVm vm₁).pushCell { cls := cX, slots := kX.instanceTypes.map defaultValue, vm := .none } = T1 at X₁ st1
  have hcat : (Value.ref T.heap.size).category = 1 := rfl
  have hcellA : T1.heap[T.heap.size]? = some (freshCell cX kX) := by rw [← hT1]; exact State.heap_pushCell_size _ _
  have d3' : decode c.code (pc + 3) = .ok (.dup, 1) := by rw [hb]; exact d3
  have d4' : decode c.code (pc + 4) = .ok (.ldc_w is, 3) := by rw [hb]; exact d4
  have hstr' : vk_R own is text sa s' := vk_R.warm hW0 hstr
  obtain ⟨U, hsteps, hrun, hend, hW, hsame, ce, hce, hO⟩ := X₁.ctorThrowS hexec htr (own := own) (cls := cls) (names := names) (ic := ic) hown' hcls hnames h (fun x hx => nomatch hx) hfX hkX hcellA (by rw [hhp, hT]; exact Nat.le_refl _) (msg := .ref sa) rfl
    (g := { method := m, pc := pc + 7, locals := ls, stack := .ref sa :: .ref T.heap.size :: .ref T.heap.size :: rest, locked := none }) rfl hsize rfl rfl (rest := rest) rfl
    (by rw [hb]; exact d7) (by rw [hb]; exact d10) hout hRframes (by simp only [List.map_cons, List.sum_cons, hcat]; omega) hlocks
  obtain ⟨f1, f2⟩ := vx_frame hsame
  rw [hhp] at f1 f2
  have hWs : s.WarmedH U.vm := State.WarmedH.trans hW0 hW
  have hcl : s.vm.findClass cls = some ce.cls := by
    have h9 := hO.cls
    rw [hvm] at h9
    exact h9
  have hall : s.sameButNew ({ U with vm := s.vm } : State) locs mc ms := by
    subst hA
    obtain ⟨e1, e2⟩ := hsame
    rw [State.setFrames_setFrames] at e1
    have h2 : (T.setVm s.vm).sameButNew ({ U with vm := s.vm } : State) [] (0 + 1) (0 + 6) := ⟨e1, e2⟩
    have h3 := X.same.trans h2
    rw [List.append_nil] at h3
    exact h3.mono hc hs
  refine ⟨U, ?_, .threw T.heap.size, hrun, hend, Or.inr ⟨T.heap.size, rfl, cls, ce, locs, hx U hWs.alike f1 (fun q hq => f2 q hq (fun z hz => nomatch hz)), hce, hO.vm, hcl, hWs, hall, hf⟩⟩
  refine st1 _ ?_
  show Steps p.tables e below (T1.setTop { method := m, pc := pc + 3, locals := ls, stack := .ref T.heap.size :: rest, locked := none }) _
  jvm_step X₁.here [X₁.here.top, hexec, d3', Value.category]
  exact X₁.ldcStringW hexec (own := own) (text := text) (index := is) (a := sa) hown' hstr'.1 hstr'.2
    (g := { method := m, pc := pc + 4, locals := ls, stack := .ref T.heap.size :: .ref T.heap.size :: rest, locked := none }) rfl d4' _ hsteps
end Ends
section Bodies
variable {l : Launch}
theorem vx_ofW {y : MethodName} {ws ws' : List Cond} {rm : Room} {Pc : Array Value → State → Prop} {Qc : Array Value → State → Outcome → State → Prop} {XC : String → State → State → Prop} {mc ms : Nat} {free : Addr → Prop} {cc : ByteArray} {maxL : Nat} {ret : Option FieldType}
    (hy : plainName y.cls = true) (hw : ws = Cond.code y cc maxL ret :: ws')
    (body : ∀ p e s m args below meth c s₁, BodyLoose p l y (headSpec ws rm) cc maxL ret e s m args below meth c s₁ → c.maxLocals = maxL → (∀ x ∈ c.exceptionTable.toList, False) → Pc args s →
      W p l e (headSpec ws rm).room s m args below meth c s.heap [] 0 0 (vx_MQ below Qc XC args s mc ms free) (entryFrame m args maxL)) : vx_Met l y ws rm Pc Qc XC mc ms free := by
  refine MetFree.of_bodyS (code := cc) (maxLocals := maxL) (ret := ret) hy ?_ ?_
  · intro args s m h hn
    obtain ⟨meth, c, h1, h2, h3, h4, h5, h6, -, -⟩ := Cond.code_spec hn (atoms_spec (ws := ws) h _ (by rw [hw]; exact List.mem_cons_self))
    exact ⟨meth, c, h1, h2, h3, h4, h5, h6⟩
  · intro p e s m args below meth c s₁ B hml hP _
    have hh0 : s₁.heap = s.heap := by rw [B.state]; rfl
    have ht : ∀ x ∈ c.exceptionTable.toList, False := by
      obtain ⟨meth9, c9, h1, h2, -, -, -, -, h7, -⟩ := Cond.code_spec B.named (atoms_spec (ws := ws) B.pre _ (by rw [hw]; exact List.mem_cons_self))
      cases Option.some.inj (h1.symm.trans B.method)
      cases Option.some.inj (h2.symm.trans (Stand.of_body B).code)
      intro x hx
      rw [Array.isEmpty_iff.mp h7] at hx
      cases hx
    obtain ⟨t, a1, o, b1, b2, b3⟩ := body p e s m args below meth c s₁ B hml ht hP s₁ hh0 (Stand.of_body B)
    exact ⟨t, o, a1, b1, b2, b3⟩
/-- the table of a body with handlers -/
theorem vx_table {p : Program} {x y : MethodName} {S : Spec} {cc bytes : ByteArray} {maxL maxL' : Nat} {ret ret' : Option FieldType} {e : Env} {s s₁ : State} {m : MethodId} {args : Array Value} {below : List Frame} {meth : Method} {c : Code} {hh : List (Nat × Nat × Nat × Nat)}
    (B : BodyLoose p l y S cc maxL ret e s m args below meth c s₁) (h : (Cond.codeWith y bytes maxL' ret' hh).before args s = true) : c.exceptionTable.toList = tableOf hh := by
  obtain ⟨m9, meth9, c9, hn9, h1, h2, -, -, h6, -⟩ := Cond.codeWith_spec h
  cases Option.some.inj (hn9.symm.trans B.named)
  cases Option.some.inj (h1.symm.trans B.method)
  cases Option.some.inj (h2.symm.trans (Stand.of_body B).code)
  rw [← h6, table_eq]
end Bodies
end VXA
/-! ===== END ===== -/
/-! ===== BEGIN a static call of a method with an exception table ===== -/
section VXS
variable {p : Program} {l : Launch} {e : Env} {R : Room} {s : State} {m : MethodId} {args : Array Value} {below : List Frame} {meth : Method} {c : Code} {T : State} {H : Heap} {locs : List Loc} {cells slots : Nat}
abbrev vx_CSW (R : Room) (s : State) (args : Array Value) (own : String) (index : Nat) (y : MethodName) (bytes : ByteArray) (maxL : Nat) (ret : Option FieldType) (hh : List (Nat × Nat × Nat × Nat)) (ws : List Cond) (rm : Room) (mc ms n : Nat) : Prop :=
  (rm.cells = mc ∧ rm.slots = ms ∧ rm.frames + 1 ≤ R.frames ∧ 8 + (maxL + 11) + rm.locals ≤ R.locals ∧ (∀ w ∈ ws, ∀ (a' : Array Value) (U : State), s.WarmedH U.vm → w.before a' U = true) ∧ Cond.codeWith y bytes maxL ret hh ∈ ws) ∧
  (Cond.codeWith y bytes maxL ret hh).before args s = true ∧ (Cond.initialized y.cls).before args s = true ∧ (y.cls ≠ "java/lang/invoke/MethodHandle" ∧ y.cls ≠ "java/lang/invoke/VarHandle") ∧
  (∀ sig, parseMethodDescriptor y.desc = some sig → n = sig.parameters.length) ∧ (Cond.methodLink own index y).before args s = true ∧ (Cond.static y).before args s = true
theorem vx_cwSW {own : String} {index maxL mc ms : Nat} {y : MethodName} {bytes : ByteArray} {ret : Option FieldType} {hh : List (Nat × Nat × Nat × Nat)} {Ts ws ws' : List Cond} {rm : Room} (n : Nat) (ht : ∀ w ∈ Ts, w.before args s = true) (hT : GoodIn Ts (va_wsS own index y ws)) (hw : ws = Cond.codeWith y bytes maxL ret hh :: ws') (hrc : rm.cells = mc) (hrs : rm.slots = ms)
    (hd : y.cls ≠ "java/lang/invoke/MethodHandle" ∧ y.cls ≠ "java/lang/invoke/VarHandle" ∧ (parseMethodDescriptor y.desc).map (fun d => d.parameters.length) = some n) (hR : rm.frames + 1 ≤ R.frames ∧ 8 + (maxL + 11) + rm.locals ≤ R.locals) :
    vx_CSW R s args own index y bytes maxL ret hh ws rm mc ms n := by
  have ok : ∀ w ∈ va_wsS own index y ws, w.before args s = true := fun w h => ht w (hT w h).1
  have hG : GoodIn Ts ws := fun w h => hT w (by unfold va_wsS; exact List.mem_append_right _ h)
  have hc : Cond.codeWith y bytes maxL ret hh ∈ ws := by rw [hw]; exact List.mem_cons_self
  refine ⟨⟨hrc, hrs, hR.1, hR.2, pay_in ht hG, hc⟩, ht _ (hG _ hc).1, ok _ (by simp [va_wsS]), ⟨hd.1, hd.2.1⟩, fun sig h => ?_, ok _ (by simp [va_wsS]), ok _ (by simp [va_wsS])⟩
  have h2 := hd.2.2
  rw [h] at h2
  exact (Option.some.inj h2).symm
theorem vx_callSW (X : Stand p l e R s m args below meth c T locs cells slots) (hexec : p.tables.exec = Jvm.exec) {own : String} {index : Nat} {y : MethodName} {bytes : ByteArray} {maxL : Nat} {ret : Option FieldType} {hh : List (Nat × Nat × Nat × Nat)}
    (hown : s.vm.findClass own = some m.cls) (hlink : (Cond.methodLink own index y).before args s = true) (hstat : (Cond.static y).before args s = true) (hinit : (Cond.initialized y.cls).before args s = true)
    (hcode : (Cond.codeWith y bytes maxL ret hh).before args s = true) (hy : y.cls ≠ "java/lang/invoke/MethodHandle" ∧ y.cls ≠ "java/lang/invoke/VarHandle")
    {W9 : Nat} {Pre : Pt → Array Value → Prop} {Post : Pt → Array Value → Option Value → Pt → Prop} (hK : Back l R p e below s args y 3 W9 Pre Post)
    {g : JFrame} (hg : g.method = m) (hsize : g.locals.size = c.maxLocals) {argsL rest : List Value} (hlen : ∀ sig, parseMethodDescriptor y.desc = some sig → argsL.length = sig.parameters.length)
    (hstack : g.stack = argsL.reverse ++ rest) (hW : 2 * g.monitorRoom + (rest.map fun v => v.category).sum ≤ W9) (hdg : decode c.code g.pc = .ok (.invokestatic index, 3))
    (hpre : ∀ vm₁, s.WarmedH vm₁ → Pre ⟨T.setVm vm₁, locs, cells, slots⟩ argsL.toArray) :
    ∃ (v : Option Value) (vm₁ : Vm) (B : Pt), s.WarmedH vm₁ ∧ Stand p l e R s m args below meth c B.U B.locs B.cells B.slots ∧ Post ⟨T.setVm vm₁, locs, cells, slots⟩ argsL.toArray v B ∧
      ∀ target, Steps p.tables e below (B.U.setTop { g with pc := g.pc + 3, stack := v.toList ++ rest }) target → Steps p.tables e below (T.setTop g) target := by
  obtain ⟨mk, methM, cM, hnamed, hmethM, -, -, -, -, -, -, hsigM⟩ := Cond.codeWith_spec hcode
  have hstatic : methM.isStatic = true := Cond.static_spec hnamed hmethM hstat
  obtain ⟨kP, hkP, -⟩ := className_of_methodNamed hnamed
  have hinitP : kP.init = .initialized := Cond.initialized_spec (findClass_of_methodNamed hnamed) hkP hinit
  obtain ⟨vm₁, X₁, hstep₁⟩ := X.invokestatic hexec hown hlink hnamed hmethM hstatic hkP hinitP hy (g := g) hg (argsL := argsL) (rest := rest) (hlen _ hsigM) hstack hdg
  obtain ⟨v, B, X', hpost, hsteps⟩ := hK m meth c ⟨T.setVm vm₁, locs, cells, slots⟩ { g with stack := rest } (.invokestatic index) mk argsL.toArray X₁ hg hsize hdg hW (X₁.named hnamed) (hpre vm₁ X₁.warmed)
  exact ⟨v, vm₁, B, X₁.warmed, X', hpost, fun target h => hstep₁ _ fun acts => by rw [doInvoke_state]; exact hsteps.trans h⟩
theorem vx_runSW {y : MethodName} {bytes cc : ByteArray} {maxL nL mc ms n index : Nat} {ret : Option FieldType} {hh : List (Nat × Nat × Nat × Nat)} {ws : List Cond} {rm : Room} {Pc : Array Value → State → Prop} {Qc : Array Value → State → Outcome → State → Prop} {free : Addr → Prop} {Ts : List Cond} {own : String} {As rest : List Value} {g : JFrame}
    (S : CallFix p m c cc nL s args Ts own) (hM : Met l y ws rm Pc Qc mc ms free) (cw : vx_CSW R s args own index y bytes maxL ret hh ws rm mc ms n) (hp : PreS s H Pc As)
    (hg : g.method = m) (hn : As.length = n) (hsize : g.locals.size = nL) (hstack : g.stack = As.reverse ++ rest) (hW : 2 * g.monitorRoom + (rest.map fun v => v.category).sum ≤ 8) (hdg : decode cc g.pc = .ok (.invokestatic index, 3)) (hf : cells + mc ≤ R.cells ∧ slots + ms ≤ R.slots) :
    va_Run p l e R s m args below meth c H locs cells slots mc ms g rest (Qc As.toArray) (free) := by
  obtain ⟨⟨hrc, hrs, hfr, hlo, hws, hcw⟩, hcode, hini, hy, hlen, hl, hstt⟩ := cw
  have hK : Back l R p e below s args y 3 8 (PreOf R mc ms Pc) (PostOf Qc mc ms free) := va_backW (hh := hh) (bytes := bytes) (maxL := maxL) (ret := ret) hM hp.1 hrc hrs hfr hlo hws hcw (fun a' U hW => word_at hW (Or.inl (by first | rfl | simp [Cond.onTables, Cond.keeps, Cond.steady])) hini)
  obtain ⟨hx, hb, hml, ho, -⟩ := S
  intro T hT X
  obtain ⟨v, vm₁, ⟨U', l2, c2, s2⟩, hW₁, X', ⟨g', mk, t, L, e1, e2, hq, h1, hL, h2, h3⟩, st⟩ := vx_callSW X hx (hh := hh) (bytes := bytes) (maxL := maxL) (ret := ret) ho hl hstt hini hcode hy hK hg (hsize.trans hml.symm) (argsL := As) (rest := rest) (fun sig h => hn.trans (hlen sig h)) hstack hW (by rw [hb]; exact hdg)
    (fun vm₁ hW₁ => ⟨hf.1, hf.2, hp.2 (T.setVm vm₁) hT hW₁⟩)
  dsimp only [Pt.U, Pt.locs, Pt.cells, Pt.slots] at X' e1 e2 h1 h2 h3 st
  subst h1; subst h2; subst h3
  exact ⟨v, (T.setVm vm₁).calling g' mk As.toArray, t, U', L, hT, X', hL, e1, e2, hq, st⟩
/-- not caught here, past rows that name other classes: it goes on to the caller -/
theorem vx_outP {p : Program} {l : Launch} {e : Env} {R : Room} {s : State} {m : MethodId} {args : Array Value} {below : List Frame} {meth : Method} {c : Code} {H : Heap} {locs : List Loc} {cells slots : Nat} {free : Addr → Prop} {ls : Array Slot} {rest : List Value} {Qc : Array Value → State → Outcome → State → Prop} {XC : String → State → State → Prop}
    {pc : Nat} {own E : String} {ce : Cell} {q : Addr} {mc ms : Nat} (hown : s.vm.findClass own = some m.cls) (hlocks : meth.locks = false)
    (hpass : ∀ z ∈ c.exceptionTable.toList, covers z pc = false ∨ (z.catchType ≠ 0 ∧ ∃ nm : String, (Cond.classLink own z.catchType nm).before args s = true ∧ va_Nc E nm s)) (hcell : H[q]? = some ce) (hv : ce.vm = .none) (hcl : s.vm.findClass E = some ce.cls)
    (hx : ∀ t : State, t.heap = H → s.vm.Alike t.vm → XC E s t) (hf : ∀ z ∈ locs, free z.base) (hc : cells ≤ mc) (hs : slots ≤ ms) :
    vx_W p l e R s m args below meth c H locs cells slots (vx_MQ below Qc XC args s mc ms free) (F0 m pc ls rest) q := by
  intro T hT X
  have hpl : e.platform.magicAccessors = ({} : Platform).magicAccessors := by rw [X.admits.platform]
  obtain ⟨vm', hW', X', st⟩ := X.outThrough hlocks q (g := F0 m pc ls rest) rfl rfl rfl (cell := ce) (by rw [hT]; exact hcell) (by rw [hv]; rfl)
    (by obtain ⟨k9, h9, -⟩ := Vm.findClass_spec hcl; exact ⟨k9, h9⟩) (fun z hz => by
      rcases hpass z hz with h | ⟨hz0, nm, hl1, hn1⟩
      · exact Or.inl h
      · obtain ⟨c6, hc6, hcl6⟩ := Cond.classLink_spec hown hl1 e.platform hpl
        obtain ⟨a8, b8, h1, h2, h3⟩ := hn1
        cases Option.some.inj (h1.symm.trans hcl)
        cases Option.some.inj (h2.symm.trans hc6)
        exact Or.inr ⟨hz0, _, hcl6, h3⟩)
  obtain ⟨g₀, hfr⟩ := X'.frames_eq
  have hcell9 : ((T.setVm vm').setFrames (.throwing q :: below)).heap[q]? = some ce := by
    show T.heap[q]? = some ce
    rw [hT]; exact hcell
  have hend : Ended ((T.setVm vm').setFrames (.throwing q :: below)) below (.threw q) := State.frames_setFrames _ (State.cur_lt_of_frames hfr)
  refine ⟨(T.setVm vm').setFrames (.throwing q :: below), ?_, .threw q, X'.here.running, hend, Or.inr ⟨q, rfl, E, ce, locs, hx _ hT (X'.ends _).1.alike, hcell9, hv, hcl, (X'.ends _).1, (X'.ends _).2.mono hc hs, hf⟩⟩
  rw [X.pushThrowing_eq]
  exact st
/-- a thing of a world lies in the heap -/
theorem vx_lt {D : va_G} {cl : List vw_C} {ws : va_W} {H1 : Heap} (h : va_P D cl ws H1) {k : Nat} {q : Nat × va_E} (hk : ws[k]? = some q) : q.1 < H1.size := (h k q hk).lt
end VXS
/-! ===== END ===== -/
/-! ===== BEGIN methods with a table of their own: called by a name, returning or throwing ===== -/
section VXH
/-! vx_backW, vx_callVX, vx_callSX, vx_callVW, vx_runVW, vx_runVX, vx_runSX, vx_ofWH follow the same proofs as their sisters above (Free/Laws.lean, Shelf42/LK1.lean); vx_outP calls Shelf42/NT130.lean (outThrough). -/
section
variable {l : Launch} {R : Room} {p : Program} {e : Env} {below : List Frame} {s : State} {sargs : Array Value} {y : MethodName} {len W9 : Nat}
theorem vx_backW {ws : List Cond} {rm : Room} {Pc : Array Value → State → Prop} {Qc : Array Value → State → Outcome → State → Prop} {XC : String → State → State → Prop} {mc ms : Nat} {free : Addr → Prop} {bytes : ByteArray} {maxL : Nat} {ret : Option FieldType} {hh : List (Nat × Nat × Nat × Nat)}
    (hM : vx_Met l y ws rm Pc Qc XC mc ms free) (hblind : FrameBlind Pc) (hrc : rm.cells = mc) (hrs : rm.slots = ms)
    (hframes : rm.frames + 1 ≤ R.frames) (hlocals : W9 + (maxL + 11) + rm.locals ≤ R.locals)
    (hws : ∀ w ∈ ws, ∀ a' U, s.WarmedH U.vm → w.before a' U = true) (hcode : Cond.codeWith y bytes maxL ret hh ∈ ws) (hinit : ∀ a' U, s.WarmedH U.vm → (Cond.initialized y.cls).before a' U = true) :
    vx_Back l R p e below s sargs y len W9 (PreOf R mc ms Pc) (PostOf Qc mc ms free) (vx_Post XC mc ms free) := by
  intro m meth c A g ig mk a X hg hsize hdg hW hn hp
  have h1 : (headSpec ws rm).pre.before a A.U = true := atoms_intro fun w hw => hws w hw _ _ X.warmed
  have h2 : (Cond.codeWith y bytes maxL ret hh).before a A.U = true := hws _ hcode _ _ X.warmed
  have h3 : (Cond.initialized y.cls).before a A.U = true := hinit _ _ X.warmed
  have h4 : A.cells + (headSpec ws rm).room.cells ≤ R.cells := by rw [show (headSpec ws rm).room.cells = mc from hrc]; exact hp.1
  have h5 : A.slots + (headSpec ws rm).room.slots ≤ R.slots := by rw [show (headSpec ws rm).room.slots = ms from hrs]; exact hp.2.1
  have hPc : Pc a (A.U.calling g mk a) := hblind _ _ _ _ hp.2.2
  obtain ⟨U, Ls, c0, s0⟩ := A
  dsimp only [Pt.U, Pt.locs, Pt.cells, Pt.slots] at h1 h2 h3 h4 h5 X hn hPc ⊢
  obtain ⟨m9, methY, cY, hn9, hmY, hcY, -, hlY, -⟩ := Cond.codeWith_spec h2
  cases Option.some.inj (hn9.symm.trans hn)
  obtain ⟨kY, hkY, -⟩ := className_of_methodNamed hn
  have hinitY : kY.init = .initialized := Cond.initialized_spec (findClass_of_methodNamed hn) hkY h3
  have h : At U g.method c below := by rw [hg]; exact X.here
  have hlocals9 : W9 + (maxL + 11) + (headSpec ws rm).room.locals ≤ R.locals := hlocals
  have happ : (headSpec ws rm).appliesLoose y e.platform (U.calling g mk a) = true :=
    Spec.appliesLoose_calling (g := g) h hdg hn hkY hinitY
      (X.room_calling (g := g) (R' := (headSpec ws rm).room) hsize hmY hcY hframes (by rw [hlY]; omega) h4 h5) h1
  obtain ⟨mid, hmid⟩ := h.above
  have hfr : (U.setTop g).frames = (.java g :: mid) ++ below := by rw [State.frames_setTop' g h.top, hmid]; rfl
  obtain ⟨o, s₂, hsteps, -, hend, hq⟩ := Steps.callFree hM p X.admits X.cas X.clock (acts := []) hfr happ hPc trivial
  have hq' : vx_Q Qc XC mc ms free a (U.calling g mk a) o s₂ := hq
  rw [State.frames_setTop' g h.top] at hend
  obtain ⟨g₀, hg0⟩ := Option.isSome_iff_exists.mp h.top
  obtain ⟨r, hr⟩ := State.topJava?_eq_some.mp hg0
  have hr' : (({ U with heap := s₂.heap, slotsUsed := s₂.slotsUsed } : State).setVm s₂.vm).frames = .java g₀ :: r := hr
  rcases hq' with ⟨hqc, L, hfe, hL⟩ | ⟨q, rfl, E, ce, L, hx, hce, hcv, hcl, hW₂, hsm, hL⟩
  · obtain ⟨⟨v, rfl⟩, hW₂, e2, q2, q3, q4, q5, q6⟩ := id hfe
    have e3 : s₂ = ({ (U.calling g mk a).setFrames s₂.frames with heap := s₂.heap, slotsUsed := s₂.slotsUsed } : State).setVm s₂.vm := by
      have : s₂ = ({ s₂ with vm := (U.calling g mk a).vm } : State).setVm s₂.vm := rfl
      rw [e2] at this
      exact this
    obtain ⟨c₂, i₂, len₂, hc₂, hd₂, hf₂⟩ := hend
    have hW' : U.WarmedH s₂.vm := hW₂
    have hcc : c₂ = c := by
      have h1 : s₂.code? g.method = U.code? g.method := by
        rw [State.code?_eq, State.code?_eq, hW'.alike.method?]
      exact Option.some.inj (hc₂.symm.trans (h1.trans h.code))
    subst hcc
    have hlen : len₂ = len := by rw [hdg] at hd₂; cases hd₂; rfl
    subst hlen
    have hs₂ : s₂ = (({ U with heap := s₂.heap, slotsUsed := s₂.slotsUsed } : State).setVm s₂.vm).setTop { g with pc := g.pc + len₂, stack := v.toList ++ g.stack } := by
      refine e3.trans ?_
      rw [hf₂, State.calling_eq h.top, State.setFrames_setFrames, State.setTop_of_frames _ hr', hr]
      rfl
    have hsame : U.sameButNew ({ U with heap := s₂.heap, slotsUsed := s₂.slotsUsed } : State) L mc ms := by
      refine ⟨?_, q2, q3, q4, q5, q6⟩
      obtain ⟨t, ht, -⟩ := State.frames_cons hr
      show ({ U with heap := s₂.heap, slotsUsed := s₂.slotsUsed } : State) = { U.setFrames U.frames with heap := s₂.heap, slotsUsed := s₂.slotsUsed }
      rw [State.setFrames_self ht]
    subst hg
    refine Or.inl ⟨v, ⟨(({ U with heap := s₂.heap, slotsUsed := s₂.slotsUsed } : State).setVm s₂.vm), Ls ++ L, c0 + mc, s0 + ms⟩,
      ⟨X.admits, X.cas, X.clock, X.frames, X.room, X.hears, X.method, X.code, (X.here.setHeapUsed s₂.heap s₂.slotsUsed).setVm hW'.alike, X.tail, State.WarmedH.trans X.warmed hW', X.limits, X.bytes, X.same.trans (hsame.setVm s.vm)⟩,
      ⟨g, mk, s₂, L, rfl, rfl, hqc, rfl, hL, rfl, rfl⟩, ?_⟩
    show Steps p.tables e below _ ((({ U with heap := s₂.heap, slotsUsed := s₂.slotsUsed } : State).setVm s₂.vm).setTop { g with pc := g.pc + len₂, stack := v.toList ++ g.stack })
    rw [← hs₂]
    exact hsteps
  · obtain ⟨e2, q2, q3, q4, q5, q6⟩ := id hsm
    have e3 : s₂ = ({ (U.calling g mk a).setFrames s₂.frames with heap := s₂.heap, slotsUsed := s₂.slotsUsed } : State).setVm s₂.vm := by
      have : s₂ = ({ s₂ with vm := (U.calling g mk a).vm } : State).setVm s₂.vm := rfl
      rw [e2] at this
      exact this
    have hf₂ : s₂.frames = .throwing q :: .java g :: U.frames.tail := hend
    have hW' : U.WarmedH s₂.vm := hW₂
    have hs₂ : s₂ = ((({ U with heap := s₂.heap, slotsUsed := s₂.slotsUsed } : State).setVm s₂.vm).setTop g).pushFrame (.throwing q) := by
      refine e3.trans ?_
      rw [hf₂, State.calling_eq h.top, State.setFrames_setFrames, State.pushFrame, State.frames_setTop _ hr', State.setTop_of_frames _ hr', State.setFrames_setFrames, hr]
      rfl
    have hsame : U.sameButNew ({ U with heap := s₂.heap, slotsUsed := s₂.slotsUsed } : State) L mc ms := by
      refine ⟨?_, q2, q3, q4, q5, q6⟩
      obtain ⟨t, ht, -⟩ := State.frames_cons hr
      show ({ U with heap := s₂.heap, slotsUsed := s₂.slotsUsed } : State) = { U.setFrames U.frames with heap := s₂.heap, slotsUsed := s₂.slotsUsed }
      rw [State.setFrames_self ht]
    subst hg
    refine Or.inr ⟨q, ⟨(({ U with heap := s₂.heap, slotsUsed := s₂.slotsUsed } : State).setVm s₂.vm), Ls ++ L, c0 + mc, s0 + ms⟩,
      ⟨X.admits, X.cas, X.clock, X.frames, X.room, X.hears, X.method, X.code, (X.here.setHeapUsed s₂.heap s₂.slotsUsed).setVm hW'.alike, X.tail, State.WarmedH.trans X.warmed hW', X.limits, X.bytes, X.same.trans (hsame.setVm s.vm)⟩,
      ⟨g, mk, s₂, L, E, ce, rfl, rfl, hx, hce, hcv, hcl, rfl, hL, rfl, rfl⟩, ?_⟩
    show Steps p.tables e below _ (((({ U with heap := s₂.heap, slotsUsed := s₂.slotsUsed } : State).setVm s₂.vm).setTop g).pushFrame (.throwing q))
    rw [← hs₂]
    exact hsteps
end
variable {p : Program} {l : Launch} {e : Env} {R : Room} {s : State} {m : MethodId} {args : Array Value} {below : List Frame} {meth : Method} {c : Code} {T : State} {H : Heap} {locs : List Loc} {cells slots : Nat}
theorem vx_callVX (X : Stand p l e R s m args below meth c T locs cells slots) (hexec : p.tables.exec = Jvm.exec) {own C : String} {index : Nat} {y : MethodName} {bytes : ByteArray} {maxL : Nat} {ret : Option FieldType} {hh : List (Nat × Nat × Nat × Nat)}
    (hown : s.vm.findClass own = some m.cls) (hlink : (Cond.methodLink own index y).before args s = true) (hinst : (Cond.instanceMethod y).before args s = true) (hsel : (Cond.selects C y y).before args s = true)
    (hcode : (Cond.codeWith y bytes maxL ret hh).before args s = true) (hy : y.cls ≠ "java/lang/invoke/MethodHandle" ∧ y.cls ≠ "java/lang/invoke/VarHandle")
    {W9 : Nat} {Pre : Pt → Array Value → Prop} {Post : Pt → Array Value → Option Value → Pt → Prop} {PostX : Pt → Array Value → Addr → Pt → Prop} (hK : vx_Back l R p e below s args y 3 W9 Pre Post PostX)
    {b : Addr} {cellB : Cell} (hcell : T.heap[b]? = some cellB) (hobj : cellB.vm.isStatics = false) (hcls : s.vm.findClass C = some cellB.cls)
    {g : JFrame} (hg : g.method = m) (hsize : g.locals.size = c.maxLocals) {argsL rest : List Value} (hlen : ∀ sig, parseMethodDescriptor y.desc = some sig → argsL.length = sig.parameters.length)
    (hstack : g.stack = argsL.reverse ++ .ref b :: rest) (hW : 2 * g.monitorRoom + (rest.map fun v => v.category).sum ≤ W9) (hdg : decode c.code g.pc = .ok (.invokevirtual index, 3))
    (hpre : ∀ vm₁, s.WarmedH vm₁ → Pre ⟨T.setVm vm₁, locs, cells, slots⟩ (Value.ref b :: argsL).toArray) :
    (∃ (v : Option Value) (vm₁ : Vm) (B : Pt), s.WarmedH vm₁ ∧ Stand p l e R s m args below meth c B.U B.locs B.cells B.slots ∧ Post ⟨T.setVm vm₁, locs, cells, slots⟩ (Value.ref b :: argsL).toArray v B ∧
      ∀ target, Steps p.tables e below (B.U.setTop { g with pc := g.pc + 3, stack := v.toList ++ rest }) target → Steps p.tables e below (T.setTop g) target) ∨
    (∃ (q : Addr) (vm₁ : Vm) (B : Pt), s.WarmedH vm₁ ∧ Stand p l e R s m args below meth c B.U B.locs B.cells B.slots ∧ PostX ⟨T.setVm vm₁, locs, cells, slots⟩ (Value.ref b :: argsL).toArray q B ∧
      Steps p.tables e below (T.setTop g) ((B.U.setTop { g with stack := rest }).pushFrame (.throwing q))) := by
  obtain ⟨mk, methM, hnamed, hmethM, hstM, habM⟩ := Cond.instanceMethod_spec hinst
  obtain ⟨m8, methM', cM, hn8, hmethM', -, -, -, -, -, -, hsigM⟩ := Cond.codeWith_spec hcode
  cases Option.some.inj (hn8.symm.trans hnamed)
  cases hmethM.symm.trans hmethM'
  obtain ⟨c2, r2, m2, q1, q2, q3, q4, kP, hkP, hkPi⟩ := Cond.selects_spec hsel
  cases hcls.symm.trans q1
  cases (State.methodFound?_of_named hnamed hy).symm.trans q2
  cases hnamed.symm.trans q3
  have hselP : selectMethod e.platform s.vm cellB.cls mk = .method mk := by rw [Launch.admits_selectMethod X.admits]; exact q4
  obtain ⟨vm₁, X₁, hstep₁⟩ := X.invokevirtual hexec hown hlink hnamed hmethM hstM hkP hkPi hy (a := b) (cell := cellB) hcell
    (fun z h => by rw [h] at hobj; cases hobj) hselP hmethM habM hkP hkPi (g := g) hg (argsL := argsL) (rest := rest) (hlen _ hsigM) hstack hdg
  rcases hK m meth c ⟨T.setVm vm₁, locs, cells, slots⟩ { g with stack := rest } (.invokevirtual index) mk (Value.ref b :: argsL).toArray X₁ hg hsize hdg hW (X₁.named hnamed) (hpre vm₁ X₁.warmed) with ⟨v, B, X', hpost, hsteps⟩ | ⟨q, B, X', hpost, hsteps⟩
  · exact Or.inl ⟨v, vm₁, B, X₁.warmed, X', hpost, fun target h => hstep₁ _ fun acts => by rw [doInvoke_state]; exact hsteps.trans h⟩
  · exact Or.inr ⟨q, vm₁, B, X₁.warmed, X', hpost, hstep₁ _ fun acts => by rw [doInvoke_state]; exact hsteps⟩
theorem vx_callSX (X : Stand p l e R s m args below meth c T locs cells slots) (hexec : p.tables.exec = Jvm.exec) {own : String} {index : Nat} {y : MethodName} {bytes : ByteArray} {maxL : Nat} {ret : Option FieldType} {hh : List (Nat × Nat × Nat × Nat)}
    (hown : s.vm.findClass own = some m.cls) (hlink : (Cond.methodLink own index y).before args s = true) (hstat : (Cond.static y).before args s = true) (hinit : (Cond.initialized y.cls).before args s = true)
    (hcode : (Cond.codeWith y bytes maxL ret hh).before args s = true) (hy : y.cls ≠ "java/lang/invoke/MethodHandle" ∧ y.cls ≠ "java/lang/invoke/VarHandle")
    {W9 : Nat} {Pre : Pt → Array Value → Prop} {Post : Pt → Array Value → Option Value → Pt → Prop} {PostX : Pt → Array Value → Addr → Pt → Prop} (hK : vx_Back l R p e below s args y 3 W9 Pre Post PostX)
    {g : JFrame} (hg : g.method = m) (hsize : g.locals.size = c.maxLocals) {argsL rest : List Value} (hlen : ∀ sig, parseMethodDescriptor y.desc = some sig → argsL.length = sig.parameters.length)
    (hstack : g.stack = argsL.reverse ++ rest) (hW : 2 * g.monitorRoom + (rest.map fun v => v.category).sum ≤ W9) (hdg : decode c.code g.pc = .ok (.invokestatic index, 3))
    (hpre : ∀ vm₁, s.WarmedH vm₁ → Pre ⟨T.setVm vm₁, locs, cells, slots⟩ argsL.toArray) :
    (∃ (v : Option Value) (vm₁ : Vm) (B : Pt), s.WarmedH vm₁ ∧ Stand p l e R s m args below meth c B.U B.locs B.cells B.slots ∧ Post ⟨T.setVm vm₁, locs, cells, slots⟩ argsL.toArray v B ∧
      ∀ target, Steps p.tables e below (B.U.setTop { g with pc := g.pc + 3, stack := v.toList ++ rest }) target → Steps p.tables e below (T.setTop g) target) ∨
    (∃ (q : Addr) (vm₁ : Vm) (B : Pt), s.WarmedH vm₁ ∧ Stand p l e R s m args below meth c B.U B.locs B.cells B.slots ∧ PostX ⟨T.setVm vm₁, locs, cells, slots⟩ argsL.toArray q B ∧
      Steps p.tables e below (T.setTop g) ((B.U.setTop { g with stack := rest }).pushFrame (.throwing q))) := by
  obtain ⟨mk, methM, cM, hnamed, hmethM, -, -, -, -, -, -, hsigM⟩ := Cond.codeWith_spec hcode
  have hstatic : methM.isStatic = true := Cond.static_spec hnamed hmethM hstat
  obtain ⟨kP, hkP, -⟩ := className_of_methodNamed hnamed
  have hinitP : kP.init = .initialized := Cond.initialized_spec (findClass_of_methodNamed hnamed) hkP hinit
  obtain ⟨vm₁, X₁, hstep₁⟩ := X.invokestatic hexec hown hlink hnamed hmethM hstatic hkP hinitP hy (g := g) hg (argsL := argsL) (rest := rest) (hlen _ hsigM) hstack hdg
  rcases hK m meth c ⟨T.setVm vm₁, locs, cells, slots⟩ { g with stack := rest } (.invokestatic index) mk argsL.toArray X₁ hg hsize hdg hW (X₁.named hnamed) (hpre vm₁ X₁.warmed) with ⟨v, B, X', hpost, hsteps⟩ | ⟨q, B, X', hpost, hsteps⟩
  · exact Or.inl ⟨v, vm₁, B, X₁.warmed, X', hpost, fun target h => hstep₁ _ fun acts => by rw [doInvoke_state]; exact hsteps.trans h⟩
  · exact Or.inr ⟨q, vm₁, B, X₁.warmed, X', hpost, hstep₁ _ fun acts => by rw [doInvoke_state]; exact hsteps⟩
theorem vx_callVW (X : Stand p l e R s m args below meth c T locs cells slots) (hexec : p.tables.exec = Jvm.exec) {own C : String} {index : Nat} {y : MethodName} {bytes : ByteArray} {maxL : Nat} {ret : Option FieldType} {hh : List (Nat × Nat × Nat × Nat)}
    (hown : s.vm.findClass own = some m.cls) (hlink : (Cond.methodLink own index y).before args s = true) (hinst : (Cond.instanceMethod y).before args s = true) (hsel : (Cond.selects C y y).before args s = true)
    (hcode : (Cond.codeWith y bytes maxL ret hh).before args s = true) (hy : y.cls ≠ "java/lang/invoke/MethodHandle" ∧ y.cls ≠ "java/lang/invoke/VarHandle")
    {W9 : Nat} {Pre : Pt → Array Value → Prop} {Post : Pt → Array Value → Option Value → Pt → Prop} (hK : Back l R p e below s args y 3 W9 Pre Post)
    {b : Addr} {cellB : Cell} (hcell : T.heap[b]? = some cellB) (hobj : cellB.vm.isStatics = false) (hcls : s.vm.findClass C = some cellB.cls)
    {g : JFrame} (hg : g.method = m) (hsize : g.locals.size = c.maxLocals) {argsL rest : List Value} (hlen : ∀ sig, parseMethodDescriptor y.desc = some sig → argsL.length = sig.parameters.length)
    (hstack : g.stack = argsL.reverse ++ .ref b :: rest) (hW : 2 * g.monitorRoom + (rest.map fun v => v.category).sum ≤ W9) (hdg : decode c.code g.pc = .ok (.invokevirtual index, 3))
    (hpre : ∀ vm₁, s.WarmedH vm₁ → Pre ⟨T.setVm vm₁, locs, cells, slots⟩ (Value.ref b :: argsL).toArray) :
    ∃ (v : Option Value) (vm₁ : Vm) (B : Pt), s.WarmedH vm₁ ∧ Stand p l e R s m args below meth c B.U B.locs B.cells B.slots ∧ Post ⟨T.setVm vm₁, locs, cells, slots⟩ (Value.ref b :: argsL).toArray v B ∧
      ∀ target, Steps p.tables e below (B.U.setTop { g with pc := g.pc + 3, stack := v.toList ++ rest }) target → Steps p.tables e below (T.setTop g) target := by
  obtain ⟨mk, methM, hnamed, hmethM, hstM, habM⟩ := Cond.instanceMethod_spec hinst
  obtain ⟨m8, methM', cM, hn8, hmethM', -, -, -, -, -, -, hsigM⟩ := Cond.codeWith_spec hcode
  cases Option.some.inj (hn8.symm.trans hnamed)
  cases hmethM.symm.trans hmethM'
  obtain ⟨c2, r2, m2, q1, q2, q3, q4, kP, hkP, hkPi⟩ := Cond.selects_spec hsel
  cases hcls.symm.trans q1
  cases (State.methodFound?_of_named hnamed hy).symm.trans q2
  cases hnamed.symm.trans q3
  have hselP : selectMethod e.platform s.vm cellB.cls mk = .method mk := by rw [Launch.admits_selectMethod X.admits]; exact q4
  obtain ⟨vm₁, X₁, hstep₁⟩ := X.invokevirtual hexec hown hlink hnamed hmethM hstM hkP hkPi hy (a := b) (cell := cellB) hcell
    (fun z h => by rw [h] at hobj; cases hobj) hselP hmethM habM hkP hkPi (g := g) hg (argsL := argsL) (rest := rest) (hlen _ hsigM) hstack hdg
  obtain ⟨v, B, X', hpost, hsteps⟩ := hK m meth c ⟨T.setVm vm₁, locs, cells, slots⟩ { g with stack := rest } (.invokevirtual index) mk (Value.ref b :: argsL).toArray X₁ hg hsize hdg hW (X₁.named hnamed) (hpre vm₁ X₁.warmed)
  exact ⟨v, vm₁, B, X₁.warmed, X', hpost, fun target h => hstep₁ _ fun acts => by rw [doInvoke_state]; exact hsteps.trans h⟩
abbrev vx_CVW (R : Room) (s : State) (args : Array Value) (own C : String) (index : Nat) (y : MethodName) (bytes : ByteArray) (maxL : Nat) (ret : Option FieldType) (hh : List (Nat × Nat × Nat × Nat)) (ws : List Cond) (rm : Room) (mc ms n : Nat) : Prop :=
  (rm.cells = mc ∧ rm.slots = ms ∧ rm.frames + 1 ≤ R.frames ∧ 8 + (maxL + 11) + rm.locals ≤ R.locals ∧ (∀ w ∈ ws, ∀ (a' : Array Value) (U : State), s.WarmedH U.vm → w.before a' U = true) ∧ Cond.codeWith y bytes maxL ret hh ∈ ws) ∧
  (Cond.codeWith y bytes maxL ret hh).before args s = true ∧ (Cond.initialized y.cls).before args s = true ∧ (y.cls ≠ "java/lang/invoke/MethodHandle" ∧ y.cls ≠ "java/lang/invoke/VarHandle") ∧
  (∀ sig, parseMethodDescriptor y.desc = some sig → n = sig.parameters.length) ∧ (Cond.methodLink own index y).before args s = true ∧ (Cond.instanceMethod y).before args s = true ∧ (Cond.selects C y y).before args s = true
theorem vx_cwVW {own C : String} {index maxL mc ms : Nat} {y : MethodName} {bytes : ByteArray} {ret : Option FieldType} {hh : List (Nat × Nat × Nat × Nat)} {Ts ws ws' : List Cond} {rm : Room} (n : Nat) (ht : ∀ w ∈ Ts, w.before args s = true) (hT : GoodIn Ts (wsV own index C y ws)) (hw : ws = Cond.codeWith y bytes maxL ret hh :: ws') (hrc : rm.cells = mc) (hrs : rm.slots = ms)
    (hd : y.cls = C ∧ y.cls ≠ "java/lang/invoke/MethodHandle" ∧ y.cls ≠ "java/lang/invoke/VarHandle" ∧ (parseMethodDescriptor y.desc).map (fun d => d.parameters.length) = some n) (hR : rm.frames + 1 ≤ R.frames ∧ 8 + (maxL + 11) + rm.locals ≤ R.locals) :
    vx_CVW R s args own C index y bytes maxL ret hh ws rm mc ms n := by
  obtain ⟨hC, hd⟩ := hd
  subst hC
  have ok : ∀ w ∈ wsV own index y.cls y ws, w.before args s = true := fun w h => ht w (hT w h).1
  have hG : GoodIn Ts ws := fun w h => hT w (by unfold wsV; exact List.mem_append_right _ h)
  have hc : Cond.codeWith y bytes maxL ret hh ∈ ws := by rw [hw]; exact List.mem_cons_self
  refine ⟨⟨hrc, hrs, hR.1, hR.2, pay_in ht hG, hc⟩, ht _ (hG _ hc).1, ok _ (by simp [wsV]), ⟨hd.1, hd.2.1⟩, fun sig h => ?_, ok _ (by simp [wsV]), ok _ (by simp [wsV]), ok _ (by simp [wsV])⟩
  have h2 := hd.2.2
  rw [h] at h2
  exact (Option.some.inj h2).symm
theorem vx_runVW {y : MethodName} {bytes cc : ByteArray} {maxL nL mc ms n index : Nat} {ret : Option FieldType} {hh : List (Nat × Nat × Nat × Nat)} {ws : List Cond} {rm : Room} {Pc : Array Value → State → Prop} {Qc : Array Value → State → Outcome → State → Prop} {free : Addr → Prop} {Ts : List Cond} {own C : String} {b : Addr} {As rest : List Value} {g : JFrame}
    (S : CallFix p m c cc nL s args Ts own) (hM : Met l y ws rm Pc Qc mc ms free) (cw : vx_CVW R s args own C index y bytes maxL ret hh ws rm mc ms n) (hp : PreV s H C b Pc As)
    (hg : g.method = m) (hn : As.length = n) (hsize : g.locals.size = nL) (hstack : g.stack = As.reverse ++ .ref b :: rest) (hW : 2 * g.monitorRoom + (rest.map fun v => v.category).sum ≤ 8) (hdg : decode cc g.pc = .ok (.invokevirtual index, 3)) (hf : cells + mc ≤ R.cells ∧ slots + ms ≤ R.slots) :
    va_Run p l e R s m args below meth c H locs cells slots mc ms g rest (Qc (Value.ref b :: As).toArray) free := by
  obtain ⟨⟨hrc, hrs, hfr, hlo, hws, hcw⟩, hcode, hini, hy, hlen, hl, hin, hse⟩ := cw
  have hK : Back l R p e below s args y 3 8 (PreOf R mc ms Pc) (PostOf Qc mc ms free) := va_backW (hh := hh) (bytes := bytes) (maxL := maxL) (ret := ret) hM hp.1 hrc hrs hfr hlo hws hcw (fun a' U hW => word_at hW (Or.inl (by first | rfl | simp [Cond.onTables, Cond.keeps, Cond.steady])) hini)
  obtain ⟨hx, hb, hml, ho, -⟩ := S
  obtain ⟨-, ⟨cellB, hcB, hoB, hclB⟩, hPc⟩ := hp
  intro T hT X
  obtain ⟨v, vm₁, ⟨U', l2, c2, s2⟩, hW₁, X', ⟨g', mk, t, L, e1, e2, hq, h1, hL, h2, h3⟩, st⟩ := vx_callVW X hx (C := C) (hh := hh) (bytes := bytes) (maxL := maxL) (ret := ret) ho hl hin hse hcode hy hK (by rw [hT]; exact hcB) hoB hclB hg (hsize.trans hml.symm) (argsL := As) (rest := rest) (fun sig h => hn.trans (hlen sig h)) hstack hW (by rw [hb]; exact hdg)
    (fun vm₁ hW₁ => ⟨hf.1, hf.2, hPc (T.setVm vm₁) hT hW₁⟩)
  dsimp only [Pt.U, Pt.locs, Pt.cells, Pt.slots] at X' e1 e2 h1 h2 h3 st
  subst h1; subst h2; subst h3
  exact ⟨v, (T.setVm vm₁).calling g' mk (Value.ref b :: As).toArray, t, U', L, hT, X', hL, e1, e2, hq, st⟩
section
variable {y : MethodName} {bytes cc : ByteArray} {maxL nL mc ms n index : Nat} {ret : Option FieldType} {ws : List Cond} {rm : Room} {Pc : Array Value → State → Prop} {Qc : Array Value → State → Outcome → State → Prop} {XC : String → State → State → Prop} {free : Addr → Prop} {Ts : List Cond} {own C : String} {b : Addr} {As rest : List Value} {g : JFrame}
theorem vx_runVX {hh : List (Nat × Nat × Nat × Nat)} (S : CallFix p m c cc nL s args Ts own) (hM : vx_Met l y ws rm Pc Qc XC mc ms free) (cw : vx_CVW R s args own C index y bytes maxL ret hh ws rm mc ms n) (hp : PreV s H C b Pc As)
    (hg : g.method = m) (hn : As.length = n) (hsize : g.locals.size = nL) (hstack : g.stack = As.reverse ++ .ref b :: rest) (hW : 2 * g.monitorRoom + (rest.map fun v => v.category).sum ≤ 8) (hdg : decode cc g.pc = .ok (.invokevirtual index, 3)) (hf : cells + mc ≤ R.cells ∧ slots + ms ≤ R.slots) :
    vx_Run p l e R s m args below meth c H locs cells slots mc ms g rest (Qc (Value.ref b :: As).toArray) XC free := by
  obtain ⟨⟨hrc, hrs, hfr, hlo, hws, hcw⟩, hcode, hini, hy, hlen, hl, hin, hse⟩ := cw
  have hK : vx_Back l R p e below s args y 3 8 (PreOf R mc ms Pc) (PostOf Qc mc ms free) (vx_Post XC mc ms free) := vx_backW (hh := hh) (bytes := bytes) (maxL := maxL) (ret := ret) hM hp.1 hrc hrs hfr hlo hws hcw (fun a' U hW => word_at hW (Or.inl (by first | rfl | simp [Cond.onTables, Cond.keeps, Cond.steady])) hini)
  obtain ⟨hx, hb, hml, ho, -⟩ := S
  obtain ⟨-, ⟨cellB, hcB, hoB, hclB⟩, hPc⟩ := hp
  intro T hT X
  rcases vx_callVX X hx (C := C) (hh := hh) (bytes := bytes) (maxL := maxL) (ret := ret) ho hl hin hse hcode hy hK (by rw [hT]; exact hcB) hoB hclB hg (hsize.trans hml.symm) (argsL := As) (rest := rest) (fun sig h => hn.trans (hlen sig h)) hstack hW (by rw [hb]; exact hdg)
    (fun vm₁ hW₁ => ⟨hf.1, hf.2, hPc (T.setVm vm₁) hT hW₁⟩) with ⟨v, vm₁, ⟨U', l2, c2, s2⟩, hW₁, X', ⟨g', mk, t, L, e1, e2, hq, h1, hL, h2, h3⟩, st⟩ | ⟨q, vm₁, ⟨U', l2, c2, s2⟩, hW₁, X', ⟨g', mk, t, L, E, ce, e1, e2, hq, hce, hcv, hcl, h1, hL, h2, h3⟩, st⟩
  · dsimp only [Pt.U, Pt.locs, Pt.cells, Pt.slots] at X' e1 e2 h1 h2 h3 st
    subst h1; subst h2; subst h3
    exact Or.inl ⟨v, (T.setVm vm₁).calling g' mk (Value.ref b :: As).toArray, t, U', L, hT, X', hL, e1, e2, hq, st⟩
  · dsimp only [Pt.U, Pt.locs, Pt.cells, Pt.slots] at X' e1 e2 h1 h2 h3 st hcl
    subst h1; subst h2; subst h3
    exact Or.inr ⟨q, (T.setVm vm₁).calling g' mk (Value.ref b :: As).toArray, t, U', L, E, ce, hT, X', hL, e1, e2, hq, hce, hcv, vx_cls hW₁ hcl, st⟩
theorem vx_runSX {hh : List (Nat × Nat × Nat × Nat)} (S : CallFix p m c cc nL s args Ts own) (hM : vx_Met l y ws rm Pc Qc XC mc ms free) (cw : vx_CSW R s args own index y bytes maxL ret hh ws rm mc ms n) (hp : PreS s H Pc As)
    (hg : g.method = m) (hn : As.length = n) (hsize : g.locals.size = nL) (hstack : g.stack = As.reverse ++ rest) (hW : 2 * g.monitorRoom + (rest.map fun v => v.category).sum ≤ 8) (hdg : decode cc g.pc = .ok (.invokestatic index, 3)) (hf : cells + mc ≤ R.cells ∧ slots + ms ≤ R.slots) :
    vx_Run p l e R s m args below meth c H locs cells slots mc ms g rest (Qc As.toArray) XC free := by
  obtain ⟨⟨hrc, hrs, hfr, hlo, hws, hcw⟩, hcode, hini, hy, hlen, hl, hstt⟩ := cw
  have hK : vx_Back l R p e below s args y 3 8 (PreOf R mc ms Pc) (PostOf Qc mc ms free) (vx_Post XC mc ms free) := vx_backW (hh := hh) (bytes := bytes) (maxL := maxL) (ret := ret) hM hp.1 hrc hrs hfr hlo hws hcw (fun a' U hW => word_at hW (Or.inl (by first | rfl | simp [Cond.onTables, Cond.keeps, Cond.steady])) hini)
  obtain ⟨hx, hb, hml, ho, -⟩ := S
  intro T hT X
  rcases vx_callSX X hx (hh := hh) (bytes := bytes) (maxL := maxL) (ret := ret) ho hl hstt hini hcode hy hK hg (hsize.trans hml.symm) (argsL := As) (rest := rest) (fun sig h => hn.trans (hlen sig h)) hstack hW (by rw [hb]; exact hdg)
    (fun vm₁ hW₁ => ⟨hf.1, hf.2, hp.2 (T.setVm vm₁) hT hW₁⟩) with ⟨v, vm₁, ⟨U', l2, c2, s2⟩, hW₁, X', ⟨g', mk, t, L, e1, e2, hq, h1, hL, h2, h3⟩, st⟩ | ⟨q, vm₁, ⟨U', l2, c2, s2⟩, hW₁, X', ⟨g', mk, t, L, E, ce, e1, e2, hq, hce, hcv, hcl, h1, hL, h2, h3⟩, st⟩
  · dsimp only [Pt.U, Pt.locs, Pt.cells, Pt.slots] at X' e1 e2 h1 h2 h3 st
    subst h1; subst h2; subst h3
    exact Or.inl ⟨v, (T.setVm vm₁).calling g' mk As.toArray, t, U', L, hT, X', hL, e1, e2, hq, st⟩
  · dsimp only [Pt.U, Pt.locs, Pt.cells, Pt.slots] at X' e1 e2 h1 h2 h3 st hcl
    subst h1; subst h2; subst h3
    exact Or.inr ⟨q, (T.setVm vm₁).calling g' mk As.toArray, t, U', L, E, ce, hT, X', hL, e1, e2, hq, hce, hcv, vx_cls hW₁ hcl, st⟩
end
end VXH
theorem vx_ofWH {l : Launch} {y : MethodName} {ws ws' : List Cond} {rm : Room} {Pc : Array Value → State → Prop} {Qc : Array Value → State → Outcome → State → Prop} {XC : String → State → State → Prop} {mc ms : Nat} {free : Addr → Prop} {cc : ByteArray} {maxL : Nat} {ret : Option FieldType} {hh : List (Nat × Nat × Nat × Nat)}
    (hy : plainName y.cls = true) (hw : ws = Cond.codeWith y cc maxL ret hh :: ws')
    (body : ∀ p e s m args below meth c s₁, BodyLoose p l y (headSpec ws rm) cc maxL ret e s m args below meth c s₁ → c.maxLocals = maxL → Pc args s →
      W p l e (headSpec ws rm).room s m args below meth c s.heap [] 0 0 (vx_MQ below Qc XC args s mc ms free) (entryFrame m args maxL)) : vx_Met l y ws rm Pc Qc XC mc ms free := by
  refine MetFree.of_bodyS (code := cc) (maxLocals := maxL) (ret := ret) hy ?_ ?_
  · intro args s m h hn
    obtain ⟨m9, meth, c, hn9, h1, h2, h3, h4, -, h5, h6, -⟩ := Cond.codeWith_spec (atoms_spec (ws := ws) h _ (by rw [hw]; exact List.mem_cons_self))
    cases hn.symm.trans hn9
    exact ⟨meth, c, h1, h2, h3, h4, h5, h6⟩
  · intro p e s m args below meth c s₁ B hml hP _
    have hh0 : s₁.heap = s.heap := by rw [B.state]; rfl
    obtain ⟨t, a1, o, b1, b2, b3⟩ := body p e s m args below meth c s₁ B hml hP s₁ hh0 (Stand.of_body B)
    exact ⟨t, o, a1, b1, b2, b3⟩
/-! ===== END ===== -/

/-! ===== BEGIN printed: names, fields, word lists, decode rows ===== -/
def RX0 : String := "SuffixWright$Automaton"
def TX0 : u_T := fun k => match k with
  | 0 => ("SuffixWright$Automaton", "ends", "LSuffixWright$Ends;", true)
  | 1 => ("SuffixWright$Automaton", "steps", "[I", true)
  | 2 => ("SuffixWright$Automaton", "longest", "[I", true)
  | 3 => ("SuffixWright$Automaton", "links", "[I", true)
  | 4 => ("SuffixWright$Automaton", "byLength", "[I", true)
  | 5 => ("SuffixWright$Automaton", "wholes", "[I", true)
  | _ => ("SuffixWright$Automaton", "states", "I", false)
def tyX0 : Nat → FieldType := fun k => match k with
  | 0 => .object "SuffixWright$Ends"
  | 1 => .array .int
  | 2 => .array .int
  | 3 => .array .int
  | 4 => .array .int
  | 5 => .array .int
  | _ => .int
abbrev wsX00 : List Cond := u_ws RX0 TX0 7
theorem nmX0 : ∀ a, a < 7 → ∀ b, b < 7 → a ≠ b → (TX0 a).2.1 ≠ (TX0 b).2.1 := by decide +kernel
theorem tyX0_ok : ∀ k, k < 7 → parseFieldDescriptor (TX0 k).2.2.1 = some (tyX0 k) := by decide +kernel
abbrev cX0_init : ByteArray := prog_2_method_1_code
def yX0_init : MethodName := ⟨RX0, "<init>", "()V"⟩
abbrev cX0_forget : ByteArray := prog_2_method_2_code
def yX0_forget : MethodName := ⟨RX0, "forget", "()V"⟩
abbrev cX0_stateCount : ByteArray := prog_2_method_3_code
def yX0_stateCount : MethodName := ⟨RX0, "stateCount", "()I"⟩
abbrev cX0_stateAt : ByteArray := prog_2_method_4_code
def yX0_stateAt : MethodName := ⟨RX0, "stateAt", "(I)I"⟩
abbrev cX0_partCount : ByteArray := prog_2_method_5_code
def yX0_partCount : MethodName := ⟨RX0, "partCount", "()I"⟩
abbrev cX0_longestOf : ByteArray := prog_2_method_6_code
def yX0_longestOf : MethodName := ⟨RX0, "longestOf", "(I)I"⟩
abbrev cX0_shortestOf : ByteArray := prog_2_method_7_code
def yX0_shortestOf : MethodName := ⟨RX0, "shortestOf", "(I)I"⟩
abbrev cX0_step : ByteArray := prog_2_method_8_code
def yX0_step : MethodName := ⟨RX0, "step", "(II)I"⟩
abbrev cX0_grow : ByteArray := prog_2_method_9_code
def yX0_grow : MethodName := ⟨RX0, "grow", "(III)V"⟩
abbrev cX0_extend : ByteArray := prog_2_method_10_code
def yX0_extend : MethodName := ⟨RX0, "extend", "(II)I"⟩
abbrev cX0_stateBehind : ByteArray := prog_2_method_11_code
def yX0_stateBehind : MethodName := ⟨RX0, "stateBehind", "(II)I"⟩
abbrev cX0_addState : ByteArray := prog_2_method_12_code
def yX0_addState : MethodName := ⟨RX0, "addState", "(II)I"⟩
abbrev cX0_sortIn : ByteArray := prog_2_method_13_code
def yX0_sortIn : MethodName := ⟨RX0, "sortIn", "(I)V"⟩
abbrev cX0_linkOf : ByteArray := prog_2_method_14_code
def yX0_linkOf : MethodName := ⟨RX0, "linkOf", "(I)I"⟩
abbrev cX0_putLink : ByteArray := prog_2_method_15_code
def yX0_putLink : MethodName := ⟨RX0, "putLink", "(II)V"⟩
abbrev cX0_putStep : ByteArray := prog_2_method_16_code
def yX0_putStep : MethodName := ⟨RX0, "putStep", "(III)V"⟩
def RX1 : String := "SuffixWright$Ends"
def TX1 : u_T := fun k => match k with
  | 0 => ("SuffixWright$Ends", "counts", "[I", true)
  | 1 => ("SuffixWright$Ends", "firsts", "[I", true)
  | _ => ("SuffixWright$Ends", "lasts", "[I", true)
def tyX1 : Nat → FieldType := fun k => match k with
  | 0 => .array .int
  | 1 => .array .int
  | _ => .array .int
abbrev wsX10 : List Cond := u_ws RX1 TX1 3
theorem nmX1 : ∀ a, a < 3 → ∀ b, b < 3 → a ≠ b → (TX1 a).2.1 ≠ (TX1 b).2.1 := by decide +kernel
theorem tyX1_ok : ∀ k, k < 3 → parseFieldDescriptor (TX1 k).2.2.1 = some (tyX1 k) := by decide +kernel
abbrev cX1_init : ByteArray := prog_3_method_1_code
def yX1_init : MethodName := ⟨RX1, "<init>", "()V"⟩
abbrev cX1_countOf : ByteArray := prog_3_method_2_code
def yX1_countOf : MethodName := ⟨RX1, "countOf", "(II)I"⟩
abbrev cX1_firstOf : ByteArray := prog_3_method_3_code
def yX1_firstOf : MethodName := ⟨RX1, "firstOf", "(II)I"⟩
abbrev cX1_lastOf : ByteArray := prog_3_method_4_code
def yX1_lastOf : MethodName := ⟨RX1, "lastOf", "(II)I"⟩
abbrev cX1_countInAll : ByteArray := prog_3_method_5_code
def yX1_countInAll : MethodName := ⟨RX1, "countInAll", "(I)I"⟩
abbrev cX1_standInEach : ByteArray := prog_3_method_6_code
def yX1_standInEach : MethodName := ⟨RX1, "standInEach", "(II)Z"⟩
abbrev cX1_note : ByteArray := prog_3_method_7_code
def yX1_note : MethodName := ⟨RX1, "note", "(III)V"⟩
abbrev cX1_takeOver : ByteArray := prog_3_method_8_code
def yX1_takeOver : MethodName := ⟨RX1, "takeOver", "(II)V"⟩
abbrev cX1_placeOf : ByteArray := prog_3_method_9_code
def yX1_placeOf : MethodName := ⟨RX1, "placeOf", "(II)I"⟩
def RX2 : String := "SuffixWright$Guide"
def TX2 : u_T := fun k => match k with
  | 0 => ("SuffixWright$Guide", "automaton", "LSuffixWright$Automaton;", true)
  | 1 => ("SuffixWright$Guide", "ahead", "[I", true)
  | _ => ("SuffixWright$Guide", "outside", "I", false)
def tyX2 : Nat → FieldType := fun k => match k with
  | 0 => .object "SuffixWright$Automaton"
  | 1 => .array .int
  | _ => .int
abbrev wsX20 : List Cond := u_ws RX2 TX2 3
theorem nmX2 : ∀ a, a < 3 → ∀ b, b < 3 → a ≠ b → (TX2 a).2.1 ≠ (TX2 b).2.1 := by decide +kernel
theorem tyX2_ok : ∀ k, k < 3 → parseFieldDescriptor (TX2 k).2.2.1 = some (tyX2 k) := by decide +kernel
abbrev cX2_init : ByteArray := prog_4_method_1_code
def yX2_init : MethodName := ⟨RX2, "<init>", "()V"⟩
abbrev cX2_countWords : ByteArray := prog_4_method_2_code
def yX2_countWords : MethodName := ⟨RX2, "countWords", "()V"⟩
abbrev cX2_measureReach : ByteArray := prog_4_method_3_code
def yX2_measureReach : MethodName := ⟨RX2, "measureReach", "(II)V"⟩
abbrev cX2_measureGaps : ByteArray := prog_4_method_4_code
def yX2_measureGaps : MethodName := ⟨RX2, "measureGaps", "(I)V"⟩
abbrev cX2_partsAheadOf : ByteArray := prog_4_method_5_code
def yX2_partsAheadOf : MethodName := ⟨RX2, "partsAheadOf", "(LSuffixWright$Word;)I"⟩
abbrev cX2_spellPart : ByteArray := prog_4_method_6_code
def yX2_spellPart : MethodName := ⟨RX2, "spellPart", "(ILSuffixWright$Word;)V"⟩
abbrev cX2_spellWay : ByteArray := prog_4_method_7_code
def yX2_spellWay : MethodName := ⟨RX2, "spellWay", "(LSuffixWright$Word;)V"⟩
abbrev cX2_suits : ByteArray := prog_4_method_8_code
def yX2_suits : MethodName := ⟨RX2, "suits", "(III)Z"⟩
abbrev cX2_aheadOf : ByteArray := prog_4_method_9_code
def yX2_aheadOf : MethodName := ⟨RX2, "aheadOf", "(I)I"⟩
abbrev cX2_putAhead : ByteArray := prog_4_method_10_code
def yX2_putAhead : MethodName := ⟨RX2, "putAhead", "(II)V"⟩
def RX3 : String := "SuffixWright$Word"
def TX3 : u_T := fun k => match k with
  | 0 => ("SuffixWright$Word", "letters", "[I", true)
  | _ => ("SuffixWright$Word", "size", "I", false)
def tyX3 : Nat → FieldType := fun k => match k with
  | 0 => .array .int
  | _ => .int
abbrev wsX30 : List Cond := u_ws RX3 TX3 2
theorem nmX3 : ∀ a, a < 2 → ∀ b, b < 2 → a ≠ b → (TX3 a).2.1 ≠ (TX3 b).2.1 := by decide +kernel
theorem tyX3_ok : ∀ k, k < 2 → parseFieldDescriptor (TX3 k).2.2.1 = some (tyX3 k) := by decide +kernel
abbrev cX3_init : ByteArray := prog_5_method_1_code
def yX3_init : MethodName := ⟨RX3, "<init>", "(I)V"⟩
abbrev cX3_size : ByteArray := prog_5_method_2_code
def yX3_size : MethodName := ⟨RX3, "size", "()I"⟩
abbrev cX3_letter : ByteArray := prog_5_method_3_code
def yX3_letter : MethodName := ⟨RX3, "letter", "(I)I"⟩
abbrev cX3_add : ByteArray := prog_5_method_4_code
def yX3_add : MethodName := ⟨RX3, "add", "(I)V"⟩
abbrev cX3_shorten : ByteArray := prog_5_method_5_code
def yX3_shorten : MethodName := ⟨RX3, "shorten", "()V"⟩
abbrev cX3_empty : ByteArray := prog_5_method_6_code
def yX3_empty : MethodName := ⟨RX3, "empty", "()V"⟩
def RX4 : String := "SuffixWright"
def TX4 : u_T := fun k => match k with
  | 0 => ("SuffixWright", "words", "[LSuffixWright$Word;", true)
  | 1 => ("SuffixWright", "pattern", "LSuffixWright$Word;", true)
  | 2 => ("SuffixWright", "guide", "LSuffixWright$Guide;", true)
  | 3 => ("SuffixWright", "automaton", "LSuffixWright$Automaton;", true)
  | 4 => ("SuffixWright", "opened", "I", false)
  | _ => ("SuffixWright", "together", "I", false)
def tyX4 : Nat → FieldType := fun k => match k with
  | 0 => .array (.object "SuffixWright$Word")
  | 1 => .object "SuffixWright$Word"
  | 2 => .object "SuffixWright$Guide"
  | 3 => .object "SuffixWright$Automaton"
  | 4 => .int
  | _ => .int
abbrev wsX40 : List Cond := u_ws RX4 TX4 6
theorem nmX4 : ∀ a, a < 6 → ∀ b, b < 6 → a ≠ b → (TX4 a).2.1 ≠ (TX4 b).2.1 := by decide +kernel
theorem tyX4_ok : ∀ k, k < 6 → parseFieldDescriptor (TX4 k).2.2.1 = some (tyX4 k) := by decide +kernel
abbrev cX4_init : ByteArray := prog_1_method_1_code
def yX4_init : MethodName := ⟨RX4, "<init>", "()V"⟩
abbrev cX4_clear : ByteArray := prog_1_method_2_code
def yX4_clear : MethodName := ⟨RX4, "clear", "()V"⟩
abbrev cX4_open : ByteArray := prog_1_method_3_code
def yX4_open : MethodName := ⟨RX4, "open", "()I"⟩
abbrev cX4_append : ByteArray := prog_1_method_4_code
def yX4_append : MethodName := ⟨RX4, "append", "(II)I"⟩
abbrev cX4_texts : ByteArray := prog_1_method_5_code
def yX4_texts : MethodName := ⟨RX4, "texts", "()I"⟩
abbrev cX4_length : ByteArray := prog_1_method_6_code
def yX4_length : MethodName := ⟨RX4, "length", "(I)I"⟩
abbrev cX4_letterAt : ByteArray := prog_1_method_7_code
def yX4_letterAt : MethodName := ⟨RX4, "letterAt", "(II)I"⟩
abbrev cX4_type : ByteArray := prog_1_method_8_code
def yX4_type : MethodName := ⟨RX4, "type", "(I)I"⟩
abbrev cX4_erase : ByteArray := prog_1_method_9_code
def yX4_erase : MethodName := ⟨RX4, "erase", "()I"⟩
abbrev cX4_wipe : ByteArray := prog_1_method_10_code
def yX4_wipe : MethodName := ⟨RX4, "wipe", "()I"⟩
abbrev cX4_copy : ByteArray := prog_1_method_11_code
def yX4_copy : MethodName := ⟨RX4, "copy", "(III)V"⟩
abbrev cX4_patternLength : ByteArray := prog_1_method_12_code
def yX4_patternLength : MethodName := ⟨RX4, "patternLength", "()I"⟩
abbrev cX4_patternAt : ByteArray := prog_1_method_13_code
def yX4_patternAt : MethodName := ⟨RX4, "patternAt", "(I)I"⟩
abbrev cX4_isPart : ByteArray := prog_1_method_14_code
def yX4_isPart : MethodName := ⟨RX4, "isPart", "()Z"⟩
abbrev cX4_occurrences : ByteArray := prog_1_method_15_code
def yX4_occurrences : MethodName := ⟨RX4, "occurrences", "()I"⟩
abbrev cX4_occurrencesIn : ByteArray := prog_1_method_16_code
def yX4_occurrencesIn : MethodName := ⟨RX4, "occurrencesIn", "(I)I"⟩
abbrev cX4_first : ByteArray := prog_1_method_17_code
def yX4_first : MethodName := ⟨RX4, "first", "(I)I"⟩
abbrev cX4_last : ByteArray := prog_1_method_18_code
def yX4_last : MethodName := ⟨RX4, "last", "(I)I"⟩
abbrev cX4_followers : ByteArray := prog_1_method_19_code
def yX4_followers : MethodName := ⟨RX4, "followers", "()I"⟩
abbrev cX4_leaders : ByteArray := prog_1_method_20_code
def yX4_leaders : MethodName := ⟨RX4, "leaders", "()I"⟩
abbrev cX4_classes : ByteArray := prog_1_method_21_code
def yX4_classes : MethodName := ⟨RX4, "classes", "()I"⟩
abbrev cX4_longestAlike : ByteArray := prog_1_method_22_code
def yX4_longestAlike : MethodName := ⟨RX4, "longestAlike", "()I"⟩
abbrev cX4_shortestAlike : ByteArray := prog_1_method_23_code
def yX4_shortestAlike : MethodName := ⟨RX4, "shortestAlike", "()I"⟩
abbrev cX4_parts : ByteArray := prog_1_method_24_code
def yX4_parts : MethodName := ⟨RX4, "parts", "()I"⟩
abbrev cX4_rank : ByteArray := prog_1_method_25_code
def yX4_rank : MethodName := ⟨RX4, "rank", "()I"⟩
abbrev cX4_toPart : ByteArray := prog_1_method_26_code
def yX4_toPart : MethodName := ⟨RX4, "toPart", "(I)I"⟩
abbrev cX4_common : ByteArray := prog_1_method_27_code
def yX4_common : MethodName := ⟨RX4, "common", "(I)I"⟩
abbrev cX4_repeated : ByteArray := prog_1_method_28_code
def yX4_repeated : MethodName := ⟨RX4, "repeated", "(I)I"⟩
abbrev cX4_missing : ByteArray := prog_1_method_29_code
def yX4_missing : MethodName := ⟨RX4, "missing", "(I)I"⟩
abbrev cX4_within : ByteArray := prog_1_method_30_code
def yX4_within : MethodName := ⟨RX4, "within", "(II)Z"⟩
abbrev cX4_demandText : ByteArray := prog_1_method_31_code
def yX4_demandText : MethodName := ⟨RX4, "demandText", "(I)LSuffixWright$Word;"⟩
abbrev cX4_demandLetter : ByteArray := prog_1_method_32_code
def yX4_demandLetter : MethodName := ⟨RX4, "demandLetter", "(I)V"⟩
abbrev cX4_walkPattern : ByteArray := prog_1_method_33_code
def yX4_walkPattern : MethodName := ⟨RX4, "walkPattern", "(I)I"⟩
abbrev cX4_partState : ByteArray := prog_1_method_34_code
def yX4_partState : MethodName := ⟨RX4, "partState", "()I"⟩
abbrev cX4_beginOfPattern : ByteArray := prog_1_method_35_code
def yX4_beginOfPattern : MethodName := ⟨RX4, "beginOfPattern", "(I)I"⟩
def RX5 : String := "SuffixWrightModel"
def TX5 : u_T := fun k => match k with
  | 0 => ("SuffixWrightModel", "thrown", "I", false)
  | 1 => ("SuffixWrightModel", "letters", "[I", true)
  | 2 => ("SuffixWrightModel", "length", "[I", true)
  | 3 => ("SuffixWrightModel", "texts", "I", false)
  | 4 => ("SuffixWrightModel", "all", "I", false)
  | 5 => ("SuffixWrightModel", "pattern", "[I", true)
  | 6 => ("SuffixWrightModel", "many", "I", false)
  | 7 => ("SuffixWrightModel", "ends", "[I", true)
  | 8 => ("SuffixWrightModel", "shared", "[I", true)
  | 9 => ("SuffixWrightModel", "itsMany", "I", false)
  | 10 => ("SuffixWrightModel", "itsTexts", "I", false)
  | 11 => ("SuffixWrightModel", "itsLeaders", "I", false)
  | _ => ("SuffixWrightModel", "itsBegins", "Z", false)
def tyX5 : Nat → FieldType := fun k => match k with
  | 0 => .int
  | 1 => .array .int
  | 2 => .array .int
  | 3 => .int
  | 4 => .int
  | 5 => .array .int
  | 6 => .int
  | 7 => .array .int
  | 8 => .array .int
  | 9 => .int
  | 10 => .int
  | 11 => .int
  | _ => .boolean
abbrev wsX50 : List Cond := u_ws RX5 TX5 13
theorem nmX5 : ∀ a, a < 13 → ∀ b, b < 13 → a ≠ b → (TX5 a).2.1 ≠ (TX5 b).2.1 := by decide +kernel
theorem tyX5_ok : ∀ k, k < 13 → parseFieldDescriptor (TX5 k).2.2.1 = some (tyX5 k) := by decide +kernel
abbrev cX5_init : ByteArray := prog_7_method_1_code
def yX5_init : MethodName := ⟨RX5, "<init>", "()V"⟩
abbrev cX5_thrown : ByteArray := prog_7_method_2_code
def yX5_thrown : MethodName := ⟨RX5, "thrown", "()I"⟩
abbrev cX5_holds : ByteArray := prog_7_method_3_code
def yX5_holds : MethodName := ⟨RX5, "holds", "(I)Z"⟩
abbrev cX5_isText : ByteArray := prog_7_method_4_code
def yX5_isText : MethodName := ⟨RX5, "isText", "(I)Z"⟩
abbrev cX5_clear : ByteArray := prog_7_method_5_code
def yX5_clear : MethodName := ⟨RX5, "clear", "()V"⟩
abbrev cX5_open : ByteArray := prog_7_method_6_code
def yX5_open : MethodName := ⟨RX5, "open", "()I"⟩
abbrev cX5_isLetter : ByteArray := prog_7_method_7_code
def yX5_isLetter : MethodName := ⟨RX5, "isLetter", "(I)Z"⟩
abbrev cX5_append : ByteArray := prog_7_method_8_code
def yX5_append : MethodName := ⟨RX5, "append", "(II)I"⟩
abbrev cX5_texts : ByteArray := prog_7_method_9_code
def yX5_texts : MethodName := ⟨RX5, "texts", "()I"⟩
abbrev cX5_length : ByteArray := prog_7_method_10_code
def yX5_length : MethodName := ⟨RX5, "length", "(I)I"⟩
abbrev cX5_letterAt : ByteArray := prog_7_method_11_code
def yX5_letterAt : MethodName := ⟨RX5, "letterAt", "(II)I"⟩
abbrev cX5_type : ByteArray := prog_7_method_12_code
def yX5_type : MethodName := ⟨RX5, "type", "(I)I"⟩
abbrev cX5_erase : ByteArray := prog_7_method_13_code
def yX5_erase : MethodName := ⟨RX5, "erase", "()I"⟩
abbrev cX5_wipe : ByteArray := prog_7_method_14_code
def yX5_wipe : MethodName := ⟨RX5, "wipe", "()I"⟩
abbrev cX5_lays : ByteArray := prog_7_method_15_code
def yX5_lays : MethodName := ⟨RX5, "lays", "(II)V"⟩
abbrev cX5_copy : ByteArray := prog_7_method_16_code
def yX5_copy : MethodName := ⟨RX5, "copy", "(III)V"⟩
abbrev cX5_patternLength : ByteArray := prog_7_method_17_code
def yX5_patternLength : MethodName := ⟨RX5, "patternLength", "()I"⟩
abbrev cX5_patternAt : ByteArray := prog_7_method_18_code
def yX5_patternAt : MethodName := ⟨RX5, "patternAt", "(I)I"⟩
abbrev cX5_stands : ByteArray := prog_7_method_19_code
def yX5_stands : MethodName := ⟨RX5, "stands", "(III)Z"⟩
abbrev cX5_countIn : ByteArray := prog_7_method_20_code
def yX5_countIn : MethodName := ⟨RX5, "countIn", "(II)I"⟩
abbrev cX5_count : ByteArray := prog_7_method_21_code
def yX5_count : MethodName := ⟨RX5, "count", "(I)I"⟩
abbrev cX5_isPart : ByteArray := prog_7_method_22_code
def yX5_isPart : MethodName := ⟨RX5, "isPart", "()Z"⟩
abbrev cX5_occurrences : ByteArray := prog_7_method_23_code
def yX5_occurrences : MethodName := ⟨RX5, "occurrences", "()I"⟩
abbrev cX5_occurrencesIn : ByteArray := prog_7_method_24_code
def yX5_occurrencesIn : MethodName := ⟨RX5, "occurrencesIn", "(I)I"⟩
abbrev cX5_first : ByteArray := prog_7_method_25_code
def yX5_first : MethodName := ⟨RX5, "first", "(I)I"⟩
abbrev cX5_last : ByteArray := prog_7_method_26_code
def yX5_last : MethodName := ⟨RX5, "last", "(I)I"⟩
abbrev cX5_beside : ByteArray := prog_7_method_27_code
def yX5_beside : MethodName := ⟨RX5, "beside", "(I)I"⟩
abbrev cX5_followers : ByteArray := prog_7_method_28_code
def yX5_followers : MethodName := ⟨RX5, "followers", "()I"⟩
abbrev cX5_leaders : ByteArray := prog_7_method_29_code
def yX5_leaders : MethodName := ⟨RX5, "leaders", "()I"⟩
abbrev cX5_left : ByteArray := prog_7_method_30_code
def yX5_left : MethodName := ⟨RX5, "left", "(I)I"⟩
abbrev cX5_same : ByteArray := prog_7_method_31_code
def yX5_same : MethodName := ⟨RX5, "same", "(II)I"⟩
abbrev cX5_comes : ByteArray := prog_7_method_32_code
def yX5_comes : MethodName := ⟨RX5, "comes", "(II)Z"⟩
abbrev cX5_sorts : ByteArray := prog_7_method_33_code
def yX5_sorts : MethodName := ⟨RX5, "sorts", "()V"⟩
abbrev cX5_looks : ByteArray := prog_7_method_34_code
def yX5_looks : MethodName := ⟨RX5, "looks", "(II)V"⟩
abbrev cX5_classes : ByteArray := prog_7_method_35_code
def yX5_classes : MethodName := ⟨RX5, "classes", "()I"⟩
abbrev cX5_areLed : ByteArray := prog_7_method_36_code
def yX5_areLed : MethodName := ⟨RX5, "areLed", "(I)Z"⟩
abbrev cX5_longestAlike : ByteArray := prog_7_method_37_code
def yX5_longestAlike : MethodName := ⟨RX5, "longestAlike", "()I"⟩
abbrev cX5_shortestAlike : ByteArray := prog_7_method_38_code
def yX5_shortestAlike : MethodName := ⟨RX5, "shortestAlike", "()I"⟩
abbrev cX5_partsNow : ByteArray := prog_7_method_39_code
def yX5_partsNow : MethodName := ⟨RX5, "partsNow", "()I"⟩
abbrev cX5_parts : ByteArray := prog_7_method_40_code
def yX5_parts : MethodName := ⟨RX5, "parts", "()I"⟩
abbrev cX5_agreed : ByteArray := prog_7_method_41_code
def yX5_agreed : MethodName := ⟨RX5, "agreed", "(I)I"⟩
abbrev cX5_rank : ByteArray := prog_7_method_42_code
def yX5_rank : MethodName := ⟨RX5, "rank", "()I"⟩
abbrev cX5_toPart : ByteArray := prog_7_method_43_code
def yX5_toPart : MethodName := ⟨RX5, "toPart", "(I)I"⟩
abbrev cX5_finds : ByteArray := prog_7_method_44_code
def yX5_finds : MethodName := ⟨RX5, "finds", "(II)I"⟩
abbrev cX5_common : ByteArray := prog_7_method_45_code
def yX5_common : MethodName := ⟨RX5, "common", "(I)I"⟩
abbrev cX5_repeated : ByteArray := prog_7_method_46_code
def yX5_repeated : MethodName := ⟨RX5, "repeated", "(I)I"⟩
abbrev cX5_goesOn : ByteArray := prog_7_method_47_code
def yX5_goesOn : MethodName := ⟨RX5, "goesOn", "(I)Z"⟩
abbrev cX5_missing : ByteArray := prog_7_method_48_code
def yX5_missing : MethodName := ⟨RX5, "missing", "(I)I"⟩
def RJ9 : String := "java/lang/Math"
def TJ9 : u_T := fun k => match k with
  | _ => ("", "", "", false)
def tyJ9 : Nat → FieldType := fun k => match k with
  | _ => .int
abbrev wsJ90 : List Cond := u_ws RJ9 TJ9 0
theorem nmJ9 : ∀ a, a < 0 → ∀ b, b < 0 → a ≠ b → (TJ9 a).2.1 ≠ (TJ9 b).2.1 := by decide +kernel
theorem tyJ9_ok : ∀ k, k < 0 → parseFieldDescriptor (TJ9 k).2.2.1 = some (tyJ9 k) := by decide +kernel
abbrev cJ9_max_7cf53 : ByteArray := prog_12_method_65_code
def yJ9_max_7cf53 : MethodName := ⟨RJ9, "max", "(II)I"⟩
abbrev cJ9_min_7cf53 : ByteArray := prog_12_method_69_code
def yJ9_min_7cf53 : MethodName := ⟨RJ9, "min", "(II)I"⟩
def RJ0 : String := "java/lang/String"
def TJ0 : u_T := fun k => match k with
  | _ => ("", "", "", false)
def tyJ0 : Nat → FieldType := fun k => match k with
  | _ => .int
abbrev wsJ00 : List Cond := u_ws RJ0 TJ0 0
theorem nmJ0 : ∀ a, a < 0 → ∀ b, b < 0 → a ≠ b → (TJ0 a).2.1 ≠ (TJ0 b).2.1 := by decide +kernel
theorem tyJ0_ok : ∀ k, k < 0 → parseFieldDescriptor (TJ0 k).2.2.1 = some (tyJ0 k) := by decide +kernel
def RL : String := "SuffixWrightLaw"
abbrev cL_open : ByteArray := method_3_code
def yL_open : MethodName := ⟨RL, "open", "(LSuffixWright;[J)I"⟩
abbrev cL_append : ByteArray := method_4_code
def yL_append : MethodName := ⟨RL, "append", "(LSuffixWright;II[J)I"⟩
abbrev cL_length : ByteArray := method_5_code
def yL_length : MethodName := ⟨RL, "length", "(LSuffixWright;I[J)I"⟩
abbrev cL_letterAt : ByteArray := method_6_code
def yL_letterAt : MethodName := ⟨RL, "letterAt", "(LSuffixWright;II[J)I"⟩
abbrev cL_type : ByteArray := method_7_code
def yL_type : MethodName := ⟨RL, "type", "(LSuffixWright;I[J)I"⟩
abbrev cL_erase : ByteArray := method_8_code
def yL_erase : MethodName := ⟨RL, "erase", "(LSuffixWright;[J)I"⟩
abbrev cL_copy : ByteArray := method_9_code
def yL_copy : MethodName := ⟨RL, "copy", "(LSuffixWright;III)I"⟩
abbrev cL_patternAt : ByteArray := method_10_code
def yL_patternAt : MethodName := ⟨RL, "patternAt", "(LSuffixWright;I[J)I"⟩
abbrev cL_occurrencesIn : ByteArray := method_11_code
def yL_occurrencesIn : MethodName := ⟨RL, "occurrencesIn", "(LSuffixWright;I[J)I"⟩
abbrev cL_first : ByteArray := method_12_code
def yL_first : MethodName := ⟨RL, "first", "(LSuffixWright;I[J)I"⟩
abbrev cL_last : ByteArray := method_13_code
def yL_last : MethodName := ⟨RL, "last", "(LSuffixWright;I[J)I"⟩
abbrev cL_toPart : ByteArray := method_14_code
def yL_toPart : MethodName := ⟨RL, "toPart", "(LSuffixWright;I[J)I"⟩
abbrev cL_common : ByteArray := method_15_code
def yL_common : MethodName := ⟨RL, "common", "(LSuffixWright;I[J)I"⟩
abbrev cL_repeated : ByteArray := method_16_code
def yL_repeated : MethodName := ⟨RL, "repeated", "(LSuffixWright;I[J)I"⟩
abbrev cL_missing : ByteArray := method_17_code
def yL_missing : MethodName := ⟨RL, "missing", "(LSuffixWright;I[J)I"⟩
abbrev cL_law : ByteArray := code
def yL_law : MethodName := ⟨RL, "law", "([I)Z"⟩
end
section
/-! MM: a small machine over mathematical ints; values: int, long, null or cell -/
abbrev mm_V : Type := Int ⊕ (Int ⊕ Option Nat)
abbrev mm_I (z : Int) : mm_V := .inl z
abbrev mm_L (z : Int) : mm_V := .inr (.inl z)
abbrev mm_P (r : Nat) : mm_V := .inr (.inr (some r))
abbrev mm_N : mm_V := .inr (.inr none)
/-- cells (kind, values), cells made, slots made, the script -/
abbrev mm_H : Type := List (Nat × List mm_V) × (Nat × (Nat × List Int))
abbrev mm_rng (z : Int) : Prop := -2147483648 ≤ z ∧ z ≤ 2147483647
abbrev mm_F : Type := List (Option mm_V)
abbrev mm_Q : Type := Option (mm_F × (List mm_V × (mm_H × Option Nat)))
def mm_and (x y : Int) : Int := (Int32.ofInt x &&& Int32.ofInt y).toInt
def mm_or (x y : Int) : Int := (Int32.ofInt x ||| Int32.ofInt y).toInt
/-- the fields of a class: 0 int, 1 boolean, 2 a reference; all but the last kind are written at any time, references in constructors alone -/
def mm_fk (ci : Nat) : List Nat := match ci with
  | 0 => [2, 2, 2, 2, 2, 2, 0]
  | 1 => [2, 2, 2]
  | 2 => [2, 2, 0]
  | 3 => [2, 0]
  | 4 => [2, 2, 2, 2, 0, 0]
  | 5 => [0, 2, 2, 0, 0, 2, 0, 2, 2, 0, 0, 0, 1]
  | _ => []
def mm_df (k : Nat) : mm_V := if k = 2 then mm_N else mm_I 0
def mm_o_load (a : Nat) (ls : mm_F) (st : List mm_V) (h : mm_H) : mm_Q := match ls[a]? with
  | some (some (.inl z)) => some (ls, (mm_I z :: st, (h, none)))
  | _ => none
def mm_o_aload (a : Nat) (ls : mm_F) (st : List mm_V) (h : mm_H) : mm_Q := match ls[a]? with
  | some (some (.inr (.inr r))) => some (ls, (.inr (.inr r) :: st, (h, none)))
  | _ => none
def mm_o_store (a : Nat) (ls : mm_F) (st : List mm_V) (h : mm_H) : mm_Q := match st with
  | .inl z :: st => if a < ls.length then some (ls.set a (some (mm_I z)), (st, (h, none))) else none
  | _ => none
def mm_o_astore (a : Nat) (ls : mm_F) (st : List mm_V) (h : mm_H) : mm_Q := match st with
  | .inr (.inr r) :: st => if a < ls.length then some (ls.set a (some (.inr (.inr r))), (st, (h, none))) else none
  | _ => none
/-- two ints to one: 'g x y = some z' -/
def mm_o_bin (g : Int → Int → Option Int) (ls : mm_F) (st : List mm_V) (h : mm_H) : mm_Q := match st with
  | .inl y :: .inl x :: st => match g x y with
    | some z => if mm_rng z then some (ls, (mm_I z :: st, (h, none))) else none
    | none => none
  | _ => none
def mm_o_if (g : Int → Bool) (a : Nat) (ls : mm_F) (st : List mm_V) (h : mm_H) : mm_Q := match st with
  | .inl x :: st => some (ls, (st, (h, if g x then some a else none)))
  | _ => none
def mm_o_icmp (g : Int → Int → Bool) (a : Nat) (ls : mm_F) (st : List mm_V) (h : mm_H) : mm_Q := match st with
  | .inl y :: .inl x :: st => some (ls, (st, (h, if g x y then some a else none)))
  | _ => none
def mm_o_iinc (a : Nat) (b : Int) (ls : mm_F) (st : List mm_V) (h : mm_H) : mm_Q := match ls[a]? with
  | some (some (.inl z)) => if mm_rng (z + b) then some (ls.set a (some (mm_I (z + b))), (st, (h, none))) else none
  | _ => none
def mm_o_null (g : Bool) (a : Nat) (ls : mm_F) (st : List mm_V) (h : mm_H) : mm_Q := match st with
  | .inr (.inr r) :: st => some (ls, (st, (h, if r.isNone = g then some a else none)))
  | _ => none
def mm_o_get (ci k : Nat) (ls : mm_F) (st : List mm_V) (h : mm_H) : mm_Q := match st with
  | .inr (.inr (some r)) :: st => match h.1[r]? with
    | some (kd, l) => if kd = 10 + ci then match l[k]? with
      | some v => some (ls, (v :: st, (h, none)))
      | none => none
      else none
    | none => none
  | _ => none
def mm_o_put (ci k : Nat) (ls : mm_F) (st : List mm_V) (h : mm_H) : mm_Q := match st with
  | .inl z :: .inr (.inr (some r)) :: st => match h.1[r]? with
    | some (kd, l) => if kd = 10 + ci ∧ k < l.length ∧ ((mm_fk ci)[k]? = some 0 ∨ ((mm_fk ci)[k]? = some 1 ∧ (z = 0 ∨ z = 1))) then some (ls, (st, ((h.1.set r (kd, l.set k (mm_I z)), h.2), none))) else none
    | none => none
  | _ => none
def mm_o_putF (ci k : Nat) (ls : mm_F) (st : List mm_V) (h : mm_H) : mm_Q := match st with
  | .inr (.inr (some v)) :: .inr (.inr (some r)) :: st => match h.1[r]? with
    | some (kd, l) => if kd = 10 + ci ∧ k < l.length ∧ (mm_fk ci)[k]? = some 2 then some (ls, (st, ((h.1.set r (kd, l.set k (mm_P v)), h.2), none))) else none
    | none => none
  | _ => none
def mm_o_iald (ls : mm_F) (st : List mm_V) (h : mm_H) : mm_Q := match st with
  | .inl i :: .inr (.inr (some r)) :: st => if i < 0 then none else if r = 999 then match h.2.2.2[i.toNat]? with
      | some z => some (ls, (mm_I z :: st, (h, none)))
      | none => none
    else match h.1[r]? with
    | some (0, l) => match l[i.toNat]? with
      | some (.inl z) => some (ls, (mm_I z :: st, (h, none)))
      | _ => none
    | _ => none
  | _ => none
def mm_o_iast (ls : mm_F) (st : List mm_V) (h : mm_H) : mm_Q := match st with
  | .inl z :: .inl i :: .inr (.inr (some r)) :: st => if i < 0 then none else match h.1[r]? with
    | some (0, l) => if i.toNat < l.length then some (ls, (st, ((h.1.set r (0, l.set i.toNat (mm_I z)), h.2), none))) else none
    | _ => none
  | _ => none
def mm_o_lald (ls : mm_F) (st : List mm_V) (h : mm_H) : mm_Q := match st with
  | .inl i :: .inr (.inr (some r)) :: st => if i < 0 then none else match h.1[r]? with
    | some (1, l) => match l[i.toNat]? with
      | some (.inr (.inl z)) => some (ls, (mm_L z :: st, (h, none)))
      | _ => none
    | _ => none
  | _ => none
def mm_o_last (ls : mm_F) (st : List mm_V) (h : mm_H) : mm_Q := match st with
  | .inr (.inl z) :: .inl i :: .inr (.inr (some r)) :: st => if i < 0 then none else match h.1[r]? with
    | some (1, l) => if i.toNat < l.length then some (ls, (st, ((h.1.set r (1, l.set i.toNat (mm_L z)), h.2), none))) else none
    | _ => none
  | _ => none
def mm_o_aald (ls : mm_F) (st : List mm_V) (h : mm_H) : mm_Q := match st with
  | .inl i :: .inr (.inr (some r)) :: st => if i < 0 then none else match h.1[r]? with
    | some (2, l) => match l[i.toNat]? with
      | some (.inr (.inr q)) => some (ls, (.inr (.inr q) :: st, (h, none)))
      | _ => none
    | _ => none
  | _ => none
/-- into an array of Words: a Word -/
def mm_o_aast (ls : mm_F) (st : List mm_V) (h : mm_H) : mm_Q := match st with
  | .inr (.inr (some v)) :: .inl i :: .inr (.inr (some r)) :: st => if i < 0 then none else match h.1[r]? with
    | some (2, l) => if i.toNat < l.length ∧ (h.1[v]?).map (·.1) = some 13 then some (ls, (st, ((h.1.set r (2, l.set i.toNat (mm_P v)), h.2), none))) else none
    | _ => none
  | _ => none
def mm_o_alen (ls : mm_F) (st : List mm_V) (h : mm_H) : mm_Q := match st with
  | .inr (.inr (some r)) :: st => if r = 999 then some (ls, (mm_I h.2.2.2.length :: st, (h, none))) else match h.1[r]? with
    | some (kd, l) => if kd < 3 ∧ l.length < 1000000 then some (ls, (mm_I l.length :: st, (h, none))) else none
    | none => none
  | _ => none
/-- a new cell, of the kind kd, holding l; none once something was thrown -/
def mm_push (kd : Nat) (l : List mm_V) (ls : mm_F) (st : List mm_V) (h : mm_H) : mm_Q :=
  if h.1.length = h.2.1 ∧ h.1.length < 900 then some (ls, (mm_P h.1.length :: st, ((h.1 ++ [(kd, l)], (h.2.1 + 1, (h.2.2.1 + l.length, h.2.2.2))), none))) else none
def mm_o_newa (kd : Nat) (v : mm_V) (ls : mm_F) (st : List mm_V) (h : mm_H) : mm_Q := match st with
  | .inl n :: st => if 0 ≤ n ∧ n < 100000 then mm_push kd (List.replicate n.toNat v) ls st h else none
  | _ => none
def mm_cmp (x y : Int) : Int := if y < x then 1 else if x = y then 0 else -1
def mm_o_max (g : Int → Int → Int) (ls : mm_F) (st : List mm_V) (h : mm_H) : mm_Q := match st with
  | .inl y :: .inl x :: st => if st.length ≤ 4 then some (ls, (mm_I (g x y) :: st, (h, none))) else none
  | _ => none
/-- the rows' own instructions but calls, returns and throws; 'some j' at the end: a jump -/
def mm_op (fld : Nat → Nat × Nat) (op a : Nat) (b : Int) (ls : mm_F) (st : List mm_V) (h : mm_H) : mm_Q := match op with
  | 0 | 1 | 2 => if mm_rng b then some (ls, (mm_I b :: st, (h, none))) else none
  | 3 | 4 => mm_o_load a ls st h
  | 5 | 6 => mm_o_aload a ls st h
  | 7 | 8 => mm_o_store a ls st h
  | 9 | 10 => mm_o_astore a ls st h
  | 11 => mm_o_bin (fun x y => some (x + y)) ls st h
  | 12 => mm_o_bin (fun x y => some (x - y)) ls st h
  | 13 => mm_o_bin (fun x y => some (x * y)) ls st h
  | 14 => mm_o_bin (fun x y => if 0 ≤ x ∧ 0 < y then some (x / y) else none) ls st h
  | 15 => mm_o_bin (fun x y => if 0 ≤ x ∧ 0 < y then some (x % y) else none) ls st h
  | 16 => mm_o_bin (fun x y => if 0 ≤ x ∧ 0 ≤ y ∧ y < 31 then some (x * 2 ^ y.toNat) else none) ls st h
  | 17 => mm_o_bin (fun x y => if 0 ≤ x ∧ 0 ≤ y ∧ y < 31 then some (x / 2 ^ y.toNat) else none) ls st h
  | 18 => mm_o_bin (fun x y => some (mm_and x y)) ls st h
  | 19 => mm_o_bin (fun x y => some (mm_or x y)) ls st h
  | 20 => mm_o_iinc a b ls st h
  | 21 => match st with
    | .inl z :: st => some (ls, (mm_I z :: mm_I z :: st, (h, none)))
    | .inr (.inr r) :: st => some (ls, (.inr (.inr r) :: .inr (.inr r) :: st, (h, none)))
    | _ => none
  | 22 => match st with
    | .inl z :: .inr (.inr r) :: st => some (ls, (mm_I z :: .inr (.inr r) :: mm_I z :: .inr (.inr r) :: st, (h, none)))
    | _ => none
  | 23 => match st with
    | .inl _ :: st => some (ls, (st, (h, none)))
    | _ => none
  | 24 => some (ls, (st, (h, some a)))
  | 25 => mm_o_if (fun x => decide (x = 0)) a ls st h
  | 26 => mm_o_if (fun x => decide (¬ x = 0)) a ls st h
  | 27 => mm_o_if (fun x => decide (x < 0)) a ls st h
  | 28 => mm_o_if (fun x => decide (0 ≤ x)) a ls st h
  | 29 => mm_o_if (fun x => decide (0 < x)) a ls st h
  | 30 => mm_o_if (fun x => decide (x ≤ 0)) a ls st h
  | 31 => mm_o_icmp (fun x y => decide (x = y)) a ls st h
  | 32 => mm_o_icmp (fun x y => decide (¬ x = y)) a ls st h
  | 33 => mm_o_icmp (fun x y => decide (x < y)) a ls st h
  | 34 => mm_o_icmp (fun x y => decide (y ≤ x)) a ls st h
  | 35 => mm_o_icmp (fun x y => decide (y < x)) a ls st h
  | 36 => mm_o_icmp (fun x y => decide (x ≤ y)) a ls st h
  | 37 => mm_o_null true a ls st h
  | 38 => mm_o_null false a ls st h
  | 39 => some (ls, (mm_N :: st, (h, none)))
  | 40 => mm_o_get (fld a).1 (fld a).2 ls st h
  | 41 => mm_o_put (fld a).1 (fld a).2 ls st h
  | 42 => mm_o_putF (fld a).1 (fld a).2 ls st h
  | 43 => mm_o_iald ls st h
  | 44 => mm_o_iast ls st h
  | 45 => mm_o_lald ls st h
  | 46 => mm_o_last ls st h
  | 47 => mm_o_aald ls st h
  | 48 => mm_o_aast ls st h
  | 49 => mm_o_alen ls st h
  | 50 => mm_push (10 + b.toNat) ((mm_fk b.toNat).map mm_df) ls st h
  | 51 => mm_o_newa 0 (mm_I 0) ls st h
  | 52 => mm_o_newa 1 (mm_L 0) ls st h
  | 53 => mm_o_newa 2 mm_N ls st h
  | 54 => match st with
    | .inl z :: st => some (ls, (mm_L z :: st, (h, none)))
    | _ => none
  | 55 => match st with
    | .inr (.inl y) :: .inr (.inl x) :: st => some (ls, (mm_I (mm_cmp x y) :: st, (h, none)))
    | _ => none
  | 57 => match st with
    | .inr (.inr (some _)) :: st => if st.length ≤ 4 then some (ls, (st, (h, none))) else none
    | _ => none
  | 58 => mm_o_max (fun x y => if x < y then y else x) ls st h
  | 59 => mm_o_max (fun x y => if y < x then y else x) ls st h
  | _ => none
abbrev mm_E : Type := Nat × (Nat × (Nat × Int))
abbrev mm_O : Type := Option mm_V ⊕ Nat
/-- a call: callee, how many arguments (the receiver with them), its locals, the receiver's kind (0: a static method) -/
abbrev mm_S : Type := Nat × (Nat × (Nat × Nat))
def mm_no2 (v : mm_V) : Bool := match v with
  | .inr (.inl _) => false
  | _ => true
def mm_rcv (kd : Nat) (args : List mm_V) (h : mm_H) : Bool := if kd = 0 then true else match args with
  | .inr (.inr (some r)) :: _ => decide ((h.1[r]?).map (·.1) = some kd)
  | _ => false
/-- code: the rows of a method; fld, site: what rows name; hand y E: what a method's handler of E answers, none where it has no handler; noH: a method without a table; sw: where a switch goes -/
def mm_run (code : Nat → Nat → Option mm_E) (fld : Nat → Nat × Nat) (site : Nat → mm_S) (hand : Nat → Nat → Option Int) (noH : Nat → Bool) (sw : Int → Nat) : Nat → Nat → Nat → mm_F → List mm_V → mm_H → Option (mm_O × mm_H)
  | 0, _, _, _, _, _ => none
  | n + 1, y, i, ls, st, h => match code y i with
    | none => none
    | some (_, (op, (a, b))) =>
      if op < 60 then
        if op = 56 then match st with
          | .inl x :: st => mm_run code fld site hand noH sw n y (sw x) ls st h
          | _ => none
        else match mm_op fld op a b ls st h with
        | none => none
        | some (ls', (st', (h', j))) => mm_run code fld site hand noH sw n y (j.getD (i + 1)) ls' st' h'
      else if op = 100 then match st with
        | [.inl z] => some (.inl (some (mm_I z)), h)
        | _ => none
      else if op = 101 then match st with
        | [.inl z] => if z = 0 ∨ z = 1 then some (.inl (some (mm_I z)), h) else none
        | _ => none
      else if op = 102 then match st with
        | [.inr (.inr (some r))] => some (.inl (some (mm_P r)), h)
        | _ => none
      else if op = 103 then match st with
        | [] => some (.inl none, h)
        | _ => none
      else if op = 104 then match st with
        | [] => some (.inr b.toNat, (h.1, (h.2.1 + 1, (h.2.2.1 + 6, h.2.2.2))))
        | _ => none
      else if op < 109 then
        let s := site a
        let args := (st.take s.2.1).reverse
        let rest := st.drop s.2.1
        if s.2.1 ≤ st.length ∧ rest.length ≤ 4 ∧ args.all mm_no2 = true ∧ s.2.1 ≤ s.2.2.1 ∧ mm_rcv s.2.2.2 args h = true then
          match mm_run code fld site hand noH sw n s.1 0 (args.map some ++ List.replicate (s.2.2.1 - s.2.1) none) [] h with
          | none => none
          | some (.inl v, h') => mm_run code fld site hand noH sw n y (i + 1) ls (v.toList ++ rest) h'
          | some (.inr E, h') => if op = 107 ∨ op = 108 then none else match hand y E with
            | some z => some (.inl (some (mm_I z)), h')
            | none => if noH y then some (.inr E, h') else none
        else none
      else none
end
section
/-! numbers: an int of the machine is Int32.ofInt of a mathematical one in range -/
theorem mm_ti {z : Int} (h : mm_rng z) : (Int32.ofInt z).toInt = z := Int32.toInt_ofInt_of_le (by have := h.1; omega) (by have := h.2; omega)
theorem mm_rT (x : Int32) : mm_rng x.toInt := ⟨by have := x.le_toInt; omega, by have := x.toInt_lt; omega⟩
theorem mm_eqI {x y : Int} (hx : mm_rng x) (hy : mm_rng y) : Int32.ofInt x = Int32.ofInt y ↔ x = y := by
  rw [← Int32.toInt_inj, mm_ti hx, mm_ti hy]
theorem mm_ltI {x y : Int} (hx : mm_rng x) (hy : mm_rng y) : Int32.ofInt x < Int32.ofInt y ↔ x < y := by
  rw [Int32.lt_iff_toInt_lt, mm_ti hx, mm_ti hy]
theorem mm_leI {x y : Int} (hx : mm_rng x) (hy : mm_rng y) : Int32.ofInt x ≤ Int32.ofInt y ↔ x ≤ y := by
  rw [Int32.le_iff_toInt_le, mm_ti hx, mm_ti hy]
theorem mm_rng0 : mm_rng 0 := by decide
theorem mm_lt0 {x : Int} (hx : mm_rng x) : Int32.ofInt x < 0 ↔ x < 0 := by have h := mm_ltI hx mm_rng0; simpa using h
theorem mm_eq0 {x : Int} (hx : mm_rng x) : Int32.ofInt x = 0 ↔ x = 0 := by have h := mm_eqI hx mm_rng0; simpa using h
theorem mm_le0 {x : Int} (hx : mm_rng x) : Int32.ofInt x ≤ 0 ↔ x ≤ 0 := by have h := mm_leI hx mm_rng0; simpa using h
theorem mm_0le {x : Int} (hx : mm_rng x) : 0 ≤ Int32.ofInt x ↔ 0 ≤ x := by have h := mm_leI mm_rng0 hx; simpa using h
theorem mm_0lt {x : Int} (hx : mm_rng x) : 0 < Int32.ofInt x ↔ 0 < x := by have h := mm_ltI mm_rng0 hx; simpa using h
theorem mm_nI (n : Nat) : Int32.ofInt (n : Int) = nI n := Int32.ofInt_eq_ofNat
theorem mm_clamp {i : Int} (h : mm_rng i) : (Int32.ofInt i).toNatClampNeg = i.toNat := Int32.toNatClampNeg_ofInt_of_le (by have := h.1; omega) (by have := h.2; omega)
theorem mm_vin {i : Int} {n : Nat} (h : mm_rng i) (h0 : 0 ≤ i) (hn : i.toNat < n) : vp_in (Int32.ofInt i) n := by
  unfold vp_in
  rw [mm_lt0 h, mm_clamp h]
  omega
theorem mm_div {x y : Int} (hx : mm_rng x) (hy : mm_rng y) (h0 : 0 ≤ x) (h1 : 0 < y) : Int32.ofInt x / Int32.ofInt y = Int32.ofInt (x / y) := by
  obtain ⟨a, rfl⟩ := Int.eq_ofNat_of_zero_le h0
  obtain ⟨d, rfl⟩ := Int.eq_ofNat_of_zero_le (Int.le_of_lt h1)
  have hx2 := hx.2
  have hy2 := hy.2
  rw [mm_nI, mm_nI, pk_div (by omega) (by omega) (by omega), show ((a : Int) / (d : Int)) = ((a / d : Nat) : Int) from rfl, mm_nI]
theorem mm_rem {x y : Int} (hx : mm_rng x) (hy : mm_rng y) (h0 : 0 ≤ x) (h1 : 0 < y) : Int32.ofInt x - Int32.ofInt x / Int32.ofInt y * Int32.ofInt y = Int32.ofInt (x % y) := by
  obtain ⟨a, rfl⟩ := Int.eq_ofNat_of_zero_le h0
  obtain ⟨d, rfl⟩ := Int.eq_ofNat_of_zero_le (Int.le_of_lt h1)
  have hx2 := hx.2
  have hy2 := hy.2
  rw [mm_nI, mm_nI, pk_rem (by omega) (by omega) (by omega), show ((a : Int) % (d : Int)) = ((a % d : Nat) : Int) from rfl, mm_nI]
theorem mm_sk : ∀ k : Nat, k < 31 → ((nI k &&& 31).toBitVec.smod 32).toNat = k := by decide +kernel
theorem mm_shl {x y : Int} (hx : mm_rng x) (h0 : 0 ≤ x) (h1 : 0 ≤ y) (h2 : y < 31) (hr : mm_rng (x * 2 ^ y.toNat)) : Int32.ofInt x <<< (Int32.ofInt y &&& 31) = Int32.ofInt (x * 2 ^ y.toNat) := by
  obtain ⟨a, rfl⟩ := Int.eq_ofNat_of_zero_le h0
  obtain ⟨d, rfl⟩ := Int.eq_ofNat_of_zero_le h1
  have e : ((a : Int) * 2 ^ (d : Int).toNat) = ((a * 2 ^ d : Nat) : Int) := by simp
  rw [e] at hr ⊢
  have hr2 := hr.2
  rw [mm_nI, mm_nI, mm_nI, pk_shlN _ d (mm_sk d (by omega)) (by omega)]
theorem mm_shr {x y : Int} (hx : mm_rng x) (h0 : 0 ≤ x) (h1 : 0 ≤ y) (h2 : y < 31) : Int32.ofInt x >>> (Int32.ofInt y &&& 31) = Int32.ofInt (x / 2 ^ y.toNat) := by
  obtain ⟨a, rfl⟩ := Int.eq_ofNat_of_zero_le h0
  obtain ⟨d, rfl⟩ := Int.eq_ofNat_of_zero_le h1
  have hx2 := hx.2
  have e : ((a : Int) / 2 ^ (d : Int).toNat) = ((a / 2 ^ d : Nat) : Int) := by simp
  rw [e, mm_nI, mm_nI, mm_nI, pk_shrN (by omega) _ d (mm_sk d (by omega))]
theorem mm_i64 {x : Int} (h : mm_rng x) : (Int32.ofInt x).toInt64 = Int64.ofInt x := Int32.toInt64_ofInt (by rw [Int32.toInt_minValue]; have := h.1; omega) (by rw [Int32.toInt_maxValue]; have := h.2; omega)
theorem mm_tL {z : Int} (h : mm_rng z) : (Int64.ofInt z).toInt = z := Int64.toInt_ofInt_of_le (by have := h.1; omega) (by have := h.2; omega)
theorem mm_cmpL {x y : Int} (hx : mm_rng x) (hy : mm_rng y) : lg_cmp (Int64.ofInt x) (Int64.ofInt y) = Int32.ofInt (mm_cmp x y) := by
  have e1 : Int64.ofInt y < Int64.ofInt x ↔ y < x := by rw [Int64.lt_iff_toInt_lt, mm_tL hx, mm_tL hy]
  have e2 : Int64.ofInt x = Int64.ofInt y ↔ x = y := by rw [← Int64.toInt_inj, mm_tL hx, mm_tL hy]
  unfold lg_cmp mm_cmp
  by_cases c1 : y < x
  · rw [if_pos (e1.mpr c1), if_pos c1]; rfl
  · rw [if_neg (fun h => c1 (e1.mp h)), if_neg c1]
    by_cases c2 : x = y
    · rw [if_pos (e2.mpr c2), if_pos c2]; rfl
    · rw [if_neg (fun h => c2 (e2.mp h)), if_neg c2]; rfl
/-! what a state of MM says of the machine's -/
def mm_ad (b b0 : Nat) (r : Nat) : Nat := if r = 999 then b else b0 + r
def mm_up (b b0 : Nat) : mm_V → Value
  | .inl z => .int (Int32.ofInt z)
  | .inr (.inl z) => .long (Int64.ofInt z)
  | .inr (.inr none) => .null
  | .inr (.inr (some r)) => .ref (mm_ad b b0 r)
def mm_ok : mm_V → Prop
  | .inl z => mm_rng z
  | .inr (.inl z) => mm_rng z
  | _ => True
def mm_gI (o : Option mm_V) : Int32 := match o with
  | some (.inl z) => Int32.ofInt z
  | _ => 0
def mm_gL (o : Option mm_V) : Int64 := match o with
  | some (.inr (.inl z)) => Int64.ofInt z
  | _ => 0
def mm_gR (b b0 : Nat) (o : Option mm_V) : Option Nat := match o with
  | some (.inr (.inr (some r))) => some (mm_ad b b0 r)
  | _ => none
/-- constants of a run: the script's cell, the first new cell, the classes of int[], long[], Word[] -/
abbrev mm_G : Type := Nat × (Nat × (ClassId × (ClassId × ClassId)))
def mm_ent (g : mm_G) (c : Nat × List mm_V) : va_E := match c.1 with
  | 0 => .inl (g.2.2.1, (c.2.length, .inl (fun j => mm_gI c.2[j]?)))
  | 1 => .inl (g.2.2.2.1, (c.2.length, .inr (.inl (fun j => mm_gL c.2[j]?))))
  | 2 => .inl (g.2.2.2.2, (c.2.length, .inr (.inr (.inr (.inr (fun j => mm_gR g.1 g.2.1 c.2[j]?))))))
  | k => .inr (k - 10, c.2.map (mm_up g.1 g.2.1))
def mm_ws (g : mm_G) (cs : List (Nat × List mm_V)) : va_W := cs.mapIdx fun i c => (g.2.1 + i, mm_ent g c)
abbrev vwCl : List vw_C := [(RX0, TX0, 7), (RX1, TX1, 3), (RX2, TX2, 3), (RX3, TX3, 2), (RX4, TX4, 6), (RX5, TX5, 13)]
def mm_tys (g : mm_G) : List (ClassId × FieldType) := [(g.2.2.1, .int), (g.2.2.2.1, .long), (g.2.2.2.2, .object RX3)]
abbrev mm_A (g : mm_G) : Nat → Prop := fun q => g.2.1 ≤ q
def mm_Rl (g : mm_G) (D : va_G) (h : mm_H) (H : Heap) : Prop := va_P D vwCl (mm_ws g h.1) H ∧ h.1.length ≤ 900 ∧ (∀ c ∈ h.1, ∀ v ∈ c.2, mm_ok v) ∧ (∀ z ∈ h.2.2.2, mm_rng z)
theorem mm_ws_len (g : mm_G) (cs : List (Nat × List mm_V)) : (mm_ws g cs).length = cs.length := List.length_mapIdx
theorem mm_ws_at (g : mm_G) {cs : List (Nat × List mm_V)} {r : Nat} {c : Nat × List mm_V} (h : cs[r]? = some c) : (mm_ws g cs)[r]? = some (g.2.1 + r, mm_ent g c) := by
  unfold mm_ws
  rw [List.getElem?_mapIdx, h]
  rfl
theorem mm_ws_set (g : mm_G) (cs : List (Nat × List mm_V)) (r : Nat) (c : Nat × List mm_V) : (mm_ws g cs).set r (g.2.1 + r, mm_ent g c) = mm_ws g (cs.set r c) := by
  apply List.ext_getElem?
  intro i
  unfold mm_ws
  rw [List.getElem?_set, List.getElem?_mapIdx, List.getElem?_mapIdx, List.getElem?_set, List.length_mapIdx]
  by_cases h : r = i
  · subst h
    by_cases h2 : r < cs.length
    · simp [h2]
    · simp [h2]
  · simp [h]
theorem mm_ws_push (g : mm_G) (cs : List (Nat × List mm_V)) (c : Nat × List mm_V) : mm_ws g cs ++ [(g.2.1 + cs.length, mm_ent g c)] = mm_ws g (cs ++ [c]) := by
  unfold mm_ws
  rw [List.mapIdx_append]
  simp
theorem mm_ws_D (g : mm_G) (cs : List (Nat × List mm_V)) : va_D (mm_A g) (mm_ws g cs) := by
  have key : ∀ (k : Nat) (q : Nat × va_E), (mm_ws g cs)[k]? = some q → q.1 = g.2.1 + k := by
    intro k q hk
    unfold mm_ws at hk
    rw [List.getElem?_mapIdx] at hk
    cases hc : cs[k]? with
    | none => rw [hc] at hk; cases hk
    | some c => rw [hc] at hk; cases hk; rfl
  refine ⟨fun i j p q hi hj hpq => ?_, fun k q hk => ?_⟩
  · have h1 := key i p hi
    have h2 := key j q hj
    omega
  · have h1 := key k q hk
    show g.2.1 ≤ q.1
    omega
/-- the locals -/
def mm_LR (g : mm_G) (nL : Nat) (ls : mm_F) (rls : Array Slot) : Prop := ls.length = nL ∧ rls.size = nL ∧ lv_wf rls ∧ ∀ (i : Nat) (v : mm_V), ls[i]? = some (some v) → rls[i]? = some (.val (mm_up g.1 g.2.1 v)) ∧ mm_no2 v = true ∧ mm_ok v
def mm_lv (g : mm_G) (ls : mm_F) : List (Nat × Value) := (List.range ls.length).filterMap fun i => match ls[i]? with
  | some (some v) => some (i, mm_up g.1 g.2.1 v)
  | _ => none
theorem mm_lv_in {g : mm_G} {ls : mm_F} {q : Nat × Value} : q ∈ mm_lv g ls ↔ ∃ v : mm_V, ls[q.1]? = some (some v) ∧ q.2 = mm_up g.1 g.2.1 v := by
  unfold mm_lv
  rw [List.mem_filterMap]
  constructor
  · rintro ⟨i, -, h⟩
    split at h
    · rename_i v hv
      cases h
      exact ⟨v, hv, rfl⟩
    · cases h
  · rintro ⟨v, hv, e⟩
    refine ⟨q.1, List.mem_range.mpr (List.getElem?_eq_some_iff.mp hv).1, ?_⟩
    rw [hv]
    obtain ⟨q1, q2⟩ := q
    dsimp only at e ⊢
    rw [e]
theorem mm_LR.has {g : mm_G} {nL : Nat} {ls : mm_F} {rls : Array Slot} (h : mm_LR g nL ls rls) : lv_has rls nL (mm_lv g ls) := by
  refine ⟨h.2.1, h.2.2.1, fun q hq => ?_⟩
  obtain ⟨v, hv, e⟩ := mm_lv_in.mp hq
  rw [e]
  exact (h.2.2.2 q.1 v hv).1
theorem mm_cat {b b0 : Nat} {v : mm_V} (h : mm_no2 v = true) : (mm_up b b0 v).category = 1 := by
  match v, h with
  | .inl z, _ => rfl
  | .inr (.inl z), h => cases h
  | .inr (.inr none), _ => rfl
  | .inr (.inr (some r)), _ => rfl
theorem mm_LR.set {g : mm_G} {nL : Nat} {ls : mm_F} {rls rls' : Array Slot} (h : mm_LR g nL ls rls) {i : Nat} {v : mm_V} (hv : mm_no2 v = true) (hk : mm_ok v)
    (h' : lv_has rls' nL ((i, mm_up g.1 g.2.1 v) :: (mm_lv g ls).filter (fun q => !(q.1 == i) && !(q.1 + 1 == i && q.2.category == 2)))) : mm_LR g nL (ls.set i (some v)) rls' := by
  obtain ⟨h1, h2, h3, h4⟩ := h
  refine ⟨by rw [List.length_set]; exact h1, h'.1, h'.2.1, fun j w hj => ?_⟩
  rw [List.getElem?_set] at hj
  by_cases e : i = j
  · subst e
    by_cases hl : i < ls.length
    · rw [if_pos rfl, if_pos hl] at hj
      cases hj
      exact ⟨h'.2.2 (i, _) List.mem_cons_self, hv, hk⟩
    · rw [if_pos rfl, if_neg hl] at hj
      cases hj
  · rw [if_neg e] at hj
    obtain ⟨a1, a2, a3⟩ := h4 j w hj
    refine ⟨?_, a2, a3⟩
    refine h'.2.2 (j, mm_up g.1 g.2.1 w) (List.mem_cons_of_mem _ (List.mem_filter.mpr ⟨mm_lv_in.mpr ⟨w, hj, rfl⟩, ?_⟩))
    have hc : (mm_up g.1 g.2.1 w).category = 1 := mm_cat a2
    simp [hc, Ne.symm e]
end
section
/-! printed by wip/whole/gen.py: the rows of every method (pc, operation, what it names, its number), and what they name -/
def mm_cn (k : Nat) : String := match k with
  | 0 => RX0
  | 1 => RX1
  | 2 => RX2
  | 3 => RX3
  | 4 => RX4
  | 5 => RX5
  | _ => RL
def mm_en (k : Nat) : String := match k with
  | 0 => "java/lang/IndexOutOfBoundsException"
  | 1 => "java/lang/IllegalArgumentException"
  | _ => "java/lang/IllegalStateException"
def mm_c_X0_init : List mm_E := [(0, 5, 0, 0), (1, 57, 3, 0), (4, 5, 0, 0), (5, 50, 9, 1), (8, 21, 0, 0), (9, 108, 0, 0), (12, 42, 0, 0), (15, 5, 0, 0), (16, 2, 0, 5226), (19, 51, 0, 0), (21, 42, 1, 0), (24, 5, 0, 0), (25, 2, 0, 201), (28, 51, 0, 0), (30, 42, 2, 0), (33, 5, 0, 0), (34, 2, 0, 201), (37, 51, 0, 0), (39, 42, 3, 0), (42, 5, 0, 0), (43, 2, 0, 201), (46, 51, 0, 0), (48, 42, 4, 0), (51, 5, 0, 0), (52, 0, 0, 4), (53, 51, 0, 0), (55, 42, 5, 0), (58, 5, 0, 0), (59, 105, 1, 0), (62, 103, 0, 0)]
def mm_c_X0_forget : List mm_E := [(0, 5, 0, 0), (1, 0, 0, 0), (2, 41, 6, 0), (5, 5, 0, 0), (6, 0, 0, 0), (7, 0, 0, (-1)), (8, 105, 2, 0), (11, 23, 0, 0), (12, 0, 0, 0), (13, 7, 1, 0), (14, 3, 1, 0), (15, 5, 0, 0), (16, 40, 5, 0), (19, 49, 0, 0), (20, 34, 22, 16), (23, 5, 0, 0), (24, 40, 5, 0), (27, 3, 1, 0), (28, 0, 0, 0), (29, 44, 0, 0), (30, 20, 1, 1), (33, 24, 10, (-19)), (36, 103, 0, 0)]
def mm_c_X0_stateCount : List mm_E := [(0, 5, 0, 0), (1, 40, 6, 0), (4, 100, 0, 0)]
def mm_c_X0_stateAt : List mm_E := [(0, 3, 1, 0), (1, 5, 0, 0), (2, 40, 6, 0), (5, 107, 3, 0), (8, 25, 15, 21), (11, 3, 1, 0), (12, 5, 0, 0), (13, 40, 4, 0), (16, 49, 0, 0), (17, 34, 15, 12), (20, 5, 0, 0), (21, 40, 4, 0), (24, 3, 1, 0), (25, 43, 0, 0), (26, 24, 16, 4), (29, 0, 0, (-1)), (30, 100, 0, 0)]
def mm_c_X0_partCount : List mm_E := [(0, 0, 0, 0), (1, 7, 1, 0), (2, 0, 0, 1), (3, 7, 2, 0), (4, 3, 2, 0), (5, 5, 0, 0), (6, 40, 6, 0), (9, 34, 22, 25), (12, 3, 1, 0), (13, 5, 0, 0), (14, 3, 2, 0), (15, 105, 4, 0), (18, 5, 0, 0), (19, 3, 2, 0), (20, 105, 5, 0), (23, 12, 0, 0), (24, 0, 0, 1), (25, 11, 0, 0), (26, 11, 0, 0), (27, 7, 1, 0), (28, 20, 2, 1), (31, 24, 4, (-27)), (34, 3, 1, 0), (35, 100, 0, 0)]
def mm_c_X0_longestOf : List mm_E := [(0, 3, 1, 0), (1, 27, 10, 19), (4, 3, 1, 0), (5, 2, 0, 201), (8, 34, 10, 12), (11, 5, 0, 0), (12, 40, 2, 0), (15, 3, 1, 0), (16, 43, 0, 0), (17, 24, 11, 4), (20, 0, 0, 0), (21, 100, 0, 0)]
def mm_c_X0_shortestOf : List mm_E := [(0, 5, 0, 0), (1, 5, 0, 0), (2, 3, 1, 0), (3, 105, 6, 0), (6, 105, 4, 0), (9, 0, 0, 1), (10, 11, 0, 0), (11, 100, 0, 0)]
def mm_c_X0_step : List mm_E := [(0, 3, 1, 0), (1, 27, 12, 24), (4, 3, 1, 0), (5, 2, 0, 201), (8, 34, 12, 17), (11, 3, 2, 0), (12, 27, 12, 13), (15, 3, 2, 0), (16, 1, 0, 26), (18, 34, 12, 7), (21, 0, 0, 1), (22, 24, 13, 4), (25, 0, 0, 0), (26, 7, 3, 0), (27, 3, 3, 0), (28, 25, 25, 17), (31, 5, 0, 0), (32, 40, 1, 0), (35, 3, 1, 0), (36, 1, 0, 26), (38, 13, 0, 0), (39, 3, 2, 0), (40, 11, 0, 0), (41, 43, 0, 0), (42, 24, 26, 4), (45, 0, 0, (-1)), (46, 100, 0, 0)]
def mm_c_X0_grow : List mm_E := [(0, 3, 1, 0), (1, 5, 0, 0), (2, 40, 5, 0), (5, 49, 0, 0), (6, 107, 3, 0), (9, 26, 7, 4), (12, 103, 0, 0), (13, 5, 0, 0), (14, 5, 0, 0), (15, 40, 5, 0), (18, 3, 1, 0), (19, 43, 0, 0), (20, 3, 3, 0), (21, 105, 7, 0), (24, 8, 4, 0), (26, 5, 0, 0), (27, 40, 5, 0), (30, 3, 1, 0), (31, 4, 4, 0), (33, 44, 0, 0), (34, 4, 4, 0), (36, 8, 5, 0), (38, 0, 0, 0), (39, 8, 6, 0), (41, 4, 6, 0), (43, 2, 0, 201), (46, 34, 41, 33), (49, 4, 5, 0), (51, 30, 41, 28), (54, 5, 0, 0), (55, 40, 0, 0), (58, 4, 5, 0), (60, 3, 1, 0), (61, 3, 2, 0), (62, 105, 8, 0), (65, 5, 0, 0), (66, 4, 5, 0), (68, 105, 6, 0), (71, 8, 5, 0), (73, 20, 6, 1), (76, 24, 24, (-35)), (79, 103, 0, 0)]
def mm_c_X0_extend : List mm_E := [(0, 5, 0, 0), (1, 3, 1, 0), (2, 3, 2, 0), (3, 105, 9, 0), (6, 0, 0, (-1)), (7, 31, 11, 10), (10, 5, 0, 0), (11, 3, 1, 0), (12, 3, 2, 0), (13, 105, 10, 0), (16, 100, 0, 0), (17, 5, 0, 0), (18, 5, 0, 0), (19, 3, 1, 0), (20, 105, 4, 0), (23, 0, 0, 1), (24, 11, 0, 0), (25, 0, 0, (-1)), (26, 105, 2, 0), (29, 7, 3, 0), (30, 3, 1, 0), (31, 8, 4, 0), (33, 0, 0, 0), (34, 8, 5, 0), (36, 4, 5, 0), (38, 2, 0, 201), (41, 34, 48, 45), (44, 4, 4, 0), (46, 0, 0, (-1)), (47, 31, 48, 39), (50, 5, 0, 0), (51, 4, 4, 0), (53, 3, 2, 0), (54, 105, 9, 0), (57, 0, 0, (-1)), (58, 31, 37, 6), (61, 24, 48, 25), (64, 5, 0, 0), (65, 4, 4, 0), (67, 3, 2, 0), (68, 3, 3, 0), (69, 105, 11, 0), (72, 5, 0, 0), (73, 4, 4, 0), (75, 105, 6, 0), (78, 8, 4, 0), (80, 20, 5, 1), (83, 24, 24, (-47)), (86, 5, 0, 0), (87, 3, 3, 0), (88, 4, 4, 0), (90, 0, 0, (-1)), (91, 32, 55, 7), (94, 0, 0, 0), (95, 24, 59, 10), (98, 5, 0, 0), (99, 4, 4, 0), (101, 3, 2, 0), (102, 105, 10, 0), (105, 105, 12, 0), (108, 3, 3, 0), (109, 100, 0, 0)]
def mm_c_X0_stateBehind : List mm_E := [(0, 5, 0, 0), (1, 3, 1, 0), (2, 3, 2, 0), (3, 105, 9, 0), (6, 7, 3, 0), (7, 5, 0, 0), (8, 3, 1, 0), (9, 105, 4, 0), (12, 0, 0, 1), (13, 11, 0, 0), (14, 8, 4, 0), (16, 5, 0, 0), (17, 3, 3, 0), (18, 105, 4, 0), (21, 4, 4, 0), (23, 32, 18, 5), (26, 3, 3, 0), (27, 100, 0, 0), (28, 5, 0, 0), (29, 4, 4, 0), (31, 3, 3, 0), (32, 105, 2, 0), (35, 8, 5, 0), (37, 5, 0, 0), (38, 4, 5, 0), (40, 5, 0, 0), (41, 3, 3, 0), (42, 105, 6, 0), (45, 105, 12, 0), (48, 5, 0, 0), (49, 3, 3, 0), (50, 4, 5, 0), (52, 105, 12, 0), (55, 3, 1, 0), (56, 8, 6, 0), (58, 0, 0, 0), (59, 8, 7, 0), (61, 4, 7, 0), (63, 2, 0, 201), (66, 34, 57, 37), (69, 5, 0, 0), (70, 4, 6, 0), (72, 3, 2, 0), (73, 105, 9, 0), (76, 3, 3, 0), (77, 32, 57, 26), (80, 5, 0, 0), (81, 4, 6, 0), (83, 3, 2, 0), (84, 4, 5, 0), (86, 105, 11, 0), (89, 5, 0, 0), (90, 4, 6, 0), (92, 105, 6, 0), (95, 8, 6, 0), (97, 20, 7, 1), (100, 24, 37, (-39)), (103, 4, 5, 0), (105, 100, 0, 0)]
def mm_c_X0_addState : List mm_E := [(0, 5, 0, 0), (1, 40, 6, 0), (4, 7, 3, 0), (5, 3, 3, 0), (6, 5, 0, 0), (7, 40, 2, 0), (10, 49, 0, 0), (11, 107, 3, 0), (14, 26, 11, 5), (17, 0, 0, (-1)), (18, 100, 0, 0), (19, 5, 0, 0), (20, 40, 2, 0), (23, 3, 3, 0), (24, 3, 1, 0), (25, 44, 0, 0), (26, 5, 0, 0), (27, 3, 3, 0), (28, 0, 0, (-1)), (29, 105, 12, 0), (32, 0, 0, 0), (33, 8, 4, 0), (35, 4, 4, 0), (37, 1, 0, 26), (39, 34, 35, 23), (42, 5, 0, 0), (43, 3, 3, 0), (44, 4, 4, 0), (46, 5, 0, 0), (47, 3, 2, 0), (48, 4, 4, 0), (50, 105, 9, 0), (53, 105, 11, 0), (56, 20, 4, 1), (59, 24, 22, (-24)), (62, 5, 0, 0), (63, 40, 0, 0), (66, 3, 3, 0), (67, 3, 2, 0), (68, 105, 13, 0), (71, 5, 0, 0), (72, 3, 3, 0), (73, 105, 14, 0), (76, 5, 0, 0), (77, 21, 0, 0), (78, 40, 6, 0), (81, 0, 0, 1), (82, 11, 0, 0), (83, 41, 6, 0), (86, 3, 3, 0), (87, 100, 0, 0)]
def mm_c_X0_sortIn : List mm_E := [(0, 3, 1, 0), (1, 7, 2, 0), (2, 3, 2, 0), (3, 5, 0, 0), (4, 40, 4, 0), (7, 49, 0, 0), (8, 107, 3, 0), (11, 26, 9, 4), (14, 103, 0, 0), (15, 3, 2, 0), (16, 30, 35, 43), (19, 5, 0, 0), (20, 5, 0, 0), (21, 40, 4, 0), (24, 3, 2, 0), (25, 0, 0, 1), (26, 12, 0, 0), (27, 43, 0, 0), (28, 105, 4, 0), (31, 5, 0, 0), (32, 3, 1, 0), (33, 105, 4, 0), (36, 36, 35, 23), (39, 5, 0, 0), (40, 40, 4, 0), (43, 3, 2, 0), (44, 5, 0, 0), (45, 40, 4, 0), (48, 3, 2, 0), (49, 0, 0, 1), (50, 12, 0, 0), (51, 43, 0, 0), (52, 44, 0, 0), (53, 20, 2, (-1)), (56, 24, 9, (-41)), (59, 5, 0, 0), (60, 40, 4, 0), (63, 3, 2, 0), (64, 3, 1, 0), (65, 44, 0, 0), (66, 103, 0, 0)]
def mm_c_X0_linkOf : List mm_E := [(0, 3, 1, 0), (1, 5, 0, 0), (2, 40, 3, 0), (5, 49, 0, 0), (6, 107, 3, 0), (9, 25, 11, 12), (12, 5, 0, 0), (13, 40, 3, 0), (16, 3, 1, 0), (17, 43, 0, 0), (18, 24, 12, 4), (21, 0, 0, (-1)), (22, 100, 0, 0)]
def mm_c_X0_putLink : List mm_E := [(0, 3, 1, 0), (1, 5, 0, 0), (2, 40, 3, 0), (5, 49, 0, 0), (6, 107, 3, 0), (9, 25, 11, 10), (12, 5, 0, 0), (13, 40, 3, 0), (16, 3, 1, 0), (17, 3, 2, 0), (18, 44, 0, 0), (19, 103, 0, 0)]
def mm_c_X0_putStep : List mm_E := [(0, 3, 1, 0), (1, 27, 12, 24), (4, 3, 1, 0), (5, 2, 0, 201), (8, 34, 12, 17), (11, 3, 2, 0), (12, 27, 12, 13), (15, 3, 2, 0), (16, 1, 0, 26), (18, 34, 12, 7), (21, 0, 0, 1), (22, 24, 13, 4), (25, 0, 0, 0), (26, 8, 4, 0), (28, 4, 4, 0), (30, 25, 25, 15), (33, 5, 0, 0), (34, 40, 1, 0), (37, 3, 1, 0), (38, 1, 0, 26), (40, 13, 0, 0), (41, 3, 2, 0), (42, 11, 0, 0), (43, 3, 3, 0), (44, 44, 0, 0), (45, 103, 0, 0)]
def mm_c_X1_init : List mm_E := [(0, 5, 0, 0), (1, 57, 3, 0), (4, 5, 0, 0), (5, 2, 0, 804), (8, 51, 0, 0), (10, 42, 7, 0), (13, 5, 0, 0), (14, 2, 0, 804), (17, 51, 0, 0), (19, 42, 8, 0), (22, 5, 0, 0), (23, 2, 0, 804), (26, 51, 0, 0), (28, 42, 9, 0), (31, 103, 0, 0)]
def mm_c_X1_countOf : List mm_E := [(0, 3, 1, 0), (1, 3, 2, 0), (2, 106, 15, 0), (5, 7, 3, 0), (6, 3, 3, 0), (7, 0, 0, (-1)), (8, 32, 9, 7), (11, 0, 0, 0), (12, 24, 13, 9), (15, 5, 0, 0), (16, 40, 7, 0), (19, 3, 3, 0), (20, 43, 0, 0), (21, 100, 0, 0)]
def mm_c_X1_firstOf : List mm_E := [(0, 3, 1, 0), (1, 3, 2, 0), (2, 106, 15, 0), (5, 7, 3, 0), (6, 3, 3, 0), (7, 0, 0, (-1)), (8, 32, 9, 7), (11, 0, 0, (-1)), (12, 24, 13, 9), (15, 5, 0, 0), (16, 40, 8, 0), (19, 3, 3, 0), (20, 43, 0, 0), (21, 100, 0, 0)]
def mm_c_X1_lastOf : List mm_E := [(0, 3, 1, 0), (1, 3, 2, 0), (2, 106, 15, 0), (5, 7, 3, 0), (6, 3, 3, 0), (7, 0, 0, (-1)), (8, 32, 9, 7), (11, 0, 0, (-1)), (12, 24, 13, 9), (15, 5, 0, 0), (16, 40, 9, 0), (19, 3, 3, 0), (20, 43, 0, 0), (21, 100, 0, 0)]
def mm_c_X1_countInAll : List mm_E := [(0, 0, 0, 0), (1, 7, 2, 0), (2, 0, 0, 0), (3, 7, 3, 0), (4, 3, 3, 0), (5, 0, 0, 4), (6, 34, 16, 18), (9, 3, 2, 0), (10, 5, 0, 0), (11, 3, 1, 0), (12, 3, 3, 0), (13, 105, 16, 0), (16, 11, 0, 0), (17, 7, 2, 0), (18, 20, 3, 1), (21, 24, 4, (-17)), (24, 3, 2, 0), (25, 100, 0, 0)]
def mm_c_X1_standInEach : List mm_E := [(0, 0, 0, 0), (1, 7, 3, 0), (2, 3, 3, 0), (3, 0, 0, 4), (4, 34, 27, 41), (7, 3, 2, 0), (8, 3, 3, 0), (9, 17, 0, 0), (10, 0, 0, 1), (11, 18, 0, 0), (12, 0, 0, 1), (13, 32, 14, 7), (16, 0, 0, 1), (17, 24, 15, 4), (20, 0, 0, 0), (21, 8, 4, 0), (23, 4, 4, 0), (25, 25, 25, 14), (28, 5, 0, 0), (29, 3, 1, 0), (30, 3, 3, 0), (31, 105, 16, 0), (34, 26, 25, 5), (37, 0, 0, 0), (38, 101, 0, 0), (39, 20, 3, 1), (42, 24, 2, (-40)), (45, 0, 0, 1), (46, 101, 0, 0)]
def mm_c_X1_note : List mm_E := [(0, 3, 1, 0), (1, 3, 2, 0), (2, 106, 15, 0), (5, 8, 4, 0), (7, 4, 4, 0), (9, 0, 0, (-1)), (10, 32, 8, 4), (13, 103, 0, 0), (14, 5, 0, 0), (15, 40, 7, 0), (18, 4, 4, 0), (20, 43, 0, 0), (21, 26, 18, 11), (24, 5, 0, 0), (25, 40, 8, 0), (28, 4, 4, 0), (30, 3, 3, 0), (31, 44, 0, 0), (32, 5, 0, 0), (33, 40, 9, 0), (36, 4, 4, 0), (38, 3, 3, 0), (39, 44, 0, 0), (40, 5, 0, 0), (41, 40, 7, 0), (44, 4, 4, 0), (46, 22, 0, 0), (47, 43, 0, 0), (48, 0, 0, 1), (49, 11, 0, 0), (50, 44, 0, 0), (51, 103, 0, 0)]
def mm_c_X1_takeOver : List mm_E := [(0, 0, 0, 0), (1, 7, 3, 0), (2, 3, 3, 0), (3, 0, 0, 4), (4, 34, 57, 101), (7, 3, 1, 0), (8, 3, 3, 0), (9, 106, 15, 0), (12, 8, 4, 0), (14, 3, 2, 0), (15, 3, 3, 0), (16, 106, 15, 0), (19, 8, 5, 0), (21, 4, 4, 0), (23, 0, 0, (-1)), (24, 31, 55, 75), (27, 5, 0, 0), (28, 40, 7, 0), (31, 4, 4, 0), (33, 4, 5, 0), (35, 0, 0, (-1)), (36, 32, 24, 7), (39, 0, 0, 0), (40, 24, 28, 10), (43, 5, 0, 0), (44, 40, 7, 0), (47, 4, 5, 0), (49, 43, 0, 0), (50, 44, 0, 0), (51, 5, 0, 0), (52, 40, 8, 0), (55, 4, 4, 0), (57, 4, 5, 0), (59, 0, 0, (-1)), (60, 32, 37, 7), (63, 0, 0, (-1)), (64, 24, 41, 10), (67, 5, 0, 0), (68, 40, 8, 0), (71, 4, 5, 0), (73, 43, 0, 0), (74, 44, 0, 0), (75, 5, 0, 0), (76, 40, 9, 0), (79, 4, 4, 0), (81, 4, 5, 0), (83, 0, 0, (-1)), (84, 32, 50, 7), (87, 0, 0, (-1)), (88, 24, 54, 10), (91, 5, 0, 0), (92, 40, 9, 0), (95, 4, 5, 0), (97, 43, 0, 0), (98, 44, 0, 0), (99, 20, 3, 1), (102, 24, 2, (-100)), (105, 103, 0, 0)]
def mm_c_X1_placeOf : List mm_E := [(0, 3, 0, 0), (1, 27, 12, 23), (4, 3, 0, 0), (5, 2, 0, 201), (8, 34, 12, 16), (11, 3, 1, 0), (12, 27, 12, 12), (15, 3, 1, 0), (16, 0, 0, 4), (17, 34, 12, 7), (20, 0, 0, 1), (21, 24, 13, 4), (24, 0, 0, 0), (25, 7, 2, 0), (26, 3, 2, 0), (27, 25, 22, 11), (30, 3, 0, 0), (31, 0, 0, 4), (32, 13, 0, 0), (33, 3, 1, 0), (34, 11, 0, 0), (35, 24, 23, 4), (38, 0, 0, (-1)), (39, 100, 0, 0)]
def mm_c_X2_init : List mm_E := [(0, 5, 0, 0), (1, 57, 3, 0), (4, 5, 0, 0), (5, 50, 9, 0), (8, 21, 0, 0), (9, 108, 17, 0), (12, 42, 10, 0), (15, 5, 0, 0), (16, 2, 0, 201), (19, 51, 0, 0), (21, 42, 11, 0), (24, 5, 0, 0), (25, 0, 0, 0), (26, 41, 12, 0), (29, 103, 0, 0)]
def mm_c_X2_countWords : List mm_E := [(0, 5, 0, 0), (1, 0, 0, 0), (2, 41, 12, 0), (5, 5, 0, 0), (6, 40, 10, 0), (9, 105, 18, 0), (12, 0, 0, 1), (13, 12, 0, 0), (14, 7, 1, 0), (15, 3, 1, 0), (16, 27, 41, 59), (19, 5, 0, 0), (20, 40, 10, 0), (23, 3, 1, 0), (24, 105, 19, 0), (27, 7, 2, 0), (28, 0, 0, 1), (29, 7, 3, 0), (30, 0, 0, 0), (31, 8, 4, 0), (33, 4, 4, 0), (35, 1, 0, 26), (37, 34, 35, 26), (40, 3, 3, 0), (41, 5, 0, 0), (42, 5, 0, 0), (43, 40, 10, 0), (46, 3, 2, 0), (47, 4, 4, 0), (49, 105, 20, 0), (52, 105, 21, 0), (55, 11, 0, 0), (56, 7, 3, 0), (57, 20, 4, 1), (60, 24, 20, (-27)), (63, 5, 0, 0), (64, 3, 2, 0), (65, 3, 3, 0), (66, 105, 22, 0), (69, 20, 1, (-1)), (72, 24, 9, (-57)), (75, 103, 0, 0)]
def mm_c_X2_measureReach : List mm_E := [(0, 5, 0, 0), (1, 0, 0, (-1)), (2, 41, 12, 0), (5, 5, 0, 0), (6, 40, 10, 0), (9, 105, 18, 0), (12, 0, 0, 1), (13, 12, 0, 0), (14, 7, 3, 0), (15, 3, 3, 0), (16, 27, 51, 85), (19, 5, 0, 0), (20, 40, 10, 0), (23, 3, 3, 0), (24, 105, 19, 0), (27, 8, 4, 0), (29, 0, 0, (-1)), (30, 8, 5, 0), (32, 0, 0, 0), (33, 8, 6, 0), (35, 4, 6, 0), (37, 1, 0, 26), (39, 34, 35, 31), (42, 4, 5, 0), (44, 5, 0, 0), (45, 5, 0, 0), (46, 40, 10, 0), (49, 4, 4, 0), (51, 4, 6, 0), (53, 105, 20, 0), (56, 105, 21, 0), (59, 58, 45, 0), (62, 8, 5, 0), (64, 20, 6, 1), (67, 24, 20, (-32)), (70, 5, 0, 0), (71, 4, 4, 0), (73, 5, 0, 0), (74, 4, 4, 0), (76, 3, 1, 0), (77, 3, 2, 0), (78, 105, 23, 0), (81, 25, 47, 10), (84, 4, 5, 0), (86, 0, 0, 1), (87, 11, 0, 0), (88, 24, 48, 4), (91, 0, 0, (-1)), (92, 105, 22, 0), (95, 20, 3, (-1)), (98, 24, 9, (-83)), (101, 103, 0, 0)]
def mm_c_X2_measureGaps : List mm_E := [(0, 5, 0, 0), (1, 0, 0, 0), (2, 41, 12, 0), (5, 5, 0, 0), (6, 40, 10, 0), (9, 105, 18, 0), (12, 0, 0, 1), (13, 12, 0, 0), (14, 7, 2, 0), (15, 3, 2, 0), (16, 27, 43, 67), (19, 5, 0, 0), (20, 40, 10, 0), (23, 3, 2, 0), (24, 105, 19, 0), (27, 7, 3, 0), (28, 1, 0, 100), (30, 8, 4, 0), (32, 0, 0, 0), (33, 8, 5, 0), (35, 4, 5, 0), (37, 3, 1, 0), (38, 34, 35, 30), (41, 4, 4, 0), (43, 5, 0, 0), (44, 5, 0, 0), (45, 40, 10, 0), (48, 3, 3, 0), (49, 4, 5, 0), (51, 105, 20, 0), (54, 105, 21, 0), (57, 59, 54, 0), (60, 8, 4, 0), (62, 20, 5, 1), (65, 24, 20, (-30)), (68, 5, 0, 0), (69, 3, 3, 0), (70, 4, 4, 0), (72, 0, 0, 1), (73, 11, 0, 0), (74, 105, 22, 0), (77, 20, 2, (-1)), (80, 24, 9, (-65)), (83, 103, 0, 0)]
def mm_c_X2_partsAheadOf : List mm_E := [(0, 0, 0, 0), (1, 7, 2, 0), (2, 0, 0, 0), (3, 7, 3, 0), (4, 5, 1, 0), (5, 38, 8, 7), (8, 0, 0, 0), (9, 24, 10, 7), (12, 5, 1, 0), (13, 105, 24, 0), (16, 8, 4, 0), (18, 0, 0, 0), (19, 8, 5, 0), (21, 4, 5, 0), (23, 4, 4, 0), (25, 34, 57, 83), (28, 3, 3, 0), (29, 0, 0, (-1)), (30, 31, 57, 78), (33, 5, 1, 0), (34, 4, 5, 0), (36, 105, 25, 0), (39, 8, 6, 0), (41, 0, 0, 0), (42, 8, 7, 0), (44, 4, 7, 0), (46, 4, 6, 0), (48, 34, 40, 26), (51, 3, 2, 0), (52, 5, 0, 0), (53, 5, 0, 0), (54, 40, 10, 0), (57, 3, 3, 0), (58, 4, 7, 0), (60, 105, 20, 0), (63, 105, 21, 0), (66, 11, 0, 0), (67, 7, 2, 0), (68, 20, 7, 1), (71, 24, 25, (-27)), (74, 5, 0, 0), (75, 40, 10, 0), (78, 3, 3, 0), (79, 4, 6, 0), (81, 105, 20, 0), (84, 7, 3, 0), (85, 3, 3, 0), (86, 0, 0, (-1)), (87, 31, 55, 15), (90, 4, 5, 0), (92, 4, 4, 0), (94, 0, 0, 1), (95, 12, 0, 0), (96, 34, 55, 6), (99, 20, 2, 1), (102, 20, 5, 1), (105, 24, 13, (-84)), (108, 3, 2, 0), (109, 100, 0, 0)]
def mm_c_X2_spellPart : List mm_E := [(0, 5, 2, 0), (1, 38, 3, 4), (4, 103, 0, 0), (5, 5, 2, 0), (6, 105, 26, 0), (9, 0, 0, 0), (10, 7, 3, 0), (11, 3, 1, 0), (12, 8, 4, 0), (14, 4, 4, 0), (16, 27, 55, 93), (19, 3, 3, 0), (20, 0, 0, (-1)), (21, 31, 55, 88), (24, 0, 0, 0), (25, 8, 5, 0), (27, 5, 0, 0), (28, 5, 0, 0), (29, 40, 10, 0), (32, 3, 3, 0), (33, 4, 5, 0), (35, 105, 20, 0), (38, 105, 21, 0), (41, 8, 6, 0), (43, 4, 5, 0), (45, 1, 0, 26), (47, 34, 44, 39), (50, 4, 6, 0), (52, 4, 4, 0), (54, 35, 44, 32), (57, 4, 4, 0), (59, 4, 6, 0), (61, 12, 0, 0), (62, 8, 4, 0), (64, 20, 5, 1), (67, 5, 0, 0), (68, 5, 0, 0), (69, 40, 10, 0), (72, 3, 3, 0), (73, 4, 5, 0), (75, 105, 20, 0), (78, 105, 21, 0), (81, 8, 6, 0), (83, 24, 24, (-40)), (86, 5, 2, 0), (87, 4, 5, 0), (89, 105, 27, 0), (92, 5, 0, 0), (93, 40, 10, 0), (96, 3, 3, 0), (97, 4, 5, 0), (99, 105, 20, 0), (102, 7, 3, 0), (103, 20, 4, (-1)), (106, 24, 9, (-92)), (109, 103, 0, 0)]
def mm_c_X2_spellWay : List mm_E := [(0, 5, 1, 0), (1, 38, 3, 4), (4, 103, 0, 0), (5, 5, 1, 0), (6, 105, 26, 0), (9, 0, 0, 0), (10, 7, 2, 0), (11, 5, 0, 0), (12, 0, 0, 0), (13, 105, 21, 0), (16, 0, 0, 1), (17, 12, 0, 0), (18, 7, 3, 0), (19, 3, 3, 0), (20, 27, 42, 60), (23, 0, 0, 0), (24, 8, 4, 0), (26, 4, 4, 0), (28, 1, 0, 26), (30, 34, 31, 27), (33, 5, 0, 0), (34, 5, 0, 0), (35, 40, 10, 0), (38, 3, 2, 0), (39, 4, 4, 0), (41, 105, 20, 0), (44, 105, 21, 0), (47, 3, 3, 0), (48, 31, 31, 9), (51, 20, 4, 1), (54, 24, 17, (-28)), (57, 5, 1, 0), (58, 4, 4, 0), (60, 105, 27, 0), (63, 5, 0, 0), (64, 40, 10, 0), (67, 3, 2, 0), (68, 4, 4, 0), (70, 105, 20, 0), (73, 7, 2, 0), (74, 20, 3, (-1)), (77, 24, 13, (-58)), (80, 103, 0, 0)]
def mm_c_X2_suits : List mm_E := [(0, 3, 1, 0), (1, 25, 16, 33), (4, 5, 0, 0), (5, 40, 10, 0), (8, 40, 13, 0), (11, 3, 1, 0), (12, 3, 2, 0), (13, 105, 28, 0), (16, 25, 18, 22), (19, 5, 0, 0), (20, 40, 10, 0), (23, 40, 13, 0), (26, 3, 1, 0), (27, 105, 29, 0), (30, 3, 3, 0), (31, 33, 18, 7), (34, 0, 0, 1), (35, 24, 19, 4), (38, 0, 0, 0), (39, 101, 0, 0)]
def mm_c_X2_aheadOf : List mm_E := [(0, 3, 1, 0), (1, 5, 0, 0), (2, 40, 11, 0), (5, 49, 0, 0), (6, 107, 30, 0), (9, 25, 11, 12), (12, 5, 0, 0), (13, 40, 11, 0), (16, 3, 1, 0), (17, 43, 0, 0), (18, 24, 13, 7), (21, 5, 0, 0), (22, 40, 12, 0), (25, 100, 0, 0)]
def mm_c_X2_putAhead : List mm_E := [(0, 3, 1, 0), (1, 5, 0, 0), (2, 40, 11, 0), (5, 49, 0, 0), (6, 107, 30, 0), (9, 25, 11, 10), (12, 5, 0, 0), (13, 40, 11, 0), (16, 3, 1, 0), (17, 3, 2, 0), (18, 44, 0, 0), (19, 103, 0, 0)]
def mm_c_X3_init : List mm_E := [(0, 5, 0, 0), (1, 57, 3, 0), (4, 5, 0, 0), (5, 3, 1, 0), (6, 0, 0, 0), (7, 58, 9, 0), (10, 51, 0, 0), (12, 42, 14, 0), (15, 5, 0, 0), (16, 0, 0, 0), (17, 41, 15, 0), (20, 103, 0, 0)]
def mm_c_X3_size : List mm_E := [(0, 5, 0, 0), (1, 40, 15, 0), (4, 100, 0, 0)]
def mm_c_X3_letter : List mm_E := [(0, 3, 1, 0), (1, 5, 0, 0), (2, 40, 15, 0), (5, 107, 31, 0), (8, 25, 15, 21), (11, 3, 1, 0), (12, 5, 0, 0), (13, 40, 14, 0), (16, 49, 0, 0), (17, 34, 15, 12), (20, 5, 0, 0), (21, 40, 14, 0), (24, 3, 1, 0), (25, 43, 0, 0), (26, 24, 16, 4), (29, 0, 0, (-1)), (30, 100, 0, 0)]
def mm_c_X3_add : List mm_E := [(0, 5, 0, 0), (1, 40, 15, 0), (4, 5, 0, 0), (5, 40, 14, 0), (8, 49, 0, 0), (9, 107, 31, 0), (12, 25, 23, 32), (15, 3, 1, 0), (16, 1, 0, 26), (18, 107, 31, 0), (21, 25, 23, 23), (24, 5, 0, 0), (25, 40, 14, 0), (28, 5, 0, 0), (29, 40, 15, 0), (32, 3, 1, 0), (33, 44, 0, 0), (34, 5, 0, 0), (35, 21, 0, 0), (36, 40, 15, 0), (39, 0, 0, 1), (40, 11, 0, 0), (41, 41, 15, 0), (44, 103, 0, 0)]
def mm_c_X3_shorten : List mm_E := [(0, 5, 0, 0), (1, 40, 15, 0), (4, 30, 9, 13), (7, 5, 0, 0), (8, 21, 0, 0), (9, 40, 15, 0), (12, 0, 0, 1), (13, 12, 0, 0), (14, 41, 15, 0), (17, 103, 0, 0)]
def mm_c_X3_empty : List mm_E := [(0, 5, 0, 0), (1, 0, 0, 0), (2, 41, 15, 0), (5, 103, 0, 0)]
def mm_c_X4_init : List mm_E := [(0, 5, 0, 0), (1, 57, 3, 0), (4, 5, 0, 0), (5, 0, 0, 4), (6, 53, 9, 0), (9, 42, 16, 0), (12, 0, 0, 0), (13, 7, 1, 0), (14, 3, 1, 0), (15, 5, 0, 0), (16, 40, 16, 0), (19, 49, 0, 0), (20, 34, 23, 24), (23, 5, 0, 0), (24, 40, 16, 0), (27, 3, 1, 0), (28, 50, 9, 3), (31, 21, 0, 0), (32, 1, 0, 100), (34, 108, 32, 0), (37, 48, 0, 0), (38, 20, 1, 1), (41, 24, 8, (-27)), (44, 5, 0, 0), (45, 50, 9, 3), (48, 21, 0, 0), (49, 1, 0, 120), (51, 108, 32, 0), (54, 42, 17, 0), (57, 5, 0, 0), (58, 50, 22, 2), (61, 21, 0, 0), (62, 108, 33, 0), (65, 42, 18, 0), (68, 5, 0, 0), (69, 5, 0, 0), (70, 40, 18, 0), (73, 40, 19, 0), (76, 42, 20, 0), (79, 5, 0, 0), (80, 0, 0, 0), (81, 41, 21, 0), (84, 5, 0, 0), (85, 0, 0, 0), (86, 41, 22, 0), (89, 103, 0, 0)]
def mm_c_X4_clear : List mm_E := [(0, 0, 0, 0), (1, 7, 1, 0), (2, 3, 1, 0), (3, 5, 0, 0), (4, 40, 16, 0), (7, 49, 0, 0), (8, 34, 18, 24), (11, 5, 0, 0), (12, 40, 16, 0), (15, 3, 1, 0), (16, 47, 0, 0), (17, 9, 2, 0), (18, 5, 2, 0), (19, 37, 16, 7), (22, 5, 2, 0), (23, 105, 34, 0), (26, 20, 1, 1), (29, 24, 2, (-27)), (32, 5, 0, 0), (33, 0, 0, 0), (34, 41, 21, 0), (37, 5, 0, 0), (38, 0, 0, 0), (39, 41, 22, 0), (42, 5, 0, 0), (43, 40, 17, 0), (46, 105, 34, 0), (49, 5, 0, 0), (50, 40, 20, 0), (53, 105, 35, 0), (56, 103, 0, 0)]
def mm_c_X4_open : List mm_E := [(0, 5, 0, 0), (1, 40, 21, 0), (4, 0, 0, 4), (5, 33, 9, 13), (8, 104, 0, 2), (11, 111, 0, 0), (12, 111, 0, 0), (14, 111, 0, 0), (17, 111, 0, 0), (18, 5, 0, 0), (19, 21, 0, 0), (20, 40, 21, 0), (23, 0, 0, 1), (24, 11, 0, 0), (25, 41, 21, 0), (28, 5, 0, 0), (29, 40, 21, 0), (32, 0, 0, 1), (33, 12, 0, 0), (34, 100, 0, 0)]
def mm_c_X4_append : List mm_E := [(0, 5, 0, 0), (1, 3, 1, 0), (2, 105, 36, 0), (5, 9, 3, 0), (6, 3, 2, 0), (7, 106, 37, 0), (10, 5, 0, 0), (11, 40, 22, 0), (14, 1, 0, 100), (16, 33, 15, 13), (19, 104, 1, 2), (22, 111, 0, 0), (23, 111, 0, 0), (25, 111, 0, 0), (28, 111, 0, 0), (29, 5, 0, 0), (30, 40, 20, 0), (33, 3, 1, 0), (34, 5, 3, 0), (35, 105, 38, 0), (38, 3, 2, 0), (39, 105, 39, 0), (42, 5, 3, 0), (43, 3, 2, 0), (44, 105, 40, 0), (47, 5, 0, 0), (48, 21, 0, 0), (49, 40, 22, 0), (52, 0, 0, 1), (53, 11, 0, 0), (54, 41, 22, 0), (57, 5, 3, 0), (58, 105, 38, 0), (61, 100, 0, 0)]
def mm_c_X4_texts : List mm_E := [(0, 5, 0, 0), (1, 40, 21, 0), (4, 100, 0, 0)]
def mm_c_X4_length : List mm_E := [(0, 5, 0, 0), (1, 3, 1, 0), (2, 105, 36, 0), (5, 105, 38, 0), (8, 100, 0, 0)]
def mm_c_X4_letterAt : List mm_E := [(0, 5, 0, 0), (1, 3, 1, 0), (2, 105, 36, 0), (5, 9, 3, 0), (6, 3, 2, 0), (7, 5, 3, 0), (8, 105, 38, 0), (11, 106, 41, 0), (14, 26, 14, 13), (17, 104, 2, 0), (20, 111, 0, 0), (21, 111, 0, 0), (23, 111, 0, 0), (26, 111, 0, 0), (27, 5, 3, 0), (28, 3, 2, 0), (29, 105, 42, 0), (32, 100, 0, 0)]
def mm_c_X4_type : List mm_E := [(0, 3, 1, 0), (1, 106, 37, 0), (4, 5, 0, 0), (5, 40, 17, 0), (8, 105, 38, 0), (11, 1, 0, 120), (13, 33, 12, 13), (16, 104, 3, 2), (19, 111, 0, 0), (20, 111, 0, 0), (22, 111, 0, 0), (25, 111, 0, 0), (26, 5, 0, 0), (27, 40, 17, 0), (30, 3, 1, 0), (31, 105, 40, 0), (34, 5, 0, 0), (35, 40, 17, 0), (38, 105, 38, 0), (41, 100, 0, 0)]
def mm_c_X4_erase : List mm_E := [(0, 5, 0, 0), (1, 40, 17, 0), (4, 105, 38, 0), (7, 26, 9, 13), (10, 104, 4, 2), (13, 111, 0, 0), (14, 111, 0, 0), (16, 111, 0, 0), (19, 111, 0, 0), (20, 5, 0, 0), (21, 40, 17, 0), (24, 5, 0, 0), (25, 40, 17, 0), (28, 105, 38, 0), (31, 0, 0, 1), (32, 12, 0, 0), (33, 105, 42, 0), (36, 7, 1, 0), (37, 5, 0, 0), (38, 40, 17, 0), (41, 105, 43, 0), (44, 3, 1, 0), (45, 100, 0, 0)]
def mm_c_X4_wipe : List mm_E := [(0, 5, 0, 0), (1, 40, 17, 0), (4, 105, 38, 0), (7, 7, 1, 0), (8, 5, 0, 0), (9, 40, 17, 0), (12, 105, 34, 0), (15, 3, 1, 0), (16, 100, 0, 0)]
def mm_c_X4_copy : List mm_E := [(0, 5, 0, 0), (1, 3, 1, 0), (2, 105, 36, 0), (5, 10, 4, 0), (7, 3, 2, 0), (8, 27, 14, 18), (11, 3, 3, 0), (12, 27, 14, 14), (15, 3, 3, 0), (16, 6, 4, 0), (18, 105, 38, 0), (21, 3, 2, 0), (22, 12, 0, 0), (23, 36, 19, 13), (26, 104, 5, 1), (29, 111, 0, 0), (30, 111, 0, 0), (32, 111, 0, 0), (35, 111, 0, 0), (36, 5, 0, 0), (37, 40, 17, 0), (40, 105, 34, 0), (43, 0, 0, 0), (44, 8, 5, 0), (46, 4, 5, 0), (48, 3, 3, 0), (49, 34, 37, 25), (52, 5, 0, 0), (53, 40, 17, 0), (56, 6, 4, 0), (58, 3, 2, 0), (59, 4, 5, 0), (61, 11, 0, 0), (62, 105, 42, 0), (65, 105, 40, 0), (68, 20, 5, 1), (71, 24, 24, (-25)), (74, 103, 0, 0)]
def mm_c_X4_patternLength : List mm_E := [(0, 5, 0, 0), (1, 40, 17, 0), (4, 105, 38, 0), (7, 100, 0, 0)]
def mm_c_X4_patternAt : List mm_E := [(0, 3, 1, 0), (1, 5, 0, 0), (2, 40, 17, 0), (5, 105, 38, 0), (8, 106, 41, 0), (11, 26, 11, 13), (14, 104, 6, 0), (17, 111, 0, 0), (18, 111, 0, 0), (20, 111, 0, 0), (23, 111, 0, 0), (24, 5, 0, 0), (25, 40, 17, 0), (28, 3, 1, 0), (29, 105, 42, 0), (32, 100, 0, 0)]
def mm_c_X4_isPart : List mm_E := [(0, 5, 0, 0), (1, 105, 44, 0), (4, 0, 0, (-1)), (5, 31, 6, 7), (8, 0, 0, 1), (9, 24, 7, 4), (12, 0, 0, 0), (13, 101, 0, 0)]
def mm_c_X4_occurrences : List mm_E := [(0, 5, 0, 0), (1, 40, 20, 0), (4, 40, 23, 0), (7, 5, 0, 0), (8, 105, 44, 0), (11, 105, 45, 0), (14, 100, 0, 0)]
def mm_c_X4_occurrencesIn : List mm_E := [(0, 5, 0, 0), (1, 3, 1, 0), (2, 105, 36, 0), (5, 23, 0, 0), (6, 5, 0, 0), (7, 40, 20, 0), (10, 40, 23, 0), (13, 5, 0, 0), (14, 105, 44, 0), (17, 3, 1, 0), (18, 105, 46, 0), (21, 100, 0, 0)]
def mm_c_X4_first : List mm_E := [(0, 5, 0, 0), (1, 3, 1, 0), (2, 105, 36, 0), (5, 23, 0, 0), (6, 5, 0, 0), (7, 5, 0, 0), (8, 40, 20, 0), (11, 40, 23, 0), (14, 5, 0, 0), (15, 105, 44, 0), (18, 3, 1, 0), (19, 105, 47, 0), (22, 105, 48, 0), (25, 100, 0, 0)]
def mm_c_X4_last : List mm_E := [(0, 5, 0, 0), (1, 3, 1, 0), (2, 105, 36, 0), (5, 23, 0, 0), (6, 5, 0, 0), (7, 5, 0, 0), (8, 40, 20, 0), (11, 40, 23, 0), (14, 5, 0, 0), (15, 105, 44, 0), (18, 3, 1, 0), (19, 105, 49, 0), (22, 105, 48, 0), (25, 100, 0, 0)]
def mm_c_X4_followers : List mm_E := [(0, 5, 0, 0), (1, 0, 0, 0), (2, 105, 50, 0), (5, 7, 1, 0), (6, 0, 0, 0), (7, 7, 2, 0), (8, 0, 0, 0), (9, 7, 3, 0), (10, 3, 3, 0), (11, 1, 0, 26), (13, 34, 26, 28), (16, 5, 0, 0), (17, 40, 20, 0), (20, 3, 1, 0), (21, 3, 3, 0), (22, 105, 51, 0), (25, 0, 0, (-1)), (26, 31, 24, 9), (29, 3, 2, 0), (30, 0, 0, 1), (31, 3, 3, 0), (32, 16, 0, 0), (33, 19, 0, 0), (34, 7, 2, 0), (35, 20, 3, 1), (38, 24, 8, (-28)), (41, 3, 2, 0), (42, 100, 0, 0)]
def mm_c_X4_leaders : List mm_E := [(0, 0, 0, 0), (1, 7, 1, 0), (2, 0, 0, 0), (3, 7, 2, 0), (4, 3, 2, 0), (5, 1, 0, 26), (7, 34, 24, 32), (10, 5, 0, 0), (11, 5, 0, 0), (12, 40, 20, 0), (15, 0, 0, 0), (16, 3, 2, 0), (17, 105, 51, 0), (20, 105, 50, 0), (23, 0, 0, (-1)), (24, 31, 22, 9), (27, 3, 1, 0), (28, 0, 0, 1), (29, 3, 2, 0), (30, 16, 0, 0), (31, 19, 0, 0), (32, 7, 1, 0), (33, 20, 2, 1), (36, 24, 4, (-32)), (39, 3, 1, 0), (40, 100, 0, 0)]
def mm_c_X4_classes : List mm_E := [(0, 5, 0, 0), (1, 40, 20, 0), (4, 105, 52, 0), (7, 0, 0, 1), (8, 12, 0, 0), (9, 100, 0, 0)]
def mm_c_X4_longestAlike : List mm_E := [(0, 5, 0, 0), (1, 105, 44, 0), (4, 7, 1, 0), (5, 3, 1, 0), (6, 0, 0, (-1)), (7, 32, 8, 7), (10, 0, 0, (-1)), (11, 24, 12, 11), (14, 5, 0, 0), (15, 40, 20, 0), (18, 3, 1, 0), (19, 105, 53, 0), (22, 100, 0, 0)]
def mm_c_X4_shortestAlike : List mm_E := [(0, 5, 0, 0), (1, 105, 44, 0), (4, 7, 1, 0), (5, 3, 1, 0), (6, 0, 0, (-1)), (7, 32, 8, 7), (10, 0, 0, (-1)), (11, 24, 12, 11), (14, 5, 0, 0), (15, 40, 20, 0), (18, 3, 1, 0), (19, 105, 54, 0), (22, 100, 0, 0)]
def mm_c_X4_parts : List mm_E := [(0, 5, 0, 0), (1, 40, 20, 0), (4, 105, 55, 0), (7, 100, 0, 0)]
def mm_c_X4_rank : List mm_E := [(0, 5, 0, 0), (1, 40, 18, 0), (4, 105, 56, 0), (7, 5, 0, 0), (8, 40, 18, 0), (11, 5, 0, 0), (12, 40, 17, 0), (15, 105, 57, 0), (18, 100, 0, 0)]
def mm_c_X4_toPart : List mm_E := [(0, 3, 1, 0), (1, 5, 0, 0), (2, 40, 20, 0), (5, 105, 55, 0), (8, 106, 41, 0), (11, 26, 11, 13), (14, 104, 7, 0), (17, 111, 0, 0), (18, 111, 0, 0), (20, 111, 0, 0), (23, 111, 0, 0), (24, 5, 0, 0), (25, 40, 18, 0), (28, 105, 56, 0), (31, 5, 0, 0), (32, 40, 18, 0), (35, 3, 1, 0), (36, 5, 0, 0), (37, 40, 17, 0), (40, 105, 58, 0), (43, 5, 0, 0), (44, 40, 17, 0), (47, 105, 38, 0), (50, 100, 0, 0)]
def mm_c_X4_common : List mm_E := [(0, 3, 1, 0), (1, 0, 0, 1), (2, 33, 9, 13), (5, 3, 1, 0), (6, 0, 0, 1), (7, 5, 0, 0), (8, 40, 21, 0), (11, 16, 0, 0), (12, 33, 14, 13), (15, 104, 8, 1), (18, 111, 0, 0), (19, 111, 0, 0), (21, 111, 0, 0), (24, 111, 0, 0), (25, 5, 0, 0), (26, 40, 18, 0), (29, 3, 1, 0), (30, 0, 0, 1), (31, 105, 59, 0), (34, 5, 0, 0), (35, 40, 18, 0), (38, 5, 0, 0), (39, 40, 17, 0), (42, 105, 60, 0), (45, 5, 0, 0), (46, 40, 17, 0), (49, 105, 38, 0), (52, 100, 0, 0)]
def mm_c_X4_repeated : List mm_E := [(0, 3, 1, 0), (1, 0, 0, 1), (2, 34, 8, 13), (5, 104, 9, 1), (8, 111, 0, 0), (9, 111, 0, 0), (11, 111, 0, 0), (14, 111, 0, 0), (15, 5, 0, 0), (16, 40, 18, 0), (19, 0, 0, 0), (20, 3, 1, 0), (21, 105, 59, 0), (24, 5, 0, 0), (25, 40, 18, 0), (28, 5, 0, 0), (29, 40, 17, 0), (32, 105, 60, 0), (35, 5, 0, 0), (36, 40, 17, 0), (39, 105, 38, 0), (42, 100, 0, 0)]
def mm_c_X4_missing : List mm_E := [(0, 3, 1, 0), (1, 0, 0, 1), (2, 33, 6, 9), (5, 3, 1, 0), (6, 1, 0, 26), (8, 36, 11, 13), (11, 104, 10, 1), (14, 111, 0, 0), (15, 111, 0, 0), (17, 111, 0, 0), (20, 111, 0, 0), (21, 5, 0, 0), (22, 40, 18, 0), (25, 3, 1, 0), (26, 105, 61, 0), (29, 5, 0, 0), (30, 40, 18, 0), (33, 5, 0, 0), (34, 40, 17, 0), (37, 105, 60, 0), (40, 5, 0, 0), (41, 40, 17, 0), (44, 105, 38, 0), (47, 100, 0, 0)]
def mm_c_X4_within : List mm_E := [(0, 3, 0, 0), (1, 27, 7, 12), (4, 3, 0, 0), (5, 3, 1, 0), (6, 34, 7, 7), (9, 0, 0, 1), (10, 24, 8, 4), (13, 0, 0, 0), (14, 101, 0, 0)]
def mm_c_X4_demandText : List mm_E := [(0, 3, 1, 0), (1, 5, 0, 0), (2, 40, 21, 0), (5, 106, 41, 0), (8, 25, 15, 21), (11, 3, 1, 0), (12, 5, 0, 0), (13, 40, 16, 0), (16, 49, 0, 0), (17, 34, 15, 12), (20, 5, 0, 0), (21, 40, 16, 0), (24, 3, 1, 0), (25, 47, 0, 0), (26, 24, 16, 4), (29, 39, 0, 0), (30, 9, 2, 0), (31, 5, 2, 0), (32, 38, 24, 13), (35, 104, 11, 0), (38, 111, 0, 0), (39, 111, 0, 0), (41, 111, 0, 0), (44, 111, 0, 0), (45, 5, 2, 0), (46, 102, 0, 0)]
def mm_c_X4_demandLetter : List mm_E := [(0, 3, 0, 0), (1, 1, 0, 26), (3, 106, 41, 0), (6, 26, 9, 13), (9, 104, 12, 1), (12, 111, 0, 0), (13, 111, 0, 0), (15, 111, 0, 0), (18, 111, 0, 0), (19, 103, 0, 0)]
def mm_c_X4_walkPattern : List mm_E := [(0, 3, 1, 0), (1, 7, 2, 0), (2, 0, 0, 0), (3, 7, 3, 0), (4, 3, 3, 0), (5, 5, 0, 0), (6, 40, 17, 0), (9, 105, 38, 0), (12, 34, 23, 31), (15, 3, 2, 0), (16, 0, 0, (-1)), (17, 31, 23, 26), (20, 5, 0, 0), (21, 40, 20, 0), (24, 3, 2, 0), (25, 5, 0, 0), (26, 40, 17, 0), (29, 3, 3, 0), (30, 105, 42, 0), (33, 105, 51, 0), (36, 7, 2, 0), (37, 20, 3, 1), (40, 24, 4, (-36)), (43, 3, 2, 0), (44, 100, 0, 0)]
def mm_c_X4_partState : List mm_E := [(0, 5, 0, 0), (1, 40, 17, 0), (4, 105, 38, 0), (7, 26, 6, 7), (10, 0, 0, (-1)), (11, 24, 9, 8), (14, 5, 0, 0), (15, 0, 0, 0), (16, 105, 50, 0), (19, 100, 0, 0)]
def mm_c_X4_beginOfPattern : List mm_E := [(0, 3, 1, 0), (1, 0, 0, (-1)), (2, 32, 5, 7), (5, 0, 0, (-1)), (6, 24, 12, 14), (9, 3, 1, 0), (10, 5, 0, 0), (11, 40, 17, 0), (14, 105, 38, 0), (17, 12, 0, 0), (18, 0, 0, 1), (19, 11, 0, 0), (20, 100, 0, 0)]
def mm_c_X5_init : List mm_E := [(0, 5, 0, 0), (1, 57, 1, 0), (4, 5, 0, 0), (5, 2, 0, 400), (8, 51, 0, 0), (10, 42, 24, 0), (13, 5, 0, 0), (14, 0, 0, 4), (15, 51, 0, 0), (17, 42, 25, 0), (20, 5, 0, 0), (21, 1, 0, 120), (23, 51, 0, 0), (25, 42, 26, 0), (28, 5, 0, 0), (29, 1, 0, 100), (31, 51, 0, 0), (33, 42, 27, 0), (36, 5, 0, 0), (37, 1, 0, 100), (39, 51, 0, 0), (41, 42, 28, 0), (44, 103, 0, 0)]
def mm_c_X5_thrown : List mm_E := [(0, 5, 0, 0), (1, 40, 29, 0), (4, 100, 0, 0)]
def mm_c_X5_holds : List mm_E := [(0, 5, 0, 0), (1, 3, 1, 0), (2, 41, 29, 0), (5, 3, 1, 0), (6, 26, 7, 7), (9, 0, 0, 1), (10, 24, 8, 4), (13, 0, 0, 0), (14, 101, 0, 0)]
def mm_c_X5_isText : List mm_E := [(0, 3, 1, 0), (1, 27, 8, 15), (4, 3, 1, 0), (5, 5, 0, 0), (6, 40, 30, 0), (9, 34, 8, 7), (12, 0, 0, 1), (13, 24, 9, 4), (16, 0, 0, 0), (17, 101, 0, 0)]
def mm_c_X5_clear : List mm_E := [(0, 5, 0, 0), (1, 0, 0, 0), (2, 41, 29, 0), (5, 5, 0, 0), (6, 0, 0, 0), (7, 41, 30, 0), (10, 5, 0, 0), (11, 0, 0, 0), (12, 41, 31, 0), (15, 5, 0, 0), (16, 0, 0, 0), (17, 41, 32, 0), (20, 103, 0, 0)]
def mm_c_X5_open : List mm_E := [(0, 5, 0, 0), (1, 5, 0, 0), (2, 40, 30, 0), (5, 0, 0, 4), (6, 32, 7, 7), (9, 0, 0, 1), (10, 24, 8, 4), (13, 0, 0, 0), (14, 105, 62, 0), (17, 26, 12, 5), (20, 0, 0, 0), (21, 100, 0, 0), (22, 5, 0, 0), (23, 40, 25, 0), (26, 5, 0, 0), (27, 40, 30, 0), (30, 0, 0, 0), (31, 44, 0, 0), (32, 5, 0, 0), (33, 21, 0, 0), (34, 40, 30, 0), (37, 0, 0, 1), (38, 11, 0, 0), (39, 41, 30, 0), (42, 5, 0, 0), (43, 40, 30, 0), (46, 0, 0, 1), (47, 12, 0, 0), (48, 100, 0, 0)]
def mm_c_X5_isLetter : List mm_E := [(0, 3, 0, 0), (1, 27, 7, 13), (4, 3, 0, 0), (5, 1, 0, 26), (7, 34, 7, 7), (10, 0, 0, 1), (11, 24, 8, 4), (14, 0, 0, 0), (15, 101, 0, 0)]
def mm_c_X5_append : List mm_E := [(0, 5, 0, 0), (1, 5, 0, 0), (2, 3, 1, 0), (3, 105, 63, 0), (6, 26, 7, 7), (9, 0, 0, 1), (10, 24, 19, 28), (13, 3, 2, 0), (14, 106, 64, 0), (17, 26, 12, 7), (20, 0, 0, 2), (21, 24, 19, 17), (24, 5, 0, 0), (25, 40, 31, 0), (28, 1, 0, 100), (30, 32, 18, 7), (33, 0, 0, 3), (34, 24, 19, 4), (37, 0, 0, 0), (38, 105, 62, 0), (41, 26, 23, 5), (44, 0, 0, 0), (45, 100, 0, 0), (46, 5, 0, 0), (47, 40, 24, 0), (50, 1, 0, 100), (52, 3, 1, 0), (53, 13, 0, 0), (54, 5, 0, 0), (55, 40, 25, 0), (58, 3, 1, 0), (59, 43, 0, 0), (60, 11, 0, 0), (61, 3, 2, 0), (62, 44, 0, 0), (63, 5, 0, 0), (64, 40, 25, 0), (67, 3, 1, 0), (68, 22, 0, 0), (69, 43, 0, 0), (70, 0, 0, 1), (71, 11, 0, 0), (72, 44, 0, 0), (73, 5, 0, 0), (74, 21, 0, 0), (75, 40, 31, 0), (78, 0, 0, 1), (79, 11, 0, 0), (80, 41, 31, 0), (83, 5, 0, 0), (84, 40, 25, 0), (87, 3, 1, 0), (88, 43, 0, 0), (89, 100, 0, 0)]
def mm_c_X5_texts : List mm_E := [(0, 5, 0, 0), (1, 0, 0, 0), (2, 41, 29, 0), (5, 5, 0, 0), (6, 40, 30, 0), (9, 100, 0, 0)]
def mm_c_X5_length : List mm_E := [(0, 5, 0, 0), (1, 5, 0, 0), (2, 3, 1, 0), (3, 105, 63, 0), (6, 25, 7, 7), (9, 0, 0, 0), (10, 24, 8, 4), (13, 0, 0, 1), (14, 105, 62, 0), (17, 25, 15, 12), (20, 5, 0, 0), (21, 40, 25, 0), (24, 3, 1, 0), (25, 43, 0, 0), (26, 24, 16, 4), (29, 0, 0, 0), (30, 100, 0, 0)]
def mm_c_X5_letterAt : List mm_E := [(0, 5, 0, 0), (1, 3, 1, 0), (2, 105, 63, 0), (5, 25, 14, 21), (8, 3, 2, 0), (9, 27, 14, 17), (12, 3, 2, 0), (13, 5, 0, 0), (14, 40, 25, 0), (17, 3, 1, 0), (18, 43, 0, 0), (19, 34, 14, 7), (22, 0, 0, 1), (23, 24, 15, 4), (26, 0, 0, 0), (27, 7, 3, 0), (28, 5, 0, 0), (29, 3, 3, 0), (30, 25, 21, 7), (33, 0, 0, 0), (34, 24, 22, 4), (37, 0, 0, 1), (38, 105, 62, 0), (41, 25, 33, 17), (44, 5, 0, 0), (45, 40, 24, 0), (48, 1, 0, 100), (50, 3, 1, 0), (51, 13, 0, 0), (52, 3, 2, 0), (53, 11, 0, 0), (54, 43, 0, 0), (55, 24, 34, 4), (58, 0, 0, 0), (59, 100, 0, 0)]
def mm_c_X5_type : List mm_E := [(0, 5, 0, 0), (1, 3, 1, 0), (2, 106, 64, 0), (5, 26, 6, 7), (8, 0, 0, 1), (9, 24, 13, 17), (12, 5, 0, 0), (13, 40, 32, 0), (16, 1, 0, 120), (18, 32, 12, 7), (21, 0, 0, 2), (22, 24, 13, 4), (25, 0, 0, 0), (26, 105, 62, 0), (29, 26, 17, 5), (32, 0, 0, 0), (33, 100, 0, 0), (34, 5, 0, 0), (35, 40, 26, 0), (38, 5, 0, 0), (39, 40, 32, 0), (42, 3, 1, 0), (43, 44, 0, 0), (44, 5, 0, 0), (45, 21, 0, 0), (46, 40, 32, 0), (49, 0, 0, 1), (50, 11, 0, 0), (51, 41, 32, 0), (54, 5, 0, 0), (55, 40, 32, 0), (58, 100, 0, 0)]
def mm_c_X5_erase : List mm_E := [(0, 5, 0, 0), (1, 5, 0, 0), (2, 40, 32, 0), (5, 26, 6, 7), (8, 0, 0, 1), (9, 24, 7, 4), (12, 0, 0, 0), (13, 105, 62, 0), (16, 26, 11, 5), (19, 0, 0, 0), (20, 100, 0, 0), (21, 5, 0, 0), (22, 21, 0, 0), (23, 40, 32, 0), (26, 0, 0, 1), (27, 12, 0, 0), (28, 41, 32, 0), (31, 5, 0, 0), (32, 40, 26, 0), (35, 5, 0, 0), (36, 40, 32, 0), (39, 43, 0, 0), (40, 100, 0, 0)]
def mm_c_X5_wipe : List mm_E := [(0, 5, 0, 0), (1, 0, 0, 0), (2, 41, 29, 0), (5, 5, 0, 0), (6, 40, 32, 0), (9, 7, 1, 0), (10, 5, 0, 0), (11, 0, 0, 0), (12, 41, 32, 0), (15, 3, 1, 0), (16, 100, 0, 0)]
def mm_c_X5_lays : List mm_E := [(0, 0, 0, 0), (1, 7, 3, 0), (2, 3, 3, 0), (3, 3, 2, 0), (4, 34, 17, 23), (7, 5, 0, 0), (8, 40, 26, 0), (11, 3, 3, 0), (12, 5, 0, 0), (13, 40, 24, 0), (16, 3, 1, 0), (17, 3, 3, 0), (18, 11, 0, 0), (19, 43, 0, 0), (20, 44, 0, 0), (21, 20, 3, 1), (24, 24, 2, (-22)), (27, 5, 0, 0), (28, 3, 2, 0), (29, 41, 32, 0), (32, 103, 0, 0)]
def mm_c_X5_copy : List mm_E := [(0, 5, 0, 0), (1, 3, 1, 0), (2, 105, 63, 0), (5, 8, 4, 0), (7, 5, 0, 0), (8, 4, 4, 0), (10, 26, 9, 7), (13, 0, 0, 1), (14, 24, 30, 38), (17, 3, 2, 0), (18, 27, 27, 29), (21, 3, 3, 0), (22, 27, 27, 25), (25, 3, 2, 0), (26, 5, 0, 0), (27, 40, 25, 0), (30, 3, 1, 0), (31, 43, 0, 0), (32, 35, 27, 15), (35, 3, 3, 0), (36, 5, 0, 0), (37, 40, 25, 0), (40, 3, 1, 0), (41, 43, 0, 0), (42, 3, 2, 0), (43, 12, 0, 0), (44, 36, 29, 7), (47, 0, 0, 2), (48, 24, 30, 4), (51, 0, 0, 0), (52, 105, 62, 0), (55, 25, 40, 14), (58, 5, 0, 0), (59, 1, 0, 100), (61, 3, 1, 0), (62, 13, 0, 0), (63, 3, 2, 0), (64, 11, 0, 0), (65, 3, 3, 0), (66, 105, 65, 0), (69, 103, 0, 0)]
def mm_c_X5_patternLength : List mm_E := [(0, 5, 0, 0), (1, 0, 0, 0), (2, 41, 29, 0), (5, 5, 0, 0), (6, 40, 32, 0), (9, 100, 0, 0)]
def mm_c_X5_patternAt : List mm_E := [(0, 5, 0, 0), (1, 3, 1, 0), (2, 27, 9, 15), (5, 3, 1, 0), (6, 5, 0, 0), (7, 40, 32, 0), (10, 34, 9, 7), (13, 0, 0, 0), (14, 24, 10, 4), (17, 0, 0, 1), (18, 105, 62, 0), (21, 25, 17, 12), (24, 5, 0, 0), (25, 40, 26, 0), (28, 3, 1, 0), (29, 43, 0, 0), (30, 24, 18, 4), (33, 0, 0, 0), (34, 100, 0, 0)]
def mm_c_X5_stands : List mm_E := [(0, 3, 1, 0), (1, 5, 0, 0), (2, 40, 32, 0), (5, 34, 19, 28), (8, 3, 3, 0), (9, 27, 19, 24), (12, 3, 3, 0), (13, 5, 0, 0), (14, 40, 32, 0), (17, 11, 0, 0), (18, 3, 1, 0), (19, 12, 0, 0), (20, 5, 0, 0), (21, 40, 25, 0), (24, 3, 2, 0), (25, 43, 0, 0), (26, 35, 19, 7), (29, 0, 0, 1), (30, 24, 20, 4), (33, 0, 0, 0), (34, 8, 4, 0), (36, 3, 1, 0), (37, 8, 5, 0), (39, 4, 5, 0), (41, 5, 0, 0), (42, 40, 32, 0), (45, 34, 52, 47), (48, 4, 4, 0), (50, 25, 52, 42), (53, 5, 0, 0), (54, 40, 24, 0), (57, 1, 0, 100), (59, 3, 2, 0), (60, 13, 0, 0), (61, 3, 3, 0), (62, 11, 0, 0), (63, 4, 5, 0), (65, 11, 0, 0), (66, 3, 1, 0), (67, 12, 0, 0), (68, 43, 0, 0), (69, 5, 0, 0), (70, 40, 26, 0), (73, 4, 5, 0), (75, 43, 0, 0), (76, 32, 48, 7), (79, 0, 0, 1), (80, 24, 49, 4), (83, 0, 0, 0), (84, 8, 4, 0), (86, 20, 5, 1), (89, 24, 23, (-50)), (92, 4, 4, 0), (94, 101, 0, 0)]
def mm_c_X5_countIn : List mm_E := [(0, 0, 0, 0), (1, 7, 3, 0), (2, 0, 0, 0), (3, 8, 4, 0), (5, 4, 4, 0), (7, 5, 0, 0), (8, 40, 25, 0), (11, 3, 2, 0), (12, 43, 0, 0), (13, 34, 24, 28), (16, 3, 3, 0), (17, 5, 0, 0), (18, 3, 1, 0), (19, 3, 2, 0), (20, 4, 4, 0), (22, 105, 66, 0), (25, 25, 19, 7), (28, 0, 0, 1), (29, 24, 20, 4), (32, 0, 0, 0), (33, 11, 0, 0), (34, 7, 3, 0), (35, 20, 4, 1), (38, 24, 4, (-33)), (41, 3, 3, 0), (42, 100, 0, 0)]
def mm_c_X5_count : List mm_E := [(0, 0, 0, 0), (1, 7, 2, 0), (2, 0, 0, 0), (3, 7, 3, 0), (4, 3, 3, 0), (5, 5, 0, 0), (6, 40, 30, 0), (9, 34, 17, 18), (12, 3, 2, 0), (13, 5, 0, 0), (14, 3, 1, 0), (15, 3, 3, 0), (16, 105, 67, 0), (19, 11, 0, 0), (20, 7, 2, 0), (21, 20, 3, 1), (24, 24, 4, (-20)), (27, 3, 2, 0), (28, 100, 0, 0)]
def mm_c_X5_isPart : List mm_E := [(0, 5, 0, 0), (1, 0, 0, 0), (2, 41, 29, 0), (5, 5, 0, 0), (6, 0, 0, 0), (7, 105, 68, 0), (10, 30, 9, 7), (13, 0, 0, 1), (14, 24, 10, 4), (17, 0, 0, 0), (18, 101, 0, 0)]
def mm_c_X5_occurrences : List mm_E := [(0, 5, 0, 0), (1, 0, 0, 0), (2, 41, 29, 0), (5, 5, 0, 0), (6, 0, 0, 0), (7, 105, 68, 0), (10, 100, 0, 0)]
def mm_c_X5_occurrencesIn : List mm_E := [(0, 5, 0, 0), (1, 5, 0, 0), (2, 3, 1, 0), (3, 105, 63, 0), (6, 25, 7, 7), (9, 0, 0, 0), (10, 24, 8, 4), (13, 0, 0, 1), (14, 105, 62, 0), (17, 25, 15, 12), (20, 5, 0, 0), (21, 0, 0, 0), (22, 3, 1, 0), (23, 105, 67, 0), (26, 24, 16, 4), (29, 0, 0, 0), (30, 100, 0, 0)]
def mm_c_X5_first : List mm_E := [(0, 5, 0, 0), (1, 5, 0, 0), (2, 3, 1, 0), (3, 105, 63, 0), (6, 25, 7, 7), (9, 0, 0, 0), (10, 24, 8, 4), (13, 0, 0, 1), (14, 105, 62, 0), (17, 26, 12, 5), (20, 0, 0, 0), (21, 100, 0, 0), (22, 0, 0, (-1)), (23, 7, 2, 0), (24, 5, 0, 0), (25, 40, 25, 0), (28, 3, 1, 0), (29, 43, 0, 0), (30, 0, 0, 1), (31, 12, 0, 0), (32, 7, 3, 0), (33, 3, 3, 0), (34, 27, 35, 25), (37, 5, 0, 0), (38, 0, 0, 0), (39, 3, 1, 0), (40, 3, 3, 0), (41, 105, 66, 0), (44, 25, 31, 7), (47, 3, 3, 0), (48, 24, 32, 4), (51, 3, 2, 0), (52, 7, 2, 0), (53, 20, 3, (-1)), (56, 24, 21, (-23)), (59, 3, 2, 0), (60, 100, 0, 0)]
def mm_c_X5_last : List mm_E := [(0, 5, 0, 0), (1, 5, 0, 0), (2, 3, 1, 0), (3, 105, 63, 0), (6, 25, 7, 7), (9, 0, 0, 0), (10, 24, 8, 4), (13, 0, 0, 1), (14, 105, 62, 0), (17, 26, 12, 5), (20, 0, 0, 0), (21, 100, 0, 0), (22, 0, 0, (-1)), (23, 7, 2, 0), (24, 0, 0, 0), (25, 7, 3, 0), (26, 3, 3, 0), (27, 5, 0, 0), (28, 40, 25, 0), (31, 3, 1, 0), (32, 43, 0, 0), (33, 34, 34, 25), (36, 5, 0, 0), (37, 0, 0, 0), (38, 3, 1, 0), (39, 3, 3, 0), (40, 105, 66, 0), (43, 25, 30, 7), (46, 3, 3, 0), (47, 24, 31, 4), (50, 3, 2, 0), (51, 7, 2, 0), (52, 20, 3, 1), (55, 24, 16, (-29)), (58, 3, 2, 0), (59, 100, 0, 0)]
def mm_c_X5_beside : List mm_E := [(0, 0, 0, 0), (1, 7, 2, 0), (2, 0, 0, 0), (3, 7, 3, 0), (4, 3, 3, 0), (5, 5, 0, 0), (6, 40, 30, 0), (9, 34, 67, 114), (12, 0, 0, 0), (13, 8, 4, 0), (15, 4, 4, 0), (17, 5, 0, 0), (18, 40, 25, 0), (21, 3, 3, 0), (22, 43, 0, 0), (23, 34, 65, 94), (26, 4, 4, 0), (28, 3, 1, 0), (29, 11, 0, 0), (30, 8, 5, 0), (32, 5, 0, 0), (33, 40, 32, 0), (36, 25, 37, 30), (39, 5, 0, 0), (40, 0, 0, 0), (41, 3, 3, 0), (42, 4, 4, 0), (44, 105, 66, 0), (47, 25, 39, 23), (50, 4, 5, 0), (52, 27, 39, 18), (55, 4, 5, 0), (57, 5, 0, 0), (58, 40, 25, 0), (61, 3, 3, 0), (62, 43, 0, 0), (63, 34, 39, 7), (66, 0, 0, 1), (67, 24, 40, 4), (70, 0, 0, 0), (71, 8, 6, 0), (73, 3, 2, 0), (74, 4, 6, 0), (76, 25, 60, 32), (79, 0, 0, 1), (80, 5, 0, 0), (81, 40, 24, 0), (84, 1, 0, 100), (86, 3, 3, 0), (87, 13, 0, 0), (88, 5, 0, 0), (89, 40, 32, 0), (92, 26, 55, 8), (95, 4, 4, 0), (97, 24, 56, 5), (100, 4, 5, 0), (102, 11, 0, 0), (103, 43, 0, 0), (104, 16, 0, 0), (105, 24, 61, 4), (108, 0, 0, 0), (109, 19, 0, 0), (110, 7, 2, 0), (111, 20, 4, 1), (114, 24, 10, (-99)), (117, 20, 3, 1), (120, 24, 4, (-116)), (123, 3, 2, 0), (124, 100, 0, 0)]
def mm_c_X5_followers : List mm_E := [(0, 5, 0, 0), (1, 0, 0, 0), (2, 41, 29, 0), (5, 5, 0, 0), (6, 5, 0, 0), (7, 40, 32, 0), (10, 105, 69, 0), (13, 100, 0, 0)]
def mm_c_X5_leaders : List mm_E := [(0, 5, 0, 0), (1, 0, 0, 0), (2, 41, 29, 0), (5, 5, 0, 0), (6, 0, 0, (-1)), (7, 105, 69, 0), (10, 100, 0, 0)]
def mm_c_X5_left : List mm_E := [(0, 5, 0, 0), (1, 40, 25, 0), (4, 3, 1, 0), (5, 1, 0, 100), (7, 14, 0, 0), (8, 43, 0, 0), (9, 3, 1, 0), (10, 1, 0, 100), (12, 15, 0, 0), (13, 12, 0, 0), (14, 100, 0, 0)]
def mm_c_X5_same : List mm_E := [(0, 0, 0, 0), (1, 7, 3, 0), (2, 3, 3, 0), (3, 5, 0, 0), (4, 3, 1, 0), (5, 105, 70, 0), (8, 34, 27, 37), (11, 3, 3, 0), (12, 5, 0, 0), (13, 3, 2, 0), (14, 105, 70, 0), (17, 34, 27, 28), (20, 5, 0, 0), (21, 40, 24, 0), (24, 3, 1, 0), (25, 3, 3, 0), (26, 11, 0, 0), (27, 43, 0, 0), (28, 5, 0, 0), (29, 40, 24, 0), (32, 3, 2, 0), (33, 3, 3, 0), (34, 11, 0, 0), (35, 43, 0, 0), (36, 32, 27, 9), (39, 20, 3, 1), (42, 24, 2, (-40)), (45, 3, 3, 0), (46, 100, 0, 0)]
def mm_c_X5_comes : List mm_E := [(0, 5, 0, 0), (1, 3, 1, 0), (2, 3, 2, 0), (3, 105, 71, 0), (6, 7, 3, 0), (7, 3, 3, 0), (8, 5, 0, 0), (9, 3, 1, 0), (10, 105, 70, 0), (13, 32, 19, 20), (16, 3, 3, 0), (17, 5, 0, 0), (18, 3, 2, 0), (19, 105, 70, 0), (22, 34, 17, 7), (25, 0, 0, 1), (26, 24, 40, 40), (29, 0, 0, 0), (30, 24, 40, 36), (33, 3, 3, 0), (34, 5, 0, 0), (35, 3, 2, 0), (36, 105, 70, 0), (39, 34, 39, 26), (42, 5, 0, 0), (43, 40, 24, 0), (46, 3, 1, 0), (47, 3, 3, 0), (48, 11, 0, 0), (49, 43, 0, 0), (50, 5, 0, 0), (51, 40, 24, 0), (54, 3, 2, 0), (55, 3, 3, 0), (56, 11, 0, 0), (57, 43, 0, 0), (58, 34, 39, 7), (61, 0, 0, 1), (62, 24, 40, 4), (65, 0, 0, 0), (66, 101, 0, 0)]
def mm_c_X5_sorts : List mm_E := [(0, 0, 0, 0), (1, 7, 1, 0), (2, 0, 0, 0), (3, 7, 2, 0), (4, 3, 2, 0), (5, 5, 0, 0), (6, 40, 30, 0), (9, 34, 60, 95), (12, 0, 0, 0), (13, 7, 3, 0), (14, 3, 3, 0), (15, 5, 0, 0), (16, 40, 25, 0), (19, 3, 2, 0), (20, 43, 0, 0), (21, 34, 58, 77), (24, 3, 1, 0), (25, 8, 4, 0), (27, 4, 4, 0), (29, 30, 46, 47), (32, 5, 0, 0), (33, 1, 0, 100), (35, 3, 2, 0), (36, 13, 0, 0), (37, 3, 3, 0), (38, 11, 0, 0), (39, 5, 0, 0), (40, 40, 27, 0), (43, 4, 4, 0), (45, 0, 0, 1), (46, 12, 0, 0), (47, 43, 0, 0), (48, 105, 72, 0), (51, 25, 46, 25), (54, 5, 0, 0), (55, 40, 27, 0), (58, 4, 4, 0), (60, 5, 0, 0), (61, 40, 27, 0), (64, 4, 4, 0), (66, 0, 0, 1), (67, 12, 0, 0), (68, 43, 0, 0), (69, 44, 0, 0), (70, 20, 4, (-1)), (73, 24, 18, (-46)), (76, 5, 0, 0), (77, 40, 27, 0), (80, 4, 4, 0), (82, 1, 0, 100), (84, 3, 2, 0), (85, 13, 0, 0), (86, 3, 3, 0), (87, 11, 0, 0), (88, 44, 0, 0), (89, 20, 1, 1), (92, 20, 3, 1), (95, 24, 10, (-81)), (98, 20, 2, 1), (101, 24, 4, (-97)), (104, 0, 0, 0), (105, 7, 2, 0), (106, 3, 2, 0), (107, 3, 1, 0), (108, 34, 87, 41), (111, 5, 0, 0), (112, 40, 28, 0), (115, 3, 2, 0), (116, 3, 2, 0), (117, 26, 72, 7), (120, 0, 0, 0), (121, 24, 84, 21), (124, 5, 0, 0), (125, 5, 0, 0), (126, 40, 27, 0), (129, 3, 2, 0), (130, 0, 0, 1), (131, 12, 0, 0), (132, 43, 0, 0), (133, 5, 0, 0), (134, 40, 27, 0), (137, 3, 2, 0), (138, 43, 0, 0), (139, 105, 71, 0), (142, 44, 0, 0), (143, 20, 2, 1), (146, 24, 62, (-40)), (149, 103, 0, 0)]
def mm_c_X5_looks : List mm_E := [(0, 5, 0, 0), (1, 0, 0, 0), (2, 41, 33, 0), (5, 5, 0, 0), (6, 0, 0, 0), (7, 41, 34, 0), (10, 5, 0, 0), (11, 0, 0, 0), (12, 41, 35, 0), (15, 5, 0, 0), (16, 0, 0, 0), (17, 41, 36, 0), (20, 0, 0, 1), (21, 7, 3, 0), (22, 3, 1, 0), (23, 8, 4, 0), (25, 4, 4, 0), (27, 5, 0, 0), (28, 40, 31, 0), (31, 34, 102, 149), (34, 3, 3, 0), (35, 25, 102, 145), (38, 5, 0, 0), (39, 21, 0, 0), (40, 40, 33, 0), (43, 0, 0, 1), (44, 11, 0, 0), (45, 41, 33, 0), (48, 5, 0, 0), (49, 21, 0, 0), (50, 40, 34, 0), (53, 0, 0, 1), (54, 5, 0, 0), (55, 40, 27, 0), (58, 4, 4, 0), (60, 43, 0, 0), (61, 1, 0, 100), (63, 14, 0, 0), (64, 16, 0, 0), (65, 19, 0, 0), (66, 41, 34, 0), (69, 5, 0, 0), (70, 40, 27, 0), (73, 4, 4, 0), (75, 43, 0, 0), (76, 1, 0, 100), (78, 15, 0, 0), (79, 26, 50, 7), (82, 0, 0, 1), (83, 24, 51, 4), (86, 0, 0, 0), (87, 8, 5, 0), (89, 5, 0, 0), (90, 5, 0, 0), (91, 40, 36, 0), (94, 26, 58, 8), (97, 4, 5, 0), (99, 25, 60, 7), (102, 0, 0, 1), (103, 24, 61, 4), (106, 0, 0, 0), (107, 41, 36, 0), (110, 5, 0, 0), (111, 21, 0, 0), (112, 40, 35, 0), (115, 4, 5, 0), (117, 25, 69, 7), (120, 0, 0, 0), (121, 24, 80, 19), (124, 0, 0, 1), (125, 5, 0, 0), (126, 40, 24, 0), (129, 5, 0, 0), (130, 40, 27, 0), (133, 4, 4, 0), (135, 43, 0, 0), (136, 0, 0, 1), (137, 12, 0, 0), (138, 43, 0, 0), (139, 16, 0, 0), (140, 19, 0, 0), (141, 41, 35, 0), (144, 4, 4, 0), (146, 0, 0, 1), (147, 11, 0, 0), (148, 5, 0, 0), (149, 40, 31, 0), (152, 34, 98, 20), (155, 5, 0, 0), (156, 40, 28, 0), (159, 4, 4, 0), (161, 0, 0, 1), (162, 11, 0, 0), (163, 43, 0, 0), (164, 3, 2, 0), (165, 33, 98, 7), (168, 0, 0, 1), (169, 24, 99, 4), (172, 0, 0, 0), (173, 7, 3, 0), (174, 20, 4, 1), (177, 24, 16, (-152)), (180, 103, 0, 0)]
def mm_c_X5_classes : List mm_E := [(0, 5, 0, 0), (1, 0, 0, 0), (2, 41, 29, 0), (5, 5, 0, 0), (6, 105, 73, 0), (9, 0, 0, 0), (10, 7, 1, 0), (11, 0, 0, 0), (12, 7, 2, 0), (13, 3, 2, 0), (14, 5, 0, 0), (15, 40, 31, 0), (18, 34, 53, 73), (21, 5, 0, 0), (22, 40, 28, 0), (25, 3, 2, 0), (26, 43, 0, 0), (27, 0, 0, 1), (28, 11, 0, 0), (29, 7, 3, 0), (30, 3, 3, 0), (31, 5, 0, 0), (32, 5, 0, 0), (33, 40, 27, 0), (36, 3, 2, 0), (37, 43, 0, 0), (38, 105, 70, 0), (41, 35, 51, 44), (44, 5, 0, 0), (45, 3, 2, 0), (46, 3, 3, 0), (47, 105, 74, 0), (50, 3, 1, 0), (51, 5, 0, 0), (52, 40, 36, 0), (55, 26, 44, 17), (58, 5, 0, 0), (59, 40, 35, 0), (62, 5, 0, 0), (63, 40, 35, 0), (66, 0, 0, 1), (67, 12, 0, 0), (68, 18, 0, 0), (69, 25, 46, 7), (72, 0, 0, 1), (73, 24, 47, 4), (76, 0, 0, 0), (77, 11, 0, 0), (78, 7, 1, 0), (79, 20, 3, 1), (82, 24, 20, (-52)), (85, 20, 2, 1), (88, 24, 9, (-75)), (91, 3, 1, 0), (92, 100, 0, 0)]
def mm_c_X5_areLed : List mm_E := [(0, 0, 0, (-1)), (1, 7, 2, 0), (2, 0, 0, 1), (3, 7, 3, 0), (4, 0, 0, 0), (5, 8, 4, 0), (7, 4, 4, 0), (9, 5, 0, 0), (10, 40, 30, 0), (13, 34, 61, 99), (16, 0, 0, 0), (17, 8, 5, 0), (19, 4, 5, 0), (21, 5, 0, 0), (22, 40, 25, 0), (25, 4, 4, 0), (27, 43, 0, 0), (28, 34, 59, 78), (31, 3, 3, 0), (32, 25, 59, 74), (35, 5, 0, 0), (36, 0, 0, 0), (37, 4, 4, 0), (39, 4, 5, 0), (41, 105, 66, 0), (44, 25, 57, 56), (47, 4, 5, 0), (49, 3, 1, 0), (50, 34, 31, 7), (53, 0, 0, (-1)), (54, 24, 41, 18), (57, 5, 0, 0), (58, 40, 24, 0), (61, 1, 0, 100), (63, 4, 4, 0), (65, 13, 0, 0), (66, 4, 5, 0), (68, 11, 0, 0), (69, 3, 1, 0), (70, 12, 0, 0), (71, 43, 0, 0), (72, 8, 6, 0), (74, 4, 6, 0), (76, 0, 0, (-1)), (77, 31, 53, 18), (80, 3, 2, 0), (81, 0, 0, (-1)), (82, 31, 51, 9), (85, 4, 6, 0), (87, 3, 2, 0), (88, 32, 53, 7), (91, 0, 0, 1), (92, 24, 54, 4), (95, 0, 0, 0), (96, 7, 3, 0), (97, 4, 6, 0), (99, 7, 2, 0), (100, 20, 5, 1), (103, 24, 12, (-84)), (106, 20, 4, 1), (109, 24, 6, (-102)), (112, 3, 3, 0), (113, 101, 0, 0)]
def mm_c_X5_longestAlike : List mm_E := [(0, 5, 0, 0), (1, 0, 0, 0), (2, 41, 29, 0), (5, 5, 0, 0), (6, 0, 0, 0), (7, 105, 68, 0), (10, 26, 9, 5), (13, 0, 0, (-1)), (14, 100, 0, 0), (15, 0, 0, 0), (16, 7, 1, 0), (17, 5, 0, 0), (18, 3, 1, 0), (19, 0, 0, 1), (20, 11, 0, 0), (21, 105, 75, 0), (24, 25, 19, 9), (27, 20, 1, 1), (30, 24, 11, (-13)), (33, 5, 0, 0), (34, 40, 32, 0), (37, 3, 1, 0), (38, 11, 0, 0), (39, 100, 0, 0)]
def mm_c_X5_shortestAlike : List mm_E := [(0, 5, 0, 0), (1, 0, 0, 0), (2, 41, 29, 0), (5, 5, 0, 0), (6, 0, 0, 0), (7, 105, 68, 0), (10, 7, 1, 0), (11, 3, 1, 0), (12, 26, 11, 5), (15, 0, 0, (-1)), (16, 100, 0, 0), (17, 0, 0, 0), (18, 7, 2, 0), (19, 3, 2, 0), (20, 0, 0, 1), (21, 11, 0, 0), (22, 5, 0, 0), (23, 40, 32, 0), (26, 34, 28, 20), (29, 5, 0, 0), (30, 3, 2, 0), (31, 0, 0, 1), (32, 11, 0, 0), (33, 105, 68, 0), (36, 3, 1, 0), (37, 32, 28, 9), (40, 20, 2, 1), (43, 24, 13, (-24)), (46, 5, 0, 0), (47, 40, 32, 0), (50, 3, 2, 0), (51, 12, 0, 0), (52, 100, 0, 0)]
def mm_c_X5_partsNow : List mm_E := [(0, 5, 0, 0), (1, 105, 73, 0), (4, 0, 0, 0), (5, 7, 1, 0), (6, 0, 0, 0), (7, 7, 2, 0), (8, 3, 2, 0), (9, 5, 0, 0), (10, 40, 31, 0), (13, 34, 26, 29), (16, 3, 1, 0), (17, 5, 0, 0), (18, 5, 0, 0), (19, 40, 27, 0), (22, 3, 2, 0), (23, 43, 0, 0), (24, 105, 70, 0), (27, 5, 0, 0), (28, 40, 28, 0), (31, 3, 2, 0), (32, 43, 0, 0), (33, 12, 0, 0), (34, 11, 0, 0), (35, 7, 1, 0), (36, 20, 2, 1), (39, 24, 6, (-31)), (42, 3, 1, 0), (43, 100, 0, 0)]
def mm_c_X5_parts : List mm_E := [(0, 5, 0, 0), (1, 0, 0, 0), (2, 41, 29, 0), (5, 5, 0, 0), (6, 105, 76, 0), (9, 100, 0, 0)]
def mm_c_X5_agreed : List mm_E := [(0, 0, 0, 0), (1, 7, 2, 0), (2, 3, 2, 0), (3, 5, 0, 0), (4, 40, 32, 0), (7, 34, 24, 35), (10, 3, 2, 0), (11, 5, 0, 0), (12, 3, 1, 0), (13, 105, 70, 0), (16, 34, 24, 26), (19, 5, 0, 0), (20, 40, 24, 0), (23, 3, 1, 0), (24, 3, 2, 0), (25, 11, 0, 0), (26, 43, 0, 0), (27, 5, 0, 0), (28, 40, 26, 0), (31, 3, 2, 0), (32, 43, 0, 0), (33, 32, 24, 9), (36, 20, 2, 1), (39, 24, 2, (-37)), (42, 3, 2, 0), (43, 100, 0, 0)]
def mm_c_X5_rank : List mm_E := [(0, 5, 0, 0), (1, 0, 0, 0), (2, 41, 29, 0), (5, 5, 0, 0), (6, 105, 73, 0), (9, 0, 0, 0), (10, 7, 1, 0), (11, 0, 0, 0), (12, 7, 2, 0), (13, 3, 2, 0), (14, 5, 0, 0), (15, 40, 31, 0), (18, 34, 79, 116), (21, 5, 0, 0), (22, 5, 0, 0), (23, 40, 27, 0), (26, 3, 2, 0), (27, 43, 0, 0), (28, 105, 77, 0), (31, 7, 3, 0), (32, 3, 3, 0), (33, 5, 0, 0), (34, 40, 32, 0), (37, 32, 29, 12), (40, 5, 0, 0), (41, 40, 32, 0), (44, 0, 0, 1), (45, 12, 0, 0), (46, 24, 59, 53), (49, 3, 3, 0), (50, 5, 0, 0), (51, 5, 0, 0), (52, 40, 27, 0), (55, 3, 2, 0), (56, 43, 0, 0), (57, 105, 70, 0), (60, 34, 58, 38), (63, 5, 0, 0), (64, 40, 24, 0), (67, 5, 0, 0), (68, 40, 27, 0), (71, 3, 2, 0), (72, 43, 0, 0), (73, 3, 3, 0), (74, 11, 0, 0), (75, 43, 0, 0), (76, 5, 0, 0), (77, 40, 26, 0), (80, 3, 3, 0), (81, 43, 0, 0), (82, 34, 58, 16), (85, 5, 0, 0), (86, 5, 0, 0), (87, 40, 27, 0), (90, 3, 2, 0), (91, 43, 0, 0), (92, 105, 70, 0), (95, 24, 59, 4), (98, 3, 3, 0), (99, 8, 4, 0), (101, 3, 1, 0), (102, 4, 4, 0), (104, 5, 0, 0), (105, 40, 28, 0), (108, 3, 2, 0), (109, 43, 0, 0), (110, 36, 74, 15), (113, 4, 4, 0), (115, 5, 0, 0), (116, 40, 28, 0), (119, 3, 2, 0), (120, 43, 0, 0), (121, 12, 0, 0), (122, 24, 75, 4), (125, 0, 0, 0), (126, 11, 0, 0), (127, 7, 1, 0), (128, 20, 2, 1), (131, 24, 9, (-118)), (134, 3, 1, 0), (135, 100, 0, 0)]
def mm_c_X5_toPart : List mm_E := [(0, 5, 0, 0), (1, 3, 1, 0), (2, 27, 7, 11), (5, 3, 1, 0), (6, 5, 0, 0), (7, 105, 76, 0), (10, 33, 9, 7), (13, 0, 0, 1), (14, 24, 10, 4), (17, 0, 0, 0), (18, 105, 62, 0), (21, 26, 14, 5), (24, 0, 0, 0), (25, 100, 0, 0), (26, 3, 1, 0), (27, 7, 2, 0), (28, 0, 0, 0), (29, 7, 3, 0), (30, 3, 2, 0), (31, 5, 0, 0), (32, 5, 0, 0), (33, 40, 27, 0), (36, 3, 3, 0), (37, 43, 0, 0), (38, 105, 70, 0), (41, 5, 0, 0), (42, 40, 28, 0), (45, 3, 3, 0), (46, 43, 0, 0), (47, 12, 0, 0), (48, 33, 47, 29), (51, 3, 2, 0), (52, 5, 0, 0), (53, 5, 0, 0), (54, 40, 27, 0), (57, 3, 3, 0), (58, 43, 0, 0), (59, 105, 70, 0), (62, 5, 0, 0), (63, 40, 28, 0), (66, 3, 3, 0), (67, 43, 0, 0), (68, 12, 0, 0), (69, 12, 0, 0), (70, 7, 2, 0), (71, 20, 3, 1), (74, 24, 18, (-44)), (77, 5, 0, 0), (78, 5, 0, 0), (79, 40, 27, 0), (82, 3, 3, 0), (83, 43, 0, 0), (84, 5, 0, 0), (85, 40, 28, 0), (88, 3, 3, 0), (89, 43, 0, 0), (90, 3, 2, 0), (91, 11, 0, 0), (92, 0, 0, 1), (93, 11, 0, 0), (94, 105, 65, 0), (97, 5, 0, 0), (98, 40, 32, 0), (101, 100, 0, 0)]
def mm_c_X5_finds : List mm_E := [(0, 5, 0, 0), (1, 105, 73, 0), (4, 0, 0, 0), (5, 7, 3, 0), (6, 0, 0, 0), (7, 8, 4, 0), (9, 0, 0, 0), (10, 8, 5, 0), (12, 4, 5, 0), (14, 5, 0, 0), (15, 40, 31, 0), (18, 34, 67, 112), (21, 5, 0, 0), (22, 40, 28, 0), (25, 4, 5, 0), (27, 43, 0, 0), (28, 0, 0, 1), (29, 11, 0, 0), (30, 8, 6, 0), (32, 4, 6, 0), (34, 5, 0, 0), (35, 5, 0, 0), (36, 40, 27, 0), (39, 4, 5, 0), (41, 43, 0, 0), (42, 105, 70, 0), (45, 35, 65, 79), (48, 4, 6, 0), (50, 3, 3, 0), (51, 36, 63, 67), (54, 5, 0, 0), (55, 4, 5, 0), (57, 4, 6, 0), (59, 105, 74, 0), (62, 5, 0, 0), (63, 40, 34, 0), (66, 3, 1, 0), (67, 18, 0, 0), (68, 3, 1, 0), (69, 32, 46, 15), (72, 5, 0, 0), (73, 40, 33, 0), (76, 3, 2, 0), (77, 33, 46, 7), (80, 0, 0, 1), (81, 24, 47, 4), (84, 0, 0, 0), (85, 8, 7, 0), (87, 4, 7, 0), (89, 25, 55, 13), (92, 5, 0, 0), (93, 40, 27, 0), (96, 4, 5, 0), (98, 43, 0, 0), (99, 24, 56, 5), (102, 4, 4, 0), (104, 8, 4, 0), (106, 4, 7, 0), (108, 25, 61, 8), (111, 4, 6, 0), (113, 24, 62, 4), (116, 3, 3, 0), (117, 7, 3, 0), (118, 20, 6, 1), (121, 24, 19, (-89)), (124, 20, 5, 1), (127, 24, 8, (-115)), (130, 5, 0, 0), (131, 4, 4, 0), (133, 3, 3, 0), (134, 105, 65, 0), (137, 5, 0, 0), (138, 40, 32, 0), (141, 100, 0, 0)]
def mm_c_X5_common : List mm_E := [(0, 5, 0, 0), (1, 3, 1, 0), (2, 30, 10, 16), (5, 3, 1, 0), (6, 5, 0, 0), (7, 40, 30, 0), (10, 17, 0, 0), (11, 26, 10, 7), (14, 0, 0, 0), (15, 24, 11, 4), (18, 0, 0, 1), (19, 105, 62, 0), (22, 25, 18, 12), (25, 5, 0, 0), (26, 3, 1, 0), (27, 0, 0, 1), (28, 105, 78, 0), (31, 24, 19, 4), (34, 0, 0, 0), (35, 100, 0, 0)]
def mm_c_X5_repeated : List mm_E := [(0, 5, 0, 0), (1, 3, 1, 0), (2, 0, 0, 1), (3, 33, 6, 7), (6, 0, 0, 0), (7, 24, 7, 4), (10, 0, 0, 1), (11, 105, 62, 0), (14, 25, 14, 12), (17, 5, 0, 0), (18, 0, 0, 0), (19, 3, 1, 0), (20, 105, 78, 0), (23, 24, 15, 4), (26, 0, 0, 0), (27, 100, 0, 0)]
def mm_c_X5_goesOn : List mm_E := [(0, 5, 0, 0), (1, 40, 32, 0), (4, 0, 0, 1), (5, 12, 0, 0), (6, 7, 2, 0), (7, 3, 2, 0), (8, 27, 22, 28), (11, 5, 0, 0), (12, 40, 26, 0), (15, 3, 2, 0), (16, 43, 0, 0), (17, 3, 1, 0), (18, 0, 0, 1), (19, 12, 0, 0), (20, 32, 22, 16), (23, 5, 0, 0), (24, 40, 26, 0), (27, 3, 2, 0), (28, 0, 0, 0), (29, 44, 0, 0), (30, 20, 2, (-1)), (33, 24, 5, (-26)), (36, 3, 2, 0), (37, 27, 32, 13), (40, 5, 0, 0), (41, 40, 26, 0), (44, 3, 2, 0), (45, 22, 0, 0), (46, 43, 0, 0), (47, 0, 0, 1), (48, 11, 0, 0), (49, 44, 0, 0), (50, 3, 2, 0), (51, 27, 36, 7), (54, 0, 0, 1), (55, 24, 37, 4), (58, 0, 0, 0), (59, 101, 0, 0)]
def mm_c_X5_missing : List mm_E := [(0, 5, 0, 0), (1, 3, 1, 0), (2, 0, 0, 1), (3, 33, 9, 13), (6, 3, 1, 0), (7, 1, 0, 26), (9, 35, 9, 7), (12, 0, 0, 0), (13, 24, 10, 4), (16, 0, 0, 1), (17, 105, 62, 0), (20, 26, 14, 5), (23, 0, 0, 0), (24, 100, 0, 0), (25, 5, 0, 0), (26, 0, 0, 1), (27, 41, 32, 0), (30, 5, 0, 0), (31, 40, 26, 0), (34, 0, 0, 0), (35, 0, 0, 0), (36, 44, 0, 0), (37, 5, 0, 0), (38, 0, 0, 0), (39, 105, 68, 0), (42, 30, 43, 34), (45, 5, 0, 0), (46, 3, 1, 0), (47, 105, 79, 0), (50, 26, 22, (-13)), (53, 5, 0, 0), (54, 40, 26, 0), (57, 5, 0, 0), (58, 40, 32, 0), (61, 0, 0, 0), (62, 44, 0, 0), (63, 5, 0, 0), (64, 21, 0, 0), (65, 40, 32, 0), (68, 0, 0, 1), (69, 11, 0, 0), (70, 41, 32, 0), (73, 24, 22, (-36)), (76, 5, 0, 0), (77, 40, 32, 0), (80, 100, 0, 0)]
def mm_c_L_open : List mm_E := [(0, 5, 1, 0), (1, 0, 0, 0), (2, 5, 0, 0), (3, 105, 80, 0), (6, 54, 0, 0), (7, 46, 0, 0), (8, 24, 10, 6), (11, 111, 0, 0), (12, 111, 0, 0), (13, 111, 0, 0), (14, 0, 0, 0), (15, 100, 0, 0)]
def mm_c_L_append : List mm_E := [(0, 5, 3, 0), (1, 0, 0, 0), (2, 5, 0, 0), (3, 3, 1, 0), (4, 3, 2, 0), (5, 105, 81, 0), (8, 54, 0, 0), (9, 46, 0, 0), (10, 24, 18, 15), (13, 111, 0, 0), (15, 111, 0, 0), (16, 111, 0, 0), (17, 111, 0, 0), (19, 111, 0, 0), (20, 111, 0, 0), (21, 111, 0, 0), (23, 111, 0, 0), (24, 111, 0, 0), (25, 0, 0, 0), (26, 100, 0, 0)]
def mm_c_L_length : List mm_E := [(0, 5, 2, 0), (1, 0, 0, 0), (2, 5, 0, 0), (3, 3, 1, 0), (4, 105, 82, 0), (7, 54, 0, 0), (8, 46, 0, 0), (9, 24, 11, 6), (12, 111, 0, 0), (13, 111, 0, 0), (14, 111, 0, 0), (15, 0, 0, 0), (16, 100, 0, 0)]
def mm_c_L_letterAt : List mm_E := [(0, 5, 3, 0), (1, 0, 0, 0), (2, 5, 0, 0), (3, 3, 1, 0), (4, 3, 2, 0), (5, 105, 83, 0), (8, 54, 0, 0), (9, 46, 0, 0), (10, 24, 12, 7), (13, 111, 0, 0), (15, 111, 0, 0), (16, 111, 0, 0), (17, 0, 0, 0), (18, 100, 0, 0)]
def mm_c_L_type : List mm_E := [(0, 5, 2, 0), (1, 0, 0, 0), (2, 5, 0, 0), (3, 3, 1, 0), (4, 105, 84, 0), (7, 54, 0, 0), (8, 46, 0, 0), (9, 24, 14, 9), (12, 111, 0, 0), (13, 111, 0, 0), (14, 111, 0, 0), (15, 111, 0, 0), (16, 111, 0, 0), (17, 111, 0, 0), (18, 0, 0, 0), (19, 100, 0, 0)]
def mm_c_L_erase : List mm_E := [(0, 5, 1, 0), (1, 0, 0, 0), (2, 5, 0, 0), (3, 105, 85, 0), (6, 54, 0, 0), (7, 46, 0, 0), (8, 24, 10, 6), (11, 111, 0, 0), (12, 111, 0, 0), (13, 111, 0, 0), (14, 0, 0, 0), (15, 100, 0, 0)]
def mm_c_L_copy : List mm_E := [(0, 5, 0, 0), (1, 3, 1, 0), (2, 3, 2, 0), (3, 3, 3, 0), (4, 105, 86, 0), (7, 24, 12, 11), (10, 111, 0, 0), (12, 111, 0, 0), (13, 111, 0, 0), (14, 111, 0, 0), (16, 111, 0, 0), (17, 111, 0, 0), (18, 0, 0, 0), (19, 100, 0, 0)]
def mm_c_L_patternAt : List mm_E := [(0, 5, 2, 0), (1, 0, 0, 0), (2, 5, 0, 0), (3, 3, 1, 0), (4, 105, 87, 0), (7, 54, 0, 0), (8, 46, 0, 0), (9, 24, 11, 6), (12, 111, 0, 0), (13, 111, 0, 0), (14, 111, 0, 0), (15, 0, 0, 0), (16, 100, 0, 0)]
def mm_c_L_occurrencesIn : List mm_E := [(0, 5, 2, 0), (1, 0, 0, 0), (2, 5, 0, 0), (3, 3, 1, 0), (4, 105, 88, 0), (7, 54, 0, 0), (8, 46, 0, 0), (9, 24, 11, 6), (12, 111, 0, 0), (13, 111, 0, 0), (14, 111, 0, 0), (15, 0, 0, 0), (16, 100, 0, 0)]
def mm_c_L_first : List mm_E := [(0, 5, 2, 0), (1, 0, 0, 0), (2, 5, 0, 0), (3, 3, 1, 0), (4, 105, 89, 0), (7, 54, 0, 0), (8, 46, 0, 0), (9, 24, 11, 6), (12, 111, 0, 0), (13, 111, 0, 0), (14, 111, 0, 0), (15, 0, 0, 0), (16, 100, 0, 0)]
def mm_c_L_last : List mm_E := [(0, 5, 2, 0), (1, 0, 0, 0), (2, 5, 0, 0), (3, 3, 1, 0), (4, 105, 90, 0), (7, 54, 0, 0), (8, 46, 0, 0), (9, 24, 11, 6), (12, 111, 0, 0), (13, 111, 0, 0), (14, 111, 0, 0), (15, 0, 0, 0), (16, 100, 0, 0)]
def mm_c_L_toPart : List mm_E := [(0, 5, 2, 0), (1, 0, 0, 0), (2, 5, 0, 0), (3, 3, 1, 0), (4, 105, 91, 0), (7, 54, 0, 0), (8, 46, 0, 0), (9, 24, 11, 6), (12, 111, 0, 0), (13, 111, 0, 0), (14, 111, 0, 0), (15, 0, 0, 0), (16, 100, 0, 0)]
def mm_c_L_common : List mm_E := [(0, 5, 2, 0), (1, 0, 0, 0), (2, 5, 0, 0), (3, 3, 1, 0), (4, 105, 92, 0), (7, 54, 0, 0), (8, 46, 0, 0), (9, 24, 11, 6), (12, 111, 0, 0), (13, 111, 0, 0), (14, 111, 0, 0), (15, 0, 0, 0), (16, 100, 0, 0)]
def mm_c_L_repeated : List mm_E := [(0, 5, 2, 0), (1, 0, 0, 0), (2, 5, 0, 0), (3, 3, 1, 0), (4, 105, 93, 0), (7, 54, 0, 0), (8, 46, 0, 0), (9, 24, 11, 6), (12, 111, 0, 0), (13, 111, 0, 0), (14, 111, 0, 0), (15, 0, 0, 0), (16, 100, 0, 0)]
def mm_c_L_missing : List mm_E := [(0, 5, 2, 0), (1, 0, 0, 0), (2, 5, 0, 0), (3, 3, 1, 0), (4, 105, 94, 0), (7, 54, 0, 0), (8, 46, 0, 0), (9, 24, 11, 6), (12, 111, 0, 0), (13, 111, 0, 0), (14, 111, 0, 0), (15, 0, 0, 0), (16, 100, 0, 0)]
def mm_c_L_law : List mm_E := [(0, 50, 8, 4), (3, 21, 0, 0), (4, 108, 95, 0), (7, 9, 1, 0), (8, 50, 65, 5), (11, 21, 0, 0), (12, 108, 96, 0), (15, 9, 2, 0), (16, 0, 0, 1), (17, 52, 0, 0), (19, 9, 3, 0), (20, 0, 0, 0), (21, 8, 4, 0), (23, 4, 4, 0), (25, 5, 0, 0), (26, 49, 0, 0), (27, 0, 0, 4), (28, 12, 0, 0), (29, 35, 648, 1152), (32, 5, 0, 0), (33, 4, 4, 0), (35, 43, 0, 0), (36, 1, 0, 31), (38, 18, 0, 0), (39, 56, 0, 0), (164, 5, 1, 0), (165, 105, 97, 0), (168, 5, 2, 0), (169, 105, 98, 0), (172, 24, 646, 1003), (175, 5, 1, 0), (176, 5, 3, 0), (177, 106, 99, 0), (180, 8, 5, 0), (182, 5, 2, 0), (183, 105, 100, 0), (186, 8, 6, 0), (188, 5, 2, 0), (189, 105, 101, 0), (192, 4, 5, 0), (194, 31, 43, 5), (197, 0, 0, 0), (198, 101, 0, 0), (199, 4, 5, 0), (201, 26, 54, 15), (204, 5, 3, 0), (205, 0, 0, 0), (206, 45, 0, 0), (207, 4, 6, 0), (209, 54, 0, 0), (210, 55, 0, 0), (211, 25, 54, 5), (214, 0, 0, 0), (215, 101, 0, 0), (216, 24, 646, 959), (219, 5, 1, 0), (220, 5, 0, 0), (221, 4, 4, 0), (223, 0, 0, 1), (224, 11, 0, 0), (225, 43, 0, 0), (226, 5, 0, 0), (227, 4, 4, 0), (229, 0, 0, 2), (230, 11, 0, 0), (231, 43, 0, 0), (232, 5, 3, 0), (233, 106, 102, 0), (236, 8, 5, 0), (238, 5, 2, 0), (239, 5, 0, 0), (240, 4, 4, 0), (242, 0, 0, 1), (243, 11, 0, 0), (244, 43, 0, 0), (245, 5, 0, 0), (246, 4, 4, 0), (248, 0, 0, 2), (249, 11, 0, 0), (250, 43, 0, 0), (251, 105, 103, 0), (254, 8, 6, 0), (256, 5, 2, 0), (257, 105, 101, 0), (260, 4, 5, 0), (262, 31, 88, 5), (265, 0, 0, 0), (266, 101, 0, 0), (267, 4, 5, 0), (269, 26, 99, 15), (272, 5, 3, 0), (273, 0, 0, 0), (274, 45, 0, 0), (275, 4, 6, 0), (277, 54, 0, 0), (278, 55, 0, 0), (279, 25, 99, 5), (282, 0, 0, 0), (283, 101, 0, 0), (284, 24, 646, 891), (287, 5, 1, 0), (288, 105, 104, 0), (291, 5, 2, 0), (292, 105, 105, 0), (295, 31, 646, 880), (298, 0, 0, 0), (299, 101, 0, 0), (300, 5, 1, 0), (301, 5, 0, 0), (302, 4, 4, 0), (304, 0, 0, 1), (305, 11, 0, 0), (306, 43, 0, 0), (307, 5, 3, 0), (308, 106, 106, 0), (311, 8, 5, 0), (313, 5, 2, 0), (314, 5, 0, 0), (315, 4, 4, 0), (317, 0, 0, 1), (318, 11, 0, 0), (319, 43, 0, 0), (320, 105, 107, 0), (323, 8, 6, 0), (325, 5, 2, 0), (326, 105, 101, 0), (329, 4, 5, 0), (331, 31, 130, 5), (334, 0, 0, 0), (335, 101, 0, 0), (336, 4, 5, 0), (338, 26, 141, 15), (341, 5, 3, 0), (342, 0, 0, 0), (343, 45, 0, 0), (344, 4, 6, 0), (346, 54, 0, 0), (347, 55, 0, 0), (348, 25, 141, 5), (351, 0, 0, 0), (352, 101, 0, 0), (353, 24, 646, 822), (356, 5, 1, 0), (357, 5, 0, 0), (358, 4, 4, 0), (360, 0, 0, 1), (361, 11, 0, 0), (362, 43, 0, 0), (363, 5, 0, 0), (364, 4, 4, 0), (366, 0, 0, 2), (367, 11, 0, 0), (368, 43, 0, 0), (369, 5, 3, 0), (370, 106, 108, 0), (373, 8, 5, 0), (375, 5, 2, 0), (376, 5, 0, 0), (377, 4, 4, 0), (379, 0, 0, 1), (380, 11, 0, 0), (381, 43, 0, 0), (382, 5, 0, 0), (383, 4, 4, 0), (385, 0, 0, 2), (386, 11, 0, 0), (387, 43, 0, 0), (388, 105, 109, 0), (391, 8, 6, 0), (393, 5, 2, 0), (394, 105, 101, 0), (397, 4, 5, 0), (399, 31, 175, 5), (402, 0, 0, 0), (403, 101, 0, 0), (404, 4, 5, 0), (406, 26, 186, 15), (409, 5, 3, 0), (410, 0, 0, 0), (411, 45, 0, 0), (412, 4, 6, 0), (414, 54, 0, 0), (415, 55, 0, 0), (416, 25, 186, 5), (419, 0, 0, 0), (420, 101, 0, 0), (421, 24, 646, 754), (424, 5, 1, 0), (425, 5, 0, 0), (426, 4, 4, 0), (428, 0, 0, 1), (429, 11, 0, 0), (430, 43, 0, 0), (431, 5, 3, 0), (432, 106, 110, 0), (435, 8, 5, 0), (437, 5, 2, 0), (438, 5, 0, 0), (439, 4, 4, 0), (441, 0, 0, 1), (442, 11, 0, 0), (443, 43, 0, 0), (444, 105, 111, 0), (447, 8, 6, 0), (449, 5, 2, 0), (450, 105, 101, 0), (453, 4, 5, 0), (455, 31, 210, 5), (458, 0, 0, 0), (459, 101, 0, 0), (460, 4, 5, 0), (462, 26, 221, 15), (465, 5, 3, 0), (466, 0, 0, 0), (467, 45, 0, 0), (468, 4, 6, 0), (470, 54, 0, 0), (471, 55, 0, 0), (472, 25, 221, 5), (475, 0, 0, 0), (476, 101, 0, 0), (477, 24, 646, 698), (480, 5, 1, 0), (481, 5, 3, 0), (482, 106, 112, 0), (485, 8, 5, 0), (487, 5, 2, 0), (488, 105, 113, 0), (491, 8, 6, 0), (493, 5, 2, 0), (494, 105, 101, 0), (497, 4, 5, 0), (499, 31, 235, 5), (502, 0, 0, 0), (503, 101, 0, 0), (504, 4, 5, 0), (506, 26, 246, 15), (509, 5, 3, 0), (510, 0, 0, 0), (511, 45, 0, 0), (512, 4, 6, 0), (514, 54, 0, 0), (515, 55, 0, 0), (516, 25, 246, 5), (519, 0, 0, 0), (520, 101, 0, 0), (521, 24, 646, 654), (524, 5, 1, 0), (525, 105, 114, 0), (528, 5, 2, 0), (529, 105, 115, 0), (532, 31, 646, 643), (535, 0, 0, 0), (536, 101, 0, 0), (537, 5, 1, 0), (538, 5, 0, 0), (539, 4, 4, 0), (541, 0, 0, 1), (542, 11, 0, 0), (543, 43, 0, 0), (544, 5, 0, 0), (545, 4, 4, 0), (547, 0, 0, 2), (548, 11, 0, 0), (549, 43, 0, 0), (550, 5, 0, 0), (551, 4, 4, 0), (553, 0, 0, 3), (554, 11, 0, 0), (555, 43, 0, 0), (556, 106, 116, 0), (559, 8, 5, 0), (561, 5, 2, 0), (562, 5, 0, 0), (563, 4, 4, 0), (565, 0, 0, 1), (566, 11, 0, 0), (567, 43, 0, 0), (568, 5, 0, 0), (569, 4, 4, 0), (571, 0, 0, 2), (572, 11, 0, 0), (573, 43, 0, 0), (574, 5, 0, 0), (575, 4, 4, 0), (577, 0, 0, 3), (578, 11, 0, 0), (579, 43, 0, 0), (580, 105, 117, 0), (583, 5, 2, 0), (584, 105, 101, 0), (587, 4, 5, 0), (589, 31, 295, 5), (592, 0, 0, 0), (593, 101, 0, 0), (594, 24, 646, 581), (597, 5, 1, 0), (598, 105, 118, 0), (601, 5, 2, 0), (602, 105, 119, 0), (605, 31, 646, 570), (608, 0, 0, 0), (609, 101, 0, 0), (610, 5, 1, 0), (611, 5, 0, 0), (612, 4, 4, 0), (614, 0, 0, 1), (615, 11, 0, 0), (616, 43, 0, 0), (617, 5, 3, 0), (618, 106, 120, 0), (621, 8, 5, 0), (623, 5, 2, 0), (624, 5, 0, 0), (625, 4, 4, 0), (627, 0, 0, 1), (628, 11, 0, 0), (629, 43, 0, 0), (630, 105, 121, 0), (633, 8, 6, 0), (635, 5, 2, 0), (636, 105, 101, 0), (639, 4, 5, 0), (641, 31, 326, 5), (644, 0, 0, 0), (645, 101, 0, 0), (646, 4, 5, 0), (648, 26, 337, 15), (651, 5, 3, 0), (652, 0, 0, 0), (653, 45, 0, 0), (654, 4, 6, 0), (656, 54, 0, 0), (657, 55, 0, 0), (658, 25, 337, 5), (661, 0, 0, 0), (662, 101, 0, 0), (663, 24, 646, 512), (666, 5, 1, 0), (667, 105, 122, 0), (670, 5, 2, 0), (671, 105, 123, 0), (674, 31, 646, 501), (677, 0, 0, 0), (678, 101, 0, 0), (679, 5, 1, 0), (680, 105, 124, 0), (683, 5, 2, 0), (684, 105, 125, 0), (687, 31, 646, 488), (690, 0, 0, 0), (691, 101, 0, 0), (692, 5, 1, 0), (693, 5, 0, 0), (694, 4, 4, 0), (696, 0, 0, 1), (697, 11, 0, 0), (698, 43, 0, 0), (699, 5, 3, 0), (700, 106, 126, 0), (703, 8, 5, 0), (705, 5, 2, 0), (706, 5, 0, 0), (707, 4, 4, 0), (709, 0, 0, 1), (710, 11, 0, 0), (711, 43, 0, 0), (712, 105, 127, 0), (715, 8, 6, 0), (717, 5, 2, 0), (718, 105, 101, 0), (721, 4, 5, 0), (723, 31, 375, 5), (726, 0, 0, 0), (727, 101, 0, 0), (728, 4, 5, 0), (730, 26, 386, 15), (733, 5, 3, 0), (734, 0, 0, 0), (735, 45, 0, 0), (736, 4, 6, 0), (738, 54, 0, 0), (739, 55, 0, 0), (740, 25, 386, 5), (743, 0, 0, 0), (744, 101, 0, 0), (745, 24, 646, 430), (748, 5, 1, 0), (749, 5, 0, 0), (750, 4, 4, 0), (752, 0, 0, 1), (753, 11, 0, 0), (754, 43, 0, 0), (755, 5, 3, 0), (756, 106, 128, 0), (759, 8, 5, 0), (761, 5, 2, 0), (762, 5, 0, 0), (763, 4, 4, 0), (765, 0, 0, 1), (766, 11, 0, 0), (767, 43, 0, 0), (768, 105, 129, 0), (771, 8, 6, 0), (773, 5, 2, 0), (774, 105, 101, 0), (777, 4, 5, 0), (779, 31, 410, 5), (782, 0, 0, 0), (783, 101, 0, 0), (784, 4, 5, 0), (786, 26, 421, 15), (789, 5, 3, 0), (790, 0, 0, 0), (791, 45, 0, 0), (792, 4, 6, 0), (794, 54, 0, 0), (795, 55, 0, 0), (796, 25, 421, 5), (799, 0, 0, 0), (800, 101, 0, 0), (801, 24, 646, 374), (804, 5, 1, 0), (805, 5, 0, 0), (806, 4, 4, 0), (808, 0, 0, 1), (809, 11, 0, 0), (810, 43, 0, 0), (811, 5, 3, 0), (812, 106, 130, 0), (815, 8, 5, 0), (817, 5, 2, 0), (818, 5, 0, 0), (819, 4, 4, 0), (821, 0, 0, 1), (822, 11, 0, 0), (823, 43, 0, 0), (824, 105, 131, 0), (827, 8, 6, 0), (829, 5, 2, 0), (830, 105, 101, 0), (833, 4, 5, 0), (835, 31, 445, 5), (838, 0, 0, 0), (839, 101, 0, 0), (840, 4, 5, 0), (842, 26, 456, 15), (845, 5, 3, 0), (846, 0, 0, 0), (847, 45, 0, 0), (848, 4, 6, 0), (850, 54, 0, 0), (851, 55, 0, 0), (852, 25, 456, 5), (855, 0, 0, 0), (856, 101, 0, 0), (857, 24, 646, 318), (860, 5, 1, 0), (861, 105, 132, 0), (864, 5, 2, 0), (865, 105, 133, 0), (868, 31, 646, 307), (871, 0, 0, 0), (872, 101, 0, 0), (873, 5, 1, 0), (874, 105, 134, 0), (877, 5, 2, 0), (878, 105, 135, 0), (881, 31, 646, 294), (884, 0, 0, 0), (885, 101, 0, 0), (886, 5, 1, 0), (887, 105, 136, 0), (890, 5, 2, 0), (891, 105, 137, 0), (894, 31, 646, 281), (897, 0, 0, 0), (898, 101, 0, 0), (899, 5, 1, 0), (900, 105, 138, 0), (903, 5, 2, 0), (904, 105, 139, 0), (907, 31, 646, 268), (910, 0, 0, 0), (911, 101, 0, 0), (912, 5, 1, 0), (913, 105, 140, 0), (916, 5, 2, 0), (917, 105, 141, 0), (920, 31, 646, 255), (923, 0, 0, 0), (924, 101, 0, 0), (925, 5, 1, 0), (926, 105, 142, 0), (929, 5, 2, 0), (930, 105, 143, 0), (933, 31, 646, 242), (936, 0, 0, 0), (937, 101, 0, 0), (938, 5, 1, 0), (939, 105, 144, 0), (942, 5, 2, 0), (943, 105, 145, 0), (946, 31, 646, 229), (949, 0, 0, 0), (950, 101, 0, 0), (951, 5, 1, 0), (952, 5, 0, 0), (953, 4, 4, 0), (955, 0, 0, 1), (956, 11, 0, 0), (957, 43, 0, 0), (958, 5, 3, 0), (959, 106, 146, 0), (962, 8, 5, 0), (964, 5, 2, 0), (965, 5, 0, 0), (966, 4, 4, 0), (968, 0, 0, 1), (969, 11, 0, 0), (970, 43, 0, 0), (971, 105, 147, 0), (974, 8, 6, 0), (976, 5, 2, 0), (977, 105, 101, 0), (980, 4, 5, 0), (982, 31, 529, 5), (985, 0, 0, 0), (986, 101, 0, 0), (987, 4, 5, 0), (989, 26, 540, 15), (992, 5, 3, 0), (993, 0, 0, 0), (994, 45, 0, 0), (995, 4, 6, 0), (997, 54, 0, 0), (998, 55, 0, 0), (999, 25, 540, 5), (1002, 0, 0, 0), (1003, 101, 0, 0), (1004, 24, 646, 171), (1007, 5, 1, 0), (1008, 5, 0, 0), (1009, 4, 4, 0), (1011, 0, 0, 1), (1012, 11, 0, 0), (1013, 43, 0, 0), (1014, 5, 3, 0), (1015, 106, 148, 0), (1018, 8, 5, 0), (1020, 5, 2, 0), (1021, 5, 0, 0), (1022, 4, 4, 0), (1024, 0, 0, 1), (1025, 11, 0, 0), (1026, 43, 0, 0), (1027, 105, 149, 0), (1030, 8, 6, 0), (1032, 5, 2, 0), (1033, 105, 101, 0), (1036, 4, 5, 0), (1038, 31, 564, 5), (1041, 0, 0, 0), (1042, 101, 0, 0), (1043, 4, 5, 0), (1045, 26, 575, 15), (1048, 5, 3, 0), (1049, 0, 0, 0), (1050, 45, 0, 0), (1051, 4, 6, 0), (1053, 54, 0, 0), (1054, 55, 0, 0), (1055, 25, 575, 5), (1058, 0, 0, 0), (1059, 101, 0, 0), (1060, 24, 646, 115), (1063, 5, 1, 0), (1064, 5, 0, 0), (1065, 4, 4, 0), (1067, 0, 0, 1), (1068, 11, 0, 0), (1069, 43, 0, 0), (1070, 5, 3, 0), (1071, 106, 150, 0), (1074, 8, 5, 0), (1076, 5, 2, 0), (1077, 5, 0, 0), (1078, 4, 4, 0), (1080, 0, 0, 1), (1081, 11, 0, 0), (1082, 43, 0, 0), (1083, 105, 151, 0), (1086, 8, 6, 0), (1088, 5, 2, 0), (1089, 105, 101, 0), (1092, 4, 5, 0), (1094, 31, 599, 5), (1097, 0, 0, 0), (1098, 101, 0, 0), (1099, 4, 5, 0), (1101, 26, 610, 15), (1104, 5, 3, 0), (1105, 0, 0, 0), (1106, 45, 0, 0), (1107, 4, 6, 0), (1109, 54, 0, 0), (1110, 55, 0, 0), (1111, 25, 610, 5), (1114, 0, 0, 0), (1115, 101, 0, 0), (1116, 24, 646, 59), (1119, 5, 1, 0), (1120, 5, 0, 0), (1121, 4, 4, 0), (1123, 0, 0, 1), (1124, 11, 0, 0), (1125, 43, 0, 0), (1126, 5, 3, 0), (1127, 106, 152, 0), (1130, 8, 5, 0), (1132, 5, 2, 0), (1133, 5, 0, 0), (1134, 4, 4, 0), (1136, 0, 0, 1), (1137, 11, 0, 0), (1138, 43, 0, 0), (1139, 105, 153, 0), (1142, 8, 6, 0), (1144, 5, 2, 0), (1145, 105, 101, 0), (1148, 4, 5, 0), (1150, 31, 634, 5), (1153, 0, 0, 0), (1154, 101, 0, 0), (1155, 4, 5, 0), (1157, 26, 645, 15), (1160, 5, 3, 0), (1161, 0, 0, 0), (1162, 45, 0, 0), (1163, 4, 6, 0), (1165, 54, 0, 0), (1166, 55, 0, 0), (1167, 25, 645, 5), (1170, 0, 0, 0), (1171, 101, 0, 0), (1172, 24, 646, 3), (1175, 20, 4, 4), (1178, 24, 13, (-1155)), (1181, 0, 0, 1), (1182, 101, 0, 0)]
def mm_codeT : List (List mm_E) := [mm_c_X0_init, mm_c_X0_forget, mm_c_X0_stateCount, mm_c_X0_stateAt, mm_c_X0_partCount, mm_c_X0_longestOf, mm_c_X0_shortestOf, mm_c_X0_step, mm_c_X0_grow, mm_c_X0_extend, mm_c_X0_stateBehind, mm_c_X0_addState, mm_c_X0_sortIn, mm_c_X0_linkOf, mm_c_X0_putLink, mm_c_X0_putStep, mm_c_X1_init, mm_c_X1_countOf, mm_c_X1_firstOf, mm_c_X1_lastOf, mm_c_X1_countInAll, mm_c_X1_standInEach, mm_c_X1_note, mm_c_X1_takeOver, mm_c_X1_placeOf, mm_c_X2_init, mm_c_X2_countWords, mm_c_X2_measureReach, mm_c_X2_measureGaps, mm_c_X2_partsAheadOf, mm_c_X2_spellPart, mm_c_X2_spellWay, mm_c_X2_suits, mm_c_X2_aheadOf, mm_c_X2_putAhead, mm_c_X3_init, mm_c_X3_size, mm_c_X3_letter, mm_c_X3_add, mm_c_X3_shorten, mm_c_X3_empty, mm_c_X4_init, mm_c_X4_clear, mm_c_X4_open, mm_c_X4_append, mm_c_X4_texts, mm_c_X4_length, mm_c_X4_letterAt, mm_c_X4_type, mm_c_X4_erase, mm_c_X4_wipe, mm_c_X4_copy, mm_c_X4_patternLength, mm_c_X4_patternAt, mm_c_X4_isPart, mm_c_X4_occurrences, mm_c_X4_occurrencesIn, mm_c_X4_first, mm_c_X4_last, mm_c_X4_followers, mm_c_X4_leaders, mm_c_X4_classes, mm_c_X4_longestAlike, mm_c_X4_shortestAlike, mm_c_X4_parts, mm_c_X4_rank, mm_c_X4_toPart, mm_c_X4_common, mm_c_X4_repeated, mm_c_X4_missing, mm_c_X4_within, mm_c_X4_demandText, mm_c_X4_demandLetter, mm_c_X4_walkPattern, mm_c_X4_partState, mm_c_X4_beginOfPattern, mm_c_X5_init, mm_c_X5_thrown, mm_c_X5_holds, mm_c_X5_isText, mm_c_X5_clear, mm_c_X5_open, mm_c_X5_isLetter, mm_c_X5_append, mm_c_X5_texts, mm_c_X5_length, mm_c_X5_letterAt, mm_c_X5_type, mm_c_X5_erase, mm_c_X5_wipe, mm_c_X5_lays, mm_c_X5_copy, mm_c_X5_patternLength, mm_c_X5_patternAt, mm_c_X5_stands, mm_c_X5_countIn, mm_c_X5_count, mm_c_X5_isPart, mm_c_X5_occurrences, mm_c_X5_occurrencesIn, mm_c_X5_first, mm_c_X5_last, mm_c_X5_beside, mm_c_X5_followers, mm_c_X5_leaders, mm_c_X5_left, mm_c_X5_same, mm_c_X5_comes, mm_c_X5_sorts, mm_c_X5_looks, mm_c_X5_classes, mm_c_X5_areLed, mm_c_X5_longestAlike, mm_c_X5_shortestAlike, mm_c_X5_partsNow, mm_c_X5_parts, mm_c_X5_agreed, mm_c_X5_rank, mm_c_X5_toPart, mm_c_X5_finds, mm_c_X5_common, mm_c_X5_repeated, mm_c_X5_goesOn, mm_c_X5_missing, mm_c_L_open, mm_c_L_append, mm_c_L_length, mm_c_L_letterAt, mm_c_L_type, mm_c_L_erase, mm_c_L_copy, mm_c_L_patternAt, mm_c_L_occurrencesIn, mm_c_L_first, mm_c_L_last, mm_c_L_toPart, mm_c_L_common, mm_c_L_repeated, mm_c_L_missing, mm_c_L_law]
def mm_code (y i : Nat) : Option mm_E := match mm_codeT[y]? with
  | some l => l[i]?
  | none => none
abbrev mm_M : Type := Nat × (MethodName × (ByteArray × (Nat × (Option FieldType × (List (Nat × Nat × Nat × Nat) × (Nat × Nat))))))
def mm_MT : List mm_M := [(0, yX0_init, cX0_init, 1, none, [], 4, 92),
  (0, yX0_forget, cX0_forget, 2, none, [], 3, 71),
  (0, yX0_stateCount, cX0_stateCount, 1, (some .int), [], 0, 0),
  (0, yX0_stateAt, cX0_stateAt, 2, (some .int), [], 1, 21),
  (0, yX0_partCount, cX0_partCount, 3, (some .int), [], 3, 63),
  (0, yX0_longestOf, cX0_longestOf, 2, (some .int), [], 0, 0),
  (0, yX0_shortestOf, cX0_shortestOf, 2, (some .int), [], 2, 42),
  (0, yX0_step, cX0_step, 4, (some .int), [], 0, 0),
  (0, yX0_grow, cX0_grow, 7, none, [], 5, 123),
  (0, yX0_extend, cX0_extend, 6, (some .int), [], 4, 98),
  (0, yX0_stateBehind, cX0_stateBehind, 8, (some .int), [], 3, 71),
  (0, yX0_addState, cX0_addState, 5, (some .int), [], 2, 47),
  (0, yX0_sortIn, cX0_sortIn, 3, none, [], 1, 21),
  (0, yX0_linkOf, cX0_linkOf, 2, (some .int), [], 1, 21),
  (0, yX0_putLink, cX0_putLink, 3, none, [], 1, 21),
  (0, yX0_putStep, cX0_putStep, 5, none, [], 0, 0),
  (1, yX1_init, cX1_init, 1, none, [], 1, 21),
  (1, yX1_countOf, cX1_countOf, 4, (some .int), [], 1, 22),
  (1, yX1_firstOf, cX1_firstOf, 4, (some .int), [], 1, 22),
  (1, yX1_lastOf, cX1_lastOf, 4, (some .int), [], 1, 22),
  (1, yX1_countInAll, cX1_countInAll, 4, (some .int), [], 2, 45),
  (1, yX1_standInEach, cX1_standInEach, 5, (some .boolean), [], 2, 45),
  (1, yX1_note, cX1_note, 5, none, [], 1, 22),
  (1, yX1_takeOver, cX1_takeOver, 6, none, [], 1, 22),
  (1, yX1_placeOf, cX1_placeOf, 3, (some .int), [], 0, 0),
  (2, yX2_init, cX2_init, 1, none, [], 5, 112),
  (2, yX2_countWords, cX2_countWords, 5, none, [], 2, 43),
  (2, yX2_measureReach, cX2_measureReach, 7, none, [], 4, 92),
  (2, yX2_measureGaps, cX2_measureGaps, 6, none, [], 2, 43),
  (2, yX2_partsAheadOf, cX2_partsAheadOf, 8, (some .int), [], 2, 42),
  (2, yX2_spellPart, cX2_spellPart, 7, none, [], 2, 42),
  (2, yX2_spellWay, cX2_spellWay, 5, none, [], 2, 42),
  (2, yX2_suits, cX2_suits, 4, (some .boolean), [], 3, 69),
  (2, yX2_aheadOf, cX2_aheadOf, 2, (some .int), [], 1, 21),
  (2, yX2_putAhead, cX2_putAhead, 3, none, [], 1, 21),
  (3, yX3_init, cX3_init, 2, none, [], 1, 21),
  (3, yX3_size, cX3_size, 1, (some .int), [], 0, 0),
  (3, yX3_letter, cX3_letter, 2, (some .int), [], 1, 21),
  (3, yX3_add, cX3_add, 2, none, [], 1, 21),
  (3, yX3_shorten, cX3_shorten, 1, none, [], 0, 0),
  (3, yX3_empty, cX3_empty, 1, none, [], 0, 0),
  (4, yX4_init, cX4_init, 2, none, [], 6, 132),
  (4, yX4_clear, cX4_clear, 3, none, [], 4, 92),
  (4, yX4_open, cX4_open, 1, (some .int), [], 6, 82),
  (4, yX4_append, cX4_append, 4, (some .int), [], 7, 149),
  (4, yX4_texts, cX4_texts, 1, (some .int), [], 0, 0),
  (4, yX4_length, cX4_length, 2, (some .int), [], 7, 104),
  (4, yX4_letterAt, cX4_letterAt, 4, (some .int), [], 7, 104),
  (4, yX4_type, cX4_type, 2, (some .int), [], 7, 102),
  (4, yX4_erase, cX4_erase, 2, (some .int), [], 6, 82),
  (4, yX4_wipe, cX4_wipe, 2, (some .int), [], 1, 20),
  (4, yX4_copy, cX4_copy, 6, none, [], 7, 104),
  (4, yX4_patternLength, cX4_patternLength, 1, (some .int), [], 1, 20),
  (4, yX4_patternAt, cX4_patternAt, 2, (some .int), [], 6, 82),
  (4, yX4_isPart, cX4_isPart, 1, (some .boolean), [], 4, 85),
  (4, yX4_occurrences, cX4_occurrences, 1, (some .int), [], 4, 85),
  (4, yX4_occurrencesIn, cX4_occurrencesIn, 2, (some .int), [], 7, 104),
  (4, yX4_first, cX4_first, 2, (some .int), [], 7, 104),
  (4, yX4_last, cX4_last, 2, (some .int), [], 7, 104),
  (4, yX4_followers, cX4_followers, 4, (some .int), [], 3, 65),
  (4, yX4_leaders, cX4_leaders, 3, (some .int), [], 3, 65),
  (4, yX4_classes, cX4_classes, 1, (some .int), [], 1, 20),
  (4, yX4_longestAlike, cX4_longestAlike, 2, (some .int), [], 4, 85),
  (4, yX4_shortestAlike, cX4_shortestAlike, 2, (some .int), [], 4, 85),
  (4, yX4_parts, cX4_parts, 1, (some .int), [], 4, 85),
  (4, yX4_rank, cX4_rank, 1, (some .int), [], 3, 69),
  (4, yX4_toPart, cX4_toPart, 2, (some .int), [], 6, 85),
  (4, yX4_common, cX4_common, 2, (some .int), [], 6, 118),
  (4, yX4_repeated, cX4_repeated, 2, (some .int), [], 6, 118),
  (4, yX4_missing, cX4_missing, 2, (some .int), [], 6, 82),
  (4, yX4_within, cX4_within, 2, (some .boolean), [], 0, 0),
  (4, yX4_demandText, cX4_demandText, 3, (some (.object "SuffixWright$Word")), [], 6, 82),
  (4, yX4_demandLetter, cX4_demandLetter, 1, none, [], 6, 82),
  (4, yX4_walkPattern, cX4_walkPattern, 4, (some .int), [], 2, 42),
  (4, yX4_partState, cX4_partState, 1, (some .int), [], 3, 65),
  (4, yX4_beginOfPattern, cX4_beginOfPattern, 2, (some .int), [], 1, 20),
  (5, yX5_init, cX5_init, 1, none, [], 1, 21),
  (5, yX5_thrown, cX5_thrown, 1, (some .int), [], 0, 0),
  (5, yX5_holds, cX5_holds, 2, (some .boolean), [], 0, 0),
  (5, yX5_isText, cX5_isText, 2, (some .boolean), [], 0, 0),
  (5, yX5_clear, cX5_clear, 1, none, [], 0, 0),
  (5, yX5_open, cX5_open, 1, (some .int), [], 1, 21),
  (5, yX5_isLetter, cX5_isLetter, 1, (some .boolean), [], 0, 0),
  (5, yX5_append, cX5_append, 3, (some .int), [], 1, 21),
  (5, yX5_texts, cX5_texts, 1, (some .int), [], 0, 0),
  (5, yX5_length, cX5_length, 2, (some .int), [], 1, 21),
  (5, yX5_letterAt, cX5_letterAt, 4, (some .int), [], 1, 21),
  (5, yX5_type, cX5_type, 2, (some .int), [], 1, 21),
  (5, yX5_erase, cX5_erase, 1, (some .int), [], 1, 21),
  (5, yX5_wipe, cX5_wipe, 2, (some .int), [], 0, 0),
  (5, yX5_lays, cX5_lays, 4, none, [], 0, 0),
  (5, yX5_copy, cX5_copy, 5, none, [], 1, 23),
  (5, yX5_patternLength, cX5_patternLength, 1, (some .int), [], 0, 0),
  (5, yX5_patternAt, cX5_patternAt, 2, (some .int), [], 1, 21),
  (5, yX5_stands, cX5_stands, 6, (some .boolean), [], 0, 0),
  (5, yX5_countIn, cX5_countIn, 5, (some .int), [], 1, 25),
  (5, yX5_count, cX5_count, 4, (some .int), [], 2, 49),
  (5, yX5_isPart, cX5_isPart, 1, (some .boolean), [], 3, 72),
  (5, yX5_occurrences, cX5_occurrences, 1, (some .int), [], 3, 72),
  (5, yX5_occurrencesIn, cX5_occurrencesIn, 2, (some .int), [], 2, 49),
  (5, yX5_first, cX5_first, 4, (some .int), [], 1, 25),
  (5, yX5_last, cX5_last, 4, (some .int), [], 1, 25),
  (5, yX5_beside, cX5_beside, 7, (some .int), [], 1, 25),
  (5, yX5_followers, cX5_followers, 1, (some .int), [], 2, 51),
  (5, yX5_leaders, cX5_leaders, 1, (some .int), [], 2, 51),
  (5, yX5_left, cX5_left, 2, (some .int), [], 0, 0),
  (5, yX5_same, cX5_same, 4, (some .int), [], 1, 21),
  (5, yX5_comes, cX5_comes, 4, (some .boolean), [], 2, 44),
  (5, yX5_sorts, cX5_sorts, 5, none, [], 3, 67),
  (5, yX5_looks, cX5_looks, 6, none, [], 0, 0),
  (5, yX5_classes, cX5_classes, 4, (some .int), [], 4, 91),
  (5, yX5_areLed, cX5_areLed, 7, (some .boolean), [], 1, 25),
  (5, yX5_longestAlike, cX5_longestAlike, 2, (some .int), [], 3, 72),
  (5, yX5_shortestAlike, cX5_shortestAlike, 3, (some .int), [], 3, 72),
  (5, yX5_partsNow, cX5_partsNow, 3, (some .int), [], 4, 91),
  (5, yX5_parts, cX5_parts, 1, (some .int), [], 5, 113),
  (5, yX5_agreed, cX5_agreed, 3, (some .int), [], 1, 21),
  (5, yX5_rank, cX5_rank, 5, (some .int), [], 4, 91),
  (5, yX5_toPart, cX5_toPart, 4, (some .int), [], 5, 113),
  (5, yX5_finds, cX5_finds, 8, (some .int), [], 4, 91),
  (5, yX5_common, cX5_common, 2, (some .int), [], 5, 118),
  (5, yX5_repeated, cX5_repeated, 2, (some .int), [], 5, 118),
  (5, yX5_goesOn, cX5_goesOn, 3, (some .boolean), [], 0, 0),
  (5, yX5_missing, cX5_missing, 2, (some .int), [], 3, 72),
  (6, yL_open, cL_open, 3, (some .int), [(0, 8, 11, 13)], 7, 102),
  (6, yL_append, cL_append, 5, (some .int), [(0, 10, 13, 19), (0, 10, 17, 21), (0, 10, 21, 13)], 8, 172),
  (6, yL_length, cL_length, 4, (some .int), [(0, 9, 12, 19)], 8, 125),
  (6, yL_letterAt, cL_letterAt, 5, (some .int), [(0, 10, 13, 19)], 8, 127),
  (6, yL_type, cL_type, 4, (some .int), [(0, 9, 12, 21), (0, 9, 15, 13)], 8, 123),
  (6, yL_erase, cL_erase, 3, (some .int), [(0, 8, 11, 13)], 7, 103),
  (6, yL_copy, cL_copy, 5, (some .int), [(0, 7, 10, 19), (0, 7, 14, 21)], 8, 129),
  (6, yL_patternAt, cL_patternAt, 4, (some .int), [(0, 9, 12, 19)], 7, 103),
  (6, yL_occurrencesIn, cL_occurrencesIn, 4, (some .int), [(0, 9, 12, 19)], 8, 125),
  (6, yL_first, cL_first, 4, (some .int), [(0, 9, 12, 19)], 8, 125),
  (6, yL_last, cL_last, 4, (some .int), [(0, 9, 12, 19)], 8, 125),
  (6, yL_toPart, cL_toPart, 4, (some .int), [(0, 9, 12, 19)], 7, 106),
  (6, yL_common, cL_common, 4, (some .int), [(0, 9, 12, 21)], 7, 139),
  (6, yL_repeated, cL_repeated, 4, (some .int), [(0, 9, 12, 21)], 7, 139),
  (6, yL_missing, cL_missing, 4, (some .int), [(0, 9, 12, 21)], 7, 103),
  (6, yL_law, cL_law, 7, (some .boolean), [], 9, 196)]
def mm_m (y : Nat) : mm_M := mm_MT.getD y (0, yX0_init, cX0_init, 1, none, [], 0, 0)
abbrev mm_own (y : Nat) := (mm_m y).1
abbrev mm_yn (y : Nat) := (mm_m y).2.1
abbrev mm_by (y : Nat) := (mm_m y).2.2.1
abbrev mm_mL (y : Nat) := (mm_m y).2.2.2.1
abbrev mm_rt (y : Nat) := (mm_m y).2.2.2.2.1
abbrev mm_hh (y : Nat) := (mm_m y).2.2.2.2.2.1
abbrev mm_nF (y : Nat) := (mm_m y).2.2.2.2.2.2.1
abbrev mm_nL (y : Nat) := (mm_m y).2.2.2.2.2.2.2
/-- the fields that rows name: (class, field), the naming class, its pool number -/
def mm_fldT : List ((Nat × Nat) × (Nat × Nat)) := [((0, 0), 0, 12), ((0, 1), 0, 18), ((0, 2), 0, 22), ((0, 3), 0, 25), ((0, 4), 0, 28), ((0, 5), 0, 31), ((0, 6), 0, 37), ((1, 0), 1, 9), ((1, 1), 1, 15), ((1, 2), 1, 18), ((2, 0), 2, 12), ((2, 1), 2, 18), ((2, 2), 2, 22), ((0, 0), 2, 72), ((3, 0), 3, 15), ((3, 1), 3, 21), ((4, 0), 4, 11), ((4, 1), 4, 18), ((4, 2), 4, 25), ((2, 0), 4, 29), ((4, 3), 4, 33), ((4, 4), 4, 34), ((4, 5), 4, 38), ((0, 0), 4, 106), ((5, 1), 5, 7), ((5, 2), 5, 13), ((5, 5), 5, 16), ((5, 7), 5, 19), ((5, 8), 5, 22), ((5, 0), 5, 25), ((5, 3), 5, 29), ((5, 4), 5, 32), ((5, 6), 5, 35), ((5, 9), 5, 77), ((5, 10), 5, 80), ((5, 11), 5, 83), ((5, 12), 5, 86)]
def mm_fd (a : Nat) : (Nat × Nat) × (Nat × Nat) := mm_fldT.getD a ((0, 0), 0, 0)
abbrev mm_fld (a : Nat) : Nat × Nat := (mm_fd a).1
/-- the calls: (callee, arguments, its locals, the receiver's kind), the calling class, its pool number, how -/
def mm_siteT : List (mm_S × (Nat × (Nat × Nat))) := [((16, 1, 1, 11), 0, 11, 108), ((1, 1, 2, 10), 0, 34, 105), ((11, 3, 5, 10), 0, 41, 105), ((70, 2, 2, 0), 0, 45, 107), ((5, 2, 2, 10), 0, 49, 105), ((6, 2, 2, 10), 0, 53, 105), ((13, 2, 2, 10), 0, 56, 105), ((9, 3, 6, 10), 0, 59, 105), ((22, 4, 5, 11), 0, 62, 105), ((7, 3, 4, 10), 0, 66, 105), ((10, 3, 8, 10), 0, 69, 105), ((15, 4, 5, 10), 0, 72, 105), ((14, 3, 3, 10), 0, 75, 105), ((23, 3, 6, 11), 0, 79, 105), ((12, 2, 3, 10), 0, 82, 105), ((24, 2, 3, 0), 1, 21, 106), ((17, 3, 4, 11), 1, 25, 105), ((0, 1, 1, 10), 2, 11, 108), ((2, 1, 1, 10), 2, 26, 105), ((3, 2, 2, 10), 2, 30, 105), ((7, 3, 4, 10), 2, 34, 105), ((33, 2, 2, 12), 2, 38, 105), ((34, 3, 3, 12), 2, 41, 105), ((32, 4, 4, 12), 2, 50, 105), ((36, 1, 1, 13), 2, 57, 105), ((37, 2, 2, 13), 2, 62, 105), ((40, 1, 1, 13), 2, 65, 105), ((38, 2, 2, 13), 2, 68, 105), ((21, 3, 5, 11), 2, 76, 105), ((20, 2, 4, 11), 2, 82, 105), ((70, 2, 2, 0), 2, 85, 107), ((70, 2, 2, 0), 3, 25, 107), ((35, 2, 2, 13), 4, 15, 108), ((25, 1, 1, 12), 4, 24, 108), ((40, 1, 1, 13), 4, 41, 105), ((1, 1, 2, 10), 4, 44, 105), ((71, 2, 3, 14), 4, 56, 105), ((72, 1, 1, 0), 4, 60, 106), ((36, 1, 1, 13), 4, 65, 105), ((8, 4, 7, 10), 4, 69, 105), ((38, 2, 2, 13), 4, 73, 105), ((70, 2, 2, 0), 4, 76, 106), ((37, 2, 2, 13), 4, 85, 105), ((39, 1, 1, 13), 4, 93, 105), ((74, 1, 1, 14), 4, 103, 105), ((20, 2, 4, 11), 4, 110, 105), ((17, 3, 4, 11), 4, 115, 105), ((18, 3, 4, 11), 4, 119, 105), ((75, 2, 2, 14), 4, 122, 105), ((19, 3, 4, 11), 4, 125, 105), ((73, 2, 4, 14), 4, 128, 105), ((7, 3, 4, 10), 4, 131, 105), ((2, 1, 1, 10), 4, 134, 105), ((5, 2, 2, 10), 4, 137, 105), ((6, 2, 2, 10), 4, 140, 105), ((4, 1, 3, 10), 4, 143, 105), ((26, 1, 5, 12), 4, 146, 105), ((29, 2, 8, 12), 4, 149, 105), ((30, 3, 7, 12), 4, 155, 105), ((27, 3, 7, 12), 4, 161, 105), ((31, 2, 5, 12), 4, 165, 105), ((28, 2, 6, 12), 4, 173, 105), ((78, 2, 2, 15), 5, 38, 105), ((79, 2, 2, 15), 5, 42, 105), ((82, 1, 1, 0), 5, 45, 106), ((90, 3, 4, 15), 5, 48, 105), ((94, 4, 6, 15), 5, 52, 105), ((95, 3, 5, 15), 5, 56, 105), ((96, 2, 4, 15), 5, 60, 105), ((102, 2, 7, 15), 5, 64, 105), ((105, 2, 2, 15), 5, 67, 105), ((106, 3, 4, 15), 5, 70, 105), ((107, 3, 4, 15), 5, 73, 105), ((108, 1, 5, 15), 5, 90, 105), ((109, 3, 6, 15), 5, 93, 105), ((111, 2, 7, 15), 5, 96, 105), ((114, 1, 3, 15), 5, 99, 105), ((116, 2, 3, 15), 5, 103, 105), ((119, 3, 8, 15), 5, 106, 105), ((122, 2, 3, 15), 5, 109, 105), ((43, 1, 1, 14), 6, 7, 105), ((44, 3, 4, 14), 6, 15, 105), ((46, 2, 2, 14), 6, 23, 105), ((47, 3, 4, 14), 6, 27, 105), ((48, 2, 2, 14), 6, 30, 105), ((49, 1, 2, 14), 6, 33, 105), ((51, 4, 6, 14), 6, 36, 105), ((53, 2, 2, 14), 6, 40, 105), ((56, 2, 2, 14), 6, 43, 105), ((57, 2, 2, 14), 6, 46, 105), ((58, 2, 2, 14), 6, 49, 105), ((66, 2, 2, 14), 6, 52, 105), ((67, 2, 2, 14), 6, 55, 105), ((68, 2, 2, 14), 6, 58, 105), ((69, 2, 2, 14), 6, 61, 105), ((41, 1, 2, 14), 6, 64, 108), ((76, 1, 1, 15), 6, 67, 108), ((42, 1, 3, 14), 6, 68, 105), ((80, 1, 1, 15), 6, 71, 105), ((124, 2, 3, 0), 6, 72, 106), ((81, 1, 1, 15), 6, 77, 105), ((77, 1, 1, 15), 6, 78, 105), ((125, 4, 5, 0), 6, 81, 106), ((83, 3, 3, 15), 6, 84, 105), ((45, 1, 1, 14), 6, 85, 105), ((84, 1, 1, 15), 6, 88, 105), ((126, 3, 4, 0), 6, 89, 106), ((85, 2, 2, 15), 6, 92, 105), ((127, 4, 5, 0), 6, 93, 106), ((86, 3, 4, 15), 6, 95, 105), ((128, 3, 4, 0), 6, 96, 106), ((87, 2, 2, 15), 6, 98, 105), ((129, 2, 3, 0), 6, 99, 106), ((88, 1, 1, 15), 6, 101, 105), ((50, 1, 2, 14), 6, 102, 105), ((89, 1, 2, 15), 6, 105, 105), ((130, 4, 5, 0), 6, 106, 106), ((91, 4, 5, 15), 6, 109, 105), ((52, 1, 1, 14), 6, 110, 105), ((92, 1, 1, 15), 6, 113, 105), ((131, 3, 4, 0), 6, 114, 106), ((93, 2, 2, 15), 6, 116, 105), ((54, 1, 1, 14), 6, 117, 105), ((97, 1, 1, 15), 6, 121, 105), ((55, 1, 1, 14), 6, 122, 105), ((98, 1, 1, 15), 6, 125, 105), ((132, 3, 4, 0), 6, 126, 106), ((99, 2, 2, 15), 6, 128, 105), ((133, 3, 4, 0), 6, 129, 106), ((100, 2, 4, 15), 6, 131, 105), ((134, 3, 4, 0), 6, 132, 106), ((101, 2, 4, 15), 6, 134, 105), ((59, 1, 4, 14), 6, 135, 105), ((103, 1, 1, 15), 6, 138, 105), ((60, 1, 3, 14), 6, 139, 105), ((104, 1, 1, 15), 6, 142, 105), ((61, 1, 1, 14), 6, 143, 105), ((110, 1, 4, 15), 6, 146, 105), ((62, 1, 2, 14), 6, 147, 105), ((112, 1, 2, 15), 6, 150, 105), ((63, 1, 2, 14), 6, 151, 105), ((113, 1, 3, 15), 6, 154, 105), ((64, 1, 1, 14), 6, 155, 105), ((115, 1, 1, 15), 6, 158, 105), ((65, 1, 1, 14), 6, 159, 105), ((117, 1, 5, 15), 6, 162, 105), ((135, 3, 4, 0), 6, 163, 106), ((118, 2, 4, 15), 6, 165, 105), ((136, 3, 4, 0), 6, 166, 106), ((120, 2, 2, 15), 6, 168, 105), ((137, 3, 4, 0), 6, 169, 106), ((121, 2, 2, 15), 6, 171, 105), ((138, 3, 4, 0), 6, 172, 106), ((123, 2, 2, 15), 6, 174, 105)]
def mm_sd (a : Nat) : mm_S × (Nat × (Nat × Nat)) := mm_siteT.getD a ((0, 0, 0, 0), 0, 0, 0)
abbrev mm_site (a : Nat) : mm_S := (mm_sd a).1
/-- the throws: pool numbers of class, text, constructor; the exception; the text -/
def mm_thrT : List (Nat × (Nat × (Nat × (Nat × String)))) := [(49, 51, 53, 2, "there are as many texts as there may be"), (49, 63, 53, 2, "the texts have as many letters as they may have"), (80, 82, 84, 0, "the text has no such letter"), (49, 89, 53, 2, "the pattern has as many letters as it may have"), (49, 91, 53, 2, "the pattern is empty"), (96, 98, 100, 1, "the text has no such letters"), (80, 101, 84, 0, "the pattern has no such letter"), (80, 153, 84, 0, "there is no such part"), (96, 159, 100, 1, "the set has no text, or one that is not there"), (96, 169, 100, 1, "occurrences are 1 or more"), (96, 171, 100, 1, "a word may have 1 to 26 letters"), (80, 176, 84, 0, "there is no such text"), (96, 178, 100, 1, "a letter is 0 to 25")]
def mm_th (a : Nat) : Nat × (Nat × (Nat × (Nat × String))) := mm_thrT.getD a (0, 0, 0, 0, "")
def mm_handT : List ((Nat × Nat) × Int) := [((124, 2), 1), ((125, 0), 1), ((125, 1), 2), ((125, 2), 3), ((126, 0), 1), ((127, 0), 1), ((128, 1), 1), ((128, 2), 2), ((129, 2), 1), ((130, 0), 1), ((130, 1), 2), ((131, 0), 1), ((132, 0), 1), ((133, 0), 1), ((134, 0), 1), ((135, 0), 1), ((136, 1), 1), ((137, 1), 1), ((138, 1), 1)]
def mm_hand (y E : Nat) : Option Int := mm_handT.lookup (y, E)
def mm_noH (y : Nat) : Bool := (mm_hh y).isEmpty
def mm_swT : List Nat := [25, 30, 55, 100, 107, 142, 187, 222, 247, 254, 296, 303, 338, 345, 352, 387, 422, 457, 464, 471, 478, 485, 492, 499, 506, 541, 576, 611]
def mm_swO : List Int := [125, 136, 180, 248, 261, 317, 385, 441, 485, 498, 558, 571, 627, 640, 653, 709, 765, 821, 834, 847, 860, 873, 886, 899, 912, 968, 1024, 1080]
def mm_sw (x : Int) : Nat := if x < 0 ∨ 27 < x then 646 else mm_swT.getD x.toNat 646
abbrev mm_go (n y i : Nat) (ls : mm_F) (st : List mm_V) (h : mm_H) : Option (mm_O × mm_H) := mm_run mm_code mm_fld mm_site mm_hand mm_noH mm_sw n y i ls st h
abbrev mi_X0_init : Nat := 0
abbrev mi_X0_forget : Nat := 1
abbrev mi_X0_stateCount : Nat := 2
abbrev mi_X0_stateAt : Nat := 3
abbrev mi_X0_partCount : Nat := 4
abbrev mi_X0_longestOf : Nat := 5
abbrev mi_X0_shortestOf : Nat := 6
abbrev mi_X0_step : Nat := 7
abbrev mi_X0_grow : Nat := 8
abbrev mi_X0_extend : Nat := 9
abbrev mi_X0_stateBehind : Nat := 10
abbrev mi_X0_addState : Nat := 11
abbrev mi_X0_sortIn : Nat := 12
abbrev mi_X0_linkOf : Nat := 13
abbrev mi_X0_putLink : Nat := 14
abbrev mi_X0_putStep : Nat := 15
abbrev mi_X1_init : Nat := 16
abbrev mi_X1_countOf : Nat := 17
abbrev mi_X1_firstOf : Nat := 18
abbrev mi_X1_lastOf : Nat := 19
abbrev mi_X1_countInAll : Nat := 20
abbrev mi_X1_standInEach : Nat := 21
abbrev mi_X1_note : Nat := 22
abbrev mi_X1_takeOver : Nat := 23
abbrev mi_X1_placeOf : Nat := 24
abbrev mi_X2_init : Nat := 25
abbrev mi_X2_countWords : Nat := 26
abbrev mi_X2_measureReach : Nat := 27
abbrev mi_X2_measureGaps : Nat := 28
abbrev mi_X2_partsAheadOf : Nat := 29
abbrev mi_X2_spellPart : Nat := 30
abbrev mi_X2_spellWay : Nat := 31
abbrev mi_X2_suits : Nat := 32
abbrev mi_X2_aheadOf : Nat := 33
abbrev mi_X2_putAhead : Nat := 34
abbrev mi_X3_init : Nat := 35
abbrev mi_X3_size : Nat := 36
abbrev mi_X3_letter : Nat := 37
abbrev mi_X3_add : Nat := 38
abbrev mi_X3_shorten : Nat := 39
abbrev mi_X3_empty : Nat := 40
abbrev mi_X4_init : Nat := 41
abbrev mi_X4_clear : Nat := 42
abbrev mi_X4_open : Nat := 43
abbrev mi_X4_append : Nat := 44
abbrev mi_X4_texts : Nat := 45
abbrev mi_X4_length : Nat := 46
abbrev mi_X4_letterAt : Nat := 47
abbrev mi_X4_type : Nat := 48
abbrev mi_X4_erase : Nat := 49
abbrev mi_X4_wipe : Nat := 50
abbrev mi_X4_copy : Nat := 51
abbrev mi_X4_patternLength : Nat := 52
abbrev mi_X4_patternAt : Nat := 53
abbrev mi_X4_isPart : Nat := 54
abbrev mi_X4_occurrences : Nat := 55
abbrev mi_X4_occurrencesIn : Nat := 56
abbrev mi_X4_first : Nat := 57
abbrev mi_X4_last : Nat := 58
abbrev mi_X4_followers : Nat := 59
abbrev mi_X4_leaders : Nat := 60
abbrev mi_X4_classes : Nat := 61
abbrev mi_X4_longestAlike : Nat := 62
abbrev mi_X4_shortestAlike : Nat := 63
abbrev mi_X4_parts : Nat := 64
abbrev mi_X4_rank : Nat := 65
abbrev mi_X4_toPart : Nat := 66
abbrev mi_X4_common : Nat := 67
abbrev mi_X4_repeated : Nat := 68
abbrev mi_X4_missing : Nat := 69
abbrev mi_X4_within : Nat := 70
abbrev mi_X4_demandText : Nat := 71
abbrev mi_X4_demandLetter : Nat := 72
abbrev mi_X4_walkPattern : Nat := 73
abbrev mi_X4_partState : Nat := 74
abbrev mi_X4_beginOfPattern : Nat := 75
abbrev mi_X5_init : Nat := 76
abbrev mi_X5_thrown : Nat := 77
abbrev mi_X5_holds : Nat := 78
abbrev mi_X5_isText : Nat := 79
abbrev mi_X5_clear : Nat := 80
abbrev mi_X5_open : Nat := 81
abbrev mi_X5_isLetter : Nat := 82
abbrev mi_X5_append : Nat := 83
abbrev mi_X5_texts : Nat := 84
abbrev mi_X5_length : Nat := 85
abbrev mi_X5_letterAt : Nat := 86
abbrev mi_X5_type : Nat := 87
abbrev mi_X5_erase : Nat := 88
abbrev mi_X5_wipe : Nat := 89
abbrev mi_X5_lays : Nat := 90
abbrev mi_X5_copy : Nat := 91
abbrev mi_X5_patternLength : Nat := 92
abbrev mi_X5_patternAt : Nat := 93
abbrev mi_X5_stands : Nat := 94
abbrev mi_X5_countIn : Nat := 95
abbrev mi_X5_count : Nat := 96
abbrev mi_X5_isPart : Nat := 97
abbrev mi_X5_occurrences : Nat := 98
abbrev mi_X5_occurrencesIn : Nat := 99
abbrev mi_X5_first : Nat := 100
abbrev mi_X5_last : Nat := 101
abbrev mi_X5_beside : Nat := 102
abbrev mi_X5_followers : Nat := 103
abbrev mi_X5_leaders : Nat := 104
abbrev mi_X5_left : Nat := 105
abbrev mi_X5_same : Nat := 106
abbrev mi_X5_comes : Nat := 107
abbrev mi_X5_sorts : Nat := 108
abbrev mi_X5_looks : Nat := 109
abbrev mi_X5_classes : Nat := 110
abbrev mi_X5_areLed : Nat := 111
abbrev mi_X5_longestAlike : Nat := 112
abbrev mi_X5_shortestAlike : Nat := 113
abbrev mi_X5_partsNow : Nat := 114
abbrev mi_X5_parts : Nat := 115
abbrev mi_X5_agreed : Nat := 116
abbrev mi_X5_rank : Nat := 117
abbrev mi_X5_toPart : Nat := 118
abbrev mi_X5_finds : Nat := 119
abbrev mi_X5_common : Nat := 120
abbrev mi_X5_repeated : Nat := 121
abbrev mi_X5_goesOn : Nat := 122
abbrev mi_X5_missing : Nat := 123
abbrev mi_L_open : Nat := 124
abbrev mi_L_append : Nat := 125
abbrev mi_L_length : Nat := 126
abbrev mi_L_letterAt : Nat := 127
abbrev mi_L_type : Nat := 128
abbrev mi_L_erase : Nat := 129
abbrev mi_L_copy : Nat := 130
abbrev mi_L_patternAt : Nat := 131
abbrev mi_L_occurrencesIn : Nat := 132
abbrev mi_L_first : Nat := 133
abbrev mi_L_last : Nat := 134
abbrev mi_L_toPart : Nat := 135
abbrev mi_L_common : Nat := 136
abbrev mi_L_repeated : Nat := 137
abbrev mi_L_missing : Nat := 138
abbrev mi_L_law : Nat := 139
end
section
/-! every row of MM is the instruction that stands there -/
def mm_ins (op a : Nat) (b : Int) : Instr × Nat := match op with
  | 0 => (.iconst b, 1)
  | 1 => (.bipush b, 2)
  | 2 => (.sipush b, 3)
  | 3 => (.iload_n (Fin.ofNat 4 a), 1)
  | 4 => (.iload a, 2)
  | 5 => (.aload_n (Fin.ofNat 4 a), 1)
  | 6 => (.aload a, 2)
  | 7 => (.istore_n (Fin.ofNat 4 a), 1)
  | 8 => (.istore a, 2)
  | 9 => (.astore_n (Fin.ofNat 4 a), 1)
  | 10 => (.astore a, 2)
  | 11 => (.iadd, 1)
  | 12 => (.isub, 1)
  | 13 => (.imul, 1)
  | 14 => (.idiv, 1)
  | 15 => (.irem, 1)
  | 16 => (.ishl, 1)
  | 17 => (.ishr, 1)
  | 18 => (.iand, 1)
  | 19 => (.ior, 1)
  | 20 => (.iinc a b, 3)
  | 21 => (.dup, 1)
  | 22 => (.dup2, 1)
  | 23 => (.pop, 1)
  | 24 => (.goto b, 3)
  | 25 => (.ifCond .eq b, 3)
  | 26 => (.ifCond .ne b, 3)
  | 27 => (.ifCond .lt b, 3)
  | 28 => (.ifCond .ge b, 3)
  | 29 => (.ifCond .gt b, 3)
  | 30 => (.ifCond .le b, 3)
  | 31 => (.if_icmp .eq b, 3)
  | 32 => (.if_icmp .ne b, 3)
  | 33 => (.if_icmp .lt b, 3)
  | 34 => (.if_icmp .ge b, 3)
  | 35 => (.if_icmp .gt b, 3)
  | 36 => (.if_icmp .le b, 3)
  | 37 => (.ifnull b, 3)
  | 38 => (.ifnonnull b, 3)
  | 39 => (.aconst_null, 1)
  | 40 => (.getfield (mm_fd a).2.2, 3)
  | 41 => (.putfield (mm_fd a).2.2, 3)
  | 42 => (.putfield (mm_fd a).2.2, 3)
  | 43 => (.iaload, 1)
  | 44 => (.iastore, 1)
  | 45 => (.laload, 1)
  | 46 => (.lastore, 1)
  | 47 => (.aaload, 1)
  | 48 => (.aastore, 1)
  | 49 => (.arraylength, 1)
  | 50 => (.new a, 3)
  | 51 => (.newarray .int, 2)
  | 52 => (.newarray .long, 2)
  | 53 => (.anewarray a, 3)
  | 54 => (.i2l, 1)
  | 55 => (.lcmp, 1)
  | 56 => (.tableswitch 1136 0 27 mm_swO.toArray, 125)
  | 57 => (.invokespecial a, 3)
  | 58 => (.invokestatic a, 3)
  | 59 => (.invokestatic a, 3)
  | 100 => (.ireturn, 1)
  | 101 => (.ireturn, 1)
  | 102 => (.areturn, 1)
  | 103 => (.return_, 1)
  | 104 => (.new (mm_th a).1, 3)
  | 105 => (.invokevirtual (mm_sd a).2.2.1, 3)
  | 106 => (.invokestatic (mm_sd a).2.2.1, 3)
  | 107 => (.invokestatic (mm_sd a).2.2.1, 3)
  | 108 => (.invokespecial (mm_sd a).2.2.1, 3)
  | _ => (.nop, 1)
def mm_nx (y i : Nat) : Nat := match mm_code y i with
  | some q => q.1
  | none => 0
def mm_okB (y i : Nat) (q : mm_E) : Bool :=
  if q.2.1 = 111 then true else
  decide (decode (mm_by y) q.1 = .ok (mm_ins q.2.1 q.2.2.1 q.2.2.2)) &&
  (if q.2.1 = 24 ∨ q.2.1 = 56 ∨ (100 ≤ q.2.1 ∧ q.2.1 ≤ 104) then true else decide (mm_nx y (i + 1) = q.1 + (mm_ins q.2.1 q.2.2.1 q.2.2.2).2)) &&
  (if 24 ≤ q.2.1 ∧ q.2.1 ≤ 38 then decide ((q.1 : Int) + q.2.2.2 = (mm_nx y q.2.2.1 : Int)) else true) &&
  (if q.2.1 = 3 ∨ q.2.1 = 5 ∨ q.2.1 = 7 ∨ q.2.1 = 9 then decide (q.2.2.1 < 4) else true) &&
  (if 40 ≤ q.2.1 ∧ q.2.1 ≤ 42 then decide ((mm_fd q.2.2.1).2.1 = mm_own y ∧ q.2.2.1 < mm_fldT.length) else true) &&
  (if 105 ≤ q.2.1 ∧ q.2.1 ≤ 108 then decide ((mm_sd q.2.2.1).2.1 = mm_own y ∧ (mm_sd q.2.2.1).2.2.2 = q.2.1 ∧ q.2.2.1 < mm_siteT.length ∧ mm_nF (mm_sd q.2.2.1).1.1 + 1 ≤ mm_nF y ∧ 8 + (mm_mL (mm_sd q.2.2.1).1.1 + 11) + mm_nL (mm_sd q.2.2.1).1.1 ≤ mm_nL y) else true) &&
  (if 57 ≤ q.2.1 ∧ q.2.1 ≤ 59 then decide (1 ≤ mm_nF y ∧ 21 ≤ mm_nL y) else true) &&
  (if q.2.1 = 104 then decide (6 ≤ mm_nF y ∧ 82 ≤ mm_nL y ∧ q.2.2.1 < mm_thrT.length ∧ mm_own y = 4 ∧ (mm_th q.2.2.1).2.2.2.1 = q.2.2.2.toNat ∧ mm_hh y = [] ∧ decode (mm_by y) (q.1 + 3) = .ok (.dup, 1) ∧ decode (mm_by y) (q.1 + 4) = .ok (.ldc (mm_th q.2.2.1).2.1, 2) ∧ decode (mm_by y) (q.1 + 6) = .ok (.invokespecial (mm_th q.2.2.1).2.2.1, 3) ∧ decode (mm_by y) (q.1 + 9) = .ok (.athrow, 1)) else true) &&
  (if q.2.1 = 100 then decide (mm_rt y = some .int) else true) && (if q.2.1 = 101 then decide (mm_rt y = some .boolean) else true) && (if q.2.1 = 102 then decide (mm_rt y = some (.object RX3)) else true) && (if q.2.1 = 103 then decide (mm_rt y = none) else true)

theorem mm_okA {y i : Nat} {q : mm_E} (h : mm_code y i = some q) : mm_okB y i q = true ∧ y < 140 := sorry
end
section
/-! the tables' words that rows need: their places -/
def mm_w : List Cond := lw_tbl.filter goodWord
theorem mm_wi {w : Cond} (i : Nat) (h : lw_tbl[i]? = some w) (hg : goodWord w = true) : w ∈ mm_w := List.mem_filter.mpr ⟨List.mem_of_getElem? h, hg⟩
theorem mm_w_good : GoodIn lw_tbl mm_w := fun w h => ⟨(List.mem_filter.mp h).1, good_of_word (List.mem_filter.mp h).2⟩
theorem mm_ww : GoodIn mm_w mm_w := fun w h => ⟨h, good_of_word (List.mem_filter.mp h).2⟩
theorem mm_wl {ws : List Cond} (is : List Nat) (h : ws = is.filterMap (fun i => lw_tbl[i]?)) (hg : ws.all goodWord = true) : ∀ w ∈ ws, w ∈ mm_w := by
  intro w hw
  refine List.mem_filter.mpr ⟨?_, List.all_eq_true.mp hg w hw⟩
  rw [h] at hw
  obtain ⟨i, -, hi⟩ := List.mem_filterMap.mp hw
  exact List.mem_of_getElem? hi
def mm_cl (ci : Nat) : vw_C := vwCl.getD ci (RX0, TX0, 7)
def mm_ty (ci : Nat) : Nat → FieldType := match ci with
  | 0 => tyX0
  | 1 => tyX1
  | 2 => tyX2
  | 3 => tyX3
  | 4 => tyX4
  | _ => tyX5
def mm_kOK (ci k : Nat) : Bool := match (mm_fk ci)[k]? with
  | some 0 => decide (mm_ty ci k = .int) && !((mm_cl ci).2.1 k).2.2.2
  | some 1 => decide (mm_ty ci k = .boolean) && !((mm_cl ci).2.1 k).2.2.2
  | some 2 => (match mm_ty ci k with
    | .object _ => true
    | .array _ => true
    | _ => false) && ((mm_cl ci).2.1 k).2.2.2
  | _ => false
def mm_okC (ci : Nat) : Prop := vwCl[ci]? = some (mm_cl ci) ∧ (∀ w ∈ u_ws (mm_cl ci).1 (mm_cl ci).2.1 (mm_cl ci).2.2, w ∈ mm_w) ∧ (∀ k, k < (mm_cl ci).2.2 → parseFieldDescriptor ((mm_cl ci).2.1 k).2.2.1 = some (mm_ty ci k)) ∧ (∀ a, a < (mm_cl ci).2.2 → ∀ b, b < (mm_cl ci).2.2 → a ≠ b → ((mm_cl ci).2.1 a).2.1 ≠ ((mm_cl ci).2.1 b).2.1) ∧ (mm_fk ci).length = (mm_cl ci).2.2 ∧ (∀ k, k < (mm_cl ci).2.2 → mm_kOK ci k = true ∧ ((mm_cl ci).2.1 k).1 = (mm_cl ci).1) ∧ (mm_cl ci).1 = mm_cn ci
theorem mm_CA : ∀ ci, ci < 6 → mm_okC ci := sorry
def mm_okF (a : Nat) : Prop := (mm_fd a).1.1 < 6 ∧ (mm_fd a).1.2 < (mm_cl (mm_fd a).1.1).2.2 ∧ Cond.fieldLink (mm_cn (mm_fd a).2.1) (mm_fd a).2.2 (mm_cl (mm_fd a).1.1).1 ((mm_cl (mm_fd a).1.1).2.1 (mm_fd a).1.2).2.1 ((mm_cl (mm_fd a).1.1).2.1 (mm_fd a).1.2).2.2.1 ∈ mm_w
theorem mm_FA {a : Nat} (h : a < mm_fldT.length) : mm_okF a := sorry
/-- a method but the law: its code is a word, its class is its own -/
def mm_okM (y : Nat) : Prop := (mm_hh y = [] → Cond.code (mm_yn y) (mm_by y) (mm_mL y) (mm_rt y) ∈ mm_w) ∧ (¬ mm_hh y = [] → Cond.codeWith (mm_yn y) (mm_by y) (mm_mL y) (mm_rt y) (mm_hh y) ∈ mm_w) ∧ plainName (mm_yn y).cls = true ∧ Cond.initialized (mm_yn y).cls ∈ mm_w ∧ mm_cn (mm_own y) = (mm_yn y).cls ∧ (mm_yn y).cls ≠ "java/lang/invoke/MethodHandle" ∧ (mm_yn y).cls ≠ "java/lang/invoke/VarHandle" ∧ mm_own y < 7
theorem mm_MA {y : Nat} (h : y < 139) : mm_okM y := sorry
def mm_okS (a : Nat) : Prop := (mm_sd a).1.1 < 139 ∧ (mm_sd a).1.2.2.1 = mm_mL (mm_sd a).1.1 ∧
  (parseMethodDescriptor (mm_yn (mm_sd a).1.1).desc).map (fun d => d.parameters.length) = some ((mm_sd a).1.2.1 - if (mm_sd a).2.2.2 = 105 ∨ (mm_sd a).2.2.2 = 108 then 1 else 0) ∧
  (¬ (mm_sd a).2.2.2 = 107 → Cond.methodLink (mm_cn (mm_sd a).2.1) (mm_sd a).2.2.1 (mm_yn (mm_sd a).1.1) ∈ mm_w) ∧
  ((mm_sd a).2.2.2 = 105 ∨ (mm_sd a).2.2.2 = 108 → Cond.instanceMethod (mm_yn (mm_sd a).1.1) ∈ mm_w ∧ 0 < (mm_sd a).1.2.1 ∧ (mm_sd a).1.2.2.2 = 10 + mm_own (mm_sd a).1.1 ∧ mm_own (mm_sd a).1.1 < 6) ∧
  ((mm_sd a).2.2.2 = 106 ∨ (mm_sd a).2.2.2 = 107 → Cond.static (mm_yn (mm_sd a).1.1) ∈ mm_w) ∧
  ((mm_sd a).2.2.2 = 105 → Cond.selects (mm_yn (mm_sd a).1.1).cls (mm_yn (mm_sd a).1.1) (mm_yn (mm_sd a).1.1) ∈ mm_w) ∧
  ((mm_sd a).2.2.2 = 108 → (mm_yn (mm_sd a).1.1).name = "<init>" ∧ mm_rt (mm_sd a).1.1 = none ∧ mm_hh (mm_sd a).1.1 = []) ∧
  ((mm_sd a).2.2.2 = 107 → mm_hh (mm_sd a).1.1 = [] ∧ (mm_yn (mm_sd a).1.1) = yX4_within)
theorem mm_SA {a : Nat} (h : a < mm_siteT.length) : mm_okS a := sorry
def mm_newT : List (Nat × (Nat × (Nat × Int))) := [(0, 57, 3, 0), (0, 50, 9, 1), (1, 57, 3, 0), (2, 57, 3, 0), (2, 50, 9, 0), (2, 58, 45, 0), (2, 59, 54, 0), (3, 57, 3, 0), (3, 58, 9, 0), (4, 57, 3, 0), (4, 53, 9, 0), (4, 50, 9, 3), (4, 50, 22, 2), (5, 57, 1, 0), (6, 50, 8, 4), (6, 50, 65, 5)]
def mm_isN (op : Nat) : Bool := op == 50 || op == 53 || op == 57 || op == 58 || op == 59
theorem mm_nA {y i : Nat} {q : mm_E} (h : mm_code y i = some q) (hn : mm_isN q.2.1 = true) : (mm_own y, q.2) ∈ mm_newT := sorry
def mm_okN (q : Nat × (Nat × (Nat × Int))) : Prop :=
  (q.2.1 = 50 → q.2.2.2.toNat < 6 ∧ Cond.classLink (mm_cn q.1) q.2.2.1 (mm_cl q.2.2.2.toNat).1 ∈ mm_w ∧ Cond.instantiable (mm_cl q.2.2.2.toNat).1 (mm_cl q.2.2.2.toNat).2.2 ∈ mm_w ∧ Cond.initialized (mm_cl q.2.2.2.toNat).1 ∈ mm_w) ∧
  (q.2.1 = 53 → Cond.classLink (mm_cn q.1) q.2.2.1 RX3 ∈ mm_w) ∧
  (q.2.1 = 57 → Cond.methodLink (mm_cn q.1) q.2.2.1 objectInit ∈ mm_w) ∧
  (q.2.1 = 58 → Cond.methodLink (mm_cn q.1) q.2.2.1 Lib.Math.max.name ∈ mm_w) ∧
  (q.2.1 = 59 → Cond.methodLink (mm_cn q.1) q.2.2.1 Lib.Math.min.name ∈ mm_w)
theorem mm_NA : ∀ q ∈ mm_newT, mm_okN q := sorry
theorem mm_wOI : Cond.instanceMethod objectInit ∈ mm_w ∧ Cond.code objectInit ⟨#[0xb1]⟩ 1 none ∈ mm_w := sorry
theorem mm_w_max : Cond.static Lib.Math.max.name ∈ mm_w ∧ Cond.code Lib.Math.max.name Lib.Math.max.code 2 (some .int) ∈ mm_w := sorry
theorem mm_w_min : Cond.static Lib.Math.min.name ∈ mm_w ∧ Cond.code Lib.Math.min.name Lib.Math.min.code 2 (some .int) ∈ mm_w := sorry
theorem mm_wMath : Cond.initialized "java/lang/Math" ∈ mm_w := sorry
theorem mm_wAr : Cond.arrayClass .int ∈ mm_w ∧ Cond.arrayClass .long ∈ mm_w := sorry
def mm_nms : List String := ["java/lang/RuntimeException", "java/lang/Exception"]
def mm_bad (E : String) : List Cond := [Cond.castable E E, Cond.declares (Bundle.initS "java/lang/RuntimeException"), Cond.declares (Bundle.initS "java/lang/Exception"), Cond.declares (Bundle.initS "java/lang/Throwable")]
def mm_okT (a : Nat) : Prop := (mm_th a).2.2.2.1 < 3 ∧ Cond.classLink RX4 (mm_th a).1 (mm_en (mm_th a).2.2.2.1) ∈ mm_w ∧ Cond.initialized (mm_en (mm_th a).2.2.2.1) ∈ mm_w ∧ (∀ w ∈ (vx_atS RX4 (mm_th a).2.2.1 (mm_en (mm_th a).2.2.2.1) mm_nms).filter goodWord, w ∈ mm_w) ∧ (∀ w ∈ (vx_atS RX4 (mm_th a).2.2.1 (mm_en (mm_th a).2.2.2.1) mm_nms).filter (fun w => !goodWord w), w ∈ mm_bad (mm_en (mm_th a).2.2.2.1)) ∧ (∀ w ∈ Cond.classLink RX4 (mm_th a).1 (mm_en (mm_th a).2.2.2.1) :: Cond.initialized (mm_en (mm_th a).2.2.2.1) :: vx_atS RX4 (mm_th a).2.2.1 (mm_en (mm_th a).2.2.2.1) mm_nms, vx_ot w = true) ∧ Bundle.fit (mm_en (mm_th a).2.2.2.1) = true
theorem mm_fm {L : List Cond} (h : ∀ w ∈ L.filter goodWord, w ∈ lw_tbl) : ∀ w ∈ L.filter goodWord, w ∈ mm_w := fun w hw => List.mem_filter.mpr ⟨h w hw, (List.mem_filter.mp hw).2⟩
theorem mm_TA {a : Nat} (h : a < mm_thrT.length) : mm_okT a := sorry
theorem mm_fitN : ∀ n ∈ mm_nms, Bundle.fit n = true := sorry
/-- a handler: the call stands at pc; the row of the table that takes E; rows ahead name other exceptions; astore, iconst, ireturn -/
def mm_okH (y pc E : Nat) (z : Int) : Prop := ∃ (pre : List ExceptionTableEntry) (x : ExceptionTableEntry) (suf : List ExceptionTableEntry) (k : Nat), tableOf (mm_hh y) = pre ++ x :: suf ∧ (∀ q ∈ pre, q.catchType ≠ 0 ∧ ∃ F, F < 3 ∧ E ≠ F ∧ Cond.classLink (mm_cn (mm_own y)) q.catchType (mm_en F) ∈ mm_w) ∧ covers x pc = true ∧ x.catchType ≠ 0 ∧ E < 3 ∧ Cond.classLink (mm_cn (mm_own y)) x.catchType (mm_en E) ∈ mm_w ∧ mm_rng z ∧ mm_rt y = some .int ∧ k < mm_mL y ∧
  ((decode (mm_by y) x.handlerPc = .ok (.astore_n (Fin.ofNat 4 k), 1) ∧ k < 4 ∧ decode (mm_by y) (x.handlerPc + 1) = .ok (.iconst z, 1) ∧ decode (mm_by y) (x.handlerPc + 2) = .ok (.ireturn, 1)) ∨ (decode (mm_by y) x.handlerPc = .ok (.astore k, 2) ∧ decode (mm_by y) (x.handlerPc + 2) = .ok (.iconst z, 1) ∧ decode (mm_by y) (x.handlerPc + 3) = .ok (.ireturn, 1)))
/-- where the one call of a method with a table stands -/
def mm_hpc (y : Nat) : Nat := match y with
  | 124 => 3
  | 125 => 5
  | 126 => 4
  | 127 => 5
  | 128 => 4
  | 129 => 3
  | 130 => 4
  | 131 => 4
  | 132 => 4
  | 133 => 4
  | 134 => 4
  | 135 => 4
  | 136 => 4
  | 137 => 4
  | 138 => 4
  | _ => 0
theorem mm_HA0 : ∀ q ∈ mm_handT, mm_okH q.1.1 (mm_hpc q.1.1) q.1.2 q.2 := sorry
def mm_hy : List Nat := [124, 125, 126, 127, 128, 129, 130, 131, 132, 133, 134, 135, 136, 137, 138]
theorem mm_hpA : ∀ y ∈ mm_hy, (mm_codeT.getD y []).all (fun q => decide (105 ≤ q.2.1 ∧ q.2.1 ≤ 108 → q.1 = mm_hpc y)) = true := sorry
theorem mm_hyA : ∀ q ∈ mm_handT, q.1.1 ∈ mm_hy := sorry
def mm_nestT : List (Nat × Nat) := [(0, 45), (2, 85), (3, 25)]
theorem mm_nestA : ∀ a, a < mm_siteT.length → (mm_sd a).2.2.2 = 107 → ((mm_sd a).2.1, (mm_sd a).2.2.1) ∈ mm_nestT := sorry
theorem mm_nestW : ∀ q ∈ mm_nestT, Cond.methodLinkNest (mm_cn q.1) q.2 yX4_within RX4 ∈ lw_tbl := sorry
theorem mm_castW : ∀ E, E < 3 → Cond.castable (mm_en E) (mm_en E) ∈ lw_tbl := sorry
theorem mm_decW0 : Cond.declares (Bundle.initS "java/lang/RuntimeException") ∈ lw_tbl := sorry
theorem mm_decW1 : Cond.declares (Bundle.initS "java/lang/Exception") ∈ lw_tbl := sorry
theorem mm_decW2 : Cond.declares (Bundle.initS "java/lang/Throwable") ∈ lw_tbl := sorry
theorem mm_aoW : Cond.arrayOver (.object RX3) ∈ lw_tbl := sorry
theorem mm_strA {a : Nat} (h : a < mm_thrT.length) : Cond.stringRef RX4 (mm_th a).2.1 (mm_th a).2.2.2.2 ∈ lw_tbl := sorry
end
section
/-! what holds of the tables and of what nobody writes, at a method's entry -/
def mm_scr (L : Nat) (xs : Nat → Int32) : List Int := (List.range L).map fun j => (xs j).toInt
def mm_K (g : mm_G) (D : va_G) (L : Nat) (xs : Nat → Int32) (s : State) : Prop :=
  va_K D vwCl (mm_tys g) s ∧ vx_Zq Bundle.tN "UNASSIGNED_STACK" Bundle.steD (mm_A g) s s.heap ∧ vx_Zq Bundle.tN "SUPPRESSED_SENTINEL" Bundle.listD (mm_A g) s s.heap ∧
  (∀ a, a < mm_thrT.length → ∃ sa, vk_R RX4 (mm_th a).2.1 (mm_th a).2.2.2.2 sa s) ∧ (∀ E, E < 3 → ∀ w ∈ mm_bad (mm_en E), va_Nw w s) ∧
  (∀ E F, E < 3 → F < 3 → E ≠ F → va_Nc (mm_en E) (mm_en F) s) ∧ (∀ q ∈ mm_nestT, va_Nw (Cond.methodLinkNest (mm_cn q.1) q.2 yX4_within RX4) s) ∧
  va_AO RX3 s ∧ va_X g.1 L xs s s.heap ∧ g.1 < g.2.1 ∧ g.2.1 ≤ s.heap.size ∧ L ≤ 2048
theorem mm_K.move {g : mm_G} {D : va_G} {L : Nat} {xs : Nat → Int32} {s U : State} (hW : s.WarmedH U.vm) (hz : s.heap.size ≤ U.heap.size) (hq : ∀ q : Nat, q < s.heap.size → ¬ mm_A g q → U.heap[q]? = s.heap[q]?) (h : mm_K g D L xs s) : mm_K g D L xs U := by
  obtain ⟨h1, h2, h3, h4, h5, h6, h7, h8, h9, h10, h11, h12⟩ := h
  refine ⟨va_K.moved hW.alike h1, vx_Zq.moved hW.alike (h2.kept hq), vx_Zq.moved hW.alike (h3.kept hq), fun a ha => ?_, fun E hE w hw => ?_, fun E F a b c => va_Nc.moved hW.alike (h6 E F a b c), fun q hq => va_Nw.warmM hW (h7 q hq), va_AO.moved hW.alike h8, ?_, h10, Nat.le_trans h11 hz, h12⟩
  · obtain ⟨sa, h⟩ := h4 a ha
    exact ⟨sa, vk_R.warm hW h⟩
  · have hz := h5 E hE w hw
    unfold mm_bad at hw
    rcases List.mem_cons.mp hw with rfl | hw
    · exact va_Nw.warmC hW hz
    rcases List.mem_cons.mp hw with rfl | hw
    · exact va_Nw.warmD hW hz
    rcases List.mem_cons.mp hw with rfl | hw
    · exact va_Nw.warmD hW hz
    rcases List.mem_cons.mp hw with rfl | hw
    · exact va_Nw.warmD hW hz
    cases hw
  · exact va_X.moved hW.alike (h9.kept (hq _ (Nat.lt_of_lt_of_le h10 h11) (Nat.not_le.mpr h10)))
/-- what holds of the method that runs -/
def mm_X (y : Nat) (l : Launch) (p : Program) (R : Room) (s : State) (m : MethodId) (args : Array Value) (meth : Method) (c : Code) : Prop :=
  p.tables.exec = Jvm.exec ∧ c.code = mm_by y ∧ c.maxLocals = mm_mL y ∧ meth.sig.returnType = mm_rt y ∧ meth.locks = false ∧ meth.name = (mm_yn y).name ∧ s.vm.findClass (mm_cn (mm_own y)) = some m.cls ∧ (∀ w ∈ mm_w, w.before args s = true) ∧ c.exceptionTable.toList = tableOf (mm_hh y) ∧ mm_nF y ≤ R.frames ∧ mm_nL y ≤ R.locals ∧ l.stackTraces = false
theorem mm_okc {v : mm_V} {st : List mm_V} (hv : mm_ok v) (h : ∀ w ∈ st, mm_ok w) : ∀ w ∈ v :: st, mm_ok w := fun w hw => (List.mem_cons.mp hw).elim (fun e => e ▸ hv) (h w)
theorem mm_okt {v : mm_V} {st : List mm_V} (h : ∀ w ∈ v :: st, mm_ok w) : mm_ok v ∧ ∀ w ∈ st, mm_ok w := ⟨h v List.mem_cons_self, fun w hw => h w (List.mem_cons_of_mem _ hw)⟩
theorem mm_and_r (x y : Int) : mm_rng (mm_and x y) := mm_rT _
theorem mm_or_r (x y : Int) : mm_rng (mm_or x y) := mm_rT _
theorem mm_okB_dec {y i : Nat} {pc op a : Nat} {b : Int} (hc : mm_code y i = some (pc, (op, (a, b)))) (h : ¬ op = 111) : decode (mm_by y) pc = .ok (mm_ins op a b) ∧ (¬ (op = 24 ∨ op = 56 ∨ (100 ≤ op ∧ op ≤ 104)) → mm_nx y (i + 1) = pc + (mm_ins op a b).2) ∧ (24 ≤ op ∧ op ≤ 38 → (pc : Int) + b = (mm_nx y a : Int)) ∧ (op = 3 ∨ op = 5 ∨ op = 7 ∨ op = 9 → a < 4) ∧ (40 ≤ op ∧ op ≤ 42 → (mm_fd a).2.1 = mm_own y ∧ a < mm_fldT.length) ∧
    (105 ≤ op ∧ op ≤ 108 → (mm_sd a).2.1 = mm_own y ∧ (mm_sd a).2.2.2 = op ∧ a < mm_siteT.length ∧ mm_nF (mm_sd a).1.1 + 1 ≤ mm_nF y ∧ 8 + (mm_mL (mm_sd a).1.1 + 11) + mm_nL (mm_sd a).1.1 ≤ mm_nL y) ∧ (57 ≤ op ∧ op ≤ 59 → 1 ≤ mm_nF y ∧ 21 ≤ mm_nL y) ∧
    (op = 104 → 6 ≤ mm_nF y ∧ 82 ≤ mm_nL y ∧ a < mm_thrT.length ∧ mm_own y = 4 ∧ (mm_th a).2.2.2.1 = b.toNat ∧ mm_hh y = [] ∧ decode (mm_by y) (pc + 3) = .ok (.dup, 1) ∧ decode (mm_by y) (pc + 4) = .ok (.ldc (mm_th a).2.1, 2) ∧ decode (mm_by y) (pc + 6) = .ok (.invokespecial (mm_th a).2.2.1, 3) ∧ decode (mm_by y) (pc + 9) = .ok (.athrow, 1)) ∧
    (op = 100 → mm_rt y = some .int) ∧ (op = 101 → mm_rt y = some .boolean) ∧ (op = 102 → mm_rt y = some (.object RX3)) ∧ (op = 103 → mm_rt y = none) := by
  have hk := (mm_okA hc).1
  unfold mm_okB at hk
  dsimp only at hk
  rw [if_neg h] at hk
  simp only [Bool.and_eq_true] at hk
  obtain ⟨⟨⟨⟨⟨⟨⟨⟨⟨⟨⟨k1, k2⟩, k3⟩, k4⟩, k5⟩, k6⟩, k7⟩, k8⟩, k9⟩, k10⟩, k11⟩, k12⟩ := hk
  refine ⟨of_decide_eq_true k1, fun q => ?_, fun q => ?_, fun q => ?_, fun q => ?_, fun q => ?_, fun q => ?_, fun q => ?_, fun q => ?_, fun q => ?_, fun q => ?_, fun q => ?_⟩
  · rw [if_neg q] at k2; exact of_decide_eq_true k2
  · rw [if_pos q] at k3; exact of_decide_eq_true k3
  · rw [if_pos q] at k4; exact of_decide_eq_true k4
  · rw [if_pos q] at k5; exact of_decide_eq_true k5
  · rw [if_pos q] at k6; exact of_decide_eq_true k6
  · rw [if_pos q] at k7; exact of_decide_eq_true k7
  · rw [if_pos q] at k8; exact of_decide_eq_true k8
  · rw [if_pos q] at k9; exact of_decide_eq_true k9
  · rw [if_pos q] at k10; exact of_decide_eq_true k10
  · rw [if_pos q] at k11; exact of_decide_eq_true k11
  · rw [if_pos q] at k12; exact of_decide_eq_true k12
theorem mm_bA : mm_codeT.all (fun l => l.all (fun q => decide ((q.2.1 = 1 → (Int8.ofInt q.2.2.2).toInt32 = Int32.ofInt q.2.2.2) ∧ (q.2.1 = 2 → (Int16.ofInt q.2.2.2).toInt32 = Int32.ofInt q.2.2.2)))) = true := by decide +kernel
theorem mm_bB {y i : Nat} {q : mm_E} (h : mm_code y i = some q) : (q.2.1 = 1 → (Int8.ofInt q.2.2.2).toInt32 = Int32.ofInt q.2.2.2) ∧ (q.2.1 = 2 → (Int16.ofInt q.2.2.2).toInt32 = Int32.ofInt q.2.2.2) := by
  unfold mm_code at h
  cases hy : mm_codeT[y]? with
  | none => rw [hy] at h; cases h
  | some l =>
    rw [hy] at h
    have h1 := List.all_eq_true.mp mm_bA l (List.mem_of_getElem? hy)
    exact of_decide_eq_true (List.all_eq_true.mp h1 q (List.mem_of_getElem? h))
theorem mm_b8 {y i pc a : Nat} {b : Int} (h : mm_code y i = some (pc, (1, (a, b)))) : (Int8.ofInt b).toInt32 = Int32.ofInt b := (mm_bB h).1 rfl
theorem mm_b16 {y i pc a : Nat} {b : Int} (h : mm_code y i = some (pc, (2, (a, b)))) : (Int16.ofInt b).toInt32 = Int32.ofInt b := (mm_bB h).2 rfl
section MMS
variable {p : Program} {l : Launch} {e : Env} {R : Room} {s : State} {m : MethodId} {args : Array Value} {below : List Frame} {meth : Method} {c : Code} {H : Heap} {locs : List Loc} {cells slots : Nat} {Q : State → Prop}
variable {g : mm_G} {D : va_G} {y i pc op a : Nat} {b : Int} {ls ls' : mm_F} {st st' : List mm_V} {h h' : mm_H} {j : Option Nat} {rls : Array Slot} {n0 s0 L : Nat} {xs : Nat → Int32}
/-- what the rest of the run may take as given -/
def mm_KK (p : Program) (l : Launch) (e : Env) (R : Room) (s : State) (m : MethodId) (args : Array Value) (below : List Frame) (meth : Method) (c : Code) (Q : State → Prop) (g : mm_G) (D : va_G) (y n0 s0 L : Nat) (xs : Nat → Int32) (pc : Nat) (ls : mm_F) (st : List mm_V) (h : mm_H) : Prop :=
  ∀ (H : Heap) (locs : List Loc) (cells slots : Nat) (rls : Array Slot), va_S (mm_A g) s.heap H locs → mm_Rl g D h H → mm_LR g (mm_mL y) ls rls → (∀ v ∈ st, mm_ok v) → cells + n0 = h.2.1 → slots + s0 = h.2.2.1 → h.2.2.2 = mm_scr L xs →
    W p l e R s m args below meth c H locs cells slots Q (F0 m pc rls (st.map (mm_up g.1 g.2.1)))
theorem mm_step_iconst (hc : mm_code y i = some (pc, (0, (a, b)))) (hop : mm_op mm_fld 0 a b ls st h = some (ls', (st', (h', j)))) (X : mm_X y l p R s m args meth c) (K : mm_K g D L xs s) (hS : va_S (mm_A g) s.heap H locs) (hR : mm_Rl g D h H) (hL : mm_LR g (mm_mL y) ls rls) (hst : ∀ v ∈ st, mm_ok v) (hcc : cells + n0 = h.2.1) (hss : slots + s0 = h.2.2.1) (hsc : h.2.2.2 = mm_scr L xs) (hz0 : s.heap.size ≤ g.2.1 + n0) (rc : h'.2.1 ≤ R.cells + n0) (rs : h'.2.2.1 ≤ R.slots + s0)
    (kk : mm_KK p l e R s m args below meth c Q g D y n0 s0 L xs (mm_nx y (j.getD (i + 1))) ls' st' h') : W p l e R s m args below meth c H locs cells slots Q (F0 m pc rls (st.map (mm_up g.1 g.2.1))) := by
  obtain ⟨hx, hb, hml, -, -, hnm, hown, hts, -, hnF, hnL, -⟩ := X
  obtain ⟨hd, hn, hj, ha4, hfo, -, hroom, -⟩ := mm_okB_dec hc (by decide)
  have hn := hn (by decide)
  replace hop : (if mm_rng b then some (ls, (mm_I b :: st, (h, none))) else none) = some (ls', (st', (h', j))) := hop
  by_cases hr : mm_rng b
  · rw [if_pos hr] at hop
    cases hop
    have k := kk H locs cells slots rls hS hR hL (mm_okc hr hst) hcc hss hsc
    rw [show (none : Option Nat).getD (i + 1) = i + 1 from rfl, hn] at k
    exact lv_iconst hx hb hd rfl k
  · rw [if_neg hr] at hop
    cases hop

theorem mm_step_bipush (hc : mm_code y i = some (pc, (1, (a, b)))) (hop : mm_op mm_fld 1 a b ls st h = some (ls', (st', (h', j)))) (X : mm_X y l p R s m args meth c) (K : mm_K g D L xs s) (hS : va_S (mm_A g) s.heap H locs) (hR : mm_Rl g D h H) (hL : mm_LR g (mm_mL y) ls rls) (hst : ∀ v ∈ st, mm_ok v) (hcc : cells + n0 = h.2.1) (hss : slots + s0 = h.2.2.1) (hsc : h.2.2.2 = mm_scr L xs) (hz0 : s.heap.size ≤ g.2.1 + n0) (rc : h'.2.1 ≤ R.cells + n0) (rs : h'.2.2.1 ≤ R.slots + s0)
    (kk : mm_KK p l e R s m args below meth c Q g D y n0 s0 L xs (mm_nx y (j.getD (i + 1))) ls' st' h') : W p l e R s m args below meth c H locs cells slots Q (F0 m pc rls (st.map (mm_up g.1 g.2.1))) := by
  obtain ⟨hx, hb, hml, -, -, hnm, hown, hts, -, hnF, hnL, -⟩ := X
  obtain ⟨hd, hn, hj, ha4, hfo, -, hroom, -⟩ := mm_okB_dec hc (by decide)
  have hn := hn (by decide)
  replace hop : (if mm_rng b then some (ls, (mm_I b :: st, (h, none))) else none) = some (ls', (st', (h', j))) := hop
  by_cases hr : mm_rng b
  · rw [if_pos hr] at hop
    cases hop
    have k := kk H locs cells slots rls hS hR hL (mm_okc hr hst) hcc hss hsc
    rw [show (none : Option Nat).getD (i + 1) = i + 1 from rfl, hn] at k
    exact lv_bipush hx hb hd (mm_b8 hc) k
  · rw [if_neg hr] at hop
    cases hop

theorem mm_step_sipush (hc : mm_code y i = some (pc, (2, (a, b)))) (hop : mm_op mm_fld 2 a b ls st h = some (ls', (st', (h', j)))) (X : mm_X y l p R s m args meth c) (K : mm_K g D L xs s) (hS : va_S (mm_A g) s.heap H locs) (hR : mm_Rl g D h H) (hL : mm_LR g (mm_mL y) ls rls) (hst : ∀ v ∈ st, mm_ok v) (hcc : cells + n0 = h.2.1) (hss : slots + s0 = h.2.2.1) (hsc : h.2.2.2 = mm_scr L xs) (hz0 : s.heap.size ≤ g.2.1 + n0) (rc : h'.2.1 ≤ R.cells + n0) (rs : h'.2.2.1 ≤ R.slots + s0)
    (kk : mm_KK p l e R s m args below meth c Q g D y n0 s0 L xs (mm_nx y (j.getD (i + 1))) ls' st' h') : W p l e R s m args below meth c H locs cells slots Q (F0 m pc rls (st.map (mm_up g.1 g.2.1))) := by
  obtain ⟨hx, hb, hml, -, -, hnm, hown, hts, -, hnF, hnL, -⟩ := X
  obtain ⟨hd, hn, hj, ha4, hfo, -, hroom, -⟩ := mm_okB_dec hc (by decide)
  have hn := hn (by decide)
  replace hop : (if mm_rng b then some (ls, (mm_I b :: st, (h, none))) else none) = some (ls', (st', (h', j))) := hop
  by_cases hr : mm_rng b
  · rw [if_pos hr] at hop
    cases hop
    have k := kk H locs cells slots rls hS hR hL (mm_okc hr hst) hcc hss hsc
    rw [show (none : Option Nat).getD (i + 1) = i + 1 from rfl, hn] at k
    exact lv_sipush hx hb hd (mm_b16 hc) k
  · rw [if_neg hr] at hop
    cases hop

theorem mm_step_iload_n (hc : mm_code y i = some (pc, (3, (a, b)))) (hop : mm_op mm_fld 3 a b ls st h = some (ls', (st', (h', j)))) (X : mm_X y l p R s m args meth c) (K : mm_K g D L xs s) (hS : va_S (mm_A g) s.heap H locs) (hR : mm_Rl g D h H) (hL : mm_LR g (mm_mL y) ls rls) (hst : ∀ v ∈ st, mm_ok v) (hcc : cells + n0 = h.2.1) (hss : slots + s0 = h.2.2.1) (hsc : h.2.2.2 = mm_scr L xs) (hz0 : s.heap.size ≤ g.2.1 + n0) (rc : h'.2.1 ≤ R.cells + n0) (rs : h'.2.2.1 ≤ R.slots + s0)
    (kk : mm_KK p l e R s m args below meth c Q g D y n0 s0 L xs (mm_nx y (j.getD (i + 1))) ls' st' h') : W p l e R s m args below meth c H locs cells slots Q (F0 m pc rls (st.map (mm_up g.1 g.2.1))) := by
  obtain ⟨hx, hb, hml, -, -, hnm, hown, hts, -, hnF, hnL, -⟩ := X
  obtain ⟨hd, hn, hj, ha4, hfo, -, hroom, -⟩ := mm_okB_dec hc (by decide)
  have hn := hn (by decide)
  replace hop : mm_o_load a ls st h = some (ls', (st', (h', j))) := hop
  unfold mm_o_load at hop
  split at hop
  · rename_i z hz
    cases hop
    obtain ⟨h1, -, h3⟩ := hL.2.2.2 a _ hz
    have k := kk H locs cells slots rls hS hR hL (mm_okc h3 hst) hcc hss hsc
    rw [show (none : Option Nat).getD (i + 1) = i + 1 from rfl, hn] at k
    exact lv_iload_n hx hb hd (Nat.mod_eq_of_lt (ha4 (by decide))) h1 k
  · cases hop

theorem mm_step_iload (hc : mm_code y i = some (pc, (4, (a, b)))) (hop : mm_op mm_fld 4 a b ls st h = some (ls', (st', (h', j)))) (X : mm_X y l p R s m args meth c) (K : mm_K g D L xs s) (hS : va_S (mm_A g) s.heap H locs) (hR : mm_Rl g D h H) (hL : mm_LR g (mm_mL y) ls rls) (hst : ∀ v ∈ st, mm_ok v) (hcc : cells + n0 = h.2.1) (hss : slots + s0 = h.2.2.1) (hsc : h.2.2.2 = mm_scr L xs) (hz0 : s.heap.size ≤ g.2.1 + n0) (rc : h'.2.1 ≤ R.cells + n0) (rs : h'.2.2.1 ≤ R.slots + s0)
    (kk : mm_KK p l e R s m args below meth c Q g D y n0 s0 L xs (mm_nx y (j.getD (i + 1))) ls' st' h') : W p l e R s m args below meth c H locs cells slots Q (F0 m pc rls (st.map (mm_up g.1 g.2.1))) := by
  obtain ⟨hx, hb, hml, -, -, hnm, hown, hts, -, hnF, hnL, -⟩ := X
  obtain ⟨hd, hn, hj, ha4, hfo, -, hroom, -⟩ := mm_okB_dec hc (by decide)
  have hn := hn (by decide)
  replace hop : mm_o_load a ls st h = some (ls', (st', (h', j))) := hop
  unfold mm_o_load at hop
  split at hop
  · rename_i z hz
    cases hop
    obtain ⟨h1, -, h3⟩ := hL.2.2.2 a _ hz
    have k := kk H locs cells slots rls hS hR hL (mm_okc h3 hst) hcc hss hsc
    rw [show (none : Option Nat).getD (i + 1) = i + 1 from rfl, hn] at k
    exact lv_iload hx hb hd h1 k
  · cases hop

theorem mm_step_aload_n (hc : mm_code y i = some (pc, (5, (a, b)))) (hop : mm_op mm_fld 5 a b ls st h = some (ls', (st', (h', j)))) (X : mm_X y l p R s m args meth c) (K : mm_K g D L xs s) (hS : va_S (mm_A g) s.heap H locs) (hR : mm_Rl g D h H) (hL : mm_LR g (mm_mL y) ls rls) (hst : ∀ v ∈ st, mm_ok v) (hcc : cells + n0 = h.2.1) (hss : slots + s0 = h.2.2.1) (hsc : h.2.2.2 = mm_scr L xs) (hz0 : s.heap.size ≤ g.2.1 + n0) (rc : h'.2.1 ≤ R.cells + n0) (rs : h'.2.2.1 ≤ R.slots + s0)
    (kk : mm_KK p l e R s m args below meth c Q g D y n0 s0 L xs (mm_nx y (j.getD (i + 1))) ls' st' h') : W p l e R s m args below meth c H locs cells slots Q (F0 m pc rls (st.map (mm_up g.1 g.2.1))) := by
  obtain ⟨hx, hb, hml, -, -, hnm, hown, hts, -, hnF, hnL, -⟩ := X
  obtain ⟨hd, hn, hj, ha4, hfo, -, hroom, -⟩ := mm_okB_dec hc (by decide)
  have hn := hn (by decide)
  replace hop : mm_o_aload a ls st h = some (ls', (st', (h', j))) := hop
  unfold mm_o_aload at hop
  split at hop
  · rename_i r hz
    cases hop
    obtain ⟨h1, -, h3⟩ := hL.2.2.2 a _ hz
    have k := kk H locs cells slots rls hS hR hL (mm_okc h3 hst) hcc hss hsc
    rw [show (none : Option Nat).getD (i + 1) = i + 1 from rfl, hn] at k
    cases r with
    | none => exact lv_aload_nN hx hb hd (Nat.mod_eq_of_lt (ha4 (by decide))) h1 k
    | some r => exact lv_aload_n hx hb hd (Nat.mod_eq_of_lt (ha4 (by decide))) h1 k
  · cases hop

theorem mm_step_aload (hc : mm_code y i = some (pc, (6, (a, b)))) (hop : mm_op mm_fld 6 a b ls st h = some (ls', (st', (h', j)))) (X : mm_X y l p R s m args meth c) (K : mm_K g D L xs s) (hS : va_S (mm_A g) s.heap H locs) (hR : mm_Rl g D h H) (hL : mm_LR g (mm_mL y) ls rls) (hst : ∀ v ∈ st, mm_ok v) (hcc : cells + n0 = h.2.1) (hss : slots + s0 = h.2.2.1) (hsc : h.2.2.2 = mm_scr L xs) (hz0 : s.heap.size ≤ g.2.1 + n0) (rc : h'.2.1 ≤ R.cells + n0) (rs : h'.2.2.1 ≤ R.slots + s0)
    (kk : mm_KK p l e R s m args below meth c Q g D y n0 s0 L xs (mm_nx y (j.getD (i + 1))) ls' st' h') : W p l e R s m args below meth c H locs cells slots Q (F0 m pc rls (st.map (mm_up g.1 g.2.1))) := by
  obtain ⟨hx, hb, hml, -, -, hnm, hown, hts, -, hnF, hnL, -⟩ := X
  obtain ⟨hd, hn, hj, ha4, hfo, -, hroom, -⟩ := mm_okB_dec hc (by decide)
  have hn := hn (by decide)
  replace hop : mm_o_aload a ls st h = some (ls', (st', (h', j))) := hop
  unfold mm_o_aload at hop
  split at hop
  · rename_i r hz
    cases hop
    obtain ⟨h1, -, h3⟩ := hL.2.2.2 a _ hz
    have k := kk H locs cells slots rls hS hR hL (mm_okc h3 hst) hcc hss hsc
    rw [show (none : Option Nat).getD (i + 1) = i + 1 from rfl, hn] at k
    cases r with
    | none => exact lv_aloadN hx hb hd h1 k
    | some r => exact lv_aload hx hb hd h1 k
  · cases hop

theorem mm_step_istore_n (hc : mm_code y i = some (pc, (7, (a, b)))) (hop : mm_op mm_fld 7 a b ls st h = some (ls', (st', (h', j)))) (X : mm_X y l p R s m args meth c) (K : mm_K g D L xs s) (hS : va_S (mm_A g) s.heap H locs) (hR : mm_Rl g D h H) (hL : mm_LR g (mm_mL y) ls rls) (hst : ∀ v ∈ st, mm_ok v) (hcc : cells + n0 = h.2.1) (hss : slots + s0 = h.2.2.1) (hsc : h.2.2.2 = mm_scr L xs) (hz0 : s.heap.size ≤ g.2.1 + n0) (rc : h'.2.1 ≤ R.cells + n0) (rs : h'.2.2.1 ≤ R.slots + s0)
    (kk : mm_KK p l e R s m args below meth c Q g D y n0 s0 L xs (mm_nx y (j.getD (i + 1))) ls' st' h') : W p l e R s m args below meth c H locs cells slots Q (F0 m pc rls (st.map (mm_up g.1 g.2.1))) := by
  obtain ⟨hx, hb, hml, -, -, hnm, hown, hts, -, hnF, hnL, -⟩ := X
  obtain ⟨hd, hn, hj, ha4, hfo, -, hroom, -⟩ := mm_okB_dec hc (by decide)
  have hn := hn (by decide)
  replace hop : mm_o_store a ls st h = some (ls', (st', (h', j))) := hop
  unfold mm_o_store at hop
  split at hop
  · rename_i z st
    have hz := (mm_okt hst).1
    replace hst := (mm_okt hst).2
    by_cases hl : a < ls.length
    · rw [if_pos hl] at hop
      cases hop
      refine lv_istore_n hx hb hd (Nat.mod_eq_of_lt (ha4 (by decide))) hL.has (by rw [← hL.1]; exact hl) rfl (fun rls' h9 => ?_)
      have k := kk H locs cells slots rls' hS hR (hL.set (v := mm_I z) rfl hz h9) hst hcc hss hsc
      rw [show (none : Option Nat).getD (i + 1) = i + 1 from rfl, hn] at k
      exact k
    · rw [if_neg hl] at hop
      cases hop
  · cases hop

theorem mm_step_istore (hc : mm_code y i = some (pc, (8, (a, b)))) (hop : mm_op mm_fld 8 a b ls st h = some (ls', (st', (h', j)))) (X : mm_X y l p R s m args meth c) (K : mm_K g D L xs s) (hS : va_S (mm_A g) s.heap H locs) (hR : mm_Rl g D h H) (hL : mm_LR g (mm_mL y) ls rls) (hst : ∀ v ∈ st, mm_ok v) (hcc : cells + n0 = h.2.1) (hss : slots + s0 = h.2.2.1) (hsc : h.2.2.2 = mm_scr L xs) (hz0 : s.heap.size ≤ g.2.1 + n0) (rc : h'.2.1 ≤ R.cells + n0) (rs : h'.2.2.1 ≤ R.slots + s0)
    (kk : mm_KK p l e R s m args below meth c Q g D y n0 s0 L xs (mm_nx y (j.getD (i + 1))) ls' st' h') : W p l e R s m args below meth c H locs cells slots Q (F0 m pc rls (st.map (mm_up g.1 g.2.1))) := by
  obtain ⟨hx, hb, hml, -, -, hnm, hown, hts, -, hnF, hnL, -⟩ := X
  obtain ⟨hd, hn, hj, ha4, hfo, -, hroom, -⟩ := mm_okB_dec hc (by decide)
  have hn := hn (by decide)
  replace hop : mm_o_store a ls st h = some (ls', (st', (h', j))) := hop
  unfold mm_o_store at hop
  split at hop
  · rename_i z st
    have hz := (mm_okt hst).1
    replace hst := (mm_okt hst).2
    by_cases hl : a < ls.length
    · rw [if_pos hl] at hop
      cases hop
      refine lv_istore hx hb hd hL.has (by rw [← hL.1]; exact hl) rfl (fun rls' h9 => ?_)
      have k := kk H locs cells slots rls' hS hR (hL.set (v := mm_I z) rfl hz h9) hst hcc hss hsc
      rw [show (none : Option Nat).getD (i + 1) = i + 1 from rfl, hn] at k
      exact k
    · rw [if_neg hl] at hop
      cases hop
  · cases hop

theorem mm_step_astore_n (hc : mm_code y i = some (pc, (9, (a, b)))) (hop : mm_op mm_fld 9 a b ls st h = some (ls', (st', (h', j)))) (X : mm_X y l p R s m args meth c) (K : mm_K g D L xs s) (hS : va_S (mm_A g) s.heap H locs) (hR : mm_Rl g D h H) (hL : mm_LR g (mm_mL y) ls rls) (hst : ∀ v ∈ st, mm_ok v) (hcc : cells + n0 = h.2.1) (hss : slots + s0 = h.2.2.1) (hsc : h.2.2.2 = mm_scr L xs) (hz0 : s.heap.size ≤ g.2.1 + n0) (rc : h'.2.1 ≤ R.cells + n0) (rs : h'.2.2.1 ≤ R.slots + s0)
    (kk : mm_KK p l e R s m args below meth c Q g D y n0 s0 L xs (mm_nx y (j.getD (i + 1))) ls' st' h') : W p l e R s m args below meth c H locs cells slots Q (F0 m pc rls (st.map (mm_up g.1 g.2.1))) := by
  obtain ⟨hx, hb, hml, -, -, hnm, hown, hts, -, hnF, hnL, -⟩ := X
  obtain ⟨hd, hn, hj, ha4, hfo, -, hroom, -⟩ := mm_okB_dec hc (by decide)
  have hn := hn (by decide)
  replace hop : mm_o_astore a ls st h = some (ls', (st', (h', j))) := hop
  unfold mm_o_astore at hop
  split at hop
  · rename_i r st
    have hz := (mm_okt hst).1
    replace hst := (mm_okt hst).2
    by_cases hl : a < ls.length
    · rw [if_pos hl] at hop
      cases hop
      cases r with
      | none =>
        refine lv_astore_nN hx hb hd (Nat.mod_eq_of_lt (ha4 (by decide))) hL.has (by rw [← hL.1]; exact hl) rfl (fun rls' h9 => ?_)
        have k := kk H locs cells slots rls' hS hR (hL.set (v := mm_N) rfl hz h9) hst hcc hss hsc
        rw [show (none : Option Nat).getD (i + 1) = i + 1 from rfl, hn] at k
        exact k
      | some r =>
        refine lv_astore_n hx hb hd (Nat.mod_eq_of_lt (ha4 (by decide))) hL.has (by rw [← hL.1]; exact hl) rfl (fun rls' h9 => ?_)
        have k := kk H locs cells slots rls' hS hR (hL.set (v := mm_P r) rfl hz h9) hst hcc hss hsc
        rw [show (none : Option Nat).getD (i + 1) = i + 1 from rfl, hn] at k
        exact k
    · rw [if_neg hl] at hop
      cases hop
  · cases hop

theorem mm_step_astore (hc : mm_code y i = some (pc, (10, (a, b)))) (hop : mm_op mm_fld 10 a b ls st h = some (ls', (st', (h', j)))) (X : mm_X y l p R s m args meth c) (K : mm_K g D L xs s) (hS : va_S (mm_A g) s.heap H locs) (hR : mm_Rl g D h H) (hL : mm_LR g (mm_mL y) ls rls) (hst : ∀ v ∈ st, mm_ok v) (hcc : cells + n0 = h.2.1) (hss : slots + s0 = h.2.2.1) (hsc : h.2.2.2 = mm_scr L xs) (hz0 : s.heap.size ≤ g.2.1 + n0) (rc : h'.2.1 ≤ R.cells + n0) (rs : h'.2.2.1 ≤ R.slots + s0)
    (kk : mm_KK p l e R s m args below meth c Q g D y n0 s0 L xs (mm_nx y (j.getD (i + 1))) ls' st' h') : W p l e R s m args below meth c H locs cells slots Q (F0 m pc rls (st.map (mm_up g.1 g.2.1))) := by
  obtain ⟨hx, hb, hml, -, -, hnm, hown, hts, -, hnF, hnL, -⟩ := X
  obtain ⟨hd, hn, hj, ha4, hfo, -, hroom, -⟩ := mm_okB_dec hc (by decide)
  have hn := hn (by decide)
  replace hop : mm_o_astore a ls st h = some (ls', (st', (h', j))) := hop
  unfold mm_o_astore at hop
  split at hop
  · rename_i r st
    have hz := (mm_okt hst).1
    replace hst := (mm_okt hst).2
    by_cases hl : a < ls.length
    · rw [if_pos hl] at hop
      cases hop
      cases r with
      | none =>
        refine lv_astoreN hx hb hd hL.has (by rw [← hL.1]; exact hl) rfl (fun rls' h9 => ?_)
        have k := kk H locs cells slots rls' hS hR (hL.set (v := mm_N) rfl hz h9) hst hcc hss hsc
        rw [show (none : Option Nat).getD (i + 1) = i + 1 from rfl, hn] at k
        exact k
      | some r =>
        refine lv_astore hx hb hd hL.has (by rw [← hL.1]; exact hl) rfl (fun rls' h9 => ?_)
        have k := kk H locs cells slots rls' hS hR (hL.set (v := mm_P r) rfl hz h9) hst hcc hss hsc
        rw [show (none : Option Nat).getD (i + 1) = i + 1 from rfl, hn] at k
        exact k
    · rw [if_neg hl] at hop
      cases hop
  · cases hop

theorem mm_step_iadd (hc : mm_code y i = some (pc, (11, (a, b)))) (hop : mm_op mm_fld 11 a b ls st h = some (ls', (st', (h', j)))) (X : mm_X y l p R s m args meth c) (K : mm_K g D L xs s) (hS : va_S (mm_A g) s.heap H locs) (hR : mm_Rl g D h H) (hL : mm_LR g (mm_mL y) ls rls) (hst : ∀ v ∈ st, mm_ok v) (hcc : cells + n0 = h.2.1) (hss : slots + s0 = h.2.2.1) (hsc : h.2.2.2 = mm_scr L xs) (hz0 : s.heap.size ≤ g.2.1 + n0) (rc : h'.2.1 ≤ R.cells + n0) (rs : h'.2.2.1 ≤ R.slots + s0)
    (kk : mm_KK p l e R s m args below meth c Q g D y n0 s0 L xs (mm_nx y (j.getD (i + 1))) ls' st' h') : W p l e R s m args below meth c H locs cells slots Q (F0 m pc rls (st.map (mm_up g.1 g.2.1))) := by
  obtain ⟨hx, hb, hml, -, -, hnm, hown, hts, -, hnF, hnL, -⟩ := X
  obtain ⟨hd, hn, hj, ha4, hfo, -, hroom, -⟩ := mm_okB_dec hc (by decide)
  have hn := hn (by decide)
  replace hop : mm_o_bin (fun x y => some (x + y)) ls st h = some (ls', (st', (h', j))) := hop
  unfold mm_o_bin at hop
  split at hop
  · rename_i y9 x9 st
    have hy := (mm_okt hst).1
    replace hst := (mm_okt hst).2
    have hx9 := (mm_okt hst).1
    replace hst := (mm_okt hst).2
    have hy : mm_rng y9 := hy
    have hx9 : mm_rng x9 := hx9
    split at hop
    · rename_i z hz
      by_cases hr : mm_rng z
      · rw [if_pos hr] at hop
        cases hop
        cases hz
        have k := kk H locs cells slots rls hS hR hL (mm_okc hr hst) hcc hss hsc
        rw [show (none : Option Nat).getD (i + 1) = i + 1 from rfl, hn] at k
        have e9 : mm_up g.1 g.2.1 (mm_I (x9 + y9)) = .int _ := congrArg Value.int (Int32.ofInt_add x9 y9)
        rw [List.map_cons, e9] at k
        exact lv_iadd hx hb hd k
      · rw [if_neg hr] at hop
        cases hop
    · cases hop
  · cases hop

theorem mm_step_isub (hc : mm_code y i = some (pc, (12, (a, b)))) (hop : mm_op mm_fld 12 a b ls st h = some (ls', (st', (h', j)))) (X : mm_X y l p R s m args meth c) (K : mm_K g D L xs s) (hS : va_S (mm_A g) s.heap H locs) (hR : mm_Rl g D h H) (hL : mm_LR g (mm_mL y) ls rls) (hst : ∀ v ∈ st, mm_ok v) (hcc : cells + n0 = h.2.1) (hss : slots + s0 = h.2.2.1) (hsc : h.2.2.2 = mm_scr L xs) (hz0 : s.heap.size ≤ g.2.1 + n0) (rc : h'.2.1 ≤ R.cells + n0) (rs : h'.2.2.1 ≤ R.slots + s0)
    (kk : mm_KK p l e R s m args below meth c Q g D y n0 s0 L xs (mm_nx y (j.getD (i + 1))) ls' st' h') : W p l e R s m args below meth c H locs cells slots Q (F0 m pc rls (st.map (mm_up g.1 g.2.1))) := by
  obtain ⟨hx, hb, hml, -, -, hnm, hown, hts, -, hnF, hnL, -⟩ := X
  obtain ⟨hd, hn, hj, ha4, hfo, -, hroom, -⟩ := mm_okB_dec hc (by decide)
  have hn := hn (by decide)
  replace hop : mm_o_bin (fun x y => some (x - y)) ls st h = some (ls', (st', (h', j))) := hop
  unfold mm_o_bin at hop
  split at hop
  · rename_i y9 x9 st
    have hy := (mm_okt hst).1
    replace hst := (mm_okt hst).2
    have hx9 := (mm_okt hst).1
    replace hst := (mm_okt hst).2
    have hy : mm_rng y9 := hy
    have hx9 : mm_rng x9 := hx9
    split at hop
    · rename_i z hz
      by_cases hr : mm_rng z
      · rw [if_pos hr] at hop
        cases hop
        cases hz
        have k := kk H locs cells slots rls hS hR hL (mm_okc hr hst) hcc hss hsc
        rw [show (none : Option Nat).getD (i + 1) = i + 1 from rfl, hn] at k
        have e9 : mm_up g.1 g.2.1 (mm_I (x9 - y9)) = .int _ := congrArg Value.int (Int32.ofInt_sub x9 y9)
        rw [List.map_cons, e9] at k
        exact lv_isub hx hb hd k
      · rw [if_neg hr] at hop
        cases hop
    · cases hop
  · cases hop

theorem mm_step_imul (hc : mm_code y i = some (pc, (13, (a, b)))) (hop : mm_op mm_fld 13 a b ls st h = some (ls', (st', (h', j)))) (X : mm_X y l p R s m args meth c) (K : mm_K g D L xs s) (hS : va_S (mm_A g) s.heap H locs) (hR : mm_Rl g D h H) (hL : mm_LR g (mm_mL y) ls rls) (hst : ∀ v ∈ st, mm_ok v) (hcc : cells + n0 = h.2.1) (hss : slots + s0 = h.2.2.1) (hsc : h.2.2.2 = mm_scr L xs) (hz0 : s.heap.size ≤ g.2.1 + n0) (rc : h'.2.1 ≤ R.cells + n0) (rs : h'.2.2.1 ≤ R.slots + s0)
    (kk : mm_KK p l e R s m args below meth c Q g D y n0 s0 L xs (mm_nx y (j.getD (i + 1))) ls' st' h') : W p l e R s m args below meth c H locs cells slots Q (F0 m pc rls (st.map (mm_up g.1 g.2.1))) := by
  obtain ⟨hx, hb, hml, -, -, hnm, hown, hts, -, hnF, hnL, -⟩ := X
  obtain ⟨hd, hn, hj, ha4, hfo, -, hroom, -⟩ := mm_okB_dec hc (by decide)
  have hn := hn (by decide)
  replace hop : mm_o_bin (fun x y => some (x * y)) ls st h = some (ls', (st', (h', j))) := hop
  unfold mm_o_bin at hop
  split at hop
  · rename_i y9 x9 st
    have hy := (mm_okt hst).1
    replace hst := (mm_okt hst).2
    have hx9 := (mm_okt hst).1
    replace hst := (mm_okt hst).2
    have hy : mm_rng y9 := hy
    have hx9 : mm_rng x9 := hx9
    split at hop
    · rename_i z hz
      by_cases hr : mm_rng z
      · rw [if_pos hr] at hop
        cases hop
        cases hz
        have k := kk H locs cells slots rls hS hR hL (mm_okc hr hst) hcc hss hsc
        rw [show (none : Option Nat).getD (i + 1) = i + 1 from rfl, hn] at k
        have e9 : mm_up g.1 g.2.1 (mm_I (x9 * y9)) = .int _ := congrArg Value.int (Int32.ofInt_mul x9 y9)
        rw [List.map_cons, e9] at k
        exact lv_imul hx hb hd k
      · rw [if_neg hr] at hop
        cases hop
    · cases hop
  · cases hop

theorem mm_step_idiv (hc : mm_code y i = some (pc, (14, (a, b)))) (hop : mm_op mm_fld 14 a b ls st h = some (ls', (st', (h', j)))) (X : mm_X y l p R s m args meth c) (K : mm_K g D L xs s) (hS : va_S (mm_A g) s.heap H locs) (hR : mm_Rl g D h H) (hL : mm_LR g (mm_mL y) ls rls) (hst : ∀ v ∈ st, mm_ok v) (hcc : cells + n0 = h.2.1) (hss : slots + s0 = h.2.2.1) (hsc : h.2.2.2 = mm_scr L xs) (hz0 : s.heap.size ≤ g.2.1 + n0) (rc : h'.2.1 ≤ R.cells + n0) (rs : h'.2.2.1 ≤ R.slots + s0)
    (kk : mm_KK p l e R s m args below meth c Q g D y n0 s0 L xs (mm_nx y (j.getD (i + 1))) ls' st' h') : W p l e R s m args below meth c H locs cells slots Q (F0 m pc rls (st.map (mm_up g.1 g.2.1))) := by
  obtain ⟨hx, hb, hml, -, -, hnm, hown, hts, -, hnF, hnL, -⟩ := X
  obtain ⟨hd, hn, hj, ha4, hfo, -, hroom, -⟩ := mm_okB_dec hc (by decide)
  have hn := hn (by decide)
  replace hop : mm_o_bin (fun x y => if 0 ≤ x ∧ 0 < y then some (x / y) else none) ls st h = some (ls', (st', (h', j))) := hop
  unfold mm_o_bin at hop
  split at hop
  · rename_i y9 x9 st
    have hy := (mm_okt hst).1
    replace hst := (mm_okt hst).2
    have hx9 := (mm_okt hst).1
    replace hst := (mm_okt hst).2
    have hy : mm_rng y9 := hy
    have hx9 : mm_rng x9 := hx9
    split at hop
    · rename_i z hz
      by_cases hr : mm_rng z
      · rw [if_pos hr] at hop
        cases hop
        dsimp only at hz
        split at hz
        · rename_i hg
          cases hz
          have k := kk H locs cells slots rls hS hR hL (mm_okc hr hst) hcc hss hsc
          rw [show (none : Option Nat).getD (i + 1) = i + 1 from rfl, hn] at k
          have e9 : mm_up g.1 g.2.1 (mm_I _) = .int _ := congrArg Value.int (mm_div hx9 hy hg.1 hg.2).symm
          rw [List.map_cons, e9] at k
          exact lv_idiv hx hb hd (fun q => by have := (mm_eq0 hy).mp q; omega) k
        · cases hz
      · rw [if_neg hr] at hop
        cases hop
    · cases hop
  · cases hop

theorem mm_step_irem (hc : mm_code y i = some (pc, (15, (a, b)))) (hop : mm_op mm_fld 15 a b ls st h = some (ls', (st', (h', j)))) (X : mm_X y l p R s m args meth c) (K : mm_K g D L xs s) (hS : va_S (mm_A g) s.heap H locs) (hR : mm_Rl g D h H) (hL : mm_LR g (mm_mL y) ls rls) (hst : ∀ v ∈ st, mm_ok v) (hcc : cells + n0 = h.2.1) (hss : slots + s0 = h.2.2.1) (hsc : h.2.2.2 = mm_scr L xs) (hz0 : s.heap.size ≤ g.2.1 + n0) (rc : h'.2.1 ≤ R.cells + n0) (rs : h'.2.2.1 ≤ R.slots + s0)
    (kk : mm_KK p l e R s m args below meth c Q g D y n0 s0 L xs (mm_nx y (j.getD (i + 1))) ls' st' h') : W p l e R s m args below meth c H locs cells slots Q (F0 m pc rls (st.map (mm_up g.1 g.2.1))) := by
  obtain ⟨hx, hb, hml, -, -, hnm, hown, hts, -, hnF, hnL, -⟩ := X
  obtain ⟨hd, hn, hj, ha4, hfo, -, hroom, -⟩ := mm_okB_dec hc (by decide)
  have hn := hn (by decide)
  replace hop : mm_o_bin (fun x y => if 0 ≤ x ∧ 0 < y then some (x % y) else none) ls st h = some (ls', (st', (h', j))) := hop
  unfold mm_o_bin at hop
  split at hop
  · rename_i y9 x9 st
    have hy := (mm_okt hst).1
    replace hst := (mm_okt hst).2
    have hx9 := (mm_okt hst).1
    replace hst := (mm_okt hst).2
    have hy : mm_rng y9 := hy
    have hx9 : mm_rng x9 := hx9
    split at hop
    · rename_i z hz
      by_cases hr : mm_rng z
      · rw [if_pos hr] at hop
        cases hop
        dsimp only at hz
        split at hz
        · rename_i hg
          cases hz
          have k := kk H locs cells slots rls hS hR hL (mm_okc hr hst) hcc hss hsc
          rw [show (none : Option Nat).getD (i + 1) = i + 1 from rfl, hn] at k
          have e9 : mm_up g.1 g.2.1 (mm_I _) = .int _ := congrArg Value.int (mm_rem hx9 hy hg.1 hg.2).symm
          rw [List.map_cons, e9] at k
          exact lv_irem hx hb hd (fun q => by have := (mm_eq0 hy).mp q; omega) k
        · cases hz
      · rw [if_neg hr] at hop
        cases hop
    · cases hop
  · cases hop

theorem mm_step_ishl (hc : mm_code y i = some (pc, (16, (a, b)))) (hop : mm_op mm_fld 16 a b ls st h = some (ls', (st', (h', j)))) (X : mm_X y l p R s m args meth c) (K : mm_K g D L xs s) (hS : va_S (mm_A g) s.heap H locs) (hR : mm_Rl g D h H) (hL : mm_LR g (mm_mL y) ls rls) (hst : ∀ v ∈ st, mm_ok v) (hcc : cells + n0 = h.2.1) (hss : slots + s0 = h.2.2.1) (hsc : h.2.2.2 = mm_scr L xs) (hz0 : s.heap.size ≤ g.2.1 + n0) (rc : h'.2.1 ≤ R.cells + n0) (rs : h'.2.2.1 ≤ R.slots + s0)
    (kk : mm_KK p l e R s m args below meth c Q g D y n0 s0 L xs (mm_nx y (j.getD (i + 1))) ls' st' h') : W p l e R s m args below meth c H locs cells slots Q (F0 m pc rls (st.map (mm_up g.1 g.2.1))) := by
  obtain ⟨hx, hb, hml, -, -, hnm, hown, hts, -, hnF, hnL, -⟩ := X
  obtain ⟨hd, hn, hj, ha4, hfo, -, hroom, -⟩ := mm_okB_dec hc (by decide)
  have hn := hn (by decide)
  replace hop : mm_o_bin (fun x y => if 0 ≤ x ∧ 0 ≤ y ∧ y < 31 then some (x * 2 ^ y.toNat) else none) ls st h = some (ls', (st', (h', j))) := hop
  unfold mm_o_bin at hop
  split at hop
  · rename_i y9 x9 st
    have hy := (mm_okt hst).1
    replace hst := (mm_okt hst).2
    have hx9 := (mm_okt hst).1
    replace hst := (mm_okt hst).2
    have hy : mm_rng y9 := hy
    have hx9 : mm_rng x9 := hx9
    split at hop
    · rename_i z hz
      by_cases hr : mm_rng z
      · rw [if_pos hr] at hop
        cases hop
        dsimp only at hz
        split at hz
        · rename_i hg
          cases hz
          have k := kk H locs cells slots rls hS hR hL (mm_okc hr hst) hcc hss hsc
          rw [show (none : Option Nat).getD (i + 1) = i + 1 from rfl, hn] at k
          have e9 : mm_up g.1 g.2.1 (mm_I _) = .int _ := congrArg Value.int (mm_shl hx9 hg.1 hg.2.1 hg.2.2 hr).symm
          rw [List.map_cons, e9] at k
          exact lv_ishl hx hb hd k
        · cases hz
      · rw [if_neg hr] at hop
        cases hop
    · cases hop
  · cases hop

theorem mm_step_ishr (hc : mm_code y i = some (pc, (17, (a, b)))) (hop : mm_op mm_fld 17 a b ls st h = some (ls', (st', (h', j)))) (X : mm_X y l p R s m args meth c) (K : mm_K g D L xs s) (hS : va_S (mm_A g) s.heap H locs) (hR : mm_Rl g D h H) (hL : mm_LR g (mm_mL y) ls rls) (hst : ∀ v ∈ st, mm_ok v) (hcc : cells + n0 = h.2.1) (hss : slots + s0 = h.2.2.1) (hsc : h.2.2.2 = mm_scr L xs) (hz0 : s.heap.size ≤ g.2.1 + n0) (rc : h'.2.1 ≤ R.cells + n0) (rs : h'.2.2.1 ≤ R.slots + s0)
    (kk : mm_KK p l e R s m args below meth c Q g D y n0 s0 L xs (mm_nx y (j.getD (i + 1))) ls' st' h') : W p l e R s m args below meth c H locs cells slots Q (F0 m pc rls (st.map (mm_up g.1 g.2.1))) := by
  obtain ⟨hx, hb, hml, -, -, hnm, hown, hts, -, hnF, hnL, -⟩ := X
  obtain ⟨hd, hn, hj, ha4, hfo, -, hroom, -⟩ := mm_okB_dec hc (by decide)
  have hn := hn (by decide)
  replace hop : mm_o_bin (fun x y => if 0 ≤ x ∧ 0 ≤ y ∧ y < 31 then some (x / 2 ^ y.toNat) else none) ls st h = some (ls', (st', (h', j))) := hop
  unfold mm_o_bin at hop
  split at hop
  · rename_i y9 x9 st
    have hy := (mm_okt hst).1
    replace hst := (mm_okt hst).2
    have hx9 := (mm_okt hst).1
    replace hst := (mm_okt hst).2
    have hy : mm_rng y9 := hy
    have hx9 : mm_rng x9 := hx9
    split at hop
    · rename_i z hz
      by_cases hr : mm_rng z
      · rw [if_pos hr] at hop
        cases hop
        dsimp only at hz
        split at hz
        · rename_i hg
          cases hz
          have k := kk H locs cells slots rls hS hR hL (mm_okc hr hst) hcc hss hsc
          rw [show (none : Option Nat).getD (i + 1) = i + 1 from rfl, hn] at k
          have e9 : mm_up g.1 g.2.1 (mm_I _) = .int _ := congrArg Value.int (mm_shr hx9 hg.1 hg.2.1 hg.2.2).symm
          rw [List.map_cons, e9] at k
          exact lv_ishr hx hb hd k
        · cases hz
      · rw [if_neg hr] at hop
        cases hop
    · cases hop
  · cases hop

theorem mm_step_iand (hc : mm_code y i = some (pc, (18, (a, b)))) (hop : mm_op mm_fld 18 a b ls st h = some (ls', (st', (h', j)))) (X : mm_X y l p R s m args meth c) (K : mm_K g D L xs s) (hS : va_S (mm_A g) s.heap H locs) (hR : mm_Rl g D h H) (hL : mm_LR g (mm_mL y) ls rls) (hst : ∀ v ∈ st, mm_ok v) (hcc : cells + n0 = h.2.1) (hss : slots + s0 = h.2.2.1) (hsc : h.2.2.2 = mm_scr L xs) (hz0 : s.heap.size ≤ g.2.1 + n0) (rc : h'.2.1 ≤ R.cells + n0) (rs : h'.2.2.1 ≤ R.slots + s0)
    (kk : mm_KK p l e R s m args below meth c Q g D y n0 s0 L xs (mm_nx y (j.getD (i + 1))) ls' st' h') : W p l e R s m args below meth c H locs cells slots Q (F0 m pc rls (st.map (mm_up g.1 g.2.1))) := by
  obtain ⟨hx, hb, hml, -, -, hnm, hown, hts, -, hnF, hnL, -⟩ := X
  obtain ⟨hd, hn, hj, ha4, hfo, -, hroom, -⟩ := mm_okB_dec hc (by decide)
  have hn := hn (by decide)
  replace hop : mm_o_bin (fun x y => some (mm_and x y)) ls st h = some (ls', (st', (h', j))) := hop
  unfold mm_o_bin at hop
  split at hop
  · rename_i y9 x9 st
    have hy := (mm_okt hst).1
    replace hst := (mm_okt hst).2
    have hx9 := (mm_okt hst).1
    replace hst := (mm_okt hst).2
    have hy : mm_rng y9 := hy
    have hx9 : mm_rng x9 := hx9
    split at hop
    · rename_i z hz
      by_cases hr : mm_rng z
      · rw [if_pos hr] at hop
        cases hop
        cases hz
        have k := kk H locs cells slots rls hS hR hL (mm_okc hr hst) hcc hss hsc
        rw [show (none : Option Nat).getD (i + 1) = i + 1 from rfl, hn] at k
        have e9 : mm_up g.1 g.2.1 (mm_I (mm_and x9 y9)) = .int _ := congrArg Value.int (Int32.ofInt_toInt (Int32.ofInt x9 &&& Int32.ofInt y9))
        rw [List.map_cons, e9] at k
        exact lv_iand hx hb hd k
      · rw [if_neg hr] at hop
        cases hop
    · cases hop
  · cases hop

theorem mm_step_ior (hc : mm_code y i = some (pc, (19, (a, b)))) (hop : mm_op mm_fld 19 a b ls st h = some (ls', (st', (h', j)))) (X : mm_X y l p R s m args meth c) (K : mm_K g D L xs s) (hS : va_S (mm_A g) s.heap H locs) (hR : mm_Rl g D h H) (hL : mm_LR g (mm_mL y) ls rls) (hst : ∀ v ∈ st, mm_ok v) (hcc : cells + n0 = h.2.1) (hss : slots + s0 = h.2.2.1) (hsc : h.2.2.2 = mm_scr L xs) (hz0 : s.heap.size ≤ g.2.1 + n0) (rc : h'.2.1 ≤ R.cells + n0) (rs : h'.2.2.1 ≤ R.slots + s0)
    (kk : mm_KK p l e R s m args below meth c Q g D y n0 s0 L xs (mm_nx y (j.getD (i + 1))) ls' st' h') : W p l e R s m args below meth c H locs cells slots Q (F0 m pc rls (st.map (mm_up g.1 g.2.1))) := by
  obtain ⟨hx, hb, hml, -, -, hnm, hown, hts, -, hnF, hnL, -⟩ := X
  obtain ⟨hd, hn, hj, ha4, hfo, -, hroom, -⟩ := mm_okB_dec hc (by decide)
  have hn := hn (by decide)
  replace hop : mm_o_bin (fun x y => some (mm_or x y)) ls st h = some (ls', (st', (h', j))) := hop
  unfold mm_o_bin at hop
  split at hop
  · rename_i y9 x9 st
    have hy := (mm_okt hst).1
    replace hst := (mm_okt hst).2
    have hx9 := (mm_okt hst).1
    replace hst := (mm_okt hst).2
    have hy : mm_rng y9 := hy
    have hx9 : mm_rng x9 := hx9
    split at hop
    · rename_i z hz
      by_cases hr : mm_rng z
      · rw [if_pos hr] at hop
        cases hop
        cases hz
        have k := kk H locs cells slots rls hS hR hL (mm_okc hr hst) hcc hss hsc
        rw [show (none : Option Nat).getD (i + 1) = i + 1 from rfl, hn] at k
        have e9 : mm_up g.1 g.2.1 (mm_I (mm_or x9 y9)) = .int _ := congrArg Value.int (Int32.ofInt_toInt (Int32.ofInt x9 ||| Int32.ofInt y9))
        rw [List.map_cons, e9] at k
        exact lv_ior hx hb hd k
      · rw [if_neg hr] at hop
        cases hop
    · cases hop
  · cases hop

theorem mm_step_iinc (hc : mm_code y i = some (pc, (20, (a, b)))) (hop : mm_op mm_fld 20 a b ls st h = some (ls', (st', (h', j)))) (X : mm_X y l p R s m args meth c) (K : mm_K g D L xs s) (hS : va_S (mm_A g) s.heap H locs) (hR : mm_Rl g D h H) (hL : mm_LR g (mm_mL y) ls rls) (hst : ∀ v ∈ st, mm_ok v) (hcc : cells + n0 = h.2.1) (hss : slots + s0 = h.2.2.1) (hsc : h.2.2.2 = mm_scr L xs) (hz0 : s.heap.size ≤ g.2.1 + n0) (rc : h'.2.1 ≤ R.cells + n0) (rs : h'.2.2.1 ≤ R.slots + s0)
    (kk : mm_KK p l e R s m args below meth c Q g D y n0 s0 L xs (mm_nx y (j.getD (i + 1))) ls' st' h') : W p l e R s m args below meth c H locs cells slots Q (F0 m pc rls (st.map (mm_up g.1 g.2.1))) := by
  obtain ⟨hx, hb, hml, -, -, hnm, hown, hts, -, hnF, hnL, -⟩ := X
  obtain ⟨hd, hn, hj, ha4, hfo, -, hroom, -⟩ := mm_okB_dec hc (by decide)
  have hn := hn (by decide)
  replace hop : mm_o_iinc a b ls st h = some (ls', (st', (h', j))) := hop
  unfold mm_o_iinc at hop
  split at hop
  · rename_i z hz
    by_cases hr : mm_rng (z + b)
    · rw [if_pos hr] at hop
      cases hop
      obtain ⟨q, hq⟩ := List.getElem?_of_mem (mm_lv_in (g := g) (q := (a, mm_up g.1 g.2.1 (mm_I z))).mpr ⟨mm_I z, hz, rfl⟩)
      refine lv_iinc hx hb hd hL.has hq (by rw [← Int32.ofInt_add]) (by rw [← hL.1]; exact (List.getElem?_eq_some_iff.mp hz).1) rfl (fun rls' h9 => ?_)
      have k := kk H locs cells slots rls' hS hR (hL.set (v := mm_I (z + b)) rfl hr h9) hst hcc hss hsc
      rw [show (none : Option Nat).getD (i + 1) = i + 1 from rfl, hn] at k
      exact k
    · rw [if_neg hr] at hop
      cases hop
  · cases hop

theorem mm_step_dup (hc : mm_code y i = some (pc, (21, (a, b)))) (hop : mm_op mm_fld 21 a b ls st h = some (ls', (st', (h', j)))) (X : mm_X y l p R s m args meth c) (K : mm_K g D L xs s) (hS : va_S (mm_A g) s.heap H locs) (hR : mm_Rl g D h H) (hL : mm_LR g (mm_mL y) ls rls) (hst : ∀ v ∈ st, mm_ok v) (hcc : cells + n0 = h.2.1) (hss : slots + s0 = h.2.2.1) (hsc : h.2.2.2 = mm_scr L xs) (hz0 : s.heap.size ≤ g.2.1 + n0) (rc : h'.2.1 ≤ R.cells + n0) (rs : h'.2.2.1 ≤ R.slots + s0)
    (kk : mm_KK p l e R s m args below meth c Q g D y n0 s0 L xs (mm_nx y (j.getD (i + 1))) ls' st' h') : W p l e R s m args below meth c H locs cells slots Q (F0 m pc rls (st.map (mm_up g.1 g.2.1))) := by
  obtain ⟨hx, hb, hml, -, -, hnm, hown, hts, -, hnF, hnL, -⟩ := X
  obtain ⟨hd, hn, hj, ha4, hfo, -, hroom, -⟩ := mm_okB_dec hc (by decide)
  have hn := hn (by decide)
  match st, hst, hop with
  | .inl z :: st, hst, hop =>
    cases hop
    have k := kk H locs cells slots rls hS hR hL (mm_okc (mm_okt hst).1 hst) hcc hss hsc
    rw [show (none : Option Nat).getD (i + 1) = i + 1 from rfl, hn] at k
    exact lv_dup hx hb hd rfl k
  | .inr (.inr r) :: st, hst, hop =>
    cases hop
    have k := kk H locs cells slots rls hS hR hL (mm_okc (mm_okt hst).1 hst) hcc hss hsc
    rw [show (none : Option Nat).getD (i + 1) = i + 1 from rfl, hn] at k
    exact lv_dup hx hb hd (by cases r <;> rfl) k
  | .inr (.inl z) :: st, hst, hop => cases hop
  | [], hst, hop => cases hop

theorem mm_step_dup2 (hc : mm_code y i = some (pc, (22, (a, b)))) (hop : mm_op mm_fld 22 a b ls st h = some (ls', (st', (h', j)))) (X : mm_X y l p R s m args meth c) (K : mm_K g D L xs s) (hS : va_S (mm_A g) s.heap H locs) (hR : mm_Rl g D h H) (hL : mm_LR g (mm_mL y) ls rls) (hst : ∀ v ∈ st, mm_ok v) (hcc : cells + n0 = h.2.1) (hss : slots + s0 = h.2.2.1) (hsc : h.2.2.2 = mm_scr L xs) (hz0 : s.heap.size ≤ g.2.1 + n0) (rc : h'.2.1 ≤ R.cells + n0) (rs : h'.2.2.1 ≤ R.slots + s0)
    (kk : mm_KK p l e R s m args below meth c Q g D y n0 s0 L xs (mm_nx y (j.getD (i + 1))) ls' st' h') : W p l e R s m args below meth c H locs cells slots Q (F0 m pc rls (st.map (mm_up g.1 g.2.1))) := by
  obtain ⟨hx, hb, hml, -, -, hnm, hown, hts, -, hnF, hnL, -⟩ := X
  obtain ⟨hd, hn, hj, ha4, hfo, -, hroom, -⟩ := mm_okB_dec hc (by decide)
  have hn := hn (by decide)
  match st, hst, hop with
  | .inl z :: .inr (.inr r) :: st, hst, hop =>
    cases hop
    have k := kk H locs cells slots rls hS hR hL (mm_okc (mm_okt hst).1 (mm_okc (mm_okt (mm_okt hst).2).1 hst)) hcc hss hsc
    rw [show (none : Option Nat).getD (i + 1) = i + 1 from rfl, hn] at k
    exact lv_dup2_11 hx hb hd rfl (by cases r <;> rfl) k
  | .inl z :: .inr (.inl r) :: st, hst, hop => cases hop
  | .inl z :: .inl r :: st, hst, hop => cases hop
  | [.inl z], hst, hop => cases hop
  | .inr z :: st, hst, hop => cases hop
  | [], hst, hop => cases hop

theorem mm_step_pop (hc : mm_code y i = some (pc, (23, (a, b)))) (hop : mm_op mm_fld 23 a b ls st h = some (ls', (st', (h', j)))) (X : mm_X y l p R s m args meth c) (K : mm_K g D L xs s) (hS : va_S (mm_A g) s.heap H locs) (hR : mm_Rl g D h H) (hL : mm_LR g (mm_mL y) ls rls) (hst : ∀ v ∈ st, mm_ok v) (hcc : cells + n0 = h.2.1) (hss : slots + s0 = h.2.2.1) (hsc : h.2.2.2 = mm_scr L xs) (hz0 : s.heap.size ≤ g.2.1 + n0) (rc : h'.2.1 ≤ R.cells + n0) (rs : h'.2.2.1 ≤ R.slots + s0)
    (kk : mm_KK p l e R s m args below meth c Q g D y n0 s0 L xs (mm_nx y (j.getD (i + 1))) ls' st' h') : W p l e R s m args below meth c H locs cells slots Q (F0 m pc rls (st.map (mm_up g.1 g.2.1))) := by
  obtain ⟨hx, hb, hml, -, -, hnm, hown, hts, -, hnF, hnL, -⟩ := X
  obtain ⟨hd, hn, hj, ha4, hfo, -, hroom, -⟩ := mm_okB_dec hc (by decide)
  have hn := hn (by decide)
  match st, hst, hop with
  | .inl z :: st, hst, hop =>
    cases hop
    have k := kk H locs cells slots rls hS hR hL (mm_okt hst).2 hcc hss hsc
    rw [show (none : Option Nat).getD (i + 1) = i + 1 from rfl, hn] at k
    exact lv_pop hx hb hd rfl k
  | .inr z :: st, hst, hop => cases hop
  | [], hst, hop => cases hop

theorem mm_step_goto (hc : mm_code y i = some (pc, (24, (a, b)))) (hop : mm_op mm_fld 24 a b ls st h = some (ls', (st', (h', j)))) (X : mm_X y l p R s m args meth c) (K : mm_K g D L xs s) (hS : va_S (mm_A g) s.heap H locs) (hR : mm_Rl g D h H) (hL : mm_LR g (mm_mL y) ls rls) (hst : ∀ v ∈ st, mm_ok v) (hcc : cells + n0 = h.2.1) (hss : slots + s0 = h.2.2.1) (hsc : h.2.2.2 = mm_scr L xs) (hz0 : s.heap.size ≤ g.2.1 + n0) (rc : h'.2.1 ≤ R.cells + n0) (rs : h'.2.2.1 ≤ R.slots + s0)
    (kk : mm_KK p l e R s m args below meth c Q g D y n0 s0 L xs (mm_nx y (j.getD (i + 1))) ls' st' h') : W p l e R s m args below meth c H locs cells slots Q (F0 m pc rls (st.map (mm_up g.1 g.2.1))) := by
  obtain ⟨hx, hb, hml, -, -, hnm, hown, hts, -, hnF, hnL, -⟩ := X
  obtain ⟨hd, hn, hj, ha4, hfo, -, hroom, -⟩ := mm_okB_dec hc (by decide)
  have hj := hj (by decide)
  cases hop
  have k := kk H locs cells slots rls hS hR hL hst hcc hss hsc
  exact lv_goto hx hb hd hj k

theorem mm_step_if_eq (hc : mm_code y i = some (pc, (25, (a, b)))) (hop : mm_op mm_fld 25 a b ls st h = some (ls', (st', (h', j)))) (X : mm_X y l p R s m args meth c) (K : mm_K g D L xs s) (hS : va_S (mm_A g) s.heap H locs) (hR : mm_Rl g D h H) (hL : mm_LR g (mm_mL y) ls rls) (hst : ∀ v ∈ st, mm_ok v) (hcc : cells + n0 = h.2.1) (hss : slots + s0 = h.2.2.1) (hsc : h.2.2.2 = mm_scr L xs) (hz0 : s.heap.size ≤ g.2.1 + n0) (rc : h'.2.1 ≤ R.cells + n0) (rs : h'.2.2.1 ≤ R.slots + s0)
    (kk : mm_KK p l e R s m args below meth c Q g D y n0 s0 L xs (mm_nx y (j.getD (i + 1))) ls' st' h') : W p l e R s m args below meth c H locs cells slots Q (F0 m pc rls (st.map (mm_up g.1 g.2.1))) := by
  obtain ⟨hx, hb, hml, -, -, hnm, hown, hts, -, hnF, hnL, -⟩ := X
  obtain ⟨hd, hn, hj, ha4, hfo, -, hroom, -⟩ := mm_okB_dec hc (by decide)
  have hn := hn (by decide)
  have hj := hj (by decide)
  replace hop : mm_o_if (fun x => decide (x = 0)) a ls st h = some (ls', (st', (h', j))) := hop
  unfold mm_o_if at hop
  split at hop
  · rename_i x st
    have hy := (mm_okt hst).1
    replace hst := (mm_okt hst).2
    have hy : mm_rng x := hy
    cases hop
    refine lv_if_eq (tgt := mm_nx y a) hx hb hd hj (fun q => ?_) (fun q => ?_)
    · have k := kk H locs cells slots rls hS hR hL hst hcc hss hsc
      have q2 : (x = 0) := by exact (mm_eq0 hy).mp q
      rw [if_pos (decide_eq_true q2)] at k
      exact k
    · have k := kk H locs cells slots rls hS hR hL hst hcc hss hsc
      have q2 : ¬ (x = 0) := by exact fun z => q ((mm_eq0 hy).mpr z)
      rw [if_neg (by rw [decide_eq_true_eq]; exact q2)] at k
      rw [show (none : Option Nat).getD (i + 1) = i + 1 from rfl, hn] at k
      exact k
  · cases hop

theorem mm_step_if_ne (hc : mm_code y i = some (pc, (26, (a, b)))) (hop : mm_op mm_fld 26 a b ls st h = some (ls', (st', (h', j)))) (X : mm_X y l p R s m args meth c) (K : mm_K g D L xs s) (hS : va_S (mm_A g) s.heap H locs) (hR : mm_Rl g D h H) (hL : mm_LR g (mm_mL y) ls rls) (hst : ∀ v ∈ st, mm_ok v) (hcc : cells + n0 = h.2.1) (hss : slots + s0 = h.2.2.1) (hsc : h.2.2.2 = mm_scr L xs) (hz0 : s.heap.size ≤ g.2.1 + n0) (rc : h'.2.1 ≤ R.cells + n0) (rs : h'.2.2.1 ≤ R.slots + s0)
    (kk : mm_KK p l e R s m args below meth c Q g D y n0 s0 L xs (mm_nx y (j.getD (i + 1))) ls' st' h') : W p l e R s m args below meth c H locs cells slots Q (F0 m pc rls (st.map (mm_up g.1 g.2.1))) := by
  obtain ⟨hx, hb, hml, -, -, hnm, hown, hts, -, hnF, hnL, -⟩ := X
  obtain ⟨hd, hn, hj, ha4, hfo, -, hroom, -⟩ := mm_okB_dec hc (by decide)
  have hn := hn (by decide)
  have hj := hj (by decide)
  replace hop : mm_o_if (fun x => decide (¬ x = 0)) a ls st h = some (ls', (st', (h', j))) := hop
  unfold mm_o_if at hop
  split at hop
  · rename_i x st
    have hy := (mm_okt hst).1
    replace hst := (mm_okt hst).2
    have hy : mm_rng x := hy
    cases hop
    refine lv_if_ne (tgt := mm_nx y a) hx hb hd hj (fun q => ?_) (fun q => ?_)
    · have k := kk H locs cells slots rls hS hR hL hst hcc hss hsc
      have q2 : (¬ x = 0) := by exact (not_congr (mm_eq0 hy)).mp q
      rw [if_pos (decide_eq_true q2)] at k
      exact k
    · have k := kk H locs cells slots rls hS hR hL hst hcc hss hsc
      have q2 : ¬ (¬ x = 0) := by exact fun z => z ((mm_eq0 hy).mp q)
      rw [if_neg (by rw [decide_eq_true_eq]; exact q2)] at k
      rw [show (none : Option Nat).getD (i + 1) = i + 1 from rfl, hn] at k
      exact k
  · cases hop

theorem mm_step_if_lt (hc : mm_code y i = some (pc, (27, (a, b)))) (hop : mm_op mm_fld 27 a b ls st h = some (ls', (st', (h', j)))) (X : mm_X y l p R s m args meth c) (K : mm_K g D L xs s) (hS : va_S (mm_A g) s.heap H locs) (hR : mm_Rl g D h H) (hL : mm_LR g (mm_mL y) ls rls) (hst : ∀ v ∈ st, mm_ok v) (hcc : cells + n0 = h.2.1) (hss : slots + s0 = h.2.2.1) (hsc : h.2.2.2 = mm_scr L xs) (hz0 : s.heap.size ≤ g.2.1 + n0) (rc : h'.2.1 ≤ R.cells + n0) (rs : h'.2.2.1 ≤ R.slots + s0)
    (kk : mm_KK p l e R s m args below meth c Q g D y n0 s0 L xs (mm_nx y (j.getD (i + 1))) ls' st' h') : W p l e R s m args below meth c H locs cells slots Q (F0 m pc rls (st.map (mm_up g.1 g.2.1))) := by
  obtain ⟨hx, hb, hml, -, -, hnm, hown, hts, -, hnF, hnL, -⟩ := X
  obtain ⟨hd, hn, hj, ha4, hfo, -, hroom, -⟩ := mm_okB_dec hc (by decide)
  have hn := hn (by decide)
  have hj := hj (by decide)
  replace hop : mm_o_if (fun x => decide (x < 0)) a ls st h = some (ls', (st', (h', j))) := hop
  unfold mm_o_if at hop
  split at hop
  · rename_i x st
    have hy := (mm_okt hst).1
    replace hst := (mm_okt hst).2
    have hy : mm_rng x := hy
    cases hop
    refine lv_if_lt (tgt := mm_nx y a) hx hb hd hj (fun q => ?_) (fun q => ?_)
    · have k := kk H locs cells slots rls hS hR hL hst hcc hss hsc
      have q2 : (x < 0) := by exact (mm_lt0 hy).mp q
      rw [if_pos (decide_eq_true q2)] at k
      exact k
    · have k := kk H locs cells slots rls hS hR hL hst hcc hss hsc
      have q2 : ¬ (x < 0) := by exact fun z => q ((mm_lt0 hy).mpr z)
      rw [if_neg (by rw [decide_eq_true_eq]; exact q2)] at k
      rw [show (none : Option Nat).getD (i + 1) = i + 1 from rfl, hn] at k
      exact k
  · cases hop

theorem mm_step_if_ge (hc : mm_code y i = some (pc, (28, (a, b)))) (hop : mm_op mm_fld 28 a b ls st h = some (ls', (st', (h', j)))) (X : mm_X y l p R s m args meth c) (K : mm_K g D L xs s) (hS : va_S (mm_A g) s.heap H locs) (hR : mm_Rl g D h H) (hL : mm_LR g (mm_mL y) ls rls) (hst : ∀ v ∈ st, mm_ok v) (hcc : cells + n0 = h.2.1) (hss : slots + s0 = h.2.2.1) (hsc : h.2.2.2 = mm_scr L xs) (hz0 : s.heap.size ≤ g.2.1 + n0) (rc : h'.2.1 ≤ R.cells + n0) (rs : h'.2.2.1 ≤ R.slots + s0)
    (kk : mm_KK p l e R s m args below meth c Q g D y n0 s0 L xs (mm_nx y (j.getD (i + 1))) ls' st' h') : W p l e R s m args below meth c H locs cells slots Q (F0 m pc rls (st.map (mm_up g.1 g.2.1))) := by
  obtain ⟨hx, hb, hml, -, -, hnm, hown, hts, -, hnF, hnL, -⟩ := X
  obtain ⟨hd, hn, hj, ha4, hfo, -, hroom, -⟩ := mm_okB_dec hc (by decide)
  have hn := hn (by decide)
  have hj := hj (by decide)
  replace hop : mm_o_if (fun x => decide (0 ≤ x)) a ls st h = some (ls', (st', (h', j))) := hop
  unfold mm_o_if at hop
  split at hop
  · rename_i x st
    have hy := (mm_okt hst).1
    replace hst := (mm_okt hst).2
    have hy : mm_rng x := hy
    cases hop
    refine lv_if_ge (tgt := mm_nx y a) hx hb hd hj (fun q => ?_) (fun q => ?_)
    · have k := kk H locs cells slots rls hS hR hL hst hcc hss hsc
      have q2 : (0 ≤ x) := by exact (mm_0le hy).mp q
      rw [if_pos (decide_eq_true q2)] at k
      exact k
    · have k := kk H locs cells slots rls hS hR hL hst hcc hss hsc
      have q2 : ¬ (0 ≤ x) := by exact fun z => q ((mm_0le hy).mpr z)
      rw [if_neg (by rw [decide_eq_true_eq]; exact q2)] at k
      rw [show (none : Option Nat).getD (i + 1) = i + 1 from rfl, hn] at k
      exact k
  · cases hop

theorem mm_step_if_gt (hc : mm_code y i = some (pc, (29, (a, b)))) (hop : mm_op mm_fld 29 a b ls st h = some (ls', (st', (h', j)))) (X : mm_X y l p R s m args meth c) (K : mm_K g D L xs s) (hS : va_S (mm_A g) s.heap H locs) (hR : mm_Rl g D h H) (hL : mm_LR g (mm_mL y) ls rls) (hst : ∀ v ∈ st, mm_ok v) (hcc : cells + n0 = h.2.1) (hss : slots + s0 = h.2.2.1) (hsc : h.2.2.2 = mm_scr L xs) (hz0 : s.heap.size ≤ g.2.1 + n0) (rc : h'.2.1 ≤ R.cells + n0) (rs : h'.2.2.1 ≤ R.slots + s0)
    (kk : mm_KK p l e R s m args below meth c Q g D y n0 s0 L xs (mm_nx y (j.getD (i + 1))) ls' st' h') : W p l e R s m args below meth c H locs cells slots Q (F0 m pc rls (st.map (mm_up g.1 g.2.1))) := by
  obtain ⟨hx, hb, hml, -, -, hnm, hown, hts, -, hnF, hnL, -⟩ := X
  obtain ⟨hd, hn, hj, ha4, hfo, -, hroom, -⟩ := mm_okB_dec hc (by decide)
  have hn := hn (by decide)
  have hj := hj (by decide)
  replace hop : mm_o_if (fun x => decide (0 < x)) a ls st h = some (ls', (st', (h', j))) := hop
  unfold mm_o_if at hop
  split at hop
  · rename_i x st
    have hy := (mm_okt hst).1
    replace hst := (mm_okt hst).2
    have hy : mm_rng x := hy
    cases hop
    refine lv_if_gt (tgt := mm_nx y a) hx hb hd hj (fun q => ?_) (fun q => ?_)
    · have k := kk H locs cells slots rls hS hR hL hst hcc hss hsc
      have q2 : (0 < x) := by exact (mm_0lt hy).mp q
      rw [if_pos (decide_eq_true q2)] at k
      exact k
    · have k := kk H locs cells slots rls hS hR hL hst hcc hss hsc
      have q2 : ¬ (0 < x) := by exact fun z => q ((mm_0lt hy).mpr z)
      rw [if_neg (by rw [decide_eq_true_eq]; exact q2)] at k
      rw [show (none : Option Nat).getD (i + 1) = i + 1 from rfl, hn] at k
      exact k
  · cases hop

theorem mm_step_if_le (hc : mm_code y i = some (pc, (30, (a, b)))) (hop : mm_op mm_fld 30 a b ls st h = some (ls', (st', (h', j)))) (X : mm_X y l p R s m args meth c) (K : mm_K g D L xs s) (hS : va_S (mm_A g) s.heap H locs) (hR : mm_Rl g D h H) (hL : mm_LR g (mm_mL y) ls rls) (hst : ∀ v ∈ st, mm_ok v) (hcc : cells + n0 = h.2.1) (hss : slots + s0 = h.2.2.1) (hsc : h.2.2.2 = mm_scr L xs) (hz0 : s.heap.size ≤ g.2.1 + n0) (rc : h'.2.1 ≤ R.cells + n0) (rs : h'.2.2.1 ≤ R.slots + s0)
    (kk : mm_KK p l e R s m args below meth c Q g D y n0 s0 L xs (mm_nx y (j.getD (i + 1))) ls' st' h') : W p l e R s m args below meth c H locs cells slots Q (F0 m pc rls (st.map (mm_up g.1 g.2.1))) := by
  obtain ⟨hx, hb, hml, -, -, hnm, hown, hts, -, hnF, hnL, -⟩ := X
  obtain ⟨hd, hn, hj, ha4, hfo, -, hroom, -⟩ := mm_okB_dec hc (by decide)
  have hn := hn (by decide)
  have hj := hj (by decide)
  replace hop : mm_o_if (fun x => decide (x ≤ 0)) a ls st h = some (ls', (st', (h', j))) := hop
  unfold mm_o_if at hop
  split at hop
  · rename_i x st
    have hy := (mm_okt hst).1
    replace hst := (mm_okt hst).2
    have hy : mm_rng x := hy
    cases hop
    refine lv_if_le (tgt := mm_nx y a) hx hb hd hj (fun q => ?_) (fun q => ?_)
    · have k := kk H locs cells slots rls hS hR hL hst hcc hss hsc
      have q2 : (x ≤ 0) := by exact (mm_le0 hy).mp q
      rw [if_pos (decide_eq_true q2)] at k
      exact k
    · have k := kk H locs cells slots rls hS hR hL hst hcc hss hsc
      have q2 : ¬ (x ≤ 0) := by exact fun z => q ((mm_le0 hy).mpr z)
      rw [if_neg (by rw [decide_eq_true_eq]; exact q2)] at k
      rw [show (none : Option Nat).getD (i + 1) = i + 1 from rfl, hn] at k
      exact k
  · cases hop

theorem mm_step_icmp_eq (hc : mm_code y i = some (pc, (31, (a, b)))) (hop : mm_op mm_fld 31 a b ls st h = some (ls', (st', (h', j)))) (X : mm_X y l p R s m args meth c) (K : mm_K g D L xs s) (hS : va_S (mm_A g) s.heap H locs) (hR : mm_Rl g D h H) (hL : mm_LR g (mm_mL y) ls rls) (hst : ∀ v ∈ st, mm_ok v) (hcc : cells + n0 = h.2.1) (hss : slots + s0 = h.2.2.1) (hsc : h.2.2.2 = mm_scr L xs) (hz0 : s.heap.size ≤ g.2.1 + n0) (rc : h'.2.1 ≤ R.cells + n0) (rs : h'.2.2.1 ≤ R.slots + s0)
    (kk : mm_KK p l e R s m args below meth c Q g D y n0 s0 L xs (mm_nx y (j.getD (i + 1))) ls' st' h') : W p l e R s m args below meth c H locs cells slots Q (F0 m pc rls (st.map (mm_up g.1 g.2.1))) := by
  obtain ⟨hx, hb, hml, -, -, hnm, hown, hts, -, hnF, hnL, -⟩ := X
  obtain ⟨hd, hn, hj, ha4, hfo, -, hroom, -⟩ := mm_okB_dec hc (by decide)
  have hn := hn (by decide)
  have hj := hj (by decide)
  replace hop : mm_o_icmp (fun x y => decide (x = y)) a ls st h = some (ls', (st', (h', j))) := hop
  unfold mm_o_icmp at hop
  split at hop
  · rename_i y9 x9 st
    have hy := (mm_okt hst).1
    replace hst := (mm_okt hst).2
    have hx9 := (mm_okt hst).1
    replace hst := (mm_okt hst).2
    have hy : mm_rng y9 := hy
    have hx9 : mm_rng x9 := hx9
    cases hop
    refine lv_icmp_eq (tgt := mm_nx y a) hx hb hd hj (fun q => ?_) (fun q => ?_)
    · have k := kk H locs cells slots rls hS hR hL hst hcc hss hsc
      have q2 : (x9 = y9) := by exact (mm_eqI hx9 hy).mp q
      rw [if_pos (decide_eq_true q2)] at k
      exact k
    · have k := kk H locs cells slots rls hS hR hL hst hcc hss hsc
      have q2 : ¬ (x9 = y9) := by exact fun z => q ((mm_eqI hx9 hy).mpr z)
      rw [if_neg (by rw [decide_eq_true_eq]; exact q2)] at k
      rw [show (none : Option Nat).getD (i + 1) = i + 1 from rfl, hn] at k
      exact k
  · cases hop

theorem mm_step_icmp_ne (hc : mm_code y i = some (pc, (32, (a, b)))) (hop : mm_op mm_fld 32 a b ls st h = some (ls', (st', (h', j)))) (X : mm_X y l p R s m args meth c) (K : mm_K g D L xs s) (hS : va_S (mm_A g) s.heap H locs) (hR : mm_Rl g D h H) (hL : mm_LR g (mm_mL y) ls rls) (hst : ∀ v ∈ st, mm_ok v) (hcc : cells + n0 = h.2.1) (hss : slots + s0 = h.2.2.1) (hsc : h.2.2.2 = mm_scr L xs) (hz0 : s.heap.size ≤ g.2.1 + n0) (rc : h'.2.1 ≤ R.cells + n0) (rs : h'.2.2.1 ≤ R.slots + s0)
    (kk : mm_KK p l e R s m args below meth c Q g D y n0 s0 L xs (mm_nx y (j.getD (i + 1))) ls' st' h') : W p l e R s m args below meth c H locs cells slots Q (F0 m pc rls (st.map (mm_up g.1 g.2.1))) := by
  obtain ⟨hx, hb, hml, -, -, hnm, hown, hts, -, hnF, hnL, -⟩ := X
  obtain ⟨hd, hn, hj, ha4, hfo, -, hroom, -⟩ := mm_okB_dec hc (by decide)
  have hn := hn (by decide)
  have hj := hj (by decide)
  replace hop : mm_o_icmp (fun x y => decide (¬ x = y)) a ls st h = some (ls', (st', (h', j))) := hop
  unfold mm_o_icmp at hop
  split at hop
  · rename_i y9 x9 st
    have hy := (mm_okt hst).1
    replace hst := (mm_okt hst).2
    have hx9 := (mm_okt hst).1
    replace hst := (mm_okt hst).2
    have hy : mm_rng y9 := hy
    have hx9 : mm_rng x9 := hx9
    cases hop
    refine lv_icmp_ne (tgt := mm_nx y a) hx hb hd hj (fun q => ?_) (fun q => ?_)
    · have k := kk H locs cells slots rls hS hR hL hst hcc hss hsc
      have q2 : (¬ x9 = y9) := by exact (not_congr (mm_eqI hx9 hy)).mp q
      rw [if_pos (decide_eq_true q2)] at k
      exact k
    · have k := kk H locs cells slots rls hS hR hL hst hcc hss hsc
      have q2 : ¬ (¬ x9 = y9) := by exact fun z => z ((mm_eqI hx9 hy).mp q)
      rw [if_neg (by rw [decide_eq_true_eq]; exact q2)] at k
      rw [show (none : Option Nat).getD (i + 1) = i + 1 from rfl, hn] at k
      exact k
  · cases hop

theorem mm_step_icmp_lt (hc : mm_code y i = some (pc, (33, (a, b)))) (hop : mm_op mm_fld 33 a b ls st h = some (ls', (st', (h', j)))) (X : mm_X y l p R s m args meth c) (K : mm_K g D L xs s) (hS : va_S (mm_A g) s.heap H locs) (hR : mm_Rl g D h H) (hL : mm_LR g (mm_mL y) ls rls) (hst : ∀ v ∈ st, mm_ok v) (hcc : cells + n0 = h.2.1) (hss : slots + s0 = h.2.2.1) (hsc : h.2.2.2 = mm_scr L xs) (hz0 : s.heap.size ≤ g.2.1 + n0) (rc : h'.2.1 ≤ R.cells + n0) (rs : h'.2.2.1 ≤ R.slots + s0)
    (kk : mm_KK p l e R s m args below meth c Q g D y n0 s0 L xs (mm_nx y (j.getD (i + 1))) ls' st' h') : W p l e R s m args below meth c H locs cells slots Q (F0 m pc rls (st.map (mm_up g.1 g.2.1))) := by
  obtain ⟨hx, hb, hml, -, -, hnm, hown, hts, -, hnF, hnL, -⟩ := X
  obtain ⟨hd, hn, hj, ha4, hfo, -, hroom, -⟩ := mm_okB_dec hc (by decide)
  have hn := hn (by decide)
  have hj := hj (by decide)
  replace hop : mm_o_icmp (fun x y => decide (x < y)) a ls st h = some (ls', (st', (h', j))) := hop
  unfold mm_o_icmp at hop
  split at hop
  · rename_i y9 x9 st
    have hy := (mm_okt hst).1
    replace hst := (mm_okt hst).2
    have hx9 := (mm_okt hst).1
    replace hst := (mm_okt hst).2
    have hy : mm_rng y9 := hy
    have hx9 : mm_rng x9 := hx9
    cases hop
    refine lv_icmp_lt (tgt := mm_nx y a) hx hb hd hj (fun q => ?_) (fun q => ?_)
    · have k := kk H locs cells slots rls hS hR hL hst hcc hss hsc
      have q2 : (x9 < y9) := by exact (mm_ltI hx9 hy).mp q
      rw [if_pos (decide_eq_true q2)] at k
      exact k
    · have k := kk H locs cells slots rls hS hR hL hst hcc hss hsc
      have q2 : ¬ (x9 < y9) := by exact fun z => q ((mm_ltI hx9 hy).mpr z)
      rw [if_neg (by rw [decide_eq_true_eq]; exact q2)] at k
      rw [show (none : Option Nat).getD (i + 1) = i + 1 from rfl, hn] at k
      exact k
  · cases hop

theorem mm_step_icmp_ge (hc : mm_code y i = some (pc, (34, (a, b)))) (hop : mm_op mm_fld 34 a b ls st h = some (ls', (st', (h', j)))) (X : mm_X y l p R s m args meth c) (K : mm_K g D L xs s) (hS : va_S (mm_A g) s.heap H locs) (hR : mm_Rl g D h H) (hL : mm_LR g (mm_mL y) ls rls) (hst : ∀ v ∈ st, mm_ok v) (hcc : cells + n0 = h.2.1) (hss : slots + s0 = h.2.2.1) (hsc : h.2.2.2 = mm_scr L xs) (hz0 : s.heap.size ≤ g.2.1 + n0) (rc : h'.2.1 ≤ R.cells + n0) (rs : h'.2.2.1 ≤ R.slots + s0)
    (kk : mm_KK p l e R s m args below meth c Q g D y n0 s0 L xs (mm_nx y (j.getD (i + 1))) ls' st' h') : W p l e R s m args below meth c H locs cells slots Q (F0 m pc rls (st.map (mm_up g.1 g.2.1))) := by
  obtain ⟨hx, hb, hml, -, -, hnm, hown, hts, -, hnF, hnL, -⟩ := X
  obtain ⟨hd, hn, hj, ha4, hfo, -, hroom, -⟩ := mm_okB_dec hc (by decide)
  have hn := hn (by decide)
  have hj := hj (by decide)
  replace hop : mm_o_icmp (fun x y => decide (y ≤ x)) a ls st h = some (ls', (st', (h', j))) := hop
  unfold mm_o_icmp at hop
  split at hop
  · rename_i y9 x9 st
    have hy := (mm_okt hst).1
    replace hst := (mm_okt hst).2
    have hx9 := (mm_okt hst).1
    replace hst := (mm_okt hst).2
    have hy : mm_rng y9 := hy
    have hx9 : mm_rng x9 := hx9
    cases hop
    refine lv_icmp_ge (tgt := mm_nx y a) hx hb hd hj (fun q => ?_) (fun q => ?_)
    · have k := kk H locs cells slots rls hS hR hL hst hcc hss hsc
      have q2 : (y9 ≤ x9) := by exact (mm_leI hy hx9).mp q
      rw [if_pos (decide_eq_true q2)] at k
      exact k
    · have k := kk H locs cells slots rls hS hR hL hst hcc hss hsc
      have q2 : ¬ (y9 ≤ x9) := by exact fun z => q ((mm_leI hy hx9).mpr z)
      rw [if_neg (by rw [decide_eq_true_eq]; exact q2)] at k
      rw [show (none : Option Nat).getD (i + 1) = i + 1 from rfl, hn] at k
      exact k
  · cases hop

theorem mm_step_icmp_gt (hc : mm_code y i = some (pc, (35, (a, b)))) (hop : mm_op mm_fld 35 a b ls st h = some (ls', (st', (h', j)))) (X : mm_X y l p R s m args meth c) (K : mm_K g D L xs s) (hS : va_S (mm_A g) s.heap H locs) (hR : mm_Rl g D h H) (hL : mm_LR g (mm_mL y) ls rls) (hst : ∀ v ∈ st, mm_ok v) (hcc : cells + n0 = h.2.1) (hss : slots + s0 = h.2.2.1) (hsc : h.2.2.2 = mm_scr L xs) (hz0 : s.heap.size ≤ g.2.1 + n0) (rc : h'.2.1 ≤ R.cells + n0) (rs : h'.2.2.1 ≤ R.slots + s0)
    (kk : mm_KK p l e R s m args below meth c Q g D y n0 s0 L xs (mm_nx y (j.getD (i + 1))) ls' st' h') : W p l e R s m args below meth c H locs cells slots Q (F0 m pc rls (st.map (mm_up g.1 g.2.1))) := by
  obtain ⟨hx, hb, hml, -, -, hnm, hown, hts, -, hnF, hnL, -⟩ := X
  obtain ⟨hd, hn, hj, ha4, hfo, -, hroom, -⟩ := mm_okB_dec hc (by decide)
  have hn := hn (by decide)
  have hj := hj (by decide)
  replace hop : mm_o_icmp (fun x y => decide (y < x)) a ls st h = some (ls', (st', (h', j))) := hop
  unfold mm_o_icmp at hop
  split at hop
  · rename_i y9 x9 st
    have hy := (mm_okt hst).1
    replace hst := (mm_okt hst).2
    have hx9 := (mm_okt hst).1
    replace hst := (mm_okt hst).2
    have hy : mm_rng y9 := hy
    have hx9 : mm_rng x9 := hx9
    cases hop
    refine lv_icmp_gt (tgt := mm_nx y a) hx hb hd hj (fun q => ?_) (fun q => ?_)
    · have k := kk H locs cells slots rls hS hR hL hst hcc hss hsc
      have q2 : (y9 < x9) := by exact (mm_ltI hy hx9).mp q
      rw [if_pos (decide_eq_true q2)] at k
      exact k
    · have k := kk H locs cells slots rls hS hR hL hst hcc hss hsc
      have q2 : ¬ (y9 < x9) := by exact fun z => q ((mm_ltI hy hx9).mpr z)
      rw [if_neg (by rw [decide_eq_true_eq]; exact q2)] at k
      rw [show (none : Option Nat).getD (i + 1) = i + 1 from rfl, hn] at k
      exact k
  · cases hop

theorem mm_step_icmp_le (hc : mm_code y i = some (pc, (36, (a, b)))) (hop : mm_op mm_fld 36 a b ls st h = some (ls', (st', (h', j)))) (X : mm_X y l p R s m args meth c) (K : mm_K g D L xs s) (hS : va_S (mm_A g) s.heap H locs) (hR : mm_Rl g D h H) (hL : mm_LR g (mm_mL y) ls rls) (hst : ∀ v ∈ st, mm_ok v) (hcc : cells + n0 = h.2.1) (hss : slots + s0 = h.2.2.1) (hsc : h.2.2.2 = mm_scr L xs) (hz0 : s.heap.size ≤ g.2.1 + n0) (rc : h'.2.1 ≤ R.cells + n0) (rs : h'.2.2.1 ≤ R.slots + s0)
    (kk : mm_KK p l e R s m args below meth c Q g D y n0 s0 L xs (mm_nx y (j.getD (i + 1))) ls' st' h') : W p l e R s m args below meth c H locs cells slots Q (F0 m pc rls (st.map (mm_up g.1 g.2.1))) := by
  obtain ⟨hx, hb, hml, -, -, hnm, hown, hts, -, hnF, hnL, -⟩ := X
  obtain ⟨hd, hn, hj, ha4, hfo, -, hroom, -⟩ := mm_okB_dec hc (by decide)
  have hn := hn (by decide)
  have hj := hj (by decide)
  replace hop : mm_o_icmp (fun x y => decide (x ≤ y)) a ls st h = some (ls', (st', (h', j))) := hop
  unfold mm_o_icmp at hop
  split at hop
  · rename_i y9 x9 st
    have hy := (mm_okt hst).1
    replace hst := (mm_okt hst).2
    have hx9 := (mm_okt hst).1
    replace hst := (mm_okt hst).2
    have hy : mm_rng y9 := hy
    have hx9 : mm_rng x9 := hx9
    cases hop
    refine lv_icmp_le (tgt := mm_nx y a) hx hb hd hj (fun q => ?_) (fun q => ?_)
    · have k := kk H locs cells slots rls hS hR hL hst hcc hss hsc
      have q2 : (x9 ≤ y9) := by exact (mm_leI hx9 hy).mp q
      rw [if_pos (decide_eq_true q2)] at k
      exact k
    · have k := kk H locs cells slots rls hS hR hL hst hcc hss hsc
      have q2 : ¬ (x9 ≤ y9) := by exact fun z => q ((mm_leI hx9 hy).mpr z)
      rw [if_neg (by rw [decide_eq_true_eq]; exact q2)] at k
      rw [show (none : Option Nat).getD (i + 1) = i + 1 from rfl, hn] at k
      exact k
  · cases hop

theorem mm_step_ifnull (hc : mm_code y i = some (pc, (37, (a, b)))) (hop : mm_op mm_fld 37 a b ls st h = some (ls', (st', (h', j)))) (X : mm_X y l p R s m args meth c) (K : mm_K g D L xs s) (hS : va_S (mm_A g) s.heap H locs) (hR : mm_Rl g D h H) (hL : mm_LR g (mm_mL y) ls rls) (hst : ∀ v ∈ st, mm_ok v) (hcc : cells + n0 = h.2.1) (hss : slots + s0 = h.2.2.1) (hsc : h.2.2.2 = mm_scr L xs) (hz0 : s.heap.size ≤ g.2.1 + n0) (rc : h'.2.1 ≤ R.cells + n0) (rs : h'.2.2.1 ≤ R.slots + s0)
    (kk : mm_KK p l e R s m args below meth c Q g D y n0 s0 L xs (mm_nx y (j.getD (i + 1))) ls' st' h') : W p l e R s m args below meth c H locs cells slots Q (F0 m pc rls (st.map (mm_up g.1 g.2.1))) := by
  obtain ⟨hx, hb, hml, -, -, hnm, hown, hts, -, hnF, hnL, -⟩ := X
  obtain ⟨hd, hn, hj, ha4, hfo, -, hroom, -⟩ := mm_okB_dec hc (by decide)
  have hn := hn (by decide)
  have hj := hj (by decide)
  replace hop : mm_o_null true a ls st h = some (ls', (st', (h', j))) := hop
  unfold mm_o_null at hop
  split at hop
  · rename_i r st
    cases hop
    have k := kk H locs cells slots rls hS hR hL (mm_okt hst).2 hcc hss hsc
    cases r with
    | none => exact lv_ifnullN hx hb hd hj k
    | some r =>
      have k : W p l e R s m args below meth c H locs cells slots Q (F0 m (mm_nx y (i + 1)) rls (st'.map (mm_up g.1 g.2.1))) := k
      rw [hn] at k
      exact lv_ifnull hx hb hd k
  · cases hop

theorem mm_step_ifnonnull (hc : mm_code y i = some (pc, (38, (a, b)))) (hop : mm_op mm_fld 38 a b ls st h = some (ls', (st', (h', j)))) (X : mm_X y l p R s m args meth c) (K : mm_K g D L xs s) (hS : va_S (mm_A g) s.heap H locs) (hR : mm_Rl g D h H) (hL : mm_LR g (mm_mL y) ls rls) (hst : ∀ v ∈ st, mm_ok v) (hcc : cells + n0 = h.2.1) (hss : slots + s0 = h.2.2.1) (hsc : h.2.2.2 = mm_scr L xs) (hz0 : s.heap.size ≤ g.2.1 + n0) (rc : h'.2.1 ≤ R.cells + n0) (rs : h'.2.2.1 ≤ R.slots + s0)
    (kk : mm_KK p l e R s m args below meth c Q g D y n0 s0 L xs (mm_nx y (j.getD (i + 1))) ls' st' h') : W p l e R s m args below meth c H locs cells slots Q (F0 m pc rls (st.map (mm_up g.1 g.2.1))) := by
  obtain ⟨hx, hb, hml, -, -, hnm, hown, hts, -, hnF, hnL, -⟩ := X
  obtain ⟨hd, hn, hj, ha4, hfo, -, hroom, -⟩ := mm_okB_dec hc (by decide)
  have hn := hn (by decide)
  have hj := hj (by decide)
  replace hop : mm_o_null false a ls st h = some (ls', (st', (h', j))) := hop
  unfold mm_o_null at hop
  split at hop
  · rename_i r st
    cases hop
    have k := kk H locs cells slots rls hS hR hL (mm_okt hst).2 hcc hss hsc
    cases r with
    | none =>
      have k : W p l e R s m args below meth c H locs cells slots Q (F0 m (mm_nx y (i + 1)) rls (st'.map (mm_up g.1 g.2.1))) := k
      rw [hn] at k
      exact lv_ifnonnullN hx hb hd k
    | some r => exact lv_ifnonnull hx hb hd hj k
  · cases hop

theorem mm_step_aconst_null (hc : mm_code y i = some (pc, (39, (a, b)))) (hop : mm_op mm_fld 39 a b ls st h = some (ls', (st', (h', j)))) (X : mm_X y l p R s m args meth c) (K : mm_K g D L xs s) (hS : va_S (mm_A g) s.heap H locs) (hR : mm_Rl g D h H) (hL : mm_LR g (mm_mL y) ls rls) (hst : ∀ v ∈ st, mm_ok v) (hcc : cells + n0 = h.2.1) (hss : slots + s0 = h.2.2.1) (hsc : h.2.2.2 = mm_scr L xs) (hz0 : s.heap.size ≤ g.2.1 + n0) (rc : h'.2.1 ≤ R.cells + n0) (rs : h'.2.2.1 ≤ R.slots + s0)
    (kk : mm_KK p l e R s m args below meth c Q g D y n0 s0 L xs (mm_nx y (j.getD (i + 1))) ls' st' h') : W p l e R s m args below meth c H locs cells slots Q (F0 m pc rls (st.map (mm_up g.1 g.2.1))) := by
  obtain ⟨hx, hb, hml, -, -, hnm, hown, hts, -, hnF, hnL, -⟩ := X
  obtain ⟨hd, hn, hj, ha4, hfo, -, hroom, -⟩ := mm_okB_dec hc (by decide)
  have hn := hn (by decide)
  cases hop
  have k := kk H locs cells slots rls hS hR hL (mm_okc trivial hst) hcc hss hsc
  rw [show (none : Option Nat).getD (i + 1) = i + 1 from rfl, hn] at k
  exact lv_null hx hb hd k

theorem mm_step_i2l (hc : mm_code y i = some (pc, (54, (a, b)))) (hop : mm_op mm_fld 54 a b ls st h = some (ls', (st', (h', j)))) (X : mm_X y l p R s m args meth c) (K : mm_K g D L xs s) (hS : va_S (mm_A g) s.heap H locs) (hR : mm_Rl g D h H) (hL : mm_LR g (mm_mL y) ls rls) (hst : ∀ v ∈ st, mm_ok v) (hcc : cells + n0 = h.2.1) (hss : slots + s0 = h.2.2.1) (hsc : h.2.2.2 = mm_scr L xs) (hz0 : s.heap.size ≤ g.2.1 + n0) (rc : h'.2.1 ≤ R.cells + n0) (rs : h'.2.2.1 ≤ R.slots + s0)
    (kk : mm_KK p l e R s m args below meth c Q g D y n0 s0 L xs (mm_nx y (j.getD (i + 1))) ls' st' h') : W p l e R s m args below meth c H locs cells slots Q (F0 m pc rls (st.map (mm_up g.1 g.2.1))) := by
  obtain ⟨hx, hb, hml, -, -, hnm, hown, hts, -, hnF, hnL, -⟩ := X
  obtain ⟨hd, hn, hj, ha4, hfo, -, hroom, -⟩ := mm_okB_dec hc (by decide)
  have hn := hn (by decide)
  match st, hst, hop with
  | .inl z :: st, hst, hop =>
    cases hop
    have k := kk H locs cells slots rls hS hR hL (mm_okc (mm_okt hst).1 (mm_okt hst).2) hcc hss hsc
    rw [show (none : Option Nat).getD (i + 1) = i + 1 from rfl, hn] at k
    exact lv_i2l hx hb hd (mm_i64 (mm_okt hst).1) k
  | .inr z :: st, hst, hop => cases hop
  | [], hst, hop => cases hop

theorem mm_step_lcmp (hc : mm_code y i = some (pc, (55, (a, b)))) (hop : mm_op mm_fld 55 a b ls st h = some (ls', (st', (h', j)))) (X : mm_X y l p R s m args meth c) (K : mm_K g D L xs s) (hS : va_S (mm_A g) s.heap H locs) (hR : mm_Rl g D h H) (hL : mm_LR g (mm_mL y) ls rls) (hst : ∀ v ∈ st, mm_ok v) (hcc : cells + n0 = h.2.1) (hss : slots + s0 = h.2.2.1) (hsc : h.2.2.2 = mm_scr L xs) (hz0 : s.heap.size ≤ g.2.1 + n0) (rc : h'.2.1 ≤ R.cells + n0) (rs : h'.2.2.1 ≤ R.slots + s0)
    (kk : mm_KK p l e R s m args below meth c Q g D y n0 s0 L xs (mm_nx y (j.getD (i + 1))) ls' st' h') : W p l e R s m args below meth c H locs cells slots Q (F0 m pc rls (st.map (mm_up g.1 g.2.1))) := by
  obtain ⟨hx, hb, hml, -, -, hnm, hown, hts, -, hnF, hnL, -⟩ := X
  obtain ⟨hd, hn, hj, ha4, hfo, -, hroom, -⟩ := mm_okB_dec hc (by decide)
  have hn := hn (by decide)
  match st, hst, hop with
  | .inr (.inl y9) :: .inr (.inl x9) :: st, hst, hop =>
    cases hop
    have hr : mm_rng (mm_cmp x9 y9) := by unfold mm_cmp; split <;> (try split) <;> decide
    have k := kk H locs cells slots rls hS hR hL (mm_okc hr (mm_okt (mm_okt hst).2).2) hcc hss hsc
    rw [show (none : Option Nat).getD (i + 1) = i + 1 from rfl, hn] at k
    have e9 : mm_up g.1 g.2.1 (mm_I (mm_cmp x9 y9)) = .int (lg_cmp (Int64.ofInt x9) (Int64.ofInt y9)) := congrArg Value.int (mm_cmpL (mm_okt (mm_okt hst).2).1 (mm_okt hst).1).symm
    rw [List.map_cons, e9] at k
    exact W.lcmp hx hb hd k
  | .inr (.inl z) :: .inr (.inr z2) :: st, hst, hop => cases hop
  | .inr (.inl z) :: .inl z2 :: st, hst, hop => cases hop
  | [.inr (.inl z)], hst, hop => cases hop
  | .inr (.inr z) :: st, hst, hop => cases hop
  | .inl z :: st, hst, hop => cases hop
  | [], hst, hop => cases hop
end MMS
end
section
section MMH
variable {p : Program} {l : Launch} {e : Env} {R : Room} {s : State} {m : MethodId} {args : Array Value} {below : List Frame} {meth : Method} {c : Code} {H : Heap} {locs : List Loc} {cells slots : Nat} {Q : State → Prop}
variable {g : mm_G} {D : va_G} {y i pc op a : Nat} {b : Int} {ls ls' : mm_F} {st st' : List mm_V} {h h' : mm_H} {j : Option Nat} {rls : Array Slot} {n0 s0 L : Nat} {xs : Nat → Int32}
theorem mm_ent_o (g : mm_G) (ci : Nat) (l : List mm_V) : mm_ent g (10 + ci, l) = .inr (ci, l.map (mm_up g.1 g.2.1)) := by
  have e : (10 + ci) = (ci + 7) + 3 := by omega
  rw [e]
  show Sum.inr (ci + 7 + 3 - 10, _) = _
  rw [show ci + 7 + 3 - 10 = ci by omega]
theorem mm_ad_lt {b b0 r : Nat} (h : r < 999) : mm_ad b b0 r = b0 + r := if_neg (by omega)
theorem mm_Rl.set {g : mm_G} {D : va_G} {h : mm_H} {H H1 : Heap} {r : Nat} {c : Nat × List mm_V} (hR : mm_Rl g D h H) (hok : ∀ v ∈ c.2, mm_ok v) (hP : va_P D vwCl (mm_ws g (h.1.set r c)) H1) : mm_Rl g D (h.1.set r c, h.2) H1 := by
  obtain ⟨-, h2, h3, h4⟩ := hR
  refine ⟨hP, by rw [List.length_set]; exact h2, fun c1 hc1 v hv => ?_, h4⟩
  rcases List.mem_or_eq_of_mem_set hc1 with q | q
  · exact h3 c1 q v hv
  · rw [q] at hv; exact hok v hv
theorem mm_oks {l : List mm_V} {k : Nat} {v : mm_V} (h : ∀ w ∈ l, mm_ok w) (hv : mm_ok v) : ∀ w ∈ l.set k v, mm_ok w := by
  intro w hw
  rcases List.mem_or_eq_of_mem_set hw with q | q
  · exact h w q
  · rw [q]; exact hv
theorem mm_Rl.okl {g : mm_G} {D : va_G} {h : mm_H} {H : Heap} (hR : mm_Rl g D h H) {r : Nat} {c : Nat × List mm_V} (hr : h.1[r]? = some c) : r < 900 ∧ ∀ v ∈ c.2, mm_ok v := by
  have h1 := (List.getElem?_eq_some_iff.mp hr).1
  have h2 := hR.2.1
  exact ⟨by omega, hR.2.2.1 c (List.mem_of_getElem? hr)⟩
theorem mm_size {fr : JFrame} (k : H.size ≤ s.heap.size + cells → W p l e R s m args below meth c H locs cells slots Q fr) : W p l e R s m args below meth c H locs cells slots Q fr := by
  intro T hT X
  have h1 := X.same.2.2.1
  exact k (by rw [← hT]; exact h1) T hT X
/-- a new cell's address -/
theorem mm_adr {ws : va_W} {H1 : Heap} {q n : Nat} {x : va_E} (hD : va_D (mm_A g) (ws ++ [(q, x)])) (hP : va_P D vwCl (ws ++ [(q, x)]) H1) (hl : ws.length = n) (ha : ∀ (k : Nat) (z : Nat × va_E), ws[k]? = some z → z.1 = g.2.1 + k) (hz : H1.size ≤ g.2.1 + n + 1) : q = g.2.1 + n := by
  have e1 : (ws ++ [(q, x)])[n]? = some (q, x) := by rw [List.getElem?_append_right (by omega), hl]; simp
  have h1 : q < H1.size := (hP n _ e1).lt
  have h2 : g.2.1 ≤ q := hD.2 n _ e1
  by_cases hq : q = g.2.1 + n
  · exact hq
  · exfalso
    have hk : q - g.2.1 < ws.length := by omega
    have e2 : (ws ++ [(q, x)])[q - g.2.1]? = some ws[q - g.2.1] := by rw [List.getElem?_append_left hk, List.getElem?_eq_getElem hk]
    have e3 := ha (q - g.2.1) _ (List.getElem?_eq_getElem hk)
    have e4 := hD.1 (q - g.2.1) n _ _ e2 e1 (by rw [e3]; show g.2.1 + (q - g.2.1) = q; omega)
    omega
theorem mm_ws_ad {cs : List (Nat × List mm_V)} (k : Nat) (z : Nat × va_E) (hk : (mm_ws g cs)[k]? = some z) : z.1 = g.2.1 + k := by
  unfold mm_ws at hk
  rw [List.getElem?_mapIdx] at hk
  cases hc : cs[k]? with
  | none => rw [hc] at hk; cases hk
  | some c => rw [hc] at hk; cases hk; rfl
theorem mm_Rl.push {H1 : Heap} {kd : Nat} {lv : List mm_V} {q : Nat} {t : Nat × (Nat × List Int)} (hR : mm_Rl g D h H) (hlt : h.1.length < 900) (hok : ∀ v ∈ lv, mm_ok v) (ht : t.2.2 = h.2.2.2) (hD : va_D (mm_A g) (mm_ws g h.1 ++ [(q, mm_ent g (kd, lv))])) (hP : va_P D vwCl (mm_ws g h.1 ++ [(q, mm_ent g (kd, lv))]) H1) (hz : H1.size ≤ g.2.1 + h.1.length + 1) :
    q = g.2.1 + h.1.length ∧ mm_Rl g D (h.1 ++ [(kd, lv)], t) H1 := by
  have e := mm_adr hD hP (mm_ws_len g h.1) (fun k z hk => mm_ws_ad k z hk) hz
  refine ⟨e, ?_, by rw [List.length_append]; show h.1.length + 1 ≤ 900; omega, fun c1 hc1 v hv => ?_, by show ∀ z ∈ t.2.2, mm_rng z; rw [ht]; exact hR.2.2.2⟩
  · show va_P D vwCl (mm_ws g (h.1 ++ [(kd, lv)])) H1
    rw [← mm_ws_push, ← e]
    exact hP
  · rcases List.mem_append.mp hc1 with w | w
    · exact hR.2.2.1 c1 w v hv
    · rw [List.mem_singleton.mp w] at hv; exact hok v hv
theorem mm_kk1 {D : va_G} (hR : mm_Rl g D h H) {r : Nat} {c : Nat × List mm_V} (hr : h.1[r]? = some c) : (mm_ws g h.1)[r]? = some (g.2.1 + r, mm_ent g c) := mm_ws_at g hr
theorem mm_catS {b b0 : Nat} (st : List mm_V) : ((st.map (mm_up b b0)).map fun v => v.category).sum ≤ 2 * st.length := by
  induction st with
  | nil => exact Nat.le_refl 0
  | cons v st ih =>
    have h1 : (mm_up b b0 v).category ≤ 2 := by rcases lv_cat (mm_up b b0 v) with h | h <;> omega
    rw [List.map_cons, List.map_cons, List.sum_cons, List.length_cons]
    omega
theorem mm_pF0 : ((List.range mm_codeT.length).all fun y => (mm_codeT.getD y []).all fun q => decide (q.2.1 = 42 → (mm_yn y).name = "<init>" ∧ (mm_fd q.2.2.1).1.1 = mm_own y)) = true := by decide +kernel
theorem mm_pF {y i pc a : Nat} {b : Int} (h : mm_code y i = some (pc, (42, (a, b)))) : (mm_yn y).name = "<init>" ∧ (mm_fd a).1.1 = mm_own y := by
  unfold mm_code at h
  cases hy : mm_codeT[y]? with
  | none => rw [hy] at h; cases h
  | some l =>
    rw [hy] at h
    have e : mm_codeT.getD y [] = l := by rw [List.getD_eq_getElem?_getD, hy]; rfl
    have h1 := List.all_eq_true.mp mm_pF0 y (List.mem_range.mpr (List.getElem?_eq_some_iff.mp hy).1)
    rw [e] at h1
    exact of_decide_eq_true (List.all_eq_true.mp h1 _ (List.mem_of_getElem? h)) rfl
theorem mm_step_getfield (hc : mm_code y i = some (pc, (40, (a, b)))) (hop : mm_op mm_fld 40 a b ls st h = some (ls', (st', (h', j)))) (X : mm_X y l p R s m args meth c) (K : mm_K g D L xs s) (hS : va_S (mm_A g) s.heap H locs) (hR : mm_Rl g D h H) (hL : mm_LR g (mm_mL y) ls rls) (hst : ∀ v ∈ st, mm_ok v) (hcc : cells + n0 = h.2.1) (hss : slots + s0 = h.2.2.1) (hsc : h.2.2.2 = mm_scr L xs) (hz0 : s.heap.size ≤ g.2.1 + n0) (rc : h'.2.1 ≤ R.cells + n0) (rs : h'.2.2.1 ≤ R.slots + s0)
    (kk : mm_KK p l e R s m args below meth c Q g D y n0 s0 L xs (mm_nx y (j.getD (i + 1))) ls' st' h') : W p l e R s m args below meth c H locs cells slots Q (F0 m pc rls (st.map (mm_up g.1 g.2.1))) := by
  obtain ⟨hx, hb, hml, -, -, hnm, hown, hts, -, hnF, hnL, -⟩ := X
  obtain ⟨hd, hn, hj, ha4, hfo, -, hroom, -⟩ := mm_okB_dec hc (by decide)
  have hn := hn (by decide)
  obtain ⟨hf1, hf2⟩ := hfo (by decide)
  obtain ⟨f1, f2, f3⟩ := mm_FA hf2
  obtain ⟨c1, c2, c3, c4, c5, c6, c7⟩ := mm_CA _ f1
  replace hop : mm_o_get (mm_fld a).1 (mm_fld a).2 ls st h = some (ls', (st', (h', j))) := hop
  unfold mm_o_get at hop
  split at hop
  · rename_i r st
    split at hop
    · rename_i kd lv hr
      split at hop
      · rename_i hk
        subst hk
        split at hop
        · rename_i v hv
          cases hop
          obtain ⟨r9, hok⟩ := hR.okl hr
          have he := mm_ws_at g hr
          rw [mm_ent_o] at he
          have k := kk H locs cells slots rls hS hR hL (mm_okc (hok v (List.mem_of_getElem? hv)) (mm_okt hst).2) hcc hss hsc
          rw [show (none : Option Nat).getD (i + 1) = i + 1 from rfl, hn] at k
          show W p l e R s m args below meth c H locs cells slots Q (F0 m pc rls (.ref (mm_ad g.1 g.2.1 r) :: st.map (mm_up g.1 g.2.1)))
          rw [mm_ad_lt (by omega)]
          rw [hf1] at f3
          exact va_get (D := D) (ci := (mm_fd a).1.1) (v := mm_up g.1 g.2.1 v) (C := (mm_cl (mm_fd a).1.1).1) (T := (mm_cl (mm_fd a).1.1).2.1) (N := (mm_cl (mm_fd a).1.1).2.2) hx hb hts c2 hown K.1 hR.1 r he c1 (mm_fd a).1.2 f2 (hts _ f3) (fun x hx => by rw [(c6 _ f2).2] at hx; exact hx) (by rw [List.getElem?_map, hv]; rfl) hd k
        · cases hop
      · cases hop
    · cases hop
  · cases hop
theorem mm_step_putfield (hc : mm_code y i = some (pc, (41, (a, b)))) (hop : mm_op mm_fld 41 a b ls st h = some (ls', (st', (h', j)))) (X : mm_X y l p R s m args meth c) (K : mm_K g D L xs s) (hS : va_S (mm_A g) s.heap H locs) (hR : mm_Rl g D h H) (hL : mm_LR g (mm_mL y) ls rls) (hst : ∀ v ∈ st, mm_ok v) (hcc : cells + n0 = h.2.1) (hss : slots + s0 = h.2.2.1) (hsc : h.2.2.2 = mm_scr L xs) (hz0 : s.heap.size ≤ g.2.1 + n0) (rc : h'.2.1 ≤ R.cells + n0) (rs : h'.2.2.1 ≤ R.slots + s0)
    (kk : mm_KK p l e R s m args below meth c Q g D y n0 s0 L xs (mm_nx y (j.getD (i + 1))) ls' st' h') : W p l e R s m args below meth c H locs cells slots Q (F0 m pc rls (st.map (mm_up g.1 g.2.1))) := by
  obtain ⟨hx, hb, hml, -, -, hnm, hown, hts, -, hnF, hnL, -⟩ := X
  obtain ⟨hd, hn, hj, ha4, hfo, -, hroom, -⟩ := mm_okB_dec hc (by decide)
  have hn := hn (by decide)
  obtain ⟨hf1, hf2⟩ := hfo (by decide)
  obtain ⟨f1, f2, f3⟩ := mm_FA hf2
  obtain ⟨c1, c2, c3, c4, c5, c6, c7⟩ := mm_CA _ f1
  replace hop : mm_o_put (mm_fld a).1 (mm_fld a).2 ls st h = some (ls', (st', (h', j))) := hop
  unfold mm_o_put at hop
  split at hop
  · rename_i z r st
    split at hop
    · rename_i kd lv hr
      split at hop
      · rename_i hk
        obtain ⟨hk, hlt, hkd⟩ := hk
        subst hk
        cases hop
        obtain ⟨r9, hok⟩ := hR.okl hr
        have he := mm_ws_at g hr
        rw [mm_ent_o] at he
        have hzr := (mm_okt hst).1
        replace hst := (mm_okt hst).2
        replace hst := (mm_okt hst).2
        show W p l e R s m args below meth c H locs cells slots Q (F0 m pc rls (.int (Int32.ofInt z) :: .ref (mm_ad g.1 g.2.1 r) :: st'.map (mm_up g.1 g.2.1)))
        rw [mm_ad_lt (by omega)]
        rw [hf1] at f3
        have c6a := (c6 _ f2).1
        have h9 : mm_ty (mm_fd a).1.1 (mm_fd a).1.2 = .int ∧ ((mm_cl (mm_fd a).1.1).2.1 (mm_fd a).1.2).2.2.2 = false ∨ mm_ty (mm_fd a).1.1 (mm_fd a).1.2 = .boolean ∧ ((mm_cl (mm_fd a).1.1).2.1 (mm_fd a).1.2).2.2.2 = false ∧ (z = 0 ∨ z = 1) := by
          unfold mm_kOK at c6a
          rcases hkd with e9 | ⟨e9, hz⟩
          · rw [show (mm_fk (mm_fd a).1.1)[(mm_fd a).1.2]? = some 0 from e9] at c6a
            simp only [Bool.and_eq_true, decide_eq_true_eq, Bool.not_eq_true'] at c6a
            exact Or.inl c6a
          · rw [show (mm_fk (mm_fd a).1.1)[(mm_fd a).1.2]? = some 1 from e9] at c6a
            simp only [Bool.and_eq_true, decide_eq_true_eq, Bool.not_eq_true'] at c6a
            exact Or.inr ⟨c6a.1, c6a.2, hz⟩
        have hfin : ((mm_cl (mm_fd a).1.1).2.1 (mm_fd a).1.2).2.2.2 = false := h9.elim (·.2) (·.2.1)
        have hnf : narrow (mm_ty (mm_fd a).1.1 (mm_fd a).1.2) (.int (Int32.ofInt z)) = .int (Int32.ofInt z) ∧ fits (mm_ty (mm_fd a).1.1 (mm_fd a).1.2) (.int (Int32.ofInt z)) = true := by
          rcases h9 with ⟨e9, -⟩ | ⟨e9, -, hz⟩
          · rw [e9]; exact ⟨rfl, rfl⟩
          · rw [e9]
            rcases hz with rfl | rfl
            · exact ⟨rfl, rfl⟩
            · exact ⟨rfl, rfl⟩
        refine va_put (D := D) (ci := (mm_fd a).1.1) (v := .int (Int32.ofInt z)) (C := (mm_cl (mm_fd a).1.1).1) (T := (mm_cl (mm_fd a).1.1).2.1) (N := (mm_cl (mm_fd a).1.1).2.2) hx hb hts c2 (mm_ty (mm_fd a).1.1) c3 c4 hown K.1 hR.1 (mm_ws_D g h.1) hS r he c1 (mm_fd a).1.2 f2 (hts _ f3) (fun x hx => by rw [(c6 _ f2).2] at hx; exact hx) hfin (c3 _ f2) hnf.1 hnf.2 (by rw [List.length_map]; exact hlt) hd (fun H1 locs1 hP1 hD1 hS1 => ?_)
        rw [show (lv.map (mm_up g.1 g.2.1)).set (mm_fd a).1.2 (.int (Int32.ofInt z)) = (lv.set (mm_fd a).1.2 (mm_I z)).map (mm_up g.1 g.2.1) from by rw [List.map_set]; rfl, ← mm_ent_o, mm_ws_set] at hP1
        have k := kk H1 locs1 cells slots rls hS1 (hR.set (mm_oks hok hzr) hP1) hL hst hcc hss hsc
        rw [show (none : Option Nat).getD (i + 1) = i + 1 from rfl, hn] at k
        exact k
      · cases hop
    · cases hop
  · cases hop
theorem mm_step_putfieldF (hc : mm_code y i = some (pc, (42, (a, b)))) (hop : mm_op mm_fld 42 a b ls st h = some (ls', (st', (h', j)))) (X : mm_X y l p R s m args meth c) (K : mm_K g D L xs s) (hS : va_S (mm_A g) s.heap H locs) (hR : mm_Rl g D h H) (hL : mm_LR g (mm_mL y) ls rls) (hst : ∀ v ∈ st, mm_ok v) (hcc : cells + n0 = h.2.1) (hss : slots + s0 = h.2.2.1) (hsc : h.2.2.2 = mm_scr L xs) (hz0 : s.heap.size ≤ g.2.1 + n0) (rc : h'.2.1 ≤ R.cells + n0) (rs : h'.2.2.1 ≤ R.slots + s0)
    (kk : mm_KK p l e R s m args below meth c Q g D y n0 s0 L xs (mm_nx y (j.getD (i + 1))) ls' st' h') : W p l e R s m args below meth c H locs cells slots Q (F0 m pc rls (st.map (mm_up g.1 g.2.1))) := by
  obtain ⟨hx, hb, hml, -, -, hnm, hown, hts, -, hnF, hnL, -⟩ := X
  obtain ⟨hd, hn, hj, ha4, hfo, -, hroom, -⟩ := mm_okB_dec hc (by decide)
  have hn := hn (by decide)
  obtain ⟨hf1, hf2⟩ := hfo (by decide)
  obtain ⟨f1, f2, f3⟩ := mm_FA hf2
  obtain ⟨c1, c2, c3, c4, c5, c6, c7⟩ := mm_CA _ f1
  obtain ⟨hin, hdc⟩ := mm_pF hc
  replace hop : mm_o_putF (mm_fld a).1 (mm_fld a).2 ls st h = some (ls', (st', (h', j))) := hop
  unfold mm_o_putF at hop
  split at hop
  · rename_i v r st
    split at hop
    · rename_i kd lv hr
      split at hop
      · rename_i hk
        obtain ⟨hk, hlt, hkd⟩ := hk
        subst hk
        cases hop
        obtain ⟨r9, hok⟩ := hR.okl hr
        have he := mm_ws_at g hr
        rw [mm_ent_o] at he
        have hzr := (mm_okt hst).1
        replace hst := (mm_okt hst).2
        replace hst := (mm_okt hst).2
        show W p l e R s m args below meth c H locs cells slots Q (F0 m pc rls (.ref (mm_ad g.1 g.2.1 v) :: .ref (mm_ad g.1 g.2.1 r) :: st'.map (mm_up g.1 g.2.1)))
        rw [mm_ad_lt (r := r) (by omega)]
        rw [hf1] at f3
        have c6a := (c6 _ f2).1
        have h9 : ((mm_cl (mm_fd a).1.1).2.1 (mm_fd a).1.2).2.2.2 = true ∧ narrow (mm_ty (mm_fd a).1.1 (mm_fd a).1.2) (.ref (mm_ad g.1 g.2.1 v)) = .ref (mm_ad g.1 g.2.1 v) ∧ fits (mm_ty (mm_fd a).1.1 (mm_fd a).1.2) (.ref (mm_ad g.1 g.2.1 v)) = true := by
          unfold mm_kOK at c6a
          rw [show (mm_fk (mm_fd a).1.1)[(mm_fd a).1.2]? = some 2 from hkd] at c6a
          simp only [Bool.and_eq_true] at c6a
          refine ⟨c6a.2, ?_⟩
          have c6b := c6a.1
          generalize mm_ty (mm_fd a).1.1 (mm_fd a).1.2 = t9 at c6b
          cases t9 <;> first | exact ⟨rfl, rfl⟩ | cases c6b
        have hdc : ((mm_cl (mm_fd a).1.1).2.1 (mm_fd a).1.2).1 = mm_cn (mm_own y) := by rw [(c6 _ f2).2, c7]; rw [hdc]
        refine va_putF (D := D) (ci := (mm_fd a).1.1) (v := .ref (mm_ad g.1 g.2.1 v)) (C := (mm_cl (mm_fd a).1.1).1) (T := (mm_cl (mm_fd a).1.1).2.1) (N := (mm_cl (mm_fd a).1.1).2.2) hx hb hts c2 (mm_ty (mm_fd a).1.1) c3 c4 hown K.1 hR.1 (mm_ws_D g h.1) hS r he c1 (mm_fd a).1.2 f2 (hts _ f3) (fun x hx => by rw [(c6 _ f2).2] at hx; exact hx) h9.1 (by rw [hnm]; exact hin) hdc (c3 _ f2) h9.2.1 h9.2.2 (by rw [List.length_map]; exact hlt) hd (fun H1 locs1 hP1 hD1 hS1 => ?_)
        rw [show (lv.map (mm_up g.1 g.2.1)).set (mm_fd a).1.2 (.ref (mm_ad g.1 g.2.1 v)) = (lv.set (mm_fd a).1.2 (mm_P v)).map (mm_up g.1 g.2.1) from by rw [List.map_set]; rfl, ← mm_ent_o, mm_ws_set] at hP1
        have k := kk H1 locs1 cells slots rls hS1 (hR.set (mm_oks hok hzr) hP1) hL hst hcc hss hsc
        rw [show (none : Option Nat).getD (i + 1) = i + 1 from rfl, hn] at k
        exact k
      · cases hop
    · cases hop
  · cases hop
theorem mm_step_iaload (hc : mm_code y i = some (pc, (43, (a, b)))) (hop : mm_op mm_fld 43 a b ls st h = some (ls', (st', (h', j)))) (X : mm_X y l p R s m args meth c) (K : mm_K g D L xs s) (hS : va_S (mm_A g) s.heap H locs) (hR : mm_Rl g D h H) (hL : mm_LR g (mm_mL y) ls rls) (hst : ∀ v ∈ st, mm_ok v) (hcc : cells + n0 = h.2.1) (hss : slots + s0 = h.2.2.1) (hsc : h.2.2.2 = mm_scr L xs) (hz0 : s.heap.size ≤ g.2.1 + n0) (rc : h'.2.1 ≤ R.cells + n0) (rs : h'.2.2.1 ≤ R.slots + s0)
    (kk : mm_KK p l e R s m args below meth c Q g D y n0 s0 L xs (mm_nx y (j.getD (i + 1))) ls' st' h') : W p l e R s m args below meth c H locs cells slots Q (F0 m pc rls (st.map (mm_up g.1 g.2.1))) := by
  obtain ⟨hx, hb, hml, -, -, hnm, hown, hts, -, hnF, hnL, -⟩ := X
  obtain ⟨hd, hn, hj, ha4, hfo, -, hroom, -⟩ := mm_okB_dec hc (by decide)
  have hn := hn (by decide)
  replace hop : mm_o_iald ls st h = some (ls', (st', (h', j))) := hop
  unfold mm_o_iald at hop
  split at hop
  · rename_i i9 r st
    have hi := (mm_okt hst).1
    replace hst := (mm_okt hst).2
    have hi : mm_rng i9 := hi
    replace hst := (mm_okt hst).2
    by_cases h0 : i9 < 0
    · rw [if_pos h0] at hop
      cases hop
    rw [if_neg h0] at hop
    by_cases hr9 : r = 999
    · rw [if_pos hr9] at hop
      subst hr9
      split at hop
      · rename_i z hz
        cases hop
        rw [hsc] at hz
        unfold mm_scr at hz
        rw [List.getElem?_map] at hz
        obtain ⟨n9, hn9, e9⟩ := Option.map_eq_some_iff.mp hz
        obtain ⟨hlt, hge⟩ := List.getElem?_eq_some_iff.mp hn9
        rw [List.length_range] at hlt
        rw [List.getElem_range] at hge
        subst hge
        obtain ⟨-, -, -, -, -, -, -, -, hX, hbl, hbz, -⟩ := K
        have k := kk H locs cells slots rls hS hR hL (mm_okc (by rw [← e9]; exact mm_rT _) hst) hcc hss hsc
        rw [show (none : Option Nat).getD (i + 1) = i + 1 from rfl, hn] at k
        have e8 : mm_up g.1 g.2.1 (mm_I z) = .int (xs (Int32.ofInt i9).toNatClampNeg) := by
          rw [mm_clamp hi, ← e9]
          exact congrArg Value.int (Int32.ofInt_toInt _)
        rw [List.map_cons, e8] at k
        exact va_sld hx hb hX (Nat.lt_of_lt_of_le hbl hbz) (Nat.not_le.mpr hbl) hS (mm_vin hi (by omega) hlt) hd k
      · cases hop
    rw [if_neg hr9] at hop
    split at hop
    · rename_i lv hr
      split at hop
      · rename_i z hz
        cases hop
        obtain ⟨r9, hok⟩ := hR.okl hr
        have he := mm_ws_at g hr
        have k := kk H locs cells slots rls hS hR hL (mm_okc (hok _ (List.mem_of_getElem? hz)) hst) hcc hss hsc
        rw [show (none : Option Nat).getD (i + 1) = i + 1 from rfl, hn] at k
        have e8 : mm_up g.1 g.2.1 (mm_I z) = .int (mm_gI lv[(Int32.ofInt i9).toNatClampNeg]?) := by
          rw [mm_clamp hi, hz]
          rfl
        rw [List.map_cons, e8] at k
        show W p l e R s m args below meth c H locs cells slots Q (F0 m pc rls (.int (Int32.ofInt i9) :: .ref (mm_ad g.1 g.2.1 r) :: st.map (mm_up g.1 g.2.1)))
        rw [mm_ad_lt (by omega)]
        exact va_iald hx hb K.1 hR.1 r 0 he rfl (mm_vin hi (by omega) (List.getElem?_eq_some_iff.mp hz).1) hd k
      · cases hop
    · cases hop
  · cases hop
theorem mm_step_laload (hc : mm_code y i = some (pc, (45, (a, b)))) (hop : mm_op mm_fld 45 a b ls st h = some (ls', (st', (h', j)))) (X : mm_X y l p R s m args meth c) (K : mm_K g D L xs s) (hS : va_S (mm_A g) s.heap H locs) (hR : mm_Rl g D h H) (hL : mm_LR g (mm_mL y) ls rls) (hst : ∀ v ∈ st, mm_ok v) (hcc : cells + n0 = h.2.1) (hss : slots + s0 = h.2.2.1) (hsc : h.2.2.2 = mm_scr L xs) (hz0 : s.heap.size ≤ g.2.1 + n0) (rc : h'.2.1 ≤ R.cells + n0) (rs : h'.2.2.1 ≤ R.slots + s0)
    (kk : mm_KK p l e R s m args below meth c Q g D y n0 s0 L xs (mm_nx y (j.getD (i + 1))) ls' st' h') : W p l e R s m args below meth c H locs cells slots Q (F0 m pc rls (st.map (mm_up g.1 g.2.1))) := by
  obtain ⟨hx, hb, hml, -, -, hnm, hown, hts, -, hnF, hnL, -⟩ := X
  obtain ⟨hd, hn, hj, ha4, hfo, -, hroom, -⟩ := mm_okB_dec hc (by decide)
  have hn := hn (by decide)
  replace hop : mm_o_lald ls st h = some (ls', (st', (h', j))) := hop
  unfold mm_o_lald at hop
  split at hop
  · rename_i i9 r st
    have hi := (mm_okt hst).1
    replace hst := (mm_okt hst).2
    have hi : mm_rng i9 := hi
    replace hst := (mm_okt hst).2
    by_cases h0 : i9 < 0
    · rw [if_pos h0] at hop
      cases hop
    rw [if_neg h0] at hop
    split at hop
    · rename_i lv hr
      split at hop
      · rename_i z hz
        cases hop
        obtain ⟨r9, hok⟩ := hR.okl hr
        have he := mm_ws_at g hr
        have k := kk H locs cells slots rls hS hR hL (mm_okc (hok _ (List.mem_of_getElem? hz)) hst) hcc hss hsc
        rw [show (none : Option Nat).getD (i + 1) = i + 1 from rfl, hn] at k
        have e8 : mm_up g.1 g.2.1 (mm_L z) = .long (mm_gL lv[(Int32.ofInt i9).toNatClampNeg]?) := by
          rw [mm_clamp hi, hz]
          rfl
        rw [List.map_cons, e8] at k
        show W p l e R s m args below meth c H locs cells slots Q (F0 m pc rls (.int (Int32.ofInt i9) :: .ref (mm_ad g.1 g.2.1 r) :: st.map (mm_up g.1 g.2.1)))
        rw [mm_ad_lt (by omega)]
        exact va_lald hx hb K.1 hR.1 r 1 he rfl (mm_vin hi (by omega) (List.getElem?_eq_some_iff.mp hz).1) hd k
      · cases hop
    · cases hop
  · cases hop
theorem mm_step_aaload (hc : mm_code y i = some (pc, (47, (a, b)))) (hop : mm_op mm_fld 47 a b ls st h = some (ls', (st', (h', j)))) (X : mm_X y l p R s m args meth c) (K : mm_K g D L xs s) (hS : va_S (mm_A g) s.heap H locs) (hR : mm_Rl g D h H) (hL : mm_LR g (mm_mL y) ls rls) (hst : ∀ v ∈ st, mm_ok v) (hcc : cells + n0 = h.2.1) (hss : slots + s0 = h.2.2.1) (hsc : h.2.2.2 = mm_scr L xs) (hz0 : s.heap.size ≤ g.2.1 + n0) (rc : h'.2.1 ≤ R.cells + n0) (rs : h'.2.2.1 ≤ R.slots + s0)
    (kk : mm_KK p l e R s m args below meth c Q g D y n0 s0 L xs (mm_nx y (j.getD (i + 1))) ls' st' h') : W p l e R s m args below meth c H locs cells slots Q (F0 m pc rls (st.map (mm_up g.1 g.2.1))) := by
  obtain ⟨hx, hb, hml, -, -, hnm, hown, hts, -, hnF, hnL, -⟩ := X
  obtain ⟨hd, hn, hj, ha4, hfo, -, hroom, -⟩ := mm_okB_dec hc (by decide)
  have hn := hn (by decide)
  replace hop : mm_o_aald ls st h = some (ls', (st', (h', j))) := hop
  unfold mm_o_aald at hop
  split at hop
  · rename_i i9 r st
    have hi := (mm_okt hst).1
    replace hst := (mm_okt hst).2
    have hi : mm_rng i9 := hi
    replace hst := (mm_okt hst).2
    by_cases h0 : i9 < 0
    · rw [if_pos h0] at hop
      cases hop
    rw [if_neg h0] at hop
    split at hop
    · rename_i lv hr
      split at hop
      · rename_i z hz
        cases hop
        obtain ⟨r9, hok⟩ := hR.okl hr
        have he := mm_ws_at g hr
        have k := kk H locs cells slots rls hS hR hL (mm_okc (hok _ (List.mem_of_getElem? hz)) hst) hcc hss hsc
        rw [show (none : Option Nat).getD (i + 1) = i + 1 from rfl, hn] at k
        have e8 : mm_up g.1 g.2.1 (.inr (.inr z)) = va_rf (mm_gR g.1 g.2.1 lv[(Int32.ofInt i9).toNatClampNeg]?) := by
          rw [mm_clamp hi, hz]
          cases z <;> rfl
        rw [List.map_cons, e8] at k
        show W p l e R s m args below meth c H locs cells slots Q (F0 m pc rls (.int (Int32.ofInt i9) :: .ref (mm_ad g.1 g.2.1 r) :: st.map (mm_up g.1 g.2.1)))
        rw [mm_ad_lt (by omega)]
        exact va_aldq (C := RX3) hx hb K.1 hR.1 r 2 he rfl (mm_vin hi (by omega) (List.getElem?_eq_some_iff.mp hz).1) hd k
      · cases hop
    · cases hop
  · cases hop
theorem mm_step_iastore (hc : mm_code y i = some (pc, (44, (a, b)))) (hop : mm_op mm_fld 44 a b ls st h = some (ls', (st', (h', j)))) (X : mm_X y l p R s m args meth c) (K : mm_K g D L xs s) (hS : va_S (mm_A g) s.heap H locs) (hR : mm_Rl g D h H) (hL : mm_LR g (mm_mL y) ls rls) (hst : ∀ v ∈ st, mm_ok v) (hcc : cells + n0 = h.2.1) (hss : slots + s0 = h.2.2.1) (hsc : h.2.2.2 = mm_scr L xs) (hz0 : s.heap.size ≤ g.2.1 + n0) (rc : h'.2.1 ≤ R.cells + n0) (rs : h'.2.2.1 ≤ R.slots + s0)
    (kk : mm_KK p l e R s m args below meth c Q g D y n0 s0 L xs (mm_nx y (j.getD (i + 1))) ls' st' h') : W p l e R s m args below meth c H locs cells slots Q (F0 m pc rls (st.map (mm_up g.1 g.2.1))) := by
  obtain ⟨hx, hb, hml, -, -, hnm, hown, hts, -, hnF, hnL, -⟩ := X
  obtain ⟨hd, hn, hj, ha4, hfo, -, hroom, -⟩ := mm_okB_dec hc (by decide)
  have hn := hn (by decide)
  replace hop : mm_o_iast ls st h = some (ls', (st', (h', j))) := hop
  unfold mm_o_iast at hop
  split at hop
  · rename_i z i9 r st
    have hzr := (mm_okt hst).1
    replace hst := (mm_okt hst).2
    have hi := (mm_okt hst).1
    replace hst := (mm_okt hst).2
    have hi : mm_rng i9 := hi
    replace hst := (mm_okt hst).2
    by_cases h0 : i9 < 0
    · rw [if_pos h0] at hop
      cases hop
    rw [if_neg h0] at hop
    split at hop
    · rename_i lv hr
      split at hop
      · rename_i hlt
        cases hop
        obtain ⟨r9, hok⟩ := hR.okl hr
        have he := mm_ws_at g hr
        show W p l e R s m args below meth c H locs cells slots Q (F0 m pc rls (.int (Int32.ofInt z) :: .int (Int32.ofInt i9) :: .ref (mm_ad g.1 g.2.1 r) :: st'.map (mm_up g.1 g.2.1)))
        rw [mm_ad_lt (r := r) (by omega)]
        refine va_iast hx hb K.1 hR.1 (mm_ws_D g h.1) hS r 0 he rfl (mm_vin hi (by omega) hlt) hd (fun H1 locs1 hP1 hD1 hS1 => ?_)
        have e8 : ((.inl (g.2.2.1, (lv.length, .inl (upd (fun j => mm_gI lv[j]?) (Int32.ofInt i9).toNatClampNeg (Int32.ofInt z)))) : va_E)) = mm_ent g (0, lv.set i9.toNat (mm_I z)) := by
          show (_ : va_E) = Sum.inl (_, ((lv.set i9.toNat (mm_I z)).length, .inl (fun j => mm_gI (lv.set i9.toNat (mm_I z))[j]?)))
          rw [List.length_set]
          congr 4
          funext q
          rw [mm_clamp hi]
          unfold upd
          rw [List.getElem?_set]
          by_cases hq : q = i9.toNat
          · subst hq
            rw [if_pos rfl, if_pos rfl, if_pos (by exact hlt)]
            rfl
          · rw [if_neg hq, if_neg (fun z => hq z.symm)]
        rw [e8, mm_ws_set] at hP1
        have k := kk H1 locs1 cells slots rls hS1 (hR.set (mm_oks hok hzr) hP1) hL hst hcc hss hsc
        rw [show (none : Option Nat).getD (i + 1) = i + 1 from rfl, hn] at k
        exact k
      · cases hop
    · cases hop
  · cases hop
theorem mm_step_lastore (hc : mm_code y i = some (pc, (46, (a, b)))) (hop : mm_op mm_fld 46 a b ls st h = some (ls', (st', (h', j)))) (X : mm_X y l p R s m args meth c) (K : mm_K g D L xs s) (hS : va_S (mm_A g) s.heap H locs) (hR : mm_Rl g D h H) (hL : mm_LR g (mm_mL y) ls rls) (hst : ∀ v ∈ st, mm_ok v) (hcc : cells + n0 = h.2.1) (hss : slots + s0 = h.2.2.1) (hsc : h.2.2.2 = mm_scr L xs) (hz0 : s.heap.size ≤ g.2.1 + n0) (rc : h'.2.1 ≤ R.cells + n0) (rs : h'.2.2.1 ≤ R.slots + s0)
    (kk : mm_KK p l e R s m args below meth c Q g D y n0 s0 L xs (mm_nx y (j.getD (i + 1))) ls' st' h') : W p l e R s m args below meth c H locs cells slots Q (F0 m pc rls (st.map (mm_up g.1 g.2.1))) := by
  obtain ⟨hx, hb, hml, -, -, hnm, hown, hts, -, hnF, hnL, -⟩ := X
  obtain ⟨hd, hn, hj, ha4, hfo, -, hroom, -⟩ := mm_okB_dec hc (by decide)
  have hn := hn (by decide)
  replace hop : mm_o_last ls st h = some (ls', (st', (h', j))) := hop
  unfold mm_o_last at hop
  split at hop
  · rename_i z i9 r st
    have hzr := (mm_okt hst).1
    replace hst := (mm_okt hst).2
    have hi := (mm_okt hst).1
    replace hst := (mm_okt hst).2
    have hi : mm_rng i9 := hi
    replace hst := (mm_okt hst).2
    by_cases h0 : i9 < 0
    · rw [if_pos h0] at hop
      cases hop
    rw [if_neg h0] at hop
    split at hop
    · rename_i lv hr
      split at hop
      · rename_i hlt
        cases hop
        obtain ⟨r9, hok⟩ := hR.okl hr
        have he := mm_ws_at g hr
        show W p l e R s m args below meth c H locs cells slots Q (F0 m pc rls (.long (Int64.ofInt z) :: .int (Int32.ofInt i9) :: .ref (mm_ad g.1 g.2.1 r) :: st'.map (mm_up g.1 g.2.1)))
        rw [mm_ad_lt (r := r) (by omega)]
        refine va_last hx hb K.1 hR.1 (mm_ws_D g h.1) hS r 1 he rfl (mm_vin hi (by omega) hlt) hd (fun H1 locs1 hP1 hD1 hS1 => ?_)
        have e8 : ((.inl (g.2.2.2.1, (lv.length, .inr (.inl (vp_updL (fun j => mm_gL lv[j]?) (Int32.ofInt i9).toNatClampNeg (Int64.ofInt z))))) : va_E)) = mm_ent g (1, lv.set i9.toNat (mm_L z)) := by
          show (_ : va_E) = Sum.inl (_, ((lv.set i9.toNat (mm_L z)).length, .inr (.inl (fun j => mm_gL (lv.set i9.toNat (mm_L z))[j]?))))
          rw [List.length_set]
          congr 5
          funext q
          rw [mm_clamp hi]
          unfold vp_updL
          rw [List.getElem?_set]
          by_cases hq : q = i9.toNat
          · subst hq
            rw [if_pos rfl, if_pos rfl, if_pos (by exact hlt)]
            rfl
          · rw [if_neg hq, if_neg (fun z => hq z.symm)]
        rw [e8, mm_ws_set] at hP1
        have k := kk H1 locs1 cells slots rls hS1 (hR.set (mm_oks hok hzr) hP1) hL hst hcc hss hsc
        rw [show (none : Option Nat).getD (i + 1) = i + 1 from rfl, hn] at k
        exact k
      · cases hop
    · cases hop
  · cases hop
theorem mm_step_aastore (hc : mm_code y i = some (pc, (48, (a, b)))) (hop : mm_op mm_fld 48 a b ls st h = some (ls', (st', (h', j)))) (X : mm_X y l p R s m args meth c) (K : mm_K g D L xs s) (hS : va_S (mm_A g) s.heap H locs) (hR : mm_Rl g D h H) (hL : mm_LR g (mm_mL y) ls rls) (hst : ∀ v ∈ st, mm_ok v) (hcc : cells + n0 = h.2.1) (hss : slots + s0 = h.2.2.1) (hsc : h.2.2.2 = mm_scr L xs) (hz0 : s.heap.size ≤ g.2.1 + n0) (rc : h'.2.1 ≤ R.cells + n0) (rs : h'.2.2.1 ≤ R.slots + s0)
    (kk : mm_KK p l e R s m args below meth c Q g D y n0 s0 L xs (mm_nx y (j.getD (i + 1))) ls' st' h') : W p l e R s m args below meth c H locs cells slots Q (F0 m pc rls (st.map (mm_up g.1 g.2.1))) := by
  obtain ⟨hx, hb, hml, -, -, hnm, hown, hts, -, hnF, hnL, -⟩ := X
  obtain ⟨hd, hn, hj, ha4, hfo, -, hroom, -⟩ := mm_okB_dec hc (by decide)
  have hn := hn (by decide)
  replace hop : mm_o_aast ls st h = some (ls', (st', (h', j))) := hop
  unfold mm_o_aast at hop
  split at hop
  · rename_i v i9 r st
    have hzr := (mm_okt hst).1
    replace hst := (mm_okt hst).2
    have hi := (mm_okt hst).1
    replace hst := (mm_okt hst).2
    have hi : mm_rng i9 := hi
    replace hst := (mm_okt hst).2
    by_cases h0 : i9 < 0
    · rw [if_pos h0] at hop
      cases hop
    rw [if_neg h0] at hop
    split at hop
    · rename_i lv hr
      split at hop
      · rename_i hlt
        obtain ⟨hlt, hv⟩ := hlt
        cases hop
        obtain ⟨r9, hok⟩ := hR.okl hr
        have he := mm_ws_at g hr
        obtain ⟨cv, hcv, ecv⟩ := Option.map_eq_some_iff.mp hv
        obtain ⟨kv, lvv⟩ := cv
        have ecv : kv = 13 := ecv
        subst ecv
        obtain ⟨v9, -⟩ := hR.okl hcv
        have hev := mm_ws_at g hcv
        rw [mm_ent_o g 3] at hev
        show W p l e R s m args below meth c H locs cells slots Q (F0 m pc rls (.ref (mm_ad g.1 g.2.1 v) :: .int (Int32.ofInt i9) :: .ref (mm_ad g.1 g.2.1 r) :: st'.map (mm_up g.1 g.2.1)))
        rw [mm_ad_lt (r := r) (by omega), mm_ad_lt (r := v) (by omega)]
        refine va_astq (r := (RX3, TX3, 2)) hx hb K.1 hR.1 (mm_ws_D g h.1) hS r 2 v 3 he rfl hev rfl (mm_vin hi (by omega) hlt) hd (fun H1 locs1 hP1 hD1 hS1 => ?_)
        have e8 : ((.inl (g.2.2.2.2, (lv.length, .inr (.inr (.inr (.inr (va_up (fun j => mm_gR g.1 g.2.1 lv[j]?) (Int32.ofInt i9).toNatClampNeg (some (g.2.1 + v)))))))) : va_E)) = mm_ent g (2, lv.set i9.toNat (mm_P v)) := by
          show (_ : va_E) = Sum.inl (_, ((lv.set i9.toNat (mm_P v)).length, .inr (.inr (.inr (.inr (fun j => mm_gR g.1 g.2.1 (lv.set i9.toNat (mm_P v))[j]?))))))
          rw [List.length_set]
          congr 7
          funext q
          rw [mm_clamp hi]
          unfold va_up
          rw [List.getElem?_set]
          by_cases hq : q = i9.toNat
          · subst hq
            rw [if_pos rfl, if_pos rfl, if_pos hlt]
            show some (g.2.1 + v) = some (mm_ad g.1 g.2.1 v)
            rw [mm_ad_lt (by omega)]
          · rw [if_neg hq, if_neg (fun z => hq z.symm)]
        rw [e8, mm_ws_set] at hP1
        have k := kk H1 locs1 cells slots rls hS1 (hR.set (mm_oks hok hzr) hP1) hL hst hcc hss hsc
        rw [show (none : Option Nat).getD (i + 1) = i + 1 from rfl, hn] at k
        exact k
      · cases hop
    · cases hop
  · cases hop
theorem mm_step_arraylength (hc : mm_code y i = some (pc, (49, (a, b)))) (hop : mm_op mm_fld 49 a b ls st h = some (ls', (st', (h', j)))) (X : mm_X y l p R s m args meth c) (K : mm_K g D L xs s) (hS : va_S (mm_A g) s.heap H locs) (hR : mm_Rl g D h H) (hL : mm_LR g (mm_mL y) ls rls) (hst : ∀ v ∈ st, mm_ok v) (hcc : cells + n0 = h.2.1) (hss : slots + s0 = h.2.2.1) (hsc : h.2.2.2 = mm_scr L xs) (hz0 : s.heap.size ≤ g.2.1 + n0) (rc : h'.2.1 ≤ R.cells + n0) (rs : h'.2.2.1 ≤ R.slots + s0)
    (kk : mm_KK p l e R s m args below meth c Q g D y n0 s0 L xs (mm_nx y (j.getD (i + 1))) ls' st' h') : W p l e R s m args below meth c H locs cells slots Q (F0 m pc rls (st.map (mm_up g.1 g.2.1))) := by
  obtain ⟨hx, hb, hml, -, -, hnm, hown, hts, -, hnF, hnL, -⟩ := X
  obtain ⟨hd, hn, hj, ha4, hfo, -, hroom, -⟩ := mm_okB_dec hc (by decide)
  have hn := hn (by decide)
  replace hop : mm_o_alen ls st h = some (ls', (st', (h', j))) := hop
  unfold mm_o_alen at hop
  split at hop
  · rename_i r st
    replace hst := (mm_okt hst).2
    by_cases hr9 : r = 999
    · rw [if_pos hr9] at hop
      subst hr9
      cases hop
      obtain ⟨-, -, -, -, -, -, -, -, hX, hbl, hbz, hL9⟩ := K
      have e7 : h.2.2.2.length = L := by rw [hsc]; unfold mm_scr; rw [List.length_map, List.length_range]
      rw [e7] at kk
      have k := kk H locs cells slots rls hS hR hL (mm_okc (v := mm_I (L : Int)) ⟨by omega, by omega⟩ hst) hcc hss hsc
      rw [show (none : Option Nat).getD (i + 1) = i + 1 from rfl, hn] at k
      have e8 : mm_up g.1 g.2.1 (mm_I (L : Int)) = .int (Int32.ofNat L) := congrArg Value.int (mm_nI L)
      rw [List.map_cons, e8] at k
      exact va_slen hx hb hX (Nat.lt_of_lt_of_le hbl hbz) (Nat.not_le.mpr hbl) hS hd k
    rw [if_neg hr9] at hop
    split at hop
    · rename_i kd lv hr
      split at hop
      · rename_i hk
        obtain ⟨hk, hlen⟩ := hk
        cases hop
        obtain ⟨r9, hok⟩ := hR.okl hr
        have he := mm_ws_at g hr
        have k := kk H locs cells slots rls hS hR hL (mm_okc (v := mm_I (lv.length : Int)) ⟨by omega, by omega⟩ hst) hcc hss hsc
        rw [show (none : Option Nat).getD (i + 1) = i + 1 from rfl, hn] at k
        have e8 : mm_up g.1 g.2.1 (mm_I (lv.length : Int)) = .int (Int32.ofNat lv.length) := congrArg Value.int (mm_nI lv.length)
        rw [List.map_cons, e8] at k
        show W p l e R s m args below meth c H locs cells slots Q (F0 m pc rls (.ref (mm_ad g.1 g.2.1 r) :: st.map (mm_up g.1 g.2.1)))
        rw [mm_ad_lt (r := r) (by omega)]
        have hk3 : kd = 0 ∨ kd = 1 ∨ kd = 2 := by omega
        rcases hk3 with rfl | rfl | rfl
        · exact va_alen (ty := .int) hx hb K.1 hR.1 r 0 he rfl rfl hd k
        · exact va_alen (ty := .long) hx hb K.1 hR.1 r 1 he rfl rfl hd k
        · exact va_alen (ty := .object RX3) hx hb K.1 hR.1 r 2 he rfl rfl hd k
      · cases hop
    · cases hop
  · cases hop
theorem mm_step_new (hc : mm_code y i = some (pc, (50, (a, b)))) (hop : mm_op mm_fld 50 a b ls st h = some (ls', (st', (h', j)))) (X : mm_X y l p R s m args meth c) (K : mm_K g D L xs s) (hS : va_S (mm_A g) s.heap H locs) (hR : mm_Rl g D h H) (hL : mm_LR g (mm_mL y) ls rls) (hst : ∀ v ∈ st, mm_ok v) (hcc : cells + n0 = h.2.1) (hss : slots + s0 = h.2.2.1) (hsc : h.2.2.2 = mm_scr L xs) (hz0 : s.heap.size ≤ g.2.1 + n0) (rc : h'.2.1 ≤ R.cells + n0) (rs : h'.2.2.1 ≤ R.slots + s0)
    (kk : mm_KK p l e R s m args below meth c Q g D y n0 s0 L xs (mm_nx y (j.getD (i + 1))) ls' st' h') : W p l e R s m args below meth c H locs cells slots Q (F0 m pc rls (st.map (mm_up g.1 g.2.1))) := by
  obtain ⟨hx, hb, hml, -, -, hnm, hown, hts, -, hnF, hnL, -⟩ := X
  obtain ⟨hd, hn, hj, ha4, hfo, -, hroom, -⟩ := mm_okB_dec hc (by decide)
  have hn := hn (by decide)
  have hN := mm_NA _ (mm_nA hc rfl)
  obtain ⟨n1, n2, n3, n4⟩ := hN.1 rfl
  replace n1 : b.toNat < 6 := n1
  obtain ⟨c1, c2, c3, c4, c5, c6, c7⟩ := mm_CA _ n1
  replace hop : mm_push (10 + b.toNat) ((mm_fk b.toNat).map mm_df) ls st h = some (ls', (st', (h', j))) := hop
  unfold mm_push at hop
  split at hop
  · rename_i hp
    obtain ⟨hp1, hp2⟩ := hp
    cases hop
    have hlen : ((mm_fk b.toNat).map mm_df).length = (mm_cl b.toNat).2.2 := by rw [List.length_map]; exact c5
    dsimp only at rc rs
    rw [hlen] at rs
    refine va_new (ci := b.toNat) (fs := ((mm_fk b.toNat).map mm_df).map (mm_up g.1 g.2.1)) (C := (mm_cl b.toNat).1) (T := (mm_cl b.toNat).2.1) (N := (mm_cl b.toNat).2.2) hx hb hts c2 (mm_ty b.toNat) c3 hown (hts _ n2) (hts _ n3) (hts _ n4) K.1 hR.1 (mm_ws_D g h.1) hS (fun q hq => Nat.le_trans K.2.2.2.2.2.2.2.2.2.2.1 hq) c1 (fun k hk => ?_) (by omega) (by omega) hd (fun q H1 hP1 hD1 hS1 => mm_size (fun hsz => ?_))
    · have c6a := (c6 _ hk).1
      have hk5 : k < (mm_fk b.toNat).length := by rw [c5]; exact hk
      have e5 : (mm_fk b.toNat)[k]? = some (mm_fk b.toNat)[k] := List.getElem?_eq_getElem hk5
      unfold vp_V
      rw [List.getD_eq_getElem?_getD, List.getElem?_map, List.getElem?_map, e5]
      unfold mm_kOK at c6a
      rw [e5] at c6a
      generalize (mm_fk b.toNat)[k] = t9 at c6a
      match t9, c6a with
      | 0, c6a =>
        simp only [Bool.and_eq_true, decide_eq_true_eq] at c6a
        rw [c6a.1]
        rfl
      | 1, c6a =>
        simp only [Bool.and_eq_true, decide_eq_true_eq] at c6a
        rw [c6a.1]
        rfl
      | 2, c6a =>
        simp only [Bool.and_eq_true] at c6a
        have c6b := c6a.1
        generalize mm_ty b.toNat k = t8 at c6b
        cases t8 <;> first | rfl | cases c6b
      | t + 3, c6a => cases c6a
    · rw [← mm_ent_o] at hP1 hD1
      have hok0 : ∀ v ∈ (mm_fk b.toNat).map mm_df, mm_ok v := by
        intro v hv
        obtain ⟨t, -, rfl⟩ := List.mem_map.mp hv
        unfold mm_df
        split
        · trivial
        · exact mm_rng0
      obtain ⟨e9, hR9⟩ := mm_Rl.push (t := (h.2.1 + 1, (h.2.2.1 + ((mm_fk b.toNat).map mm_df).length, h.2.2.2))) hR hp2 hok0 rfl hD1 hP1 (by omega)
      have k := kk H1 locs (cells + 1) (slots + (mm_cl b.toNat).2.2) rls hS1 hR9 hL (mm_okc (v := mm_P h.1.length) trivial hst) (by show cells + 1 + n0 = h.2.1 + 1; omega) (by show slots + (mm_cl b.toNat).2.2 + s0 = h.2.2.1 + ((mm_fk b.toNat).map mm_df).length; omega) hsc
      rw [show (none : Option Nat).getD (i + 1) = i + 1 from rfl, hn] at k
      rw [e9, ← mm_ad_lt (b := g.1) (b0 := g.2.1) (r := h.1.length) (by omega)]
      exact k
  · cases hop
theorem mm_step_newarray (hc : mm_code y i = some (pc, (51, (a, b)))) (hop : mm_op mm_fld 51 a b ls st h = some (ls', (st', (h', j)))) (X : mm_X y l p R s m args meth c) (K : mm_K g D L xs s) (hS : va_S (mm_A g) s.heap H locs) (hR : mm_Rl g D h H) (hL : mm_LR g (mm_mL y) ls rls) (hst : ∀ v ∈ st, mm_ok v) (hcc : cells + n0 = h.2.1) (hss : slots + s0 = h.2.2.1) (hsc : h.2.2.2 = mm_scr L xs) (hz0 : s.heap.size ≤ g.2.1 + n0) (rc : h'.2.1 ≤ R.cells + n0) (rs : h'.2.2.1 ≤ R.slots + s0)
    (kk : mm_KK p l e R s m args below meth c Q g D y n0 s0 L xs (mm_nx y (j.getD (i + 1))) ls' st' h') : W p l e R s m args below meth c H locs cells slots Q (F0 m pc rls (st.map (mm_up g.1 g.2.1))) := by
  obtain ⟨hx, hb, hml, -, -, hnm, hown, hts, -, hnF, hnL, -⟩ := X
  obtain ⟨hd, hn, hj, ha4, hfo, -, hroom, -⟩ := mm_okB_dec hc (by decide)
  have hn := hn (by decide)
  replace hop : mm_o_newa 0 (mm_I 0) ls st h = some (ls', (st', (h', j))) := hop
  unfold mm_o_newa at hop
  split at hop
  · rename_i n st
    have hnr := (mm_okt hst).1
    replace hst := (mm_okt hst).2
    have hnr : mm_rng n := hnr
    by_cases hn9 : 0 ≤ n ∧ n < 100000
    · rw [if_pos hn9] at hop
      unfold mm_push at hop
      split at hop
      · rename_i hp
        obtain ⟨hp1, hp2⟩ := hp
        cases hop
        have hlen : (List.replicate n.toNat (mm_I 0 : mm_V)).length = n.toNat := List.length_replicate
        dsimp only at rc rs
        rw [hlen] at rs
        refine va_newa (atype := .int) hx hb (hts _ mm_wAr.1) rfl K.1 hR.1 (mm_ws_D g h.1) hS (fun q hq => Nat.le_trans K.2.2.2.2.2.2.2.2.2.2.1 hq) (a0 := (n.toNat, .inl (fun _ => 0))) (fun _ => rfl) (by rw [mm_lt0 hnr]; omega) (mm_clamp hnr) (by show n.toNat * 4 ≤ _; omega) (by omega) (by omega) hd (fun q cA H1 hK1 hP1 hD1 hS1 => mm_size (fun hsz => ?_))
        have hcA : cA = g.2.2.1 := by
          have z1 := (hK1.2 3 (cA, .int) rfl).2
          have z2 := (K.1.2 0 (g.2.2.1, .int) rfl).2
          exact Option.some.inj (z1.symm.trans z2)
        rw [hcA] at hP1 hD1
        have e8 : ((.inl (g.2.2.1, (n.toNat, .inl (fun _ => 0))) : va_E)) = mm_ent g (0, List.replicate n.toNat (mm_I 0)) := by
          show (_ : va_E) = Sum.inl (_, ((List.replicate n.toNat (mm_I 0 : mm_V)).length, .inl (fun j => mm_gI (List.replicate n.toNat (mm_I 0))[j]?)))
          rw [List.length_replicate]
          congr 4
          funext q
          rw [List.getElem?_replicate]
          split <;> rfl
        rw [e8] at hP1 hD1
        obtain ⟨e9, hR9⟩ := mm_Rl.push (t := (h.2.1 + 1, (h.2.2.1 + (List.replicate n.toNat (mm_I 0 : mm_V)).length, h.2.2.2))) hR hp2 (fun v hv => by rw [(List.mem_replicate.mp hv).2]; exact mm_rng0) rfl hD1 hP1 (by omega)
        have k := kk H1 locs (cells + 1) (slots + n.toNat) rls hS1 hR9 hL (mm_okc (v := mm_P h.1.length) trivial hst) (by show cells + 1 + n0 = h.2.1 + 1; omega) (by show slots + n.toNat + s0 = h.2.2.1 + (List.replicate n.toNat (mm_I 0 : mm_V)).length; omega) hsc
        rw [show (none : Option Nat).getD (i + 1) = i + 1 from rfl, hn] at k
        rw [e9, ← mm_ad_lt (b := g.1) (b0 := g.2.1) (r := h.1.length) (by omega)]
        exact k
      · cases hop
    · rw [if_neg hn9] at hop
      cases hop
  · cases hop
theorem mm_step_newlongs (hc : mm_code y i = some (pc, (52, (a, b)))) (hop : mm_op mm_fld 52 a b ls st h = some (ls', (st', (h', j)))) (X : mm_X y l p R s m args meth c) (K : mm_K g D L xs s) (hS : va_S (mm_A g) s.heap H locs) (hR : mm_Rl g D h H) (hL : mm_LR g (mm_mL y) ls rls) (hst : ∀ v ∈ st, mm_ok v) (hcc : cells + n0 = h.2.1) (hss : slots + s0 = h.2.2.1) (hsc : h.2.2.2 = mm_scr L xs) (hz0 : s.heap.size ≤ g.2.1 + n0) (rc : h'.2.1 ≤ R.cells + n0) (rs : h'.2.2.1 ≤ R.slots + s0)
    (kk : mm_KK p l e R s m args below meth c Q g D y n0 s0 L xs (mm_nx y (j.getD (i + 1))) ls' st' h') : W p l e R s m args below meth c H locs cells slots Q (F0 m pc rls (st.map (mm_up g.1 g.2.1))) := by
  obtain ⟨hx, hb, hml, -, -, hnm, hown, hts, -, hnF, hnL, -⟩ := X
  obtain ⟨hd, hn, hj, ha4, hfo, -, hroom, -⟩ := mm_okB_dec hc (by decide)
  have hn := hn (by decide)
  replace hop : mm_o_newa 1 (mm_L 0) ls st h = some (ls', (st', (h', j))) := hop
  unfold mm_o_newa at hop
  split at hop
  · rename_i n st
    have hnr := (mm_okt hst).1
    replace hst := (mm_okt hst).2
    have hnr : mm_rng n := hnr
    by_cases hn9 : 0 ≤ n ∧ n < 100000
    · rw [if_pos hn9] at hop
      unfold mm_push at hop
      split at hop
      · rename_i hp
        obtain ⟨hp1, hp2⟩ := hp
        cases hop
        have hlen : (List.replicate n.toNat (mm_L 0 : mm_V)).length = n.toNat := List.length_replicate
        dsimp only at rc rs
        rw [hlen] at rs
        refine va_newa (atype := .long) hx hb (hts _ mm_wAr.2) rfl K.1 hR.1 (mm_ws_D g h.1) hS (fun q hq => Nat.le_trans K.2.2.2.2.2.2.2.2.2.2.1 hq) (a0 := (n.toNat, .inr (.inl (fun _ => 0)))) (fun _ => rfl) (by rw [mm_lt0 hnr]; omega) (mm_clamp hnr) (by show n.toNat * 8 ≤ _; omega) (by omega) (by omega) hd (fun q cA H1 hK1 hP1 hD1 hS1 => mm_size (fun hsz => ?_))
        have hcA : cA = g.2.2.2.1 := by
          have z1 := (hK1.2 3 (cA, .long) rfl).2
          have z2 := (K.1.2 1 (g.2.2.2.1, .long) rfl).2
          exact Option.some.inj (z1.symm.trans z2)
        rw [hcA] at hP1 hD1
        have e8 : ((.inl (g.2.2.2.1, (n.toNat, .inr (.inl (fun _ => 0)))) : va_E)) = mm_ent g (1, List.replicate n.toNat (mm_L 0)) := by
          show (_ : va_E) = Sum.inl (_, ((List.replicate n.toNat (mm_L 0 : mm_V)).length, .inr (.inl (fun j => mm_gL (List.replicate n.toNat (mm_L 0))[j]?))))
          rw [List.length_replicate]
          congr 5
          funext q
          rw [List.getElem?_replicate]
          split <;> rfl
        rw [e8] at hP1 hD1
        obtain ⟨e9, hR9⟩ := mm_Rl.push (t := (h.2.1 + 1, (h.2.2.1 + (List.replicate n.toNat (mm_L 0 : mm_V)).length, h.2.2.2))) hR hp2 (fun v hv => by rw [(List.mem_replicate.mp hv).2]; exact mm_rng0) rfl hD1 hP1 (by omega)
        have k := kk H1 locs (cells + 1) (slots + n.toNat) rls hS1 hR9 hL (mm_okc (v := mm_P h.1.length) trivial hst) (by show cells + 1 + n0 = h.2.1 + 1; omega) (by show slots + n.toNat + s0 = h.2.2.1 + (List.replicate n.toNat (mm_L 0 : mm_V)).length; omega) hsc
        rw [show (none : Option Nat).getD (i + 1) = i + 1 from rfl, hn] at k
        rw [e9, ← mm_ad_lt (b := g.1) (b0 := g.2.1) (r := h.1.length) (by omega)]
        exact k
      · cases hop
    · rw [if_neg hn9] at hop
      cases hop
  · cases hop
theorem mm_step_anewarray (hc : mm_code y i = some (pc, (53, (a, b)))) (hop : mm_op mm_fld 53 a b ls st h = some (ls', (st', (h', j)))) (X : mm_X y l p R s m args meth c) (K : mm_K g D L xs s) (hS : va_S (mm_A g) s.heap H locs) (hR : mm_Rl g D h H) (hL : mm_LR g (mm_mL y) ls rls) (hst : ∀ v ∈ st, mm_ok v) (hcc : cells + n0 = h.2.1) (hss : slots + s0 = h.2.2.1) (hsc : h.2.2.2 = mm_scr L xs) (hz0 : s.heap.size ≤ g.2.1 + n0) (rc : h'.2.1 ≤ R.cells + n0) (rs : h'.2.2.1 ≤ R.slots + s0)
    (kk : mm_KK p l e R s m args below meth c Q g D y n0 s0 L xs (mm_nx y (j.getD (i + 1))) ls' st' h') : W p l e R s m args below meth c H locs cells slots Q (F0 m pc rls (st.map (mm_up g.1 g.2.1))) := by
  obtain ⟨hx, hb, hml, -, -, hnm, hown, hts, -, hnF, hnL, -⟩ := X
  obtain ⟨hd, hn, hj, ha4, hfo, -, hroom, -⟩ := mm_okB_dec hc (by decide)
  have hn := hn (by decide)
  replace hop : mm_o_newa 2 (mm_N) ls st h = some (ls', (st', (h', j))) := hop
  unfold mm_o_newa at hop
  split at hop
  · rename_i n st
    have hnr := (mm_okt hst).1
    replace hst := (mm_okt hst).2
    have hnr : mm_rng n := hnr
    by_cases hn9 : 0 ≤ n ∧ n < 100000
    · rw [if_pos hn9] at hop
      unfold mm_push at hop
      split at hop
      · rename_i hp
        obtain ⟨hp1, hp2⟩ := hp
        cases hop
        have hlen : (List.replicate n.toNat (mm_N : mm_V)).length = n.toNat := List.length_replicate
        dsimp only at rc rs
        rw [hlen] at rs
        refine va_newq hx hb hown (hts _ ((mm_NA _ (mm_nA hc rfl)).2.1 rfl)) K.2.2.2.2.2.2.2.1 K.1 hR.1 (mm_ws_D g h.1) hS (fun q hq => Nat.le_trans K.2.2.2.2.2.2.2.2.2.2.1 hq) (by rw [mm_lt0 hnr]; omega) (mm_clamp hnr) (by omega) (by omega) (by omega) hd (fun q cA H1 hK1 hP1 hD1 hS1 => mm_size (fun hsz => ?_))
        have hcA : cA = g.2.2.2.2 := by
          have z1 := (hK1.2 3 (cA, .object RX3) rfl).2
          have z2 := (K.1.2 2 (g.2.2.2.2, .object RX3) rfl).2
          obtain ⟨_, _, _, _, _, z1⟩ := z1
          obtain ⟨_, _, _, _, _, z2⟩ := z2
          exact Option.some.inj (z1.symm.trans z2)
        rw [hcA] at hP1 hD1
        have e8 : ((.inl (g.2.2.2.2, (n.toNat, .inr (.inr (.inr (.inr (fun _ => none)))))) : va_E)) = mm_ent g (2, List.replicate n.toNat (mm_N)) := by
          show (_ : va_E) = Sum.inl (_, ((List.replicate n.toNat (mm_N : mm_V)).length, .inr (.inr (.inr (.inr (fun j => mm_gR g.1 g.2.1 (List.replicate n.toNat mm_N)[j]?))))))
          rw [List.length_replicate]
          congr 7
          funext q
          rw [List.getElem?_replicate]
          split <;> rfl
        rw [e8] at hP1 hD1
        obtain ⟨e9, hR9⟩ := mm_Rl.push (t := (h.2.1 + 1, (h.2.2.1 + (List.replicate n.toNat (mm_N : mm_V)).length, h.2.2.2))) hR hp2 (fun v hv => by rw [(List.mem_replicate.mp hv).2]; trivial) rfl hD1 hP1 (by omega)
        have k := kk H1 locs (cells + 1) (slots + n.toNat) rls hS1 hR9 hL (mm_okc (v := mm_P h.1.length) trivial hst) (by show cells + 1 + n0 = h.2.1 + 1; omega) (by show slots + n.toNat + s0 = h.2.2.1 + (List.replicate n.toNat (mm_N : mm_V)).length; omega) hsc
        rw [show (none : Option Nat).getD (i + 1) = i + 1 from rfl, hn] at k
        rw [e9, ← mm_ad_lt (b := g.1) (b0 := g.2.1) (r := h.1.length) (by omega)]
        exact k
      · cases hop
    · rw [if_neg hn9] at hop
      cases hop
  · cases hop
theorem mm_step_objInit (hc : mm_code y i = some (pc, (57, (a, b)))) (hop : mm_op mm_fld 57 a b ls st h = some (ls', (st', (h', j)))) (X : mm_X y l p R s m args meth c) (K : mm_K g D L xs s) (hS : va_S (mm_A g) s.heap H locs) (hR : mm_Rl g D h H) (hL : mm_LR g (mm_mL y) ls rls) (hst : ∀ v ∈ st, mm_ok v) (hcc : cells + n0 = h.2.1) (hss : slots + s0 = h.2.2.1) (hsc : h.2.2.2 = mm_scr L xs) (hz0 : s.heap.size ≤ g.2.1 + n0) (rc : h'.2.1 ≤ R.cells + n0) (rs : h'.2.2.1 ≤ R.slots + s0)
    (kk : mm_KK p l e R s m args below meth c Q g D y n0 s0 L xs (mm_nx y (j.getD (i + 1))) ls' st' h') : W p l e R s m args below meth c H locs cells slots Q (F0 m pc rls (st.map (mm_up g.1 g.2.1))) := by
  obtain ⟨hx, hb, hml, -, -, hnm, hown, hts, -, hnF, hnL, -⟩ := X
  obtain ⟨hd, hn, hj, ha4, hfo, -, hroom, -⟩ := mm_okB_dec hc (by decide)
  have hn := hn (by decide)
  obtain ⟨hr1, hr2⟩ := hroom (by decide)
  have hN := (mm_NA _ (mm_nA hc rfl)).2.2.1 rfl
  match st, hst, hop with
  | .inr (.inr (some r)) :: st, hst, hop =>
    replace hop : (if st.length ≤ 4 then some (ls, (st, (h, (none : Option Nat)))) else none) = some (ls', (st', (h', j))) := hop
    by_cases hl : st.length ≤ 4
    · rw [if_pos hl] at hop
      cases hop
      have k := kk H locs cells slots rls hS hR hL (mm_okt hst).2 hcc hss hsc
      rw [show (none : Option Nat).getD (i + 1) = i + 1 from rfl, hn] at k
      exact W.objInit hx hb hown (hts _ hN) (hts _ mm_wOI.1) (hts _ mm_wOI.2) rfl (by show rls.size = _; rw [hL.2.1, hml]) rfl hd (by omega) (by have := mm_catS (b := g.1) (b0 := g.2.1) st'; show 2 * 0 + _ + 12 ≤ _; omega) k
    · rw [if_neg hl] at hop
      cases hop
  | .inr (.inr none) :: st, hst, hop => cases hop
  | .inr (.inl z) :: st, hst, hop => cases hop
  | .inl z :: st, hst, hop => cases hop
  | [], hst, hop => cases hop
theorem mm_step_mmax (hc : mm_code y i = some (pc, (58, (a, b)))) (hop : mm_op mm_fld 58 a b ls st h = some (ls', (st', (h', j)))) (X : mm_X y l p R s m args meth c) (K : mm_K g D L xs s) (hS : va_S (mm_A g) s.heap H locs) (hR : mm_Rl g D h H) (hL : mm_LR g (mm_mL y) ls rls) (hst : ∀ v ∈ st, mm_ok v) (hcc : cells + n0 = h.2.1) (hss : slots + s0 = h.2.2.1) (hsc : h.2.2.2 = mm_scr L xs) (hz0 : s.heap.size ≤ g.2.1 + n0) (rc : h'.2.1 ≤ R.cells + n0) (rs : h'.2.2.1 ≤ R.slots + s0)
    (kk : mm_KK p l e R s m args below meth c Q g D y n0 s0 L xs (mm_nx y (j.getD (i + 1))) ls' st' h') : W p l e R s m args below meth c H locs cells slots Q (F0 m pc rls (st.map (mm_up g.1 g.2.1))) := by
  obtain ⟨hx, hb, hml, -, -, hnm, hown, hts, -, hnF, hnL, -⟩ := X
  obtain ⟨hd, hn, hj, ha4, hfo, -, hroom, -⟩ := mm_okB_dec hc (by decide)
  have hn := hn (by decide)
  obtain ⟨hr1, hr2⟩ := hroom (by decide)
  have hN := (mm_NA _ (mm_nA hc rfl)).2.2.2.1 rfl
  replace hop : mm_o_max (fun x y => if x < y then y else x) ls st h = some (ls', (st', (h', j))) := hop
  unfold mm_o_max at hop
  split at hop
  · rename_i y9 x9 st
    have hy := (mm_okt hst).1
    replace hst := (mm_okt hst).2
    have hx9 := (mm_okt hst).1
    replace hst := (mm_okt hst).2
    have hy : mm_rng y9 := hy
    have hx9 : mm_rng x9 := hx9
    by_cases hl : st.length ≤ 4
    · rw [if_pos hl] at hop
      cases hop
      have hr : mm_rng (if x9 < y9 then y9 else x9) := by split <;> assumption
      have k := kk H locs cells slots rls hS hR hL (mm_okc hr hst) hcc hss hsc
      rw [show (none : Option Nat).getD (i + 1) = i + 1 from rfl, hn] at k
      have e8 : mm_up g.1 g.2.1 (mm_I (if x9 < y9 then y9 else x9)) = .int (if Int32.ofInt x9 < Int32.ofInt y9 then Int32.ofInt y9 else Int32.ofInt x9) := by
        by_cases q : x9 < y9
        · rw [if_pos q, if_pos ((mm_ltI hx9 hy).mpr q)]; rfl
        · rw [if_neg q, if_neg (fun z => q ((mm_ltI hx9 hy).mp z))]; rfl
      rw [List.map_cons, e8] at k
      exact va_mmax hx hb (by rw [hL.2.1, hml]) hown (hts _ hN) (hts _ mm_w_max.1) (hts _ mm_wMath) (hts _ mm_w_max.2) (by omega) (by have := mm_catS (b := g.1) (b0 := g.2.1) st; omega) (by omega) (by omega) hd k
    · rw [if_neg hl] at hop
      cases hop
  · cases hop
theorem mm_step_mmin (hc : mm_code y i = some (pc, (59, (a, b)))) (hop : mm_op mm_fld 59 a b ls st h = some (ls', (st', (h', j)))) (X : mm_X y l p R s m args meth c) (K : mm_K g D L xs s) (hS : va_S (mm_A g) s.heap H locs) (hR : mm_Rl g D h H) (hL : mm_LR g (mm_mL y) ls rls) (hst : ∀ v ∈ st, mm_ok v) (hcc : cells + n0 = h.2.1) (hss : slots + s0 = h.2.2.1) (hsc : h.2.2.2 = mm_scr L xs) (hz0 : s.heap.size ≤ g.2.1 + n0) (rc : h'.2.1 ≤ R.cells + n0) (rs : h'.2.2.1 ≤ R.slots + s0)
    (kk : mm_KK p l e R s m args below meth c Q g D y n0 s0 L xs (mm_nx y (j.getD (i + 1))) ls' st' h') : W p l e R s m args below meth c H locs cells slots Q (F0 m pc rls (st.map (mm_up g.1 g.2.1))) := by
  obtain ⟨hx, hb, hml, -, -, hnm, hown, hts, -, hnF, hnL, -⟩ := X
  obtain ⟨hd, hn, hj, ha4, hfo, -, hroom, -⟩ := mm_okB_dec hc (by decide)
  have hn := hn (by decide)
  obtain ⟨hr1, hr2⟩ := hroom (by decide)
  have hN := (mm_NA _ (mm_nA hc rfl)).2.2.2.2 rfl
  replace hop : mm_o_max (fun x y => if y < x then y else x) ls st h = some (ls', (st', (h', j))) := hop
  unfold mm_o_max at hop
  split at hop
  · rename_i y9 x9 st
    have hy := (mm_okt hst).1
    replace hst := (mm_okt hst).2
    have hx9 := (mm_okt hst).1
    replace hst := (mm_okt hst).2
    have hy : mm_rng y9 := hy
    have hx9 : mm_rng x9 := hx9
    by_cases hl : st.length ≤ 4
    · rw [if_pos hl] at hop
      cases hop
      have hr : mm_rng (if y9 < x9 then y9 else x9) := by split <;> assumption
      have k := kk H locs cells slots rls hS hR hL (mm_okc hr hst) hcc hss hsc
      rw [show (none : Option Nat).getD (i + 1) = i + 1 from rfl, hn] at k
      have e8 : mm_up g.1 g.2.1 (mm_I (if y9 < x9 then y9 else x9)) = .int (if Int32.ofInt y9 < Int32.ofInt x9 then Int32.ofInt y9 else Int32.ofInt x9) := by
        by_cases q : y9 < x9
        · rw [if_pos q, if_pos ((mm_ltI hy hx9).mpr q)]; rfl
        · rw [if_neg q, if_neg (fun z => q ((mm_ltI hy hx9).mp z))]; rfl
      rw [List.map_cons, e8] at k
      exact va_mmin hx hb (by rw [hL.2.1, hml]) hown (hts _ hN) (hts _ mm_w_min.1) (hts _ mm_wMath) (hts _ mm_w_min.2) (by omega) (by have := mm_catS (b := g.1) (b0 := g.2.1) st; omega) (by omega) (by omega) hd k
    · rw [if_neg hl] at hop
      cases hop
  · cases hop
end MMH
end
section
section MMO
theorem mm_op_mono {fld : Nat → Nat × Nat} {op a : Nat} {b : Int} {ls ls' : mm_F} {st st' : List mm_V} {h h' : mm_H} {j : Option Nat} (hop : mm_op fld op a b ls st h = some (ls', (st', (h', j)))) : h.2.1 ≤ h'.2.1 ∧ h.2.2.1 ≤ h'.2.2.1 ∧ h'.2.2.2 = h.2.2.2 := by
  unfold mm_op mm_o_load mm_o_aload mm_o_store mm_o_astore mm_o_bin mm_o_if mm_o_icmp mm_o_iinc mm_o_null mm_o_get mm_o_put mm_o_putF mm_o_iald mm_o_iast mm_o_lald mm_o_last mm_o_aald mm_o_aast mm_o_alen mm_o_newa mm_push mm_o_max at hop
  repeat' split at hop
  all_goals first
    | (cases hop; exact ⟨Nat.le_refl _, Nat.le_refl _, rfl⟩)
    | (cases hop; exact ⟨Nat.le_succ _, Nat.le_add_right _ _, rfl⟩)
    | cases hop
theorem mm_mono : ∀ (n y i : Nat) (ls : mm_F) (st : List mm_V) (h : mm_H) (o : mm_O) (h' : mm_H), mm_go n y i ls st h = some (o, h') → h.2.1 ≤ h'.2.1 ∧ h.2.2.1 ≤ h'.2.2.1 ∧ h'.2.2.2 = h.2.2.2 := by
  intro n
  induction n with
  | zero => intro y i ls st h o h' hr; cases hr
  | succ n ih =>
    intro y i ls st h o h' hr
    unfold mm_go mm_run at hr
    split at hr
    · cases hr
    · rename_i pc op a b hc
      split at hr
      · split at hr
        · split at hr
          · exact ih _ _ _ _ _ _ _ hr
          · cases hr
        · split at hr
          · cases hr
          · rename_i ls1 st1 h1 j hop
            obtain ⟨a1, a2, a3⟩ := mm_op_mono hop
            obtain ⟨b1, b2, b3⟩ := ih _ _ _ _ _ _ _ hr
            exact ⟨Nat.le_trans a1 b1, Nat.le_trans a2 b2, b3.trans a3⟩
      · split at hr
        · split at hr
          · cases hr; exact ⟨Nat.le_refl _, Nat.le_refl _, rfl⟩
          · cases hr
        · split at hr
          · split at hr
            · split at hr
              · cases hr; exact ⟨Nat.le_refl _, Nat.le_refl _, rfl⟩
              · cases hr
            · cases hr
          · split at hr
            · split at hr
              · cases hr; exact ⟨Nat.le_refl _, Nat.le_refl _, rfl⟩
              · cases hr
            · split at hr
              · split at hr
                · cases hr; exact ⟨Nat.le_refl _, Nat.le_refl _, rfl⟩
                · cases hr
              · split at hr
                · split at hr
                  · cases hr; exact ⟨Nat.le_succ _, Nat.le_add_right _ _, rfl⟩
                  · cases hr
                · split at hr
                  · dsimp only at hr
                    split at hr
                    · split at hr
                      · cases hr
                      · rename_i v h1 hcal
                        obtain ⟨a1, a2, a3⟩ := ih _ _ _ _ _ _ _ hcal
                        obtain ⟨b1, b2, b3⟩ := ih _ _ _ _ _ _ _ hr
                        exact ⟨Nat.le_trans a1 b1, Nat.le_trans a2 b2, b3.trans a3⟩
                      · rename_i E h1 hcal
                        split at hr
                        · cases hr
                        · split at hr
                          · cases hr
                            exact ih _ _ _ _ _ _ _ hcal
                          · split at hr
                            · cases hr
                              exact ih _ _ _ _ _ _ _ hcal
                            · cases hr
                    · cases hr
                  · cases hr
variable {p : Program} {l : Launch} {e : Env} {R : Room} {s : State} {m : MethodId} {args : Array Value} {below : List Frame} {meth : Method} {c : Code} {H : Heap} {locs : List Loc} {cells slots : Nat} {Q : State → Prop}
variable {g : mm_G} {D : va_G} {y i pc op a : Nat} {b : Int} {ls ls' : mm_F} {st st' : List mm_V} {h h' : mm_H} {j : Option Nat} {rls : Array Slot} {n0 s0 L : Nat} {xs : Nat → Int32}
theorem mm_step (hc : mm_code y i = some (pc, (op, (a, b)))) (h60 : op < 60) (h56 : ¬ op = 56) (hop : mm_op mm_fld op a b ls st h = some (ls', (st', (h', j)))) (X : mm_X y l p R s m args meth c) (K : mm_K g D L xs s) (hS : va_S (mm_A g) s.heap H locs) (hR : mm_Rl g D h H) (hL : mm_LR g (mm_mL y) ls rls) (hst : ∀ v ∈ st, mm_ok v) (hcc : cells + n0 = h.2.1) (hss : slots + s0 = h.2.2.1) (hsc : h.2.2.2 = mm_scr L xs) (hz0 : s.heap.size ≤ g.2.1 + n0) (rc : h'.2.1 ≤ R.cells + n0) (rs : h'.2.2.1 ≤ R.slots + s0)
    (kk : mm_KK p l e R s m args below meth c Q g D y n0 s0 L xs (mm_nx y (j.getD (i + 1))) ls' st' h') : W p l e R s m args below meth c H locs cells slots Q (F0 m pc rls (st.map (mm_up g.1 g.2.1))) := by
  have ho : op = 0 ∨ op = 1 ∨ op = 2 ∨ op = 3 ∨ op = 4 ∨ op = 5 ∨ op = 6 ∨ op = 7 ∨ op = 8 ∨ op = 9 ∨ op = 10 ∨ op = 11 ∨ op = 12 ∨ op = 13 ∨ op = 14 ∨ op = 15 ∨ op = 16 ∨ op = 17 ∨ op = 18 ∨ op = 19 ∨ op = 20 ∨ op = 21 ∨ op = 22 ∨ op = 23 ∨ op = 24 ∨ op = 25 ∨ op = 26 ∨ op = 27 ∨ op = 28 ∨ op = 29 ∨ op = 30 ∨ op = 31 ∨ op = 32 ∨ op = 33 ∨ op = 34 ∨ op = 35 ∨ op = 36 ∨ op = 37 ∨ op = 38 ∨ op = 39 ∨ op = 40 ∨ op = 41 ∨ op = 42 ∨ op = 43 ∨ op = 44 ∨ op = 45 ∨ op = 46 ∨ op = 47 ∨ op = 48 ∨ op = 49 ∨ op = 50 ∨ op = 51 ∨ op = 52 ∨ op = 53 ∨ op = 54 ∨ op = 55 ∨ op = 57 ∨ op = 58 ∨ op = 59 := by omega
  rcases ho with rfl | rfl | rfl | rfl | rfl | rfl | rfl | rfl | rfl | rfl | rfl | rfl | rfl | rfl | rfl | rfl | rfl | rfl | rfl | rfl | rfl | rfl | rfl | rfl | rfl | rfl | rfl | rfl | rfl | rfl | rfl | rfl | rfl | rfl | rfl | rfl | rfl | rfl | rfl | rfl | rfl | rfl | rfl | rfl | rfl | rfl | rfl | rfl | rfl | rfl | rfl | rfl | rfl | rfl | rfl | rfl | rfl | rfl | rfl
  · exact mm_step_iconst hc hop X K hS hR hL hst hcc hss hsc hz0 rc rs kk
  · exact mm_step_bipush hc hop X K hS hR hL hst hcc hss hsc hz0 rc rs kk
  · exact mm_step_sipush hc hop X K hS hR hL hst hcc hss hsc hz0 rc rs kk
  · exact mm_step_iload_n hc hop X K hS hR hL hst hcc hss hsc hz0 rc rs kk
  · exact mm_step_iload hc hop X K hS hR hL hst hcc hss hsc hz0 rc rs kk
  · exact mm_step_aload_n hc hop X K hS hR hL hst hcc hss hsc hz0 rc rs kk
  · exact mm_step_aload hc hop X K hS hR hL hst hcc hss hsc hz0 rc rs kk
  · exact mm_step_istore_n hc hop X K hS hR hL hst hcc hss hsc hz0 rc rs kk
  · exact mm_step_istore hc hop X K hS hR hL hst hcc hss hsc hz0 rc rs kk
  · exact mm_step_astore_n hc hop X K hS hR hL hst hcc hss hsc hz0 rc rs kk
  · exact mm_step_astore hc hop X K hS hR hL hst hcc hss hsc hz0 rc rs kk
  · exact mm_step_iadd hc hop X K hS hR hL hst hcc hss hsc hz0 rc rs kk
  · exact mm_step_isub hc hop X K hS hR hL hst hcc hss hsc hz0 rc rs kk
  · exact mm_step_imul hc hop X K hS hR hL hst hcc hss hsc hz0 rc rs kk
  · exact mm_step_idiv hc hop X K hS hR hL hst hcc hss hsc hz0 rc rs kk
  · exact mm_step_irem hc hop X K hS hR hL hst hcc hss hsc hz0 rc rs kk
  · exact mm_step_ishl hc hop X K hS hR hL hst hcc hss hsc hz0 rc rs kk
  · exact mm_step_ishr hc hop X K hS hR hL hst hcc hss hsc hz0 rc rs kk
  · exact mm_step_iand hc hop X K hS hR hL hst hcc hss hsc hz0 rc rs kk
  · exact mm_step_ior hc hop X K hS hR hL hst hcc hss hsc hz0 rc rs kk
  · exact mm_step_iinc hc hop X K hS hR hL hst hcc hss hsc hz0 rc rs kk
  · exact mm_step_dup hc hop X K hS hR hL hst hcc hss hsc hz0 rc rs kk
  · exact mm_step_dup2 hc hop X K hS hR hL hst hcc hss hsc hz0 rc rs kk
  · exact mm_step_pop hc hop X K hS hR hL hst hcc hss hsc hz0 rc rs kk
  · exact mm_step_goto hc hop X K hS hR hL hst hcc hss hsc hz0 rc rs kk
  · exact mm_step_if_eq hc hop X K hS hR hL hst hcc hss hsc hz0 rc rs kk
  · exact mm_step_if_ne hc hop X K hS hR hL hst hcc hss hsc hz0 rc rs kk
  · exact mm_step_if_lt hc hop X K hS hR hL hst hcc hss hsc hz0 rc rs kk
  · exact mm_step_if_ge hc hop X K hS hR hL hst hcc hss hsc hz0 rc rs kk
  · exact mm_step_if_gt hc hop X K hS hR hL hst hcc hss hsc hz0 rc rs kk
  · exact mm_step_if_le hc hop X K hS hR hL hst hcc hss hsc hz0 rc rs kk
  · exact mm_step_icmp_eq hc hop X K hS hR hL hst hcc hss hsc hz0 rc rs kk
  · exact mm_step_icmp_ne hc hop X K hS hR hL hst hcc hss hsc hz0 rc rs kk
  · exact mm_step_icmp_lt hc hop X K hS hR hL hst hcc hss hsc hz0 rc rs kk
  · exact mm_step_icmp_ge hc hop X K hS hR hL hst hcc hss hsc hz0 rc rs kk
  · exact mm_step_icmp_gt hc hop X K hS hR hL hst hcc hss hsc hz0 rc rs kk
  · exact mm_step_icmp_le hc hop X K hS hR hL hst hcc hss hsc hz0 rc rs kk
  · exact mm_step_ifnull hc hop X K hS hR hL hst hcc hss hsc hz0 rc rs kk
  · exact mm_step_ifnonnull hc hop X K hS hR hL hst hcc hss hsc hz0 rc rs kk
  · exact mm_step_aconst_null hc hop X K hS hR hL hst hcc hss hsc hz0 rc rs kk
  · exact mm_step_getfield hc hop X K hS hR hL hst hcc hss hsc hz0 rc rs kk
  · exact mm_step_putfield hc hop X K hS hR hL hst hcc hss hsc hz0 rc rs kk
  · exact mm_step_putfieldF hc hop X K hS hR hL hst hcc hss hsc hz0 rc rs kk
  · exact mm_step_iaload hc hop X K hS hR hL hst hcc hss hsc hz0 rc rs kk
  · exact mm_step_iastore hc hop X K hS hR hL hst hcc hss hsc hz0 rc rs kk
  · exact mm_step_laload hc hop X K hS hR hL hst hcc hss hsc hz0 rc rs kk
  · exact mm_step_lastore hc hop X K hS hR hL hst hcc hss hsc hz0 rc rs kk
  · exact mm_step_aaload hc hop X K hS hR hL hst hcc hss hsc hz0 rc rs kk
  · exact mm_step_aastore hc hop X K hS hR hL hst hcc hss hsc hz0 rc rs kk
  · exact mm_step_arraylength hc hop X K hS hR hL hst hcc hss hsc hz0 rc rs kk
  · exact mm_step_new hc hop X K hS hR hL hst hcc hss hsc hz0 rc rs kk
  · exact mm_step_newarray hc hop X K hS hR hL hst hcc hss hsc hz0 rc rs kk
  · exact mm_step_newlongs hc hop X K hS hR hL hst hcc hss hsc hz0 rc rs kk
  · exact mm_step_anewarray hc hop X K hS hR hL hst hcc hss hsc hz0 rc rs kk
  · exact mm_step_i2l hc hop X K hS hR hL hst hcc hss hsc hz0 rc rs kk
  · exact mm_step_lcmp hc hop X K hS hR hL hst hcc hss hsc hz0 rc rs kk
  · exact mm_step_objInit hc hop X K hS hR hL hst hcc hss hsc hz0 rc rs kk
  · exact mm_step_mmax hc hop X K hS hR hL hst hcc hss hsc hz0 rc rs kk
  · exact mm_step_mmin hc hop X K hS hR hL hst hcc hss hsc hz0 rc rs kk
end MMO
end
section
section MMC
variable {p : Program} {l : Launch} {e : Env} {R : Room} {s : State} {m : MethodId} {args : Array Value} {below : List Frame} {meth : Method} {c : Code} {H : Heap} {locs : List Loc} {cells slots : Nat} {Q : State → Prop}
variable {g : mm_G} {D : va_G} {y i pc op a : Nat} {b : Int} {ls ls' : mm_F} {st st' : List mm_V} {h h' : mm_H} {j : Option Nat} {rls : Array Slot} {n0 s0 L : Nat} {xs : Nat → Int32}
/-- a method's start and ends -/
def mm_Pc (g : mm_G) (D : va_G) (L : Nat) (xs : Nat → Int32) (av : List mm_V) (h : mm_H) : Array Value → State → Prop := fun v U => v = (av.map (mm_up g.1 g.2.1)).toArray ∧ mm_Rl g D h U.heap ∧ mm_K g D L xs U ∧ U.heap.size ≤ g.2.1 + h.2.1
def mm_Qc (g : mm_G) (D : va_G) (o : mm_O) (h' : mm_H) : Array Value → State → Outcome → State → Prop := fun _ st oc t => (∃ v : Option mm_V, o = .inl v ∧ oc = .returned (v.map (mm_up g.1 g.2.1)) ∧ mm_Rl g D h' t.heap ∧ ∀ w ∈ v, mm_ok w) ∧ va_F (mm_A g) st t
def mm_XC (g : mm_G) (D : va_G) (o : mm_O) (h' : mm_H) : String → State → State → Prop := fun E st t => (∃ k : Nat, o = .inr k ∧ E = mm_en k ∧ k < 3 ∧ mm_Rl g D h' t.heap) ∧ va_F (mm_A g) st t
theorem mm_blind (g : mm_G) (D : va_G) (L : Nat) (xs : Nat → Int32) (av : List mm_V) (h : mm_H) : FrameBlind (mm_Pc g D L xs av h) := fun a U gg mk q =>
  ⟨q.1, q.2.1, mm_K.move (U := U.calling gg mk a) (State.WarmedH.refl U) (Nat.le_refl _) (fun _ _ _ => rfl) q.2.2.1, q.2.2.2⟩
/-- what the run at fuel n says, the machine does -/
def mm_B (l : Launch) (n : Nat) : Prop := ∀ (y i : Nat) (ls : mm_F) (st : List mm_V) (h : mm_H) (o : mm_O) (h' : mm_H), mm_go n y i ls st h = some (o, h') →
  ∀ (p : Program) (e : Env) (R : Room) (s : State) (m : MethodId) (args : Array Value) (below : List Frame) (meth : Method) (c : Code) (g : mm_G) (D : va_G) (n0 s0 L : Nat) (xs : Nat → Int32) (mc ms : Nat),
    mm_X y l p R s m args meth c → mm_K g D L xs s → s.heap.size ≤ g.2.1 + n0 → mc + n0 = h'.2.1 → ms + s0 = h'.2.2.1 → mc ≤ R.cells → ms ≤ R.slots →
    mm_KK p l e R s m args below meth c (vx_MQ below (mm_Qc g D o h') (mm_XC g D o h') args s mc ms (mm_A g)) g D y n0 s0 L xs (mm_nx y i) ls st h
theorem mm_largs : ∀ (vs : List Value) (k i : Nat) (v : Value), (∀ w ∈ vs, w.category = 1) → vs[i]? = some v → (k + i, v) ∈ lv_args k vs
  | [], k, i, v, _, h => by simp at h
  | w :: vs, k, i, v, hc, h => by
    have h1 : ¬ w.category = 2 := by rw [hc w List.mem_cons_self]; decide
    rw [lv_args, if_neg h1]
    cases i with
    | zero =>
      rw [List.getElem?_cons_zero] at h
      cases h
      exact List.mem_cons_self
    | succ i =>
      rw [List.getElem?_cons_succ] at h
      have := mm_largs vs (k + 1) i v (fun x hx => hc x (List.mem_cons_of_mem _ hx)) h
      rw [show k + (i + 1) = k + 1 + i by omega]
      exact List.mem_cons_of_mem _ this
theorem mm_lsl : ∀ (vs : List Value), (∀ w ∈ vs, w.category = 1) → (lg_sl vs).length = vs.length
  | [], _ => rfl
  | w :: vs, hc => by
    have h1 : ¬ w.category = 2 := by rw [hc w List.mem_cons_self]; decide
    have := mm_lsl vs (fun x hx => hc x (List.mem_cons_of_mem _ hx))
    unfold lg_sl at this ⊢
    rw [List.flatMap_cons, if_neg h1, List.length_append, this]
    simp [Nat.add_comm]
theorem mm_cat1 {av : List mm_V} (hv : av.all mm_no2 = true) : ∀ w ∈ av.map (mm_up g.1 g.2.1), w.category = 1 := by
  intro w hw
  obtain ⟨v, hv2, rfl⟩ := List.mem_map.mp hw
  exact mm_cat (List.all_eq_true.mp hv v hv2)
/-- the locals at a method's entry -/
theorem mm_entry {av : List mm_V} {nL : Nat} (hv : av.all mm_no2 = true) (hok : ∀ v ∈ av, mm_ok v) (hl : av.length ≤ nL) :
    mm_LR g nL (av.map some ++ List.replicate (nL - av.length) none) ((lg_sl (av.map (mm_up g.1 g.2.1)) ++ List.replicate (nL - (lg_sl (av.map (mm_up g.1 g.2.1))).length) Slot.unset).toArray) := by
  have hc := mm_cat1 (g := g) hv
  have e1 := mm_lsl _ hc
  have h9 := lv_entry (av.map (mm_up g.1 g.2.1)) (n := nL) (by rw [e1, List.length_map]; exact hl)
  refine ⟨by simp; omega, h9.1, h9.2.1, fun i v hi => ?_⟩
  have hlt : i < av.length := by
    by_cases q : i < av.length
    · exact q
    · rw [List.getElem?_append_right (by rw [List.length_map]; omega), List.getElem?_replicate] at hi
      split at hi <;> cases hi
  rw [List.getElem?_append_left (by rw [List.length_map]; exact hlt), List.getElem?_map] at hi
  obtain ⟨w, hw, e⟩ := Option.map_eq_some_iff.mp hi
  cases e
  have hm := List.mem_of_getElem? hw
  refine ⟨?_, List.all_eq_true.mp hv v hm, hok v hm⟩
  have h8 := mm_largs (av.map (mm_up g.1 g.2.1)) 0 i (mm_up g.1 g.2.1 v) hc (by rw [List.getElem?_map, hw]; rfl)
  rw [Nat.zero_add] at h8
  exact h9.2.2 _ h8
theorem mm_nx0 : ∀ y, y < 140 → mm_nx y 0 = 0 := by decide +kernel
def mm_cw (y : Nat) : Cond := if mm_hh y = [] then Cond.code (mm_yn y) (mm_by y) (mm_mL y) (mm_rt y) else Cond.codeWith (mm_yn y) (mm_by y) (mm_mL y) (mm_rt y) (mm_hh y)
abbrev mm_wy (y : Nat) : List Cond := mm_cw y :: mm_w
theorem mm_cw_in {y : Nat} (hy : y < 139) : mm_cw y ∈ mm_w := by
  unfold mm_cw
  split
  · rename_i q; exact (mm_MA hy).1 q
  · rename_i q; exact (mm_MA hy).2.1 q
theorem mm_wy_good {y : Nat} (hy : y < 139) : GoodIn mm_w (mm_wy y) := fun w hw => (List.mem_cons.mp hw).elim (fun q => mm_ww w (by rw [q]; exact mm_cw_in hy)) (fun q => mm_ww w q)
/-- a method's contract out of its body's run -/
theorem mm_meth {n : Nat} (hB : mm_B l n) (hst : l.stackTraces = false) {av : List mm_V} {o : mm_O} (hy : y < 139) (hrun : mm_go n y 0 (av.map some ++ List.replicate (mm_mL y - av.length) none) [] h = some (o, h')) (hv : av.all mm_no2 = true) (hok : ∀ v ∈ av, mm_ok v) (hl : av.length ≤ mm_mL y) (hsc : h.2.2.2 = mm_scr L xs) {mc ms : Nat} (hmc : mc + h.2.1 = h'.2.1) (hms : ms + h.2.2.1 = h'.2.2.1) :
    vx_Met l (mm_yn y) (mm_wy y) { frames := mm_nF y, cells := mc, slots := ms, locals := mm_nL y } (mm_Pc g D L xs av h) (mm_Qc g D o h') (mm_XC g D o h') mc ms (mm_A g) := by
  obtain ⟨m1, m2, m3, m4, m5, m6, m7, m8⟩ := mm_MA hy
  have main : ∀ (p : Program) (e : Env) (s : State) (m : MethodId) (args : Array Value) (below : List Frame) (meth : Method) (c : Code) (s₁ : State), BodyLoose p l (mm_yn y) (headSpec (mm_wy y) { frames := mm_nF y, cells := mc, slots := ms, locals := mm_nL y }) (mm_by y) (mm_mL y) (mm_rt y) e s m args below meth c s₁ → c.maxLocals = mm_mL y → c.exceptionTable.toList = tableOf (mm_hh y) → mm_Pc g D L xs av h args s →
      W p l e (headSpec (mm_wy y) { frames := mm_nF y, cells := mc, slots := ms, locals := mm_nL y }).room s m args below meth c s.heap [] 0 0 (vx_MQ below (mm_Qc g D o h') (mm_XC g D o h') args s mc ms (mm_A g)) (entryFrame m args (mm_mL y)) := by
    intro p e s m args below meth c s₁ B hml htab hP
    obtain ⟨rfl, hR, K, hz⟩ := hP
    have hts := atoms_spec (ws := mm_wy y) B.pre
    have X : mm_X y l p { frames := mm_nF y, cells := mc, slots := ms, locals := mm_nL y } s m (av.map (mm_up g.1 g.2.1)).toArray meth c :=
      ⟨B.exec, B.bytes, hml, B.returns, B.notSynchronized, (name_of_methodNamed B.named B.method).1, by rw [m5]; exact findClass_of_methodNamed B.named, fun w hw => hts w (List.mem_cons_of_mem _ hw), htab, Nat.le_refl _, Nat.le_refl _, hst⟩
    have k := hB y 0 _ _ h o h' hrun p e { frames := mm_nF y, cells := mc, slots := ms, locals := mm_nL y } s m _ below meth c g D h.2.1 h.2.2.1 L xs mc ms X K hz hmc hms (Nat.le_refl _) (Nat.le_refl _)
    rw [mm_nx0 y (by omega)] at k
    have k2 := k s.heap [] 0 0 _ va_S.rf hR (mm_entry hv hok hl) (fun v hv => by cases hv) (Nat.zero_add _) (Nat.zero_add _) hsc
    rw [lg_entry_eq]
    exact k2
  by_cases q : mm_hh y = []
  · have ecw : mm_cw y = Cond.code (mm_yn y) (mm_by y) (mm_mL y) (mm_rt y) := if_pos q
    refine vx_ofW (cc := mm_by y) (maxL := mm_mL y) (ret := mm_rt y) (ws' := mm_w) m3 (by rw [← ecw]) ?_
    intro p e s m args below meth c s₁ B hml ht hP
    refine main p e s m args below meth c s₁ B hml ?_ hP
    rw [q]
    cases hl9 : c.exceptionTable.toList with
    | nil => rfl
    | cons x t => exact (ht x (by rw [hl9]; exact List.mem_cons_self)).elim
  · have ecw : mm_cw y = Cond.codeWith (mm_yn y) (mm_by y) (mm_mL y) (mm_rt y) (mm_hh y) := if_neg q
    refine vx_ofWH (cc := mm_by y) (maxL := mm_mL y) (ret := mm_rt y) (hh := mm_hh y) (ws' := mm_w) m3 (by rw [← ecw]) ?_
    intro p e s m args below meth c s₁ B hml hP
    refine main p e s m args below meth c s₁ B hml ?_ hP
    refine vx_table (x := mm_yn y) (y := mm_yn y) (bytes := mm_by y) (maxL' := mm_mL y) (ret' := mm_rt y) (hh := mm_hh y) B ?_
    have hts := atoms_spec (ws := mm_wy y) B.pre
    rw [← ecw]
    exact hts _ List.mem_cons_self
/-- behind a call -/
theorem mm_call {o1 : mm_O} {h1 : mm_H} {mc1 ms1 : Nat} {rest st0 : List Value} {av : Array Value} (hr : vx_Run p l e R s m args below meth c H locs cells slots mc1 ms1 (F0 m pc rls st0) rest (mm_Qc g D o1 h1 av) (mm_XC g D o1 h1) (mm_A g)) (hS : va_S (mm_A g) s.heap H locs)
    (kx : ∀ (k q9 : Nat) (ce : Cell) (H1 : Heap) (locs1 : List Loc), o1 = .inr k → k < 3 → va_S (mm_A g) s.heap H1 locs1 → mm_Rl g D h1 H1 → H1[q9]? = some ce → ce.vm = .none → s.vm.findClass (mm_en k) = some ce.cls → vx_W p l e R s m args below meth c H1 locs1 (cells + mc1) (slots + ms1) Q (F0 m pc rls rest) q9)
    (kk : ∀ (v : Option mm_V) (H1 : Heap) (locs1 : List Loc), o1 = .inl v → va_S (mm_A g) s.heap H1 locs1 → mm_Rl g D h1 H1 → (∀ w ∈ v, mm_ok w) → W p l e R s m args below meth c H1 locs1 (cells + mc1) (slots + ms1) Q (F0 m (pc + 3) rls ((v.map (mm_up g.1 g.2.1)).toList ++ rest))) :
    W p l e R s m args below meth c H locs cells slots Q (F0 m pc rls st0) := by
  intro T hT X
  rcases hr T hT X with ⟨v, st₀, t, T', L9, h0, X', hL, e1, e2, ⟨⟨v1, hv1, hv2, hp, hb⟩, hF⟩, st⟩ | ⟨q, st₀, t, T', L9, E, ce, h0, X', hL, e1, e2, ⟨⟨k, hk1, hk2, hk3, hp⟩, hF⟩, hce, hcv, hcl, st⟩
  · cases hv2
    obtain ⟨k1, k2, k3⟩ := vx_keep h0 e1 hS (fun _ _ z => z) (fun _ z => z) hL hF
    obtain ⟨t2, a1, b1⟩ := kk v1 T'.heap (locs ++ L9) hv1 k3 (by rw [e1]; exact hp) hb T' rfl X'
    exact ⟨t2, st t2 a1, b1⟩
  · subst hk2
    obtain ⟨k1, k2, k3⟩ := vx_keep h0 e1 hS (fun _ _ z => z) (fun _ z => z) hL hF
    obtain ⟨t2, a1, b1⟩ := kx k q ce T'.heap (locs ++ L9) hk1 hk3 k3 (by rw [e1]; exact hp) (by rw [e1]; exact hce) hcv hcl T' rfl X'
    exact ⟨t2, st.trans a1, b1⟩
theorem mm_callM {v0 : Option mm_V} {h1 : mm_H} {mc1 ms1 : Nat} {rest st0 : List Value} {av : Array Value} (hr : va_Run p l e R s m args below meth c H locs cells slots mc1 ms1 (F0 m pc rls st0) rest (mm_Qc g D (.inl v0) h1 av) (mm_A g)) (hS : va_S (mm_A g) s.heap H locs)
    (kk : ∀ (H1 : Heap) (locs1 : List Loc), va_S (mm_A g) s.heap H1 locs1 → mm_Rl g D h1 H1 → (∀ w ∈ v0, mm_ok w) → W p l e R s m args below meth c H1 locs1 (cells + mc1) (slots + ms1) Q (F0 m (pc + 3) rls ((v0.map (mm_up g.1 g.2.1)).toList ++ rest))) :
    W p l e R s m args below meth c H locs cells slots Q (F0 m pc rls st0) := by
  intro T hT X
  obtain ⟨v, st₀, t, T', L9, h0, X', hL, e1, e2, ⟨⟨v1, hv1, hv2, hp, hb⟩, hF⟩, st⟩ := hr T hT X
  cases hv1
  cases hv2
  obtain ⟨k1, k2, k3⟩ := vx_keep h0 e1 hS (fun _ _ z => z) (fun _ z => z) hL hF
  obtain ⟨t2, a1, b1⟩ := kk T'.heap (locs ++ L9) k3 (by rw [e1]; exact hp) hb T' rfl X'
  exact ⟨t2, st t2 a1, b1⟩
theorem mm_toMet {ws : List Cond} {rm : Room} {Pc : Array Value → State → Prop} {v0 : Option mm_V} {h1 : mm_H} {mc ms : Nat} {yn : MethodName} (hM : vx_Met l yn ws rm Pc (mm_Qc g D (.inl v0) h1) (mm_XC g D (.inl v0) h1) mc ms (mm_A g)) : Met l yn ws rm Pc (mm_Qc g D (.inl v0) h1) mc ms (mm_A g) := by
  intro p e ha hc hk s m args below hf happ hP hT
  obtain ⟨k, o, z1, z2, z3, hQ⟩ := hM p e ha hc hk s m args below hf happ hP hT
  refine ⟨k, o, z1, z2, z3, ?_⟩
  rcases hQ with hQ | ⟨q, -, E, ce, L9, ⟨⟨k9, hk9, -⟩, -⟩, -⟩
  · exact hQ
  · cases hk9
end MMC
end
section
def mm_swK (y pc k : Nat) : Bool := match mm_swO[k]? with
  | some off => decide ((pc : Int) + off = (mm_nx y (mm_swT.getD k 0) : Int))
  | none => false
theorem mm_sw0 : ((List.range mm_codeT.length).all fun y => (mm_codeT.getD y []).all fun q => decide (q.2.1 = 56 → (q.1 : Int) + 1136 = (mm_nx y (mm_sw (-1)) : Int) ∧ ((List.range 28).all fun k => mm_swK y q.1 k) = true)) = true := by decide +kernel
theorem mm_sw1 {y i pc a : Nat} {b : Int} (h : mm_code y i = some (pc, (56, (a, b)))) : (pc : Int) + 1136 = (mm_nx y (mm_sw (-1)) : Int) ∧ ∀ k, k < 28 → ∃ off, mm_swO[k]? = some off ∧ (pc : Int) + off = (mm_nx y (mm_swT.getD k 0) : Int) := by
  unfold mm_code at h
  cases hy : mm_codeT[y]? with
  | none => rw [hy] at h; cases h
  | some l =>
    rw [hy] at h
    have e : mm_codeT.getD y [] = l := by rw [List.getD_eq_getElem?_getD, hy]; rfl
    have h1 := List.all_eq_true.mp mm_sw0 y (List.mem_range.mpr (List.getElem?_eq_some_iff.mp hy).1)
    rw [e] at h1
    have h2 := of_decide_eq_true (List.all_eq_true.mp h1 _ (List.mem_of_getElem? h)) rfl
    refine ⟨h2.1, fun k hk => ?_⟩
    have h3 := List.all_eq_true.mp h2.2 k (List.mem_range.mpr hk)
    unfold mm_swK at h3
    cases ho : mm_swO[k]? with
    | none => rw [ho] at h3; cases h3
    | some off => rw [ho] at h3; exact ⟨off, rfl, of_decide_eq_true h3⟩
theorem mm_badT {E : String} : ∀ w ∈ mm_bad E, w.onTables = true := by
  intro w hw
  unfold mm_bad at hw
  rcases List.mem_cons.mp hw with rfl | hw
  · rfl
  rcases List.mem_cons.mp hw with rfl | hw
  · rfl
  rcases List.mem_cons.mp hw with rfl | hw
  · rfl
  rcases List.mem_cons.mp hw with rfl | hw
  · rfl
  cases hw
theorem mm_siteH : ∀ a, a < mm_siteT.length → ((mm_sd a).2.2.2 ≠ 106 → mm_hh (mm_sd a).1.1 = []) ∧ ((mm_sd a).2.2.2 = 106 → mm_own (mm_sd a).1.1 = (mm_sd a).2.1) ∧ (mm_sd a).1.1 < 139 := by decide +kernel
theorem mm_handA : ∀ y E z, mm_hand y E = some z → ((y, E), z) ∈ mm_handT := by
  intro y E z h
  unfold mm_hand at h
  exact List.lookup_eq_some_iff.mp h |>.elim (fun l1 h2 => by obtain ⟨l2, h3, -⟩ := h2; rw [h3]; simp)
section MMM
variable {p : Program} {l : Launch} {e : Env} {R : Room} {s : State} {m : MethodId} {args : Array Value} {below : List Frame} {meth : Method} {c : Code} {H : Heap} {locs : List Loc} {cells slots : Nat} {Q : State → Prop}
variable {g : mm_G} {D : va_G} {y i pc op a : Nat} {b : Int} {ls ls' : mm_F} {st st' : List mm_V} {h h' : mm_H} {j : Option Nat} {rls : Array Slot} {n0 s0 L : Nat} {xs : Nat → Int32}
/-- the rows that end a method -/
theorem mm_end {mc ms : Nat} {o : mm_O} (hc : mm_code y i = some (pc, (op, (a, b)))) (X : mm_X y l p R s m args meth c) (K : mm_K g D L xs s) (hS : va_S (mm_A g) s.heap H locs) (hR : mm_Rl g D h H) (hL : mm_LR g (mm_mL y) ls rls) (hst : ∀ v ∈ st, mm_ok v) (hmc : cells = mc) (hms : slots = ms)
    (ho : (op = 100 ∧ ∃ z, st = [.inl z] ∧ o = .inl (some (mm_I z))) ∨ (op = 101 ∧ ∃ z, st = [.inl z] ∧ (z = 0 ∨ z = 1) ∧ o = .inl (some (mm_I z))) ∨ (op = 102 ∧ ∃ r, st = [.inr (.inr (some r))] ∧ o = .inl (some (mm_P r))) ∨ (op = 103 ∧ st = [] ∧ o = .inl none)) :
    W p l e R s m args below meth c H locs cells slots (vx_MQ below (mm_Qc g D o h) (mm_XC g D o h) args s mc ms (mm_A g)) (F0 m pc rls (st.map (mm_up g.1 g.2.1))) := by
  subst hmc; subst hms
  obtain ⟨hx, hb, hml, hr, hlk, hnm, hown, hts, htab, hnF, hnL, htr⟩ := X
  rcases ho with ⟨rfl, z, rfl, rfl⟩ | ⟨rfl, z, rfl, hz, rfl⟩ | ⟨rfl, r, rfl, rfl⟩ | ⟨rfl, rfl, rfl⟩
  · obtain ⟨hd, -, -, -, -, -, -, -, h100, -⟩ := mm_okB_dec hc (by decide)
    exact vx_ret (W.iret (v := Int32.ofInt z) hx hb (hr.trans (h100 rfl)) (fun t ht hW => ⟨⟨some (mm_I z), rfl, rfl, by rw [ht]; exact hR, fun w hw => by cases hw; exact hst _ List.mem_cons_self⟩, hS.F ht⟩) hS.2.2 hd hlk)
  · obtain ⟨hd, -, -, -, -, -, -, -, -, h101, -⟩ := mm_okB_dec hc (by decide)
    exact vx_ret (W.zret (v := Int32.ofInt z) hx hb (hr.trans (h101 rfl)) (by rcases hz with rfl | rfl <;> rfl) (fun t ht hW => ⟨⟨some (mm_I z), rfl, rfl, by rw [ht]; exact hR, fun w hw => by cases hw; exact hst _ List.mem_cons_self⟩, hS.F ht⟩) hS.2.2 hd hlk)
  · obtain ⟨hd, -, -, -, -, -, -, -, -, -, h102, -⟩ := mm_okB_dec hc (by decide)
    exact vx_ret (W.aret (v := .ref (mm_ad g.1 g.2.1 r)) hx hb (hr.trans (h102 rfl)) (Or.inl ⟨_, rfl⟩) (Or.inr ⟨_, rfl⟩) (fun t ht hW => ⟨⟨some (mm_P r), rfl, rfl, by rw [ht]; exact hR, fun w hw => by cases hw; trivial⟩, hS.F ht⟩) hS.2.2 hd hlk)
  · obtain ⟨hd, -, -, -, -, -, -, -, -, -, -, h103⟩ := mm_okB_dec hc (by decide)
    exact vx_ret (W.vret hx hb (hr.trans (h103 rfl)) (fun t ht hW => ⟨⟨none, rfl, rfl, by rw [ht]; exact hR, fun w hw => by cases hw⟩, hS.F ht⟩) hS.2.2 hd hlk)
theorem mm_thr {mc ms : Nat} (hc : mm_code y i = some (pc, (104, (a, b)))) (X : mm_X y l p R s m args meth c) (K : mm_K g D L xs s) (hS : va_S (mm_A g) s.heap H locs) (hR : mm_Rl g D h H) (hL : mm_LR g (mm_mL y) ls rls) (hmc : cells + 1 = mc) (hms : slots + 6 = ms) (rc : mc ≤ R.cells) (rs : ms ≤ R.slots) {t4 : Nat × (Nat × List Int)} (ht4 : t4.2.2 = h.2.2.2) :
    W p l e R s m args below meth c H locs cells slots (vx_MQ below (mm_Qc g D (.inr b.toNat) (h.1, t4)) (mm_XC g D (.inr b.toNat) (h.1, t4)) args s mc ms (mm_A g)) (F0 m pc rls []) := by
  subst hmc; subst hms
  obtain ⟨hx, hb, hml, hr, hlk, hnm, hown, hts, htab, hnF, hnL, htr⟩ := X
  obtain ⟨hd, -, -, -, -, -, -, h104, -⟩ := mm_okB_dec hc (by decide)
  obtain ⟨q1, q2, q3, q4, q5, q6, d3, d4, d6, d9⟩ := h104 rfl
  obtain ⟨t1, t2, t3, t5, t6, t7, t8⟩ := mm_TA q3
  obtain ⟨K1, K2, K3, K4, K5, K6, K7, K8, K9, K10, K11, K12⟩ := K
  obtain ⟨sa, hsa⟩ := K4 a q3
  rw [q4] at hown
  refine vx_throwS (A := mm_A g) (own := RX4) (cls := mm_en (mm_th a).2.2.2.1) (text := (mm_th a).2.2.2.2) (names := mm_nms) (ik := (mm_th a).1) (is := (mm_th a).2.1) (ic := (mm_th a).2.2.1) (sa := sa) hx hb htr hown t8 mm_fitN (hts _ t2) (hts _ t3) hsa (vx_hat (fun w hw => hts w (t5 w hw)) t6 (fun w hw => va_Nw.use (mm_badT w hw) (K5 _ t1 w hw))) t7 K2 K3 hS (by rw [hL.2.1, hml]) hd d3 d4 d6 d9 ?_ (by show 2 + 3 < R.frames; omega) (by show 0 + (13 * (2 + 1) + 43) ≤ R.locals; omega) rc rs hlk ?_ hS.2.2 (Nat.le_refl _) (Nat.le_refl _)
  · intro x hx9
    rw [htab, q6] at hx9
    cases hx9
  · intro t ha hz hq
    refine ⟨⟨b.toNat, rfl, by rw [q5], by rw [← q5]; exact t1, ?_⟩, ?_⟩
    · refine ⟨hR.1.kept (fun k q hk => hq _ (hR.1 k q hk).lt), hR.2.1, hR.2.2.1, by show ∀ z ∈ t4.2.2, mm_rng z; rw [ht4]; exact hR.2.2.2⟩
    · exact ⟨Nat.le_trans hS.1 hz, fun q h1 h2 => (hq q (Nat.lt_of_lt_of_le h1 hS.1)).trans (hS.2.1 q h1 h2)⟩
theorem mm_swt (hc : mm_code y i = some (pc, (56, (a, b)))) (X : mm_X y l p R s m args meth c) {x : Int} (hxr : mm_rng x) {rest : List Value}
    (k : W p l e R s m args below meth c H locs cells slots Q (F0 m (mm_nx y (mm_sw x)) rls rest)) : W p l e R s m args below meth c H locs cells slots Q (F0 m pc rls (.int (Int32.ofInt x) :: rest)) := by
  obtain ⟨hx, hb, -⟩ := X
  obtain ⟨hd, -⟩ := mm_okB_dec hc (by decide)
  obtain ⟨w1, w2⟩ := mm_sw1 hc
  by_cases q : x < 0 ∨ 27 < x
  · have e : mm_sw x = mm_sw (-1) := by unfold mm_sw; rw [if_pos q, if_pos (Or.inl (by decide))]
    rw [e] at k
    exact lv_tableOut hx hb hd (by rw [mm_ti hxr]; exact q) w1 k
  · obtain ⟨off, o1, o2⟩ := w2 x.toNat (by omega)
    have e : mm_sw x = mm_swT.getD x.toNat 0 := by
      unfold mm_sw
      rw [if_neg q, List.getD_eq_getElem?_getD, List.getD_eq_getElem?_getD]
      have hl : x.toNat < mm_swT.length := by show x.toNat < 28; omega
      rw [List.getElem?_eq_getElem hl]
      rfl
    rw [e] at k
    exact lv_tableIn hx hb hd (by rw [mm_ti hxr]; omega) (by rw [mm_ti hxr]; omega) (by rw [mm_ti hxr, List.getElem?_toArray, Int.sub_zero]; exact o1) o2 k
/-- a call, whatever the callee does -/
theorem mm_callA {n : Nat} (hB : mm_B l n) {o1 : mm_O} {h1 : mm_H} (h105 : 105 ≤ op ∧ op ≤ 108) (hc : mm_code y i = some (pc, (op, (a, b)))) (X : mm_X y l p R s m args meth c) (K : mm_K g D L xs s) (hz0 : s.heap.size ≤ g.2.1 + n0) (hS : va_S (mm_A g) s.heap H locs) (hR : mm_Rl g D h H) (hL : mm_LR g (mm_mL y) ls rls) (hst : ∀ v ∈ st, mm_ok v) (hcc : cells + n0 = h.2.1) (hss : slots + s0 = h.2.2.1) (hsc : h.2.2.2 = mm_scr L xs)
    (hg : (mm_site a).2.1 ≤ st.length ∧ (st.drop (mm_site a).2.1).length ≤ 4 ∧ ((st.take (mm_site a).2.1).reverse).all mm_no2 = true ∧ (mm_site a).2.1 ≤ (mm_site a).2.2.1 ∧ mm_rcv (mm_site a).2.2.2 (st.take (mm_site a).2.1).reverse h = true)
    (hrun : mm_go n (mm_site a).1 0 ((st.take (mm_site a).2.1).reverse.map some ++ List.replicate ((mm_site a).2.2.1 - (mm_site a).2.1) none) [] h = some (o1, h1)) (h107 : op = 107 ∨ op = 108 → ∃ v, o1 = .inl v) (rc : h1.2.1 ≤ R.cells + n0) (rs : h1.2.2.1 ≤ R.slots + s0)
    (kx : ∀ (k q9 : Nat) (ce : Cell) (H1 : Heap) (locs1 : List Loc) (cells1 slots1 : Nat), o1 = .inr k → k < 3 → cells1 + n0 = h1.2.1 → slots1 + s0 = h1.2.2.1 → va_S (mm_A g) s.heap H1 locs1 → mm_Rl g D h1 H1 → H1[q9]? = some ce → ce.vm = .none → s.vm.findClass (mm_en k) = some ce.cls → vx_W p l e R s m args below meth c H1 locs1 cells1 slots1 Q (F0 m pc rls ((st.drop (mm_site a).2.1).map (mm_up g.1 g.2.1))) q9)
    (kk : ∀ v : Option mm_V, o1 = .inl v → mm_KK p l e R s m args below meth c Q g D y n0 s0 L xs (mm_nx y (i + 1)) ls (v.toList ++ st.drop (mm_site a).2.1) h1) :
    W p l e R s m args below meth c H locs cells slots Q (F0 m pc rls (st.map (mm_up g.1 g.2.1))) := by
  obtain ⟨hx, hb, hml, hr, hlk, hnm, hown, hts, htab, hnF, hnL, htr⟩ := id X
  obtain ⟨hd, hn, -, -, -, hsite, -⟩ := mm_okB_dec hc (by omega)
  have hn := hn (by omega)
  obtain ⟨s1, s2, s3, s4, s5⟩ := hsite h105
  obtain ⟨t1, t2, t3, t4, t5, t6, t7, t8, t9⟩ := mm_SA s3
  obtain ⟨u1, u2, u3⟩ := mm_siteH a s3
  obtain ⟨m1, m2, m3, m4, m5, m6, m7, m8⟩ := mm_MA u3
  obtain ⟨g1, g2, g3, g4, g5⟩ := hg
  obtain ⟨mo1, mo2, mo3⟩ := mm_mono _ _ _ _ _ _ _ _ hrun
  obtain ⟨mc1, hmc1⟩ : ∃ z, z + h.2.1 = h1.2.1 := ⟨h1.2.1 - h.2.1, by omega⟩
  obtain ⟨ms1, hms1⟩ : ∃ z, z + h.2.2.1 = h1.2.2.1 := ⟨h1.2.2.1 - h.2.2.1, by omega⟩
  obtain ⟨av, hav⟩ : ∃ z, z = (st.take (mm_site a).2.1).reverse := ⟨_, rfl⟩
  obtain ⟨rest, hrest⟩ : ∃ z, z = st.drop (mm_site a).2.1 := ⟨_, rfl⟩
  rw [← hav] at g3 g5 hrun
  rw [← hrest] at g2 kk kx
  have est : st = av.reverse ++ rest := by rw [hav, hrest, List.reverse_reverse, List.take_append_drop]
  have hlen : av.length = (mm_site a).2.1 := by rw [hav, List.length_reverse, List.length_take]; omega
  have hoka : ∀ v ∈ av, mm_ok v := fun v hv => hst v (by rw [est]; exact List.mem_append_left _ (List.mem_reverse.mpr hv))
  have hokr : ∀ v ∈ rest, mm_ok v := fun v hv => hst v (by rw [est]; exact List.mem_append_right _ hv)
  rw [← hlen, show (mm_site a).2.2.1 = mm_mL (mm_sd a).1.1 from t2] at hrun
  have hM := mm_meth (g := g) (D := D) (L := L) (xs := xs) hB htr u3 hrun g3 hoka (by rw [hlen]; rw [show (mm_site a).2.2.1 = mm_mL (mm_sd a).1.1 from t2] at g4; exact g4) hsc hmc1 hms1
  have hcat : 2 * (F0 m pc rls (st.map (mm_up g.1 g.2.1))).monitorRoom + ((rest.map (mm_up g.1 g.2.1)).map fun v => v.category).sum ≤ 8 := lv_room (by have := mm_catS (b := g.1) (b0 := g.2.1) rest; omega)
  have hRm : mm_nF (mm_sd a).1.1 + 1 ≤ R.frames ∧ 8 + (mm_mL (mm_sd a).1.1 + 11) + mm_nL (mm_sd a).1.1 ≤ R.locals := ⟨by omega, by omega⟩
  have hsz9 : rls.size = mm_mL y := hL.2.1
  have hGw := mm_wy_good u3
  rw [s1] at t4
  have hcode : mm_hh (mm_sd a).1.1 = [] → mm_cw (mm_sd a).1.1 = Cond.code (mm_yn (mm_sd a).1.1) (mm_by (mm_sd a).1.1) (mm_mL (mm_sd a).1.1) (mm_rt (mm_sd a).1.1) := fun q => if_pos q
  have hkk2 : ∀ (v : Option mm_V) (H1 : Heap) (locs1 : List Loc), o1 = .inl v → va_S (mm_A g) s.heap H1 locs1 → mm_Rl g D h1 H1 → (∀ w ∈ v, mm_ok w) → W p l e R s m args below meth c H1 locs1 (cells + mc1) (slots + ms1) Q (F0 m (pc + 3) rls ((v.map (mm_up g.1 g.2.1)).toList ++ rest.map (mm_up g.1 g.2.1))) := by
    intro v H1 locs1 ho hS1 hR1 hv
    have k := kk v ho H1 locs1 (cells + mc1) (slots + ms1) rls hS1 hR1 hL (fun w hw => (List.mem_append.mp hw).elim (fun q => hv w (Option.mem_toList.mp q)) (hokr w)) (by omega) (by omega) (mo3.trans hsc)
    have e3 : (mm_ins op a b).2 = 3 := by
      rcases (show op = 105 ∨ op = 106 ∨ op = 107 ∨ op = 108 by omega) with rfl | rfl | rfl | rfl <;> rfl
    rw [hn, e3, List.map_append] at k
    have e4 : v.toList.map (mm_up g.1 g.2.1) = (v.map (mm_up g.1 g.2.1)).toList := by cases v <;> rfl
    rw [e4] at k
    exact k
  have hkx2 : ∀ (k q9 : Nat) (ce : Cell) (H1 : Heap) (locs1 : List Loc), o1 = .inr k → k < 3 → va_S (mm_A g) s.heap H1 locs1 → mm_Rl g D h1 H1 → H1[q9]? = some ce → ce.vm = .none → s.vm.findClass (mm_en k) = some ce.cls → vx_W p l e R s m args below meth c H1 locs1 (cells + mc1) (slots + ms1) Q (F0 m pc rls (rest.map (mm_up g.1 g.2.1))) q9 :=
    fun k q9 ce H1 locs1 z1 z2 z3 z4 z5 z6 z7 => kx k q9 ce H1 locs1 _ _ z1 z2 (by omega) (by omega) z3 z4 z5 z6 z7
  have hfit : cells + mc1 ≤ R.cells ∧ slots + ms1 ≤ R.slots := ⟨by omega, by omega⟩
  refine mm_size (fun hsz => ?_)
  have hPc : ∀ U : State, U.heap = H → s.WarmedH U.vm → mm_Pc g D L xs av h (av.map (mm_up g.1 g.2.1)).toArray U := fun U hU hW =>
    ⟨rfl, by rw [hU]; exact hR, mm_K.move hW (by rw [hU]; exact hS.1) (fun q h1 h2 => by rw [hU]; exact hS.2.1 q h1 h2) K, by rw [hU]; omega⟩
  have hdesc := t3
  rcases (show op = 105 ∨ op = 106 ∨ op = 107 ∨ op = 108 by omega) with rfl | rfl | rfl | rfl
  · -- invokevirtual
    obtain ⟨v1, v2, v3, v4⟩ := t5 (Or.inl s2)
    have hnil := u1 (by rw [s2]; decide)
    rw [s2, if_pos (Or.inl rfl)] at hdesc
    have hlk := t4 (by rw [s2]; decide)
    have hsel := t7 s2
    cases av with
    | nil => rw [← hlen] at v2; cases v2
    | cons rv As =>
      rw [show (mm_site a).2.2.2 = 10 + mm_own (mm_sd a).1.1 from v3] at g5
      unfold mm_rcv at g5
      rw [if_neg (by omega)] at g5
      split at g5
      · rename_i r As2 heq
        cases heq
        replace g5 := of_decide_eq_true g5
        obtain ⟨c9, hc9, e9⟩ := Option.map_eq_some_iff.mp g5
        obtain ⟨kd9, lv9⟩ := c9
        have e9 : kd9 = 10 + mm_own (mm_sd a).1.1 := e9
        subst e9
        have he := mm_ws_at g hc9
        rw [mm_ent_o] at he
        have hr9 := (hR.okl hc9).1
        obtain ⟨cc1, cc2, cc3, cc4, cc5, cc6, cc7⟩ := mm_CA _ v4
        have hrec := va_recv K.1 hR.1 cc1 he
        rw [cc7, m5] at hrec
        have eadr : mm_ad g.1 g.2.1 r = g.2.1 + r := mm_ad_lt (by omega)
        have hstk : st.map (mm_up g.1 g.2.1) = (As.map (mm_up g.1 g.2.1)).reverse ++ .ref (g.2.1 + r) :: rest.map (mm_up g.1 g.2.1) := by
          rw [est, List.map_append, List.reverse_cons, List.map_append, List.map_reverse, List.append_assoc, ← eadr]
          rfl
        have earr : ((.inr (.inr (some r)) :: As).map (mm_up g.1 g.2.1)).toArray = (Value.ref (g.2.1 + r) :: As.map (mm_up g.1 g.2.1)).toArray := by
          rw [List.map_cons, ← eadr]; rfl
        refine mm_call (st0 := st.map (mm_up g.1 g.2.1)) (rest := rest.map (mm_up g.1 g.2.1)) (vx_runV (C := (mm_yn (mm_sd a).1.1).cls) (n := As.length) (As := As.map (mm_up g.1 g.2.1)) (b := g.2.1 + r) (Ts := mm_w) (own := mm_cn (mm_own y)) (nL := mm_mL y) (bytes := mm_by (mm_sd a).1.1) (maxL := mm_mL (mm_sd a).1.1) (ret := mm_rt (mm_sd a).1.1) ⟨hx, hb, hml, hown, hts⟩ hM (cwV As.length hts ?_ (congrArg (fun x => x :: mm_w) (hcode hnil)) rfl rfl ⟨rfl, m6, m7, ?_⟩ hRm) ⟨mm_blind g D L xs _ h, hrec, ?_⟩ rfl (List.length_map _) hsz9 hstk hcat hd hfit) hS hkx2 hkk2
        · intro w hw
          unfold wsV at hw
          rcases List.mem_append.mp hw with hw | hw
          · simp only [List.mem_cons, List.not_mem_nil, or_false] at hw
            rcases hw with rfl | rfl | rfl | rfl
            · exact mm_ww _ hlk
            · exact mm_ww _ v1
            · exact mm_ww _ hsel
            · exact mm_ww _ m4
          · exact hGw w hw
        · rw [hdesc]; congr 1; rw [← hlen]; rfl
        · rw [← earr]; exact hPc
      · cases g5
  · -- invokestatic
    have hst9 := t6 (Or.inl s2)
    have hlk := t4 (by rw [s2]; decide)
    rw [s2, if_neg (by decide), Nat.sub_zero] at hdesc
    have hown9 := u2 s2
    have hstk : st.map (mm_up g.1 g.2.1) = (av.map (mm_up g.1 g.2.1)).reverse ++ rest.map (mm_up g.1 g.2.1) := by
      rw [est, List.map_append, List.map_reverse]
    have ecls : (mm_yn (mm_sd a).1.1).cls = mm_cn (mm_own y) := by rw [← m5, hown9, s1]
    by_cases hnil : mm_hh (mm_sd a).1.1 = []
    · refine mm_call (st0 := st.map (mm_up g.1 g.2.1)) (rest := rest.map (mm_up g.1 g.2.1)) (vx_runS (n := av.length) (As := av.map (mm_up g.1 g.2.1)) (Ts := mm_w) (own := mm_cn (mm_own y)) (nL := mm_mL y) (bytes := mm_by (mm_sd a).1.1) (maxL := mm_mL (mm_sd a).1.1) (ret := mm_rt (mm_sd a).1.1) ⟨hx, hb, hml, hown, hts⟩ hM (cwS av.length hts ?_ (congrArg (fun x => x :: mm_w) (hcode hnil)) rfl rfl ⟨ecls, m6, m7, ?_⟩ hRm) ⟨mm_blind g D L xs _ h, hPc⟩ rfl (List.length_map _) hsz9 hstk hcat hd hfit) hS hkx2 hkk2
      · intro w hw
        unfold wsS at hw
        rcases List.mem_append.mp hw with hw | hw
        · simp only [List.mem_cons, List.not_mem_nil, or_false] at hw
          rcases hw with rfl | rfl | rfl
          · exact mm_ww _ hlk
          · exact mm_ww _ hst9
          · rw [← ecls]; exact mm_ww _ m4
        · exact hGw w hw
      · rw [hdesc, hlen]
    · have ecw : mm_cw (mm_sd a).1.1 = Cond.codeWith (mm_yn (mm_sd a).1.1) (mm_by (mm_sd a).1.1) (mm_mL (mm_sd a).1.1) (mm_rt (mm_sd a).1.1) (mm_hh (mm_sd a).1.1) := if_neg hnil
      refine mm_call (st0 := st.map (mm_up g.1 g.2.1)) (rest := rest.map (mm_up g.1 g.2.1)) (vx_runSX (n := av.length) (As := av.map (mm_up g.1 g.2.1)) (Ts := mm_w) (own := mm_cn (mm_own y)) (nL := mm_mL y) (bytes := mm_by (mm_sd a).1.1) (maxL := mm_mL (mm_sd a).1.1) (ret := mm_rt (mm_sd a).1.1) (hh := mm_hh (mm_sd a).1.1) ⟨hx, hb, hml, hown, hts⟩ hM (vx_cwSW av.length hts ?_ (congrArg (fun x => x :: mm_w) ecw) rfl rfl ⟨m6, m7, ?_⟩ hRm) ⟨mm_blind g D L xs _ h, hPc⟩ rfl (List.length_map _) hsz9 hstk hcat hd hfit) hS hkx2 hkk2
      · intro w hw
        unfold va_wsS at hw
        rcases List.mem_append.mp hw with hw | hw
        · simp only [List.mem_cons, List.not_mem_nil, or_false] at hw
          rcases hw with rfl | rfl | rfl
          · exact mm_ww _ hlk
          · exact mm_ww _ hst9
          · exact mm_ww _ m4
        · exact hGw w hw
      · rw [hdesc, hlen]
  · -- invokestatic, a nest mate's
    have hst9 := t6 (Or.inr s2)
    rw [s2, if_neg (by decide), Nat.sub_zero] at hdesc
    have hnil := (t9 s2).1
    have hyn := (t9 s2).2
    have hstk : st.map (mm_up g.1 g.2.1) = (av.map (mm_up g.1 g.2.1)).reverse ++ rest.map (mm_up g.1 g.2.1) := by
      rw [est, List.map_append, List.map_reverse]
    obtain ⟨v0, rfl⟩ := h107 (Or.inl rfl)
    have hnw := K.2.2.2.2.2.2.1 _ (mm_nestA a s3 s2)
    dsimp only at hnw
    rw [← hyn, s1] at hnw
    exact mm_callM (st0 := st.map (mm_up g.1 g.2.1)) (rest := rest.map (mm_up g.1 g.2.1)) (va_runSN (n := av.length) (As := av.map (mm_up g.1 g.2.1)) (Ts := mm_w) (own := mm_cn (mm_own y)) (host := RX4) (nL := mm_mL y) (bytes := mm_by (mm_sd a).1.1) (maxL := mm_mL (mm_sd a).1.1) (ret := mm_rt (mm_sd a).1.1) ⟨hx, hb, hml, hown, hts⟩ (mm_toMet hM) ⟨va_cnB av.length hts hGw (congrArg (fun x => x :: mm_w) (hcode hnil)) rfl rfl hnw (hts _ m4) ⟨m6, m7, by rw [hdesc, hlen]⟩ hRm, hts _ hst9, trivial⟩ ⟨mm_blind g D L xs _ h, hPc⟩ rfl (List.length_map _) hsz9 hstk hcat hd hfit) hS (fun H1 locs1 => hkk2 v0 H1 locs1 rfl)
  · -- invokespecial
    obtain ⟨v1, v2, v3, v4⟩ := t5 (Or.inr s2)
    obtain ⟨w1, w2, hnil⟩ := t8 s2
    rw [s2, if_pos (Or.inr rfl)] at hdesc
    have hlk := t4 (by rw [s2]; decide)
    obtain ⟨v0, rfl⟩ := h107 (Or.inr rfl)
    cases av with
    | nil => rw [← hlen] at v2; cases v2
    | cons rv As =>
      rw [show (mm_site a).2.2.2 = 10 + mm_own (mm_sd a).1.1 from v3] at g5
      unfold mm_rcv at g5
      rw [if_neg (by omega)] at g5
      split at g5
      · rename_i r As2 heq
        cases heq
        replace g5 := of_decide_eq_true g5
        obtain ⟨c9, hc9, e9⟩ := Option.map_eq_some_iff.mp g5
        have hr9 := (hR.okl hc9).1
        have eadr : mm_ad g.1 g.2.1 r = g.2.1 + r := mm_ad_lt (by omega)
        have hstk : st.map (mm_up g.1 g.2.1) = (As.map (mm_up g.1 g.2.1)).reverse ++ .ref (g.2.1 + r) :: rest.map (mm_up g.1 g.2.1) := by
          rw [est, List.map_append, List.reverse_cons, List.map_append, List.map_reverse, List.append_assoc, ← eadr]
          rfl
        have earr : ((.inr (.inr (some r)) :: As).map (mm_up g.1 g.2.1)).toArray = (Value.ref (g.2.1 + r) :: As.map (mm_up g.1 g.2.1)).toArray := by
          rw [List.map_cons, ← eadr]; rfl
        exact mm_callM (st0 := st.map (mm_up g.1 g.2.1)) (rest := rest.map (mm_up g.1 g.2.1)) (va_runI (n := As.length) (As := As.map (mm_up g.1 g.2.1)) (b := g.2.1 + r) (Ts := mm_w) (own := mm_cn (mm_own y)) (nL := mm_mL y) (bytes := mm_by (mm_sd a).1.1) (maxL := mm_mL (mm_sd a).1.1) ⟨hx, hb, hml, hown, hts⟩ (mm_toMet hM) (cwI As.length hts hGw (congrArg (fun x => x :: mm_w) ((hcode hnil).trans (by rw [w2]))) rfl rfl (hts _ m4) (hts _ hlk) (hts _ v1) w1 ⟨m6, m7, by rw [hdesc]; congr 1; rw [← hlen]; rfl⟩ hRm) ⟨mm_blind g D L xs _ h, by rw [← earr]; exact hPc⟩ rfl (List.length_map _) hsz9 hstk hcat hd hfit) hS (fun H1 locs1 => hkk2 v0 H1 locs1 rfl)
      · cases g5
end MMM
end
section
section MMB
variable {l : Launch}
theorem mm_hnoH {y : Nat} (h : mm_noH y = true) : mm_hh y = [] := by
  unfold mm_noH at h
  exact List.isEmpty_iff.mp h
theorem mm_hp0 {y i pc op a : Nat} {b : Int} {E : Nat} {z : Int} (hc : mm_code y i = some (pc, (op, (a, b)))) (h105 : 105 ≤ op ∧ op ≤ 108) (hh : mm_hand y E = some z) : mm_okH y pc E z := by
  have hm := mm_handA y E z hh
  have h1 := mm_HA0 _ hm
  have h2 := mm_hpA y (mm_hyA _ hm)
  have h3 : pc = mm_hpc y := by
    unfold mm_code at hc
    cases hy : mm_codeT[y]? with
    | none => rw [hy] at hc; cases hc
    | some l9 =>
      rw [hy] at hc
      have e : mm_codeT.getD y [] = l9 := by rw [List.getD_eq_getElem?_getD, hy]; rfl
      rw [e] at h2
      exact of_decide_eq_true (List.all_eq_true.mp h2 _ (List.mem_of_getElem? hc)) h105
  rw [h3]
  exact h1
theorem mm_no0 : mm_codeT.all (fun l => l.all (fun q => decide (q.2.1 < 60 ∨ 100 ≤ q.2.1))) = true := by decide +kernel
theorem mm_noop {y i pc op a : Nat} {b : Int} (h : mm_code y i = some (pc, (op, (a, b)))) (h1 : ¬ op < 60) (h2 : op < 100) : False := by
  unfold mm_code at h
  cases hy : mm_codeT[y]? with
  | none => rw [hy] at h; cases h
  | some l =>
    rw [hy] at h
    have h3 := of_decide_eq_true (List.all_eq_true.mp (List.all_eq_true.mp mm_no0 l (List.mem_of_getElem? hy)) _ (List.mem_of_getElem? h))
    dsimp only at h3
    omega
theorem mm_all (n : Nat) : mm_B l n := by
  induction n with
  | zero => intro y i ls st h o h' hr; cases hr
  | succ n ih =>
    intro y i ls st h o h' hr p e R s m args below meth c g D n0 s0 L xs mc ms X K hz0 hmc hms rc rs H locs cells slots rls hS hR hL hst hcc hss hsc
    obtain ⟨mo1, mo2, mo3⟩ := mm_mono _ _ _ _ _ _ _ _ hr
    unfold mm_go mm_run at hr
    cases hc : mm_code y i with
    | none => rw [hc] at hr; cases hr
    | some q =>
      obtain ⟨pc, op, a, b⟩ := q
      have epc : mm_nx y i = pc := by unfold mm_nx; rw [hc]
      rw [epc]
      rw [hc] at hr
      dsimp only at hr
      by_cases h60 : op < 60
      · rw [if_pos h60] at hr
        by_cases h56 : op = 56
        · rw [if_pos h56] at hr
          subst h56
          split at hr
          · rename_i x st
            have k := ih _ _ _ _ _ _ _ hr p e R s m args below meth c g D n0 s0 L xs mc ms X K hz0 hmc hms rc rs H locs cells slots rls hS hR hL (mm_okt hst).2 hcc hss hsc
            exact mm_swt hc X (mm_okt hst).1 k
          · cases hr
        · rw [if_neg h56] at hr
          split at hr
          · cases hr
          · rename_i ls1 st1 h1 j hop
            obtain ⟨a1, a2, a3⟩ := mm_op_mono hop
            obtain ⟨b1, b2, b3⟩ := mm_mono _ _ _ _ _ _ _ _ hr
            exact mm_step hc h60 h56 hop X K hS hR hL hst hcc hss hsc hz0 (by omega) (by omega) (ih _ _ _ _ _ _ _ hr p e R s m args below meth c g D n0 s0 L xs mc ms X K hz0 hmc hms rc rs)
      · rw [if_neg h60] at hr
        by_cases h100 : op = 100
        · rw [if_pos h100] at hr
          split at hr
          · rename_i z
            cases hr
            exact mm_end hc X K hS hR hL hst (by omega) (by omega) (Or.inl ⟨h100, z, rfl, rfl⟩)
          · cases hr
        · rw [if_neg h100] at hr
          by_cases h101 : op = 101
          · rw [if_pos h101] at hr
            split at hr
            · rename_i z
              split at hr
              · rename_i hz
                cases hr
                exact mm_end hc X K hS hR hL hst (by omega) (by omega) (Or.inr (Or.inl ⟨h101, z, rfl, hz, rfl⟩))
              · cases hr
            · cases hr
          · rw [if_neg h101] at hr
            by_cases h102 : op = 102
            · rw [if_pos h102] at hr
              split at hr
              · rename_i r
                cases hr
                exact mm_end hc X K hS hR hL hst (by omega) (by omega) (Or.inr (Or.inr (Or.inl ⟨h102, r, rfl, rfl⟩)))
              · cases hr
            · rw [if_neg h102] at hr
              by_cases h103 : op = 103
              · rw [if_pos h103] at hr
                split at hr
                · cases hr
                  exact mm_end hc X K hS hR hL hst (by omega) (by omega) (Or.inr (Or.inr (Or.inr ⟨h103, rfl, rfl⟩)))
                · cases hr
              · rw [if_neg h103] at hr
                by_cases h104 : op = 104
                · rw [if_pos h104] at hr
                  subst h104
                  split at hr
                  · cases hr
                    dsimp only at hmc hms
                    exact mm_thr hc X K hS hR hL (by omega) (by omega) rc rs rfl
                  · cases hr
                · rw [if_neg h104] at hr
                  by_cases h109 : op < 109
                  · rw [if_pos h109] at hr
                    try dsimp only at hr
                    split at hr
                    · rename_i hg
                      have h105 : 105 ≤ op ∧ op ≤ 108 := by
                        refine ⟨?_, by omega⟩
                        by_cases q : 105 ≤ op
                        · exact q
                        · exfalso
                          have hlt : op < 100 := by omega
                          exact mm_noop hc h60 hlt
                      split at hr
                      · cases hr
                      · rename_i v h1 hcal
                        obtain ⟨b1, b2, b3⟩ := mm_mono _ _ _ _ _ _ _ _ hr
                        refine mm_callA ih h105 hc X K hz0 hS hR hL hst hcc hss hsc hg hcal (fun _ => ⟨v, rfl⟩) (by omega) (by omega) (fun k q9 ce H1 locs1 c1 s1 hk => by cases hk) (fun v2 hv2 => ?_)
                        cases hv2
                        exact ih _ _ _ _ _ _ _ hr p e R s m args below meth c g D n0 s0 L xs mc ms X K hz0 hmc hms rc rs
                      · rename_i E h1 hcal
                        by_cases h107 : op = 107 ∨ op = 108
                        · rw [if_pos h107] at hr
                          cases hr
                        · rw [if_neg h107] at hr
                          cases hh : mm_hand y E with
                          | some z =>
                            rw [hh] at hr
                            cases hr
                            refine mm_callA ih h105 hc X K hz0 hS hR hL hst hcc hss hsc hg hcal (fun q => absurd q h107) (by omega) (by omega) (fun k q9 ce H1 locs1 c1 s1 hk hk3 hc1 hs1 hS1 hR1 hq1 hq2 hq3 => ?_) (fun v2 hv2 => by cases hv2)
                            cases hk
                            obtain ⟨hx, hb, hml, hr9, hlk, hnm, hown, hts, htab, hnF, hnL, htr⟩ := id X
                            obtain ⟨pre, x, suf, kk, e1, e2, e3, e4, e5, e6, e7, e8, e9, e10⟩ := mm_hp0 hc h105 hh
                            rw [e1] at htab
                            have ec : c1 = mc := by omega
                            have es : s1 = ms := by omega
                            subst ec; subst es
                            have fin : ∀ (rls2 : Array Slot) (pc2 : Nat), decode (mm_by y) pc2 = .ok (.iconst z, 1) → decode (mm_by y) (pc2 + 1) = .ok (.ireturn, 1) → W p l e R s m args below meth c H1 locs1 c1 s1 (vx_MQ below (mm_Qc g D (.inl (some (mm_I z))) h') (mm_XC g D (.inl (some (mm_I z))) h') args s c1 s1 (mm_A g)) (F0 m pc2 rls2 []) := by
                              intro rls2 pc2 d1 d2
                              refine lv_iconst hx hb d1 rfl ?_
                              exact vx_ret (W.iret (v := Int32.ofInt z) hx hb (hr9.trans e8) (fun t ht hW => ⟨⟨some (mm_I z), rfl, rfl, by rw [ht]; exact hR1, fun w hw => by cases hw; exact e7⟩, hS1.F ht⟩) hS1.2.2 d2 hlk)
                            refine vx_catch hown pre x suf htab (fun q hq => ?_) e3 e4 (hts _ e6) (va_Nw.use rfl (K.2.2.2.2.1 _ e5 _ List.mem_cons_self)) hq1 hq2 hq3 ?_
                            · obtain ⟨f1, F, f2, f3, f4⟩ := e2 q hq
                              exact Or.inr ⟨f1, _, hts _ f4, K.2.2.2.2.2.1 _ _ e5 f2 f3⟩
                            · rcases e10 with ⟨d0, k4, d1, d2⟩ | ⟨d0, d1, d2⟩
                              · refine lv_astore_n hx hb d0 (Nat.mod_eq_of_lt k4) hL.has e9 rfl (fun rls2 h9 => ?_)
                                exact fin rls2 _ d1 d2
                              · refine lv_astore hx hb d0 hL.has e9 rfl (fun rls2 h9 => ?_)
                                exact fin rls2 _ d1 d2
                          | none =>
                            rw [hh] at hr
                            dsimp only at hr
                            split at hr
                            · rename_i hno
                              cases hr
                              refine mm_callA ih h105 hc X K hz0 hS hR hL hst hcc hss hsc hg hcal (fun q => absurd q h107) (by omega) (by omega) (fun k q9 ce H1 locs1 c1 s1 hk hk3 hc1 hs1 hS1 hR1 hq1 hq2 hq3 => ?_) (fun v2 hv2 => by cases hv2)
                              cases hk
                              obtain ⟨hx, hb, hml, hr9, hlk, hnm, hown, hts, htab, hnF, hnL, htr⟩ := id X
                              refine vx_out (fun x hx9 => ?_) hlk hq1 hq2 hq3 (fun t ht ha => ⟨⟨E, rfl, rfl, hk3, by rw [ht]; exact hR1⟩, hS1.F ht⟩) hS1.2.2 (by omega) (by omega)
                              rw [htab, mm_hnoH hno] at hx9
                              cases hx9
                            · cases hr
                    · cases hr
                  · rw [if_neg h109] at hr
                    cases hr
end MMB
end
section
def R_law : String := "SuffixWrightLaw"
def lw_P (b : Addr) (xs : List Int32) (args : Array Value) (s : State) : Prop := args = #[.ref b] ∧ s.IntsAt b xs ∧ xs.length ≤ 2048 ∧ (Jvm.Cond.and given_1 narrow_1).before args s = true
def lw_Q (_ : Array Value) (s : State) (o : Outcome) (t : State) : Prop := o = .returned (some (.int 1)) ∧ Framed s o t [] 601024 7293034
def lw_Z (below : List Frame) (a : Array Value) (s : State) : State → Prop := fun t => ∃ o, t.status = .running ∧ Ended t below o ∧ lw_Q a s o t
/-- the law's own end, with 1 on the stack, nothing written that was there before, its room as the claim has it -/
theorem lw_ret {p : Program} {l : Launch} {e : Env} {s : State} {m : MethodId} {below : List Frame} {meth : Method} {c : Code} {b : Nat} (hx : p.tables.exec = Jvm.exec) (hb : c.code = code) (hr : meth.sig.returnType = ret) (hlocks : meth.locks = false) {pc : Nat} {H : Heap} {ls : Array Slot} (hdg : decode code pc = .ok (.ireturn, 1)) : W p l e room_1 s m #[Value.ref b] below meth c H [] 601024 7293034 (lw_Z below #[Value.ref b] s) (F0 m pc ls [.int 1]) := by
  intro T hT X
  obtain ⟨fs, hret, hrun, hended, hW, hframe⟩ := X.leave (v := some (.int 1)) (hlocks := hlocks) (fun h => by rw [hr] at h; cases h)
  have hmeth' : T.vm.method? m = some meth := X.method'
  refine ⟨T.setFrames fs, ?_, .returned (some (.int 1)), hrun, hended, rfl, ⟨_, rfl⟩, hW, hframe⟩
  jvm_step X.here [X.here.top, hx, hb, hdg, hmeth', hr, ret, narrow_b1]
  (try refine ⟨rfl, ?_⟩); (try refine ⟨rfl, ?_⟩)
  first | (intro acts; rw [hret _ acts rfl rfl rfl]) | rw [hret _ _ rfl rfl rfl]
  exact Steps.refl _
/-- what holds at the law's entry: the machine, the code, the tables' words (any of lw_tbl by 'hts w (by decide +kernel)'), the script of L ints xs at the cell b, what the Statement gives of the start (any of its parts by flat_of_before) -/
def lw_At (p : Program) (s : State) (m : MethodId) (meth : Method) (c : Code) (b L : Nat) (xs : Nat → Int32) : Prop :=
  p.tables.exec = Jvm.exec ∧ c.code = code ∧ meth.sig.returnType = ret ∧ c.maxLocals = 7 ∧ s.vm.findClass R_law = some m.cls ∧ (∀ w ∈ lw_tbl, w.before #[Value.ref b] s = true) ∧ va_X b L xs s s.heap ∧ b < s.heap.size ∧ meth.locks = false ∧ (Jvm.Cond.and given_1 narrow_1).before #[Value.ref b] s = true
theorem mm_i01 : Cond.not (.castable (mm_en 0) (mm_en 1)) ∈ flatC (Jvm.Cond.and given_1 narrow_1) := by decide +kernel
theorem mm_i02 : Cond.not (.castable (mm_en 0) (mm_en 2)) ∈ flatC (Jvm.Cond.and given_1 narrow_1) := by decide +kernel
theorem mm_i10 : Cond.not (.castable (mm_en 1) (mm_en 0)) ∈ flatC (Jvm.Cond.and given_1 narrow_1) := by decide +kernel
theorem mm_i12 : Cond.not (.castable (mm_en 1) (mm_en 2)) ∈ flatC (Jvm.Cond.and given_1 narrow_1) := by decide +kernel
theorem mm_i20 : Cond.not (.castable (mm_en 2) (mm_en 0)) ∈ flatC (Jvm.Cond.and given_1 narrow_1) := by decide +kernel
theorem mm_i21 : Cond.not (.castable (mm_en 2) (mm_en 1)) ∈ flatC (Jvm.Cond.and given_1 narrow_1) := by decide +kernel
theorem mm_insA : ∀ ci, ci < 6 → Cond.instantiable (mm_cl ci).1 (mm_cl ci).2.2 ∈ mm_w := lt_s (lt_s (lt_s (lt_s (lt_s (lt_s lt_0 ((mm_NA (2, 50, 9, 0) (by decide)).1 rfl).2.2.1) ((mm_NA (0, 50, 9, 1) (by decide)).1 rfl).2.2.1) ((mm_NA (4, 50, 22, 2) (by decide)).1 rfl).2.2.1) ((mm_NA (4, 50, 9, 3) (by decide)).1 rfl).2.2.1) ((mm_NA (6, 50, 8, 4) (by decide)).1 rfl).2.2.1) ((mm_NA (6, 50, 65, 5) (by decide)).1 rfl).2.2.1
/-- THE PURE CLAIM: the law's run, in MM -/
def mm_LAW : Prop := ∀ scr : List Int, scr.length ≤ 2048 → (∀ z ∈ scr, mm_rng z) → ∃ (n : Nat) (h' : mm_H), mm_go n 139 0 ([mm_P 999].map some ++ List.replicate (7 - [mm_P 999].length) none) [] ([], (0, (0, scr))) = some (.inl (some (mm_I 1)), h') ∧ h'.2.1 ≤ 601024 ∧ h'.2.2.1 ≤ 7293034
theorem mm_forget {s t : State} {Ls : List Loc} {mc ms k n : Nat} (h : s.sameButNew ({ t with vm := s.vm } : State) Ls mc ms) (hL : ∀ q ∈ Ls, s.heap.size ≤ q.base) (h1 : mc ≤ k) (h2 : ms ≤ n) : s.sameButNew ({ t with vm := s.vm } : State) [] k n := by
  obtain ⟨e1, e2, e3, e4, e5, e6⟩ := h
  refine ⟨e1, e2, by omega, e4, by omega, fun a c hc => ?_⟩
  obtain ⟨c', q1, q2, q3, q4⟩ := e6 a c hc
  refine ⟨c', q1, q2, q3, fun i _ => q4 i (fun hm => ?_)⟩
  have h3 := hL _ hm
  have h4 : a < s.heap.size := (Array.getElem?_eq_some_iff.mp hc).1
  have h5 : s.heap.size ≤ a := h3
  exact Nat.not_lt.mpr h5 h4
set_option maxHeartbeats 4000000 in
theorem whole_start (hLAW : mm_LAW) {p : Program} {e : Env} {s : State} {m : MethodId} {below : List Frame} {meth : Method} {c : Code} (l : Launch) (hflags : l.flags = flags0) {b L : Nat} {xs : Nat → Int32} (hL : L ≤ 2048) (C0 : lw_At p s m meth c b L xs) (hname : meth.name = "law") (htab : c.exceptionTable.toList = []) : W p l e room_1 s m #[Value.ref b] below meth c s.heap [] 0 0 (lw_Z below #[Value.ref b] s) (entryFrame m ([Value.ref b] : List Value).toArray 7) := by
  obtain ⟨hx, hb, hr, hml, hown, hts, hX, hbl, hlocks, hgv⟩ := id C0
  have htr : l.stackTraces = false := by
    rw [Launch.stackTraces, hflags]
    decide +kernel
  have htw : ∀ w ∈ mm_w, w.before #[Value.ref b] s = true := fun w hw => hts w (List.mem_filter.mp hw).1
  have hfl := flat_of_before _ hgv
  have hC : ∀ ci, ∃ (cC : ClassId) (iS : Nat → Nat), ci < 6 → u_Kn s (mm_cl ci).1 (mm_cl ci).2.1 (mm_cl ci).2.2 cC iS := by
    intro ci
    by_cases h6 : ci < 6
    · obtain ⟨cC, iS, hK⟩ := u_known (C := (mm_cl ci).1) (T := (mm_cl ci).2.1) (N := (mm_cl ci).2.2) (n := (mm_cl ci).2.2) htw (mm_CA ci h6).2.1 (htw _ (mm_insA ci h6))
      exact ⟨cC, iS, fun _ => hK⟩
    · exact ⟨m.cls, fun _ => 0, fun h => absurd h h6⟩
  obtain ⟨D, hD⟩ : ∃ D : va_G, ∀ (k : Nat) (q : vw_C), vwCl[k]? = some q → u_Kn s q.1 q.2.1 q.2.2 (D.1 k) (D.2 k) := by
    refine ⟨(fun k => Classical.choose (hC k), fun k => Classical.choose (Classical.choose_spec (hC k))), fun k q hq => ?_⟩
    have h6 : k < 6 := (List.getElem?_eq_some_iff.mp hq).1
    have e1 := (mm_CA k h6).1
    have e2 : q = mm_cl k := Option.some.inj (hq.symm.trans e1)
    rw [e2]
    exact Classical.choose_spec (Classical.choose_spec (hC k)) h6
  obtain ⟨cI, kI, cpI, i1, i2, i3⟩ := Cond.arrayClass_spec (htw _ mm_wAr.1)
  obtain ⟨cL, kL, cpL, l1, l2, l3⟩ := Cond.arrayClass_spec (htw _ mm_wAr.2)
  obtain ⟨cpW, cW, kW, w1, w2, w3, w4, w5⟩ := Cond.arrayOver_spec (hts _ mm_aoW)
  have hKt : va_K D vwCl (mm_tys (b, (s.heap.size, (cI, (cL, cW))))) s := by
    refine ⟨hD, fun k q hq => ?_⟩
    match k, hq with
    | 0, hq => cases hq; exact ⟨fun n z => ⟨fun k h => (by cases h), kI, i2, cpI, i3⟩, i1⟩
    | 1, hq => cases hq; exact ⟨fun n z => ⟨fun k h => (by cases h), kL, l2, cpL, l3⟩, l1⟩
    | 2, hq => cases hq; exact ⟨fun n z => ⟨fun k h => (by cases h), kW, w3, cpW, w4⟩, kW, cpW, w3, w4, w1, w5⟩
    | k + 3, hq => simp [mm_tys] at hq
  have hnA : ∀ a : Nat, a < s.heap.size → ¬ mm_A (b, (s.heap.size, (cI, (cL, cW)))) a := fun a ha => Nat.not_le.mpr ha
  have hini : (Cond.initialized Bundle.tN).before #[Value.ref b] s = true := hts _ (List.mem_of_getElem? (i := 40) (by decide +kernel))
  have K : mm_K (b, (s.heap.size, (cI, (cL, cW)))) D L xs s := by
    refine ⟨hKt, vx_Zqof (hts _ (List.mem_of_getElem? (i := 353) (by decide +kernel))) hini (hfl _ (by decide +kernel)) hnA, vx_Zqof (hts _ (List.mem_of_getElem? (i := 355) (by decide +kernel))) hini (hfl _ (by decide +kernel)) hnA, fun a ha => ?_, fun E hE w hw => ?_, ?_, fun q hq => va_Nw.of rfl (hts _ (mm_nestW q hq)), va_AO.of (hts _ mm_aoW), hX, hbl, Nat.le_refl _, hL⟩
    · have h1 := hts _ (mm_strA ha)
      have h0 : ∃ cur, s.vm.findClass RX4 = some cur := ⟨_, (hD 4 _ rfl).2.1⟩
      obtain ⟨cur, hcur⟩ := h0
      obtain ⟨-, -, -, sa, -, -, -, -, -, hev⟩ := Cond.stringRef_spec hcur h1
      exact ⟨sa, vk_R.of h1 hev⟩
    · refine va_Nw.of (mm_badT w hw) (hts _ ?_)
      unfold mm_bad at hw
      rcases List.mem_cons.mp hw with rfl | hw
      · exact mm_castW E hE
      rcases List.mem_cons.mp hw with rfl | hw
      · exact mm_decW0
      rcases List.mem_cons.mp hw with rfl | hw
      · exact mm_decW1
      rcases List.mem_cons.mp hw with rfl | hw
      · exact mm_decW2
      cases hw
    · intro E F hE hF hne
      have h3 : (E = 0 ∨ E = 1 ∨ E = 2) ∧ (F = 0 ∨ F = 1 ∨ F = 2) := by omega
      obtain ⟨rfl | rfl | rfl, rfl | rfl | rfl⟩ := h3
      · exact absurd rfl hne
      · exact va_Nc.of (hfl _ mm_i01)
      · exact va_Nc.of (hfl _ mm_i02)
      · exact va_Nc.of (hfl _ mm_i10)
      · exact absurd rfl hne
      · exact va_Nc.of (hfl _ mm_i12)
      · exact va_Nc.of (hfl _ mm_i20)
      · exact va_Nc.of (hfl _ mm_i21)
      · exact absurd rfl hne
  obtain ⟨n, h', hrun, hc1, hc2⟩ := hLAW (mm_scr L xs) (by unfold mm_scr; rw [List.length_map, List.length_range]; exact hL) (fun z hz => by
    unfold mm_scr at hz
    obtain ⟨j, -, rfl⟩ := List.mem_map.mp hz
    exact mm_rT _)
  have X : mm_X 139 l p room_1 s m #[Value.ref b] meth c := ⟨hx, hb, hml, hr, hlocks, hname, hown, htw, htab, by decide +kernel, by decide +kernel, htr⟩
  have hsr : ∀ z ∈ mm_scr L xs, mm_rng z := by
    intro z hz
    unfold mm_scr at hz
    obtain ⟨j, -, rfl⟩ := List.mem_map.mp hz
    exact mm_rT _
  have hR0 : mm_Rl (b, (s.heap.size, (cI, (cL, cW)))) D ([], (0, (0, mm_scr L xs))) s.heap := ⟨fun k q hk => by simp [mm_ws] at hk, Nat.zero_le _, (fun c hc => absurd hc List.not_mem_nil), hsr⟩
  have hok0 : ∀ v ∈ [mm_P 999], mm_ok v := by
    intro v hv
    rcases List.mem_cons.mp hv with rfl | hv
    · trivial
    · cases hv
  have k := mm_all n 139 0 _ _ _ _ h' hrun p e room_1 s m #[Value.ref b] below meth c (b, (s.heap.size, (cI, (cL, cW)))) D 0 0 L xs h'.2.1 h'.2.2.1 X K (Nat.le_refl _) rfl rfl hc1 hc2 s.heap [] 0 0 _ va_S.rf hR0 (mm_entry (nL := 7) (av := [mm_P 999]) rfl hok0 (by decide)) (fun v hv => by cases hv) rfl rfl rfl
  rw [mm_nx0 139 (by decide)] at k
  rw [lg_entry_eq]
  intro T hT X9
  obtain ⟨t, a1, o, b1, b2, b3⟩ := k T hT X9
  refine ⟨t, a1, o, b1, b2, ?_⟩
  rcases b3 with ⟨⟨⟨v, hv, ho, -, -⟩, -⟩, Ls, ⟨f1, f2, f3⟩, hLs⟩ | ⟨q, -, E, ce, L9, ⟨⟨k9, hk9, -⟩, -⟩, -⟩
  · cases hv
    exact ⟨ho, f1, f2, mm_forget f3 (fun q hq => hLs q hq) hc1 hc2⟩
  · cases hk9
end
section
set_option maxHeartbeats 4000000 in
theorem lw_walk (hLAW : mm_LAW) (l : Launch) (hflags : l.flags = flags0) (b : Addr) (xs : List Int32) : MetFree l x (headSpec (Jvm.Cond.code x code maxLocals ret :: tables_1) room_1) (lw_P b xs) (fun _ _ _ _ _ => True) lw_Q := by
  refine MetFree.of_bodyS (code := code) (maxLocals := maxLocals) (ret := ret) (by decide) ?_ ?_
  · intro args s m h hn
    obtain ⟨meth, c, h1, h2, h3, h4, h5, h6, -, -⟩ := Cond.code_spec hn (atoms_spec (ws := Jvm.Cond.code x code maxLocals ret :: tables_1) h _ List.mem_cons_self)
    exact ⟨meth, c, h1, h2, h3, h4, h5, h6⟩
  · intro p e s m args below meth c s₁ B hml0 hP _
    obtain ⟨rfl, hx, hbd, hgv⟩ := hP
    obtain ⟨scr, harrAt, hlist, hof, hsmall⟩ := hx
    obtain ⟨hcb, hkn, -, -⟩ := State.arrayAt?_spec harrAt
    have hown : s.vm.findClass R_law = some m.cls := findClass_of_methodNamed B.named
    have hts0 : ∀ c ∈ (Jvm.Cond.code x code maxLocals ret :: tables_1), c.before #[Value.ref b] s = true := atoms_spec (ws := Jvm.Cond.code x code maxLocals ret :: tables_1) B.pre
    have hts : ∀ w ∈ lw_tbl, w.before #[Value.ref b] s = true := k2_hts_sels lw_privs (fun w hw => hts0 w (List.mem_cons_of_mem _ hw)) lw_privs_ok
    have hml : c.maxLocals = 7 := B.maxLocals_eq (hts0 _ List.mem_cons_self)
    have htab : c.exceptionTable.toList = [] := by
      obtain ⟨meth9, c9, h1, h2, -, -, -, -, h7, -⟩ := Cond.code_spec B.named (hts0 _ List.mem_cons_self)
      cases Option.some.inj (h1.symm.trans B.method)
      cases Option.some.inj (h2.symm.trans (Stand.of_body B).code)
      exact Array.isEmpty_iff.mp h7 ▸ rfl
    have X₀ : Stand p l e room_1 s m #[Value.ref b] below meth c s₁ [] 0 0 := Stand.of_body B
    have hh0 : s₁.heap = s.heap := by rw [B.state]; rfl
    have hsz : scr.slots.size = xs.length := by rw [← Array.length_toList, hlist, List.length_map]
    have hval : ∀ j : Nat, j < xs.length → scr.slots[j]? = some (.int (xs.getD j 0)) := fun j hj => by
      rw [← Array.getElem?_toList, hlist]
      simp [hj]
    have hbl : b < s.heap.size := (Array.getElem?_eq_some_iff.mp hcb).1
    have hX : va_X b xs.length (fun j => xs.getD j 0) s s.heap := ⟨scr, hcb, hof, hkn, hsz, hval⟩
    have K : W p l e room_1 s m #[Value.ref b] below meth c s₁.heap [] 0 0 (lw_Z below #[Value.ref b] s) (entryFrame m ([Value.ref b] : List Value).toArray 7) := by
      rw [hh0]
      exact whole_start hLAW l hflags hbd ⟨B.exec, B.bytes, B.returns, hml, hown, hts, hX, hbl, B.notSynchronized, hgv⟩ (name_of_methodNamed B.named B.method).1 htab
    obtain ⟨t, a1, o, b1, b2, b3⟩ := K s₁ rfl X₀
    exact ⟨t, o, a1, b1, b2, b3⟩
theorem lw_pre_spec {args : Array Value} {s : State} (h : (Jvm.Cond.and given_1 narrow_1).before args s = true) (hr : rest_1_c.before args s = true) : ∃ (b : Addr) (xs : List Int32), lw_P b xs args s := by
  have hs := flat_of_before _ h
  have hq := flat_of_before _ hr
  have hc : (Cond.count 1).before args s = true := hs _ (by decide +kernel)
  have harr : (Cond.arrayOf (.arg 0) .int).before args s = true := hs _ (by decide +kernel)
  have hle : (Cond.le (.length (.arg 0)) (.int 2048)).before args s = true := hs _ (by decide +kernel)
  have hlen : (Cond.isInt (.length (.arg 0))).before args s = true := hq _ (by decide +kernel)
  have hall : (Cond.all (.arg 0) (.isInt (.elem (.arg 0) (.index 0)))).before args s = true := hq _ (by decide +kernel)
  obtain ⟨b, xs, hb, hx⟩ := State.ints_of_pre rfl harr hlen hall
  have hsm : xs.length < 2 ^ 31 := hx.choose_spec.2.2.2
  have hev : (Term.length (.arg 0)).eval args s none [] s = some (.int xs.length.toInt32) := hx.length_eval hb
  have hv := Cond.le_ints hev (show (Term.int 2048).eval args s none [] s = some (.int 2048) from rfl)
  have hd : xs.length.toInt32 ≤ 2048 := by
    simpa [Cond.before, Cond.holds, hv] using hle
  have hN : xs.length ≤ 2048 := (Int32.ofNat_le_ofNat hsm (by decide)).mp (show Int32.ofNat xs.length ≤ Int32.ofNat 2048 from hd)
  exact ⟨b, xs, Cond.one_arg hc (show args[0]? = some (.ref b) from hb), hx, hN, h⟩
theorem lw_comes (hLAW : mm_LAW) (l : Launch) (hflags : l.flags = flags0) : Comes l x (Jvm.Cond.code x code maxLocals ret :: tables_1) room_1 (fun tb e args s => Calls_1 tb e args s ∧ rest_1 tb e args s ∧ Pre_1 tb e args s)
    (fun _ _ args s o t => lw_Q args s o t) := by
  intro p e ha hc hk s m args below hf hfit hheap happ hpre
  obtain ⟨b, xs, hP⟩ := lw_pre_spec hpre.2.2 hpre.2.1
  obtain ⟨k, o, h1, h2, h3, hQ⟩ := lw_walk hLAW l hflags b xs p e ha hc hk s m args below hf ((Spec.applies_iff_loose hf).mp happ).1 hP trivial
  exact ⟨k, o, h1, h2, h3, hQ⟩
theorem lw_frame {s t : State} {o : Outcome} {args : Array Value} (h : Framed s o t [] 601024 7293034) :
    Framed s o t (fieldLocs frame_1_writes args s ++ arrayLocs frame_1_arrays args s ++ staticLocs frame_1_statics s) 601024 7293034 := h
theorem lw_limb (hLAW : mm_LAW) (L : Cond) (hL : ∀ (args : Array Value) (s t : State), L.after args s (.returned (some (.int 1))) t = true) :
    ArmFor flags0 classFile x code maxLocals ret World_1 tables_1 room_1 Calls_1 rest_1 Pre_1
      (fun tb e a s o t => postC L tb e a s o t ∧ Framed s o t (fieldLocs frame_1_writes a s ++ arrayLocs frame_1_arrays a s ++ staticLocs frame_1_statics s) 601024 7293034) := by
  intro l hflags _ _ p e ha hc hk s m args below hf hfit hheap happ hpre
  obtain ⟨k, o, h1, h2, h3, rfl, hF⟩ := lw_comes hLAW l hflags p e ha hc hk s m args below hf hfit hheap happ hpre
  exact ⟨k, _, h1, h2, h3, hL args s _, lw_frame hF⟩
end
section
/-! printed by wip/whole/gen19.py: each row of each method -/
theorem mc_0_0 : mm_code 0 0 = some (0, (5, (0, 0))) := by decide +kernel
theorem mc_0_1 : mm_code 0 1 = some (1, (57, (3, 0))) := by decide +kernel
theorem mc_0_2 : mm_code 0 2 = some (4, (5, (0, 0))) := by decide +kernel
theorem mc_0_3 : mm_code 0 3 = some (5, (50, (9, 1))) := by decide +kernel
theorem mc_0_4 : mm_code 0 4 = some (8, (21, (0, 0))) := by decide +kernel
theorem mc_0_5 : mm_code 0 5 = some (9, (108, (0, 0))) := by decide +kernel
theorem mc_0_6 : mm_code 0 6 = some (12, (42, (0, 0))) := by decide +kernel
theorem mc_0_7 : mm_code 0 7 = some (15, (5, (0, 0))) := by decide +kernel
theorem mc_0_8 : mm_code 0 8 = some (16, (2, (0, 5226))) := by decide +kernel
theorem mc_0_9 : mm_code 0 9 = some (19, (51, (0, 0))) := by decide +kernel
theorem mc_0_10 : mm_code 0 10 = some (21, (42, (1, 0))) := by decide +kernel
theorem mc_0_11 : mm_code 0 11 = some (24, (5, (0, 0))) := by decide +kernel
theorem mc_0_12 : mm_code 0 12 = some (25, (2, (0, 201))) := by decide +kernel
theorem mc_0_13 : mm_code 0 13 = some (28, (51, (0, 0))) := by decide +kernel
theorem mc_0_14 : mm_code 0 14 = some (30, (42, (2, 0))) := by decide +kernel
theorem mc_0_15 : mm_code 0 15 = some (33, (5, (0, 0))) := by decide +kernel
theorem mc_0_16 : mm_code 0 16 = some (34, (2, (0, 201))) := by decide +kernel
theorem mc_0_17 : mm_code 0 17 = some (37, (51, (0, 0))) := by decide +kernel
theorem mc_0_18 : mm_code 0 18 = some (39, (42, (3, 0))) := by decide +kernel
theorem mc_0_19 : mm_code 0 19 = some (42, (5, (0, 0))) := by decide +kernel
theorem mc_0_20 : mm_code 0 20 = some (43, (2, (0, 201))) := by decide +kernel
theorem mc_0_21 : mm_code 0 21 = some (46, (51, (0, 0))) := by decide +kernel
theorem mc_0_22 : mm_code 0 22 = some (48, (42, (4, 0))) := by decide +kernel
theorem mc_0_23 : mm_code 0 23 = some (51, (5, (0, 0))) := by decide +kernel
theorem mc_0_24 : mm_code 0 24 = some (52, (0, (0, 4))) := by decide +kernel
theorem mc_0_25 : mm_code 0 25 = some (53, (51, (0, 0))) := by decide +kernel
theorem mc_0_26 : mm_code 0 26 = some (55, (42, (5, 0))) := by decide +kernel
theorem mc_0_27 : mm_code 0 27 = some (58, (5, (0, 0))) := by decide +kernel
theorem mc_0_28 : mm_code 0 28 = some (59, (105, (1, 0))) := by decide +kernel
theorem mc_0_29 : mm_code 0 29 = some (62, (103, (0, 0))) := by decide +kernel
theorem mc_1_0 : mm_code 1 0 = some (0, (5, (0, 0))) := by decide +kernel
theorem mc_1_1 : mm_code 1 1 = some (1, (0, (0, 0))) := by decide +kernel
theorem mc_1_2 : mm_code 1 2 = some (2, (41, (6, 0))) := by decide +kernel
theorem mc_1_3 : mm_code 1 3 = some (5, (5, (0, 0))) := by decide +kernel
theorem mc_1_4 : mm_code 1 4 = some (6, (0, (0, 0))) := by decide +kernel
theorem mc_1_5 : mm_code 1 5 = some (7, (0, (0, (-1)))) := by decide +kernel
theorem mc_1_6 : mm_code 1 6 = some (8, (105, (2, 0))) := by decide +kernel
theorem mc_1_7 : mm_code 1 7 = some (11, (23, (0, 0))) := by decide +kernel
theorem mc_1_8 : mm_code 1 8 = some (12, (0, (0, 0))) := by decide +kernel
theorem mc_1_9 : mm_code 1 9 = some (13, (7, (1, 0))) := by decide +kernel
theorem mc_1_10 : mm_code 1 10 = some (14, (3, (1, 0))) := by decide +kernel
theorem mc_1_11 : mm_code 1 11 = some (15, (5, (0, 0))) := by decide +kernel
theorem mc_1_12 : mm_code 1 12 = some (16, (40, (5, 0))) := by decide +kernel
theorem mc_1_13 : mm_code 1 13 = some (19, (49, (0, 0))) := by decide +kernel
theorem mc_1_14 : mm_code 1 14 = some (20, (34, (22, 16))) := by decide +kernel
theorem mc_1_15 : mm_code 1 15 = some (23, (5, (0, 0))) := by decide +kernel
theorem mc_1_16 : mm_code 1 16 = some (24, (40, (5, 0))) := by decide +kernel
theorem mc_1_17 : mm_code 1 17 = some (27, (3, (1, 0))) := by decide +kernel
theorem mc_1_18 : mm_code 1 18 = some (28, (0, (0, 0))) := by decide +kernel
theorem mc_1_19 : mm_code 1 19 = some (29, (44, (0, 0))) := by decide +kernel
theorem mc_1_20 : mm_code 1 20 = some (30, (20, (1, 1))) := by decide +kernel
theorem mc_1_21 : mm_code 1 21 = some (33, (24, (10, (-19)))) := by decide +kernel
theorem mc_1_22 : mm_code 1 22 = some (36, (103, (0, 0))) := by decide +kernel
theorem mc_2_0 : mm_code 2 0 = some (0, (5, (0, 0))) := by decide +kernel
theorem mc_2_1 : mm_code 2 1 = some (1, (40, (6, 0))) := by decide +kernel
theorem mc_2_2 : mm_code 2 2 = some (4, (100, (0, 0))) := by decide +kernel
theorem mc_3_0 : mm_code 3 0 = some (0, (3, (1, 0))) := by decide +kernel
theorem mc_3_1 : mm_code 3 1 = some (1, (5, (0, 0))) := by decide +kernel
theorem mc_3_2 : mm_code 3 2 = some (2, (40, (6, 0))) := by decide +kernel
theorem mc_3_3 : mm_code 3 3 = some (5, (107, (3, 0))) := by decide +kernel
theorem mc_3_4 : mm_code 3 4 = some (8, (25, (15, 21))) := by decide +kernel
theorem mc_3_5 : mm_code 3 5 = some (11, (3, (1, 0))) := by decide +kernel
theorem mc_3_6 : mm_code 3 6 = some (12, (5, (0, 0))) := by decide +kernel
theorem mc_3_7 : mm_code 3 7 = some (13, (40, (4, 0))) := by decide +kernel
theorem mc_3_8 : mm_code 3 8 = some (16, (49, (0, 0))) := by decide +kernel
theorem mc_3_9 : mm_code 3 9 = some (17, (34, (15, 12))) := by decide +kernel
theorem mc_3_10 : mm_code 3 10 = some (20, (5, (0, 0))) := by decide +kernel
theorem mc_3_11 : mm_code 3 11 = some (21, (40, (4, 0))) := by decide +kernel
theorem mc_3_12 : mm_code 3 12 = some (24, (3, (1, 0))) := by decide +kernel
theorem mc_3_13 : mm_code 3 13 = some (25, (43, (0, 0))) := by decide +kernel
theorem mc_3_14 : mm_code 3 14 = some (26, (24, (16, 4))) := by decide +kernel
theorem mc_3_15 : mm_code 3 15 = some (29, (0, (0, (-1)))) := by decide +kernel
theorem mc_3_16 : mm_code 3 16 = some (30, (100, (0, 0))) := by decide +kernel
theorem mc_4_0 : mm_code 4 0 = some (0, (0, (0, 0))) := by decide +kernel
theorem mc_4_1 : mm_code 4 1 = some (1, (7, (1, 0))) := by decide +kernel
theorem mc_4_2 : mm_code 4 2 = some (2, (0, (0, 1))) := by decide +kernel
theorem mc_4_3 : mm_code 4 3 = some (3, (7, (2, 0))) := by decide +kernel
theorem mc_4_4 : mm_code 4 4 = some (4, (3, (2, 0))) := by decide +kernel
theorem mc_4_5 : mm_code 4 5 = some (5, (5, (0, 0))) := by decide +kernel
theorem mc_4_6 : mm_code 4 6 = some (6, (40, (6, 0))) := by decide +kernel
theorem mc_4_7 : mm_code 4 7 = some (9, (34, (22, 25))) := by decide +kernel
theorem mc_4_8 : mm_code 4 8 = some (12, (3, (1, 0))) := by decide +kernel
theorem mc_4_9 : mm_code 4 9 = some (13, (5, (0, 0))) := by decide +kernel
theorem mc_4_10 : mm_code 4 10 = some (14, (3, (2, 0))) := by decide +kernel
theorem mc_4_11 : mm_code 4 11 = some (15, (105, (4, 0))) := by decide +kernel
theorem mc_4_12 : mm_code 4 12 = some (18, (5, (0, 0))) := by decide +kernel
theorem mc_4_13 : mm_code 4 13 = some (19, (3, (2, 0))) := by decide +kernel
theorem mc_4_14 : mm_code 4 14 = some (20, (105, (5, 0))) := by decide +kernel
theorem mc_4_15 : mm_code 4 15 = some (23, (12, (0, 0))) := by decide +kernel
theorem mc_4_16 : mm_code 4 16 = some (24, (0, (0, 1))) := by decide +kernel
theorem mc_4_17 : mm_code 4 17 = some (25, (11, (0, 0))) := by decide +kernel
theorem mc_4_18 : mm_code 4 18 = some (26, (11, (0, 0))) := by decide +kernel
theorem mc_4_19 : mm_code 4 19 = some (27, (7, (1, 0))) := by decide +kernel
theorem mc_4_20 : mm_code 4 20 = some (28, (20, (2, 1))) := by decide +kernel
theorem mc_4_21 : mm_code 4 21 = some (31, (24, (4, (-27)))) := by decide +kernel
theorem mc_4_22 : mm_code 4 22 = some (34, (3, (1, 0))) := by decide +kernel
theorem mc_4_23 : mm_code 4 23 = some (35, (100, (0, 0))) := by decide +kernel
theorem mc_5_0 : mm_code 5 0 = some (0, (3, (1, 0))) := by decide +kernel
theorem mc_5_1 : mm_code 5 1 = some (1, (27, (10, 19))) := by decide +kernel
theorem mc_5_2 : mm_code 5 2 = some (4, (3, (1, 0))) := by decide +kernel
theorem mc_5_3 : mm_code 5 3 = some (5, (2, (0, 201))) := by decide +kernel
theorem mc_5_4 : mm_code 5 4 = some (8, (34, (10, 12))) := by decide +kernel
theorem mc_5_5 : mm_code 5 5 = some (11, (5, (0, 0))) := by decide +kernel
theorem mc_5_6 : mm_code 5 6 = some (12, (40, (2, 0))) := by decide +kernel
theorem mc_5_7 : mm_code 5 7 = some (15, (3, (1, 0))) := by decide +kernel
theorem mc_5_8 : mm_code 5 8 = some (16, (43, (0, 0))) := by decide +kernel
theorem mc_5_9 : mm_code 5 9 = some (17, (24, (11, 4))) := by decide +kernel
theorem mc_5_10 : mm_code 5 10 = some (20, (0, (0, 0))) := by decide +kernel
theorem mc_5_11 : mm_code 5 11 = some (21, (100, (0, 0))) := by decide +kernel
theorem mc_6_0 : mm_code 6 0 = some (0, (5, (0, 0))) := by decide +kernel
theorem mc_6_1 : mm_code 6 1 = some (1, (5, (0, 0))) := by decide +kernel
theorem mc_6_2 : mm_code 6 2 = some (2, (3, (1, 0))) := by decide +kernel
theorem mc_6_3 : mm_code 6 3 = some (3, (105, (6, 0))) := by decide +kernel
theorem mc_6_4 : mm_code 6 4 = some (6, (105, (4, 0))) := by decide +kernel
theorem mc_6_5 : mm_code 6 5 = some (9, (0, (0, 1))) := by decide +kernel
theorem mc_6_6 : mm_code 6 6 = some (10, (11, (0, 0))) := by decide +kernel
theorem mc_6_7 : mm_code 6 7 = some (11, (100, (0, 0))) := by decide +kernel
theorem mc_7_0 : mm_code 7 0 = some (0, (3, (1, 0))) := by decide +kernel
theorem mc_7_1 : mm_code 7 1 = some (1, (27, (12, 24))) := by decide +kernel
theorem mc_7_2 : mm_code 7 2 = some (4, (3, (1, 0))) := by decide +kernel
theorem mc_7_3 : mm_code 7 3 = some (5, (2, (0, 201))) := by decide +kernel
theorem mc_7_4 : mm_code 7 4 = some (8, (34, (12, 17))) := by decide +kernel
theorem mc_7_5 : mm_code 7 5 = some (11, (3, (2, 0))) := by decide +kernel
theorem mc_7_6 : mm_code 7 6 = some (12, (27, (12, 13))) := by decide +kernel
theorem mc_7_7 : mm_code 7 7 = some (15, (3, (2, 0))) := by decide +kernel
theorem mc_7_8 : mm_code 7 8 = some (16, (1, (0, 26))) := by decide +kernel
theorem mc_7_9 : mm_code 7 9 = some (18, (34, (12, 7))) := by decide +kernel
theorem mc_7_10 : mm_code 7 10 = some (21, (0, (0, 1))) := by decide +kernel
theorem mc_7_11 : mm_code 7 11 = some (22, (24, (13, 4))) := by decide +kernel
theorem mc_7_12 : mm_code 7 12 = some (25, (0, (0, 0))) := by decide +kernel
theorem mc_7_13 : mm_code 7 13 = some (26, (7, (3, 0))) := by decide +kernel
theorem mc_7_14 : mm_code 7 14 = some (27, (3, (3, 0))) := by decide +kernel
theorem mc_7_15 : mm_code 7 15 = some (28, (25, (25, 17))) := by decide +kernel
theorem mc_7_16 : mm_code 7 16 = some (31, (5, (0, 0))) := by decide +kernel
theorem mc_7_17 : mm_code 7 17 = some (32, (40, (1, 0))) := by decide +kernel
theorem mc_7_18 : mm_code 7 18 = some (35, (3, (1, 0))) := by decide +kernel
theorem mc_7_19 : mm_code 7 19 = some (36, (1, (0, 26))) := by decide +kernel
theorem mc_7_20 : mm_code 7 20 = some (38, (13, (0, 0))) := by decide +kernel
theorem mc_7_21 : mm_code 7 21 = some (39, (3, (2, 0))) := by decide +kernel
theorem mc_7_22 : mm_code 7 22 = some (40, (11, (0, 0))) := by decide +kernel
theorem mc_7_23 : mm_code 7 23 = some (41, (43, (0, 0))) := by decide +kernel
theorem mc_7_24 : mm_code 7 24 = some (42, (24, (26, 4))) := by decide +kernel
theorem mc_7_25 : mm_code 7 25 = some (45, (0, (0, (-1)))) := by decide +kernel
theorem mc_7_26 : mm_code 7 26 = some (46, (100, (0, 0))) := by decide +kernel
theorem mc_8_0 : mm_code 8 0 = some (0, (3, (1, 0))) := by decide +kernel
theorem mc_8_1 : mm_code 8 1 = some (1, (5, (0, 0))) := by decide +kernel
theorem mc_8_2 : mm_code 8 2 = some (2, (40, (5, 0))) := by decide +kernel
theorem mc_8_3 : mm_code 8 3 = some (5, (49, (0, 0))) := by decide +kernel
theorem mc_8_4 : mm_code 8 4 = some (6, (107, (3, 0))) := by decide +kernel
theorem mc_8_5 : mm_code 8 5 = some (9, (26, (7, 4))) := by decide +kernel
theorem mc_8_6 : mm_code 8 6 = some (12, (103, (0, 0))) := by decide +kernel
theorem mc_8_7 : mm_code 8 7 = some (13, (5, (0, 0))) := by decide +kernel
theorem mc_8_8 : mm_code 8 8 = some (14, (5, (0, 0))) := by decide +kernel
theorem mc_8_9 : mm_code 8 9 = some (15, (40, (5, 0))) := by decide +kernel
theorem mc_8_10 : mm_code 8 10 = some (18, (3, (1, 0))) := by decide +kernel
theorem mc_8_11 : mm_code 8 11 = some (19, (43, (0, 0))) := by decide +kernel
theorem mc_8_12 : mm_code 8 12 = some (20, (3, (3, 0))) := by decide +kernel
theorem mc_8_13 : mm_code 8 13 = some (21, (105, (7, 0))) := by decide +kernel
theorem mc_8_14 : mm_code 8 14 = some (24, (8, (4, 0))) := by decide +kernel
theorem mc_8_15 : mm_code 8 15 = some (26, (5, (0, 0))) := by decide +kernel
theorem mc_8_16 : mm_code 8 16 = some (27, (40, (5, 0))) := by decide +kernel
theorem mc_8_17 : mm_code 8 17 = some (30, (3, (1, 0))) := by decide +kernel
theorem mc_8_18 : mm_code 8 18 = some (31, (4, (4, 0))) := by decide +kernel
theorem mc_8_19 : mm_code 8 19 = some (33, (44, (0, 0))) := by decide +kernel
theorem mc_8_20 : mm_code 8 20 = some (34, (4, (4, 0))) := by decide +kernel
theorem mc_8_21 : mm_code 8 21 = some (36, (8, (5, 0))) := by decide +kernel
theorem mc_8_22 : mm_code 8 22 = some (38, (0, (0, 0))) := by decide +kernel
theorem mc_8_23 : mm_code 8 23 = some (39, (8, (6, 0))) := by decide +kernel
theorem mc_8_24 : mm_code 8 24 = some (41, (4, (6, 0))) := by decide +kernel
theorem mc_8_25 : mm_code 8 25 = some (43, (2, (0, 201))) := by decide +kernel
theorem mc_8_26 : mm_code 8 26 = some (46, (34, (41, 33))) := by decide +kernel
theorem mc_8_27 : mm_code 8 27 = some (49, (4, (5, 0))) := by decide +kernel
theorem mc_8_28 : mm_code 8 28 = some (51, (30, (41, 28))) := by decide +kernel
theorem mc_8_29 : mm_code 8 29 = some (54, (5, (0, 0))) := by decide +kernel
theorem mc_8_30 : mm_code 8 30 = some (55, (40, (0, 0))) := by decide +kernel
theorem mc_8_31 : mm_code 8 31 = some (58, (4, (5, 0))) := by decide +kernel
theorem mc_8_32 : mm_code 8 32 = some (60, (3, (1, 0))) := by decide +kernel
theorem mc_8_33 : mm_code 8 33 = some (61, (3, (2, 0))) := by decide +kernel
theorem mc_8_34 : mm_code 8 34 = some (62, (105, (8, 0))) := by decide +kernel
theorem mc_8_35 : mm_code 8 35 = some (65, (5, (0, 0))) := by decide +kernel
theorem mc_8_36 : mm_code 8 36 = some (66, (4, (5, 0))) := by decide +kernel
theorem mc_8_37 : mm_code 8 37 = some (68, (105, (6, 0))) := by decide +kernel
theorem mc_8_38 : mm_code 8 38 = some (71, (8, (5, 0))) := by decide +kernel
theorem mc_8_39 : mm_code 8 39 = some (73, (20, (6, 1))) := by decide +kernel
theorem mc_8_40 : mm_code 8 40 = some (76, (24, (24, (-35)))) := by decide +kernel
theorem mc_8_41 : mm_code 8 41 = some (79, (103, (0, 0))) := by decide +kernel
theorem mc_9_0 : mm_code 9 0 = some (0, (5, (0, 0))) := by decide +kernel
theorem mc_9_1 : mm_code 9 1 = some (1, (3, (1, 0))) := by decide +kernel
theorem mc_9_2 : mm_code 9 2 = some (2, (3, (2, 0))) := by decide +kernel
theorem mc_9_3 : mm_code 9 3 = some (3, (105, (9, 0))) := by decide +kernel
theorem mc_9_4 : mm_code 9 4 = some (6, (0, (0, (-1)))) := by decide +kernel
theorem mc_9_5 : mm_code 9 5 = some (7, (31, (11, 10))) := by decide +kernel
theorem mc_9_6 : mm_code 9 6 = some (10, (5, (0, 0))) := by decide +kernel
theorem mc_9_7 : mm_code 9 7 = some (11, (3, (1, 0))) := by decide +kernel
theorem mc_9_8 : mm_code 9 8 = some (12, (3, (2, 0))) := by decide +kernel
theorem mc_9_9 : mm_code 9 9 = some (13, (105, (10, 0))) := by decide +kernel
theorem mc_9_10 : mm_code 9 10 = some (16, (100, (0, 0))) := by decide +kernel
theorem mc_9_11 : mm_code 9 11 = some (17, (5, (0, 0))) := by decide +kernel
theorem mc_9_12 : mm_code 9 12 = some (18, (5, (0, 0))) := by decide +kernel
theorem mc_9_13 : mm_code 9 13 = some (19, (3, (1, 0))) := by decide +kernel
theorem mc_9_14 : mm_code 9 14 = some (20, (105, (4, 0))) := by decide +kernel
theorem mc_9_15 : mm_code 9 15 = some (23, (0, (0, 1))) := by decide +kernel
theorem mc_9_16 : mm_code 9 16 = some (24, (11, (0, 0))) := by decide +kernel
theorem mc_9_17 : mm_code 9 17 = some (25, (0, (0, (-1)))) := by decide +kernel
theorem mc_9_18 : mm_code 9 18 = some (26, (105, (2, 0))) := by decide +kernel
theorem mc_9_19 : mm_code 9 19 = some (29, (7, (3, 0))) := by decide +kernel
theorem mc_9_20 : mm_code 9 20 = some (30, (3, (1, 0))) := by decide +kernel
theorem mc_9_21 : mm_code 9 21 = some (31, (8, (4, 0))) := by decide +kernel
theorem mc_9_22 : mm_code 9 22 = some (33, (0, (0, 0))) := by decide +kernel
theorem mc_9_23 : mm_code 9 23 = some (34, (8, (5, 0))) := by decide +kernel
theorem mc_9_24 : mm_code 9 24 = some (36, (4, (5, 0))) := by decide +kernel
theorem mc_9_25 : mm_code 9 25 = some (38, (2, (0, 201))) := by decide +kernel
theorem mc_9_26 : mm_code 9 26 = some (41, (34, (48, 45))) := by decide +kernel
theorem mc_9_27 : mm_code 9 27 = some (44, (4, (4, 0))) := by decide +kernel
theorem mc_9_28 : mm_code 9 28 = some (46, (0, (0, (-1)))) := by decide +kernel
theorem mc_9_29 : mm_code 9 29 = some (47, (31, (48, 39))) := by decide +kernel
theorem mc_9_30 : mm_code 9 30 = some (50, (5, (0, 0))) := by decide +kernel
theorem mc_9_31 : mm_code 9 31 = some (51, (4, (4, 0))) := by decide +kernel
theorem mc_9_32 : mm_code 9 32 = some (53, (3, (2, 0))) := by decide +kernel
theorem mc_9_33 : mm_code 9 33 = some (54, (105, (9, 0))) := by decide +kernel
theorem mc_9_34 : mm_code 9 34 = some (57, (0, (0, (-1)))) := by decide +kernel
theorem mc_9_35 : mm_code 9 35 = some (58, (31, (37, 6))) := by decide +kernel
theorem mc_9_36 : mm_code 9 36 = some (61, (24, (48, 25))) := by decide +kernel
theorem mc_9_37 : mm_code 9 37 = some (64, (5, (0, 0))) := by decide +kernel
theorem mc_9_38 : mm_code 9 38 = some (65, (4, (4, 0))) := by decide +kernel
theorem mc_9_39 : mm_code 9 39 = some (67, (3, (2, 0))) := by decide +kernel
theorem mc_9_40 : mm_code 9 40 = some (68, (3, (3, 0))) := by decide +kernel
theorem mc_9_41 : mm_code 9 41 = some (69, (105, (11, 0))) := by decide +kernel
theorem mc_9_42 : mm_code 9 42 = some (72, (5, (0, 0))) := by decide +kernel
theorem mc_9_43 : mm_code 9 43 = some (73, (4, (4, 0))) := by decide +kernel
theorem mc_9_44 : mm_code 9 44 = some (75, (105, (6, 0))) := by decide +kernel
theorem mc_9_45 : mm_code 9 45 = some (78, (8, (4, 0))) := by decide +kernel
theorem mc_9_46 : mm_code 9 46 = some (80, (20, (5, 1))) := by decide +kernel
theorem mc_9_47 : mm_code 9 47 = some (83, (24, (24, (-47)))) := by decide +kernel
theorem mc_9_48 : mm_code 9 48 = some (86, (5, (0, 0))) := by decide +kernel
theorem mc_9_49 : mm_code 9 49 = some (87, (3, (3, 0))) := by decide +kernel
theorem mc_9_50 : mm_code 9 50 = some (88, (4, (4, 0))) := by decide +kernel
theorem mc_9_51 : mm_code 9 51 = some (90, (0, (0, (-1)))) := by decide +kernel
theorem mc_9_52 : mm_code 9 52 = some (91, (32, (55, 7))) := by decide +kernel
theorem mc_9_53 : mm_code 9 53 = some (94, (0, (0, 0))) := by decide +kernel
theorem mc_9_54 : mm_code 9 54 = some (95, (24, (59, 10))) := by decide +kernel
theorem mc_9_55 : mm_code 9 55 = some (98, (5, (0, 0))) := by decide +kernel
theorem mc_9_56 : mm_code 9 56 = some (99, (4, (4, 0))) := by decide +kernel
theorem mc_9_57 : mm_code 9 57 = some (101, (3, (2, 0))) := by decide +kernel
theorem mc_9_58 : mm_code 9 58 = some (102, (105, (10, 0))) := by decide +kernel
theorem mc_9_59 : mm_code 9 59 = some (105, (105, (12, 0))) := by decide +kernel
theorem mc_9_60 : mm_code 9 60 = some (108, (3, (3, 0))) := by decide +kernel
theorem mc_9_61 : mm_code 9 61 = some (109, (100, (0, 0))) := by decide +kernel
theorem mc_10_0 : mm_code 10 0 = some (0, (5, (0, 0))) := by decide +kernel
theorem mc_10_1 : mm_code 10 1 = some (1, (3, (1, 0))) := by decide +kernel
theorem mc_10_2 : mm_code 10 2 = some (2, (3, (2, 0))) := by decide +kernel
theorem mc_10_3 : mm_code 10 3 = some (3, (105, (9, 0))) := by decide +kernel
theorem mc_10_4 : mm_code 10 4 = some (6, (7, (3, 0))) := by decide +kernel
theorem mc_10_5 : mm_code 10 5 = some (7, (5, (0, 0))) := by decide +kernel
theorem mc_10_6 : mm_code 10 6 = some (8, (3, (1, 0))) := by decide +kernel
theorem mc_10_7 : mm_code 10 7 = some (9, (105, (4, 0))) := by decide +kernel
theorem mc_10_8 : mm_code 10 8 = some (12, (0, (0, 1))) := by decide +kernel
theorem mc_10_9 : mm_code 10 9 = some (13, (11, (0, 0))) := by decide +kernel
theorem mc_10_10 : mm_code 10 10 = some (14, (8, (4, 0))) := by decide +kernel
theorem mc_10_11 : mm_code 10 11 = some (16, (5, (0, 0))) := by decide +kernel
theorem mc_10_12 : mm_code 10 12 = some (17, (3, (3, 0))) := by decide +kernel
theorem mc_10_13 : mm_code 10 13 = some (18, (105, (4, 0))) := by decide +kernel
theorem mc_10_14 : mm_code 10 14 = some (21, (4, (4, 0))) := by decide +kernel
theorem mc_10_15 : mm_code 10 15 = some (23, (32, (18, 5))) := by decide +kernel
theorem mc_10_16 : mm_code 10 16 = some (26, (3, (3, 0))) := by decide +kernel
theorem mc_10_17 : mm_code 10 17 = some (27, (100, (0, 0))) := by decide +kernel
theorem mc_10_18 : mm_code 10 18 = some (28, (5, (0, 0))) := by decide +kernel
theorem mc_10_19 : mm_code 10 19 = some (29, (4, (4, 0))) := by decide +kernel
theorem mc_10_20 : mm_code 10 20 = some (31, (3, (3, 0))) := by decide +kernel
theorem mc_10_21 : mm_code 10 21 = some (32, (105, (2, 0))) := by decide +kernel
theorem mc_10_22 : mm_code 10 22 = some (35, (8, (5, 0))) := by decide +kernel
theorem mc_10_23 : mm_code 10 23 = some (37, (5, (0, 0))) := by decide +kernel
theorem mc_10_24 : mm_code 10 24 = some (38, (4, (5, 0))) := by decide +kernel
theorem mc_10_25 : mm_code 10 25 = some (40, (5, (0, 0))) := by decide +kernel
theorem mc_10_26 : mm_code 10 26 = some (41, (3, (3, 0))) := by decide +kernel
theorem mc_10_27 : mm_code 10 27 = some (42, (105, (6, 0))) := by decide +kernel
theorem mc_10_28 : mm_code 10 28 = some (45, (105, (12, 0))) := by decide +kernel
theorem mc_10_29 : mm_code 10 29 = some (48, (5, (0, 0))) := by decide +kernel
theorem mc_10_30 : mm_code 10 30 = some (49, (3, (3, 0))) := by decide +kernel
theorem mc_10_31 : mm_code 10 31 = some (50, (4, (5, 0))) := by decide +kernel
theorem mc_10_32 : mm_code 10 32 = some (52, (105, (12, 0))) := by decide +kernel
theorem mc_10_33 : mm_code 10 33 = some (55, (3, (1, 0))) := by decide +kernel
theorem mc_10_34 : mm_code 10 34 = some (56, (8, (6, 0))) := by decide +kernel
theorem mc_10_35 : mm_code 10 35 = some (58, (0, (0, 0))) := by decide +kernel
theorem mc_10_36 : mm_code 10 36 = some (59, (8, (7, 0))) := by decide +kernel
theorem mc_10_37 : mm_code 10 37 = some (61, (4, (7, 0))) := by decide +kernel
theorem mc_10_38 : mm_code 10 38 = some (63, (2, (0, 201))) := by decide +kernel
theorem mc_10_39 : mm_code 10 39 = some (66, (34, (57, 37))) := by decide +kernel
theorem mc_10_40 : mm_code 10 40 = some (69, (5, (0, 0))) := by decide +kernel
theorem mc_10_41 : mm_code 10 41 = some (70, (4, (6, 0))) := by decide +kernel
theorem mc_10_42 : mm_code 10 42 = some (72, (3, (2, 0))) := by decide +kernel
theorem mc_10_43 : mm_code 10 43 = some (73, (105, (9, 0))) := by decide +kernel
theorem mc_10_44 : mm_code 10 44 = some (76, (3, (3, 0))) := by decide +kernel
theorem mc_10_45 : mm_code 10 45 = some (77, (32, (57, 26))) := by decide +kernel
theorem mc_10_46 : mm_code 10 46 = some (80, (5, (0, 0))) := by decide +kernel
theorem mc_10_47 : mm_code 10 47 = some (81, (4, (6, 0))) := by decide +kernel
theorem mc_10_48 : mm_code 10 48 = some (83, (3, (2, 0))) := by decide +kernel
theorem mc_10_49 : mm_code 10 49 = some (84, (4, (5, 0))) := by decide +kernel
theorem mc_10_50 : mm_code 10 50 = some (86, (105, (11, 0))) := by decide +kernel
theorem mc_10_51 : mm_code 10 51 = some (89, (5, (0, 0))) := by decide +kernel
theorem mc_10_52 : mm_code 10 52 = some (90, (4, (6, 0))) := by decide +kernel
theorem mc_10_53 : mm_code 10 53 = some (92, (105, (6, 0))) := by decide +kernel
theorem mc_10_54 : mm_code 10 54 = some (95, (8, (6, 0))) := by decide +kernel
theorem mc_10_55 : mm_code 10 55 = some (97, (20, (7, 1))) := by decide +kernel
theorem mc_10_56 : mm_code 10 56 = some (100, (24, (37, (-39)))) := by decide +kernel
theorem mc_10_57 : mm_code 10 57 = some (103, (4, (5, 0))) := by decide +kernel
theorem mc_10_58 : mm_code 10 58 = some (105, (100, (0, 0))) := by decide +kernel
theorem mc_11_0 : mm_code 11 0 = some (0, (5, (0, 0))) := by decide +kernel
theorem mc_11_1 : mm_code 11 1 = some (1, (40, (6, 0))) := by decide +kernel
theorem mc_11_2 : mm_code 11 2 = some (4, (7, (3, 0))) := by decide +kernel
theorem mc_11_3 : mm_code 11 3 = some (5, (3, (3, 0))) := by decide +kernel
theorem mc_11_4 : mm_code 11 4 = some (6, (5, (0, 0))) := by decide +kernel
theorem mc_11_5 : mm_code 11 5 = some (7, (40, (2, 0))) := by decide +kernel
theorem mc_11_6 : mm_code 11 6 = some (10, (49, (0, 0))) := by decide +kernel
theorem mc_11_7 : mm_code 11 7 = some (11, (107, (3, 0))) := by decide +kernel
theorem mc_11_8 : mm_code 11 8 = some (14, (26, (11, 5))) := by decide +kernel
theorem mc_11_9 : mm_code 11 9 = some (17, (0, (0, (-1)))) := by decide +kernel
theorem mc_11_10 : mm_code 11 10 = some (18, (100, (0, 0))) := by decide +kernel
theorem mc_11_11 : mm_code 11 11 = some (19, (5, (0, 0))) := by decide +kernel
theorem mc_11_12 : mm_code 11 12 = some (20, (40, (2, 0))) := by decide +kernel
theorem mc_11_13 : mm_code 11 13 = some (23, (3, (3, 0))) := by decide +kernel
theorem mc_11_14 : mm_code 11 14 = some (24, (3, (1, 0))) := by decide +kernel
theorem mc_11_15 : mm_code 11 15 = some (25, (44, (0, 0))) := by decide +kernel
theorem mc_11_16 : mm_code 11 16 = some (26, (5, (0, 0))) := by decide +kernel
theorem mc_11_17 : mm_code 11 17 = some (27, (3, (3, 0))) := by decide +kernel
theorem mc_11_18 : mm_code 11 18 = some (28, (0, (0, (-1)))) := by decide +kernel
theorem mc_11_19 : mm_code 11 19 = some (29, (105, (12, 0))) := by decide +kernel
theorem mc_11_20 : mm_code 11 20 = some (32, (0, (0, 0))) := by decide +kernel
theorem mc_11_21 : mm_code 11 21 = some (33, (8, (4, 0))) := by decide +kernel
theorem mc_11_22 : mm_code 11 22 = some (35, (4, (4, 0))) := by decide +kernel
theorem mc_11_23 : mm_code 11 23 = some (37, (1, (0, 26))) := by decide +kernel
theorem mc_11_24 : mm_code 11 24 = some (39, (34, (35, 23))) := by decide +kernel
theorem mc_11_25 : mm_code 11 25 = some (42, (5, (0, 0))) := by decide +kernel
theorem mc_11_26 : mm_code 11 26 = some (43, (3, (3, 0))) := by decide +kernel
theorem mc_11_27 : mm_code 11 27 = some (44, (4, (4, 0))) := by decide +kernel
theorem mc_11_28 : mm_code 11 28 = some (46, (5, (0, 0))) := by decide +kernel
theorem mc_11_29 : mm_code 11 29 = some (47, (3, (2, 0))) := by decide +kernel
theorem mc_11_30 : mm_code 11 30 = some (48, (4, (4, 0))) := by decide +kernel
theorem mc_11_31 : mm_code 11 31 = some (50, (105, (9, 0))) := by decide +kernel
theorem mc_11_32 : mm_code 11 32 = some (53, (105, (11, 0))) := by decide +kernel
theorem mc_11_33 : mm_code 11 33 = some (56, (20, (4, 1))) := by decide +kernel
theorem mc_11_34 : mm_code 11 34 = some (59, (24, (22, (-24)))) := by decide +kernel
theorem mc_11_35 : mm_code 11 35 = some (62, (5, (0, 0))) := by decide +kernel
theorem mc_11_36 : mm_code 11 36 = some (63, (40, (0, 0))) := by decide +kernel
theorem mc_11_37 : mm_code 11 37 = some (66, (3, (3, 0))) := by decide +kernel
theorem mc_11_38 : mm_code 11 38 = some (67, (3, (2, 0))) := by decide +kernel
theorem mc_11_39 : mm_code 11 39 = some (68, (105, (13, 0))) := by decide +kernel
theorem mc_11_40 : mm_code 11 40 = some (71, (5, (0, 0))) := by decide +kernel
theorem mc_11_41 : mm_code 11 41 = some (72, (3, (3, 0))) := by decide +kernel
theorem mc_11_42 : mm_code 11 42 = some (73, (105, (14, 0))) := by decide +kernel
theorem mc_11_43 : mm_code 11 43 = some (76, (5, (0, 0))) := by decide +kernel
theorem mc_11_44 : mm_code 11 44 = some (77, (21, (0, 0))) := by decide +kernel
theorem mc_11_45 : mm_code 11 45 = some (78, (40, (6, 0))) := by decide +kernel
theorem mc_11_46 : mm_code 11 46 = some (81, (0, (0, 1))) := by decide +kernel
theorem mc_11_47 : mm_code 11 47 = some (82, (11, (0, 0))) := by decide +kernel
theorem mc_11_48 : mm_code 11 48 = some (83, (41, (6, 0))) := by decide +kernel
theorem mc_11_49 : mm_code 11 49 = some (86, (3, (3, 0))) := by decide +kernel
theorem mc_11_50 : mm_code 11 50 = some (87, (100, (0, 0))) := by decide +kernel
theorem mc_12_0 : mm_code 12 0 = some (0, (3, (1, 0))) := by decide +kernel
theorem mc_12_1 : mm_code 12 1 = some (1, (7, (2, 0))) := by decide +kernel
theorem mc_12_2 : mm_code 12 2 = some (2, (3, (2, 0))) := by decide +kernel
theorem mc_12_3 : mm_code 12 3 = some (3, (5, (0, 0))) := by decide +kernel
theorem mc_12_4 : mm_code 12 4 = some (4, (40, (4, 0))) := by decide +kernel
theorem mc_12_5 : mm_code 12 5 = some (7, (49, (0, 0))) := by decide +kernel
theorem mc_12_6 : mm_code 12 6 = some (8, (107, (3, 0))) := by decide +kernel
theorem mc_12_7 : mm_code 12 7 = some (11, (26, (9, 4))) := by decide +kernel
theorem mc_12_8 : mm_code 12 8 = some (14, (103, (0, 0))) := by decide +kernel
theorem mc_12_9 : mm_code 12 9 = some (15, (3, (2, 0))) := by decide +kernel
theorem mc_12_10 : mm_code 12 10 = some (16, (30, (35, 43))) := by decide +kernel
theorem mc_12_11 : mm_code 12 11 = some (19, (5, (0, 0))) := by decide +kernel
theorem mc_12_12 : mm_code 12 12 = some (20, (5, (0, 0))) := by decide +kernel
theorem mc_12_13 : mm_code 12 13 = some (21, (40, (4, 0))) := by decide +kernel
theorem mc_12_14 : mm_code 12 14 = some (24, (3, (2, 0))) := by decide +kernel
theorem mc_12_15 : mm_code 12 15 = some (25, (0, (0, 1))) := by decide +kernel
theorem mc_12_16 : mm_code 12 16 = some (26, (12, (0, 0))) := by decide +kernel
theorem mc_12_17 : mm_code 12 17 = some (27, (43, (0, 0))) := by decide +kernel
theorem mc_12_18 : mm_code 12 18 = some (28, (105, (4, 0))) := by decide +kernel
theorem mc_12_19 : mm_code 12 19 = some (31, (5, (0, 0))) := by decide +kernel
theorem mc_12_20 : mm_code 12 20 = some (32, (3, (1, 0))) := by decide +kernel
theorem mc_12_21 : mm_code 12 21 = some (33, (105, (4, 0))) := by decide +kernel
theorem mc_12_22 : mm_code 12 22 = some (36, (36, (35, 23))) := by decide +kernel
theorem mc_12_23 : mm_code 12 23 = some (39, (5, (0, 0))) := by decide +kernel
theorem mc_12_24 : mm_code 12 24 = some (40, (40, (4, 0))) := by decide +kernel
theorem mc_12_25 : mm_code 12 25 = some (43, (3, (2, 0))) := by decide +kernel
theorem mc_12_26 : mm_code 12 26 = some (44, (5, (0, 0))) := by decide +kernel
theorem mc_12_27 : mm_code 12 27 = some (45, (40, (4, 0))) := by decide +kernel
theorem mc_12_28 : mm_code 12 28 = some (48, (3, (2, 0))) := by decide +kernel
theorem mc_12_29 : mm_code 12 29 = some (49, (0, (0, 1))) := by decide +kernel
theorem mc_12_30 : mm_code 12 30 = some (50, (12, (0, 0))) := by decide +kernel
theorem mc_12_31 : mm_code 12 31 = some (51, (43, (0, 0))) := by decide +kernel
theorem mc_12_32 : mm_code 12 32 = some (52, (44, (0, 0))) := by decide +kernel
theorem mc_12_33 : mm_code 12 33 = some (53, (20, (2, (-1)))) := by decide +kernel
theorem mc_12_34 : mm_code 12 34 = some (56, (24, (9, (-41)))) := by decide +kernel
theorem mc_12_35 : mm_code 12 35 = some (59, (5, (0, 0))) := by decide +kernel
theorem mc_12_36 : mm_code 12 36 = some (60, (40, (4, 0))) := by decide +kernel
theorem mc_12_37 : mm_code 12 37 = some (63, (3, (2, 0))) := by decide +kernel
theorem mc_12_38 : mm_code 12 38 = some (64, (3, (1, 0))) := by decide +kernel
theorem mc_12_39 : mm_code 12 39 = some (65, (44, (0, 0))) := by decide +kernel
theorem mc_12_40 : mm_code 12 40 = some (66, (103, (0, 0))) := by decide +kernel
theorem mc_13_0 : mm_code 13 0 = some (0, (3, (1, 0))) := by decide +kernel
theorem mc_13_1 : mm_code 13 1 = some (1, (5, (0, 0))) := by decide +kernel
theorem mc_13_2 : mm_code 13 2 = some (2, (40, (3, 0))) := by decide +kernel
theorem mc_13_3 : mm_code 13 3 = some (5, (49, (0, 0))) := by decide +kernel
theorem mc_13_4 : mm_code 13 4 = some (6, (107, (3, 0))) := by decide +kernel
theorem mc_13_5 : mm_code 13 5 = some (9, (25, (11, 12))) := by decide +kernel
theorem mc_13_6 : mm_code 13 6 = some (12, (5, (0, 0))) := by decide +kernel
theorem mc_13_7 : mm_code 13 7 = some (13, (40, (3, 0))) := by decide +kernel
theorem mc_13_8 : mm_code 13 8 = some (16, (3, (1, 0))) := by decide +kernel
theorem mc_13_9 : mm_code 13 9 = some (17, (43, (0, 0))) := by decide +kernel
theorem mc_13_10 : mm_code 13 10 = some (18, (24, (12, 4))) := by decide +kernel
theorem mc_13_11 : mm_code 13 11 = some (21, (0, (0, (-1)))) := by decide +kernel
theorem mc_13_12 : mm_code 13 12 = some (22, (100, (0, 0))) := by decide +kernel
theorem mc_14_0 : mm_code 14 0 = some (0, (3, (1, 0))) := by decide +kernel
theorem mc_14_1 : mm_code 14 1 = some (1, (5, (0, 0))) := by decide +kernel
theorem mc_14_2 : mm_code 14 2 = some (2, (40, (3, 0))) := by decide +kernel
theorem mc_14_3 : mm_code 14 3 = some (5, (49, (0, 0))) := by decide +kernel
theorem mc_14_4 : mm_code 14 4 = some (6, (107, (3, 0))) := by decide +kernel
theorem mc_14_5 : mm_code 14 5 = some (9, (25, (11, 10))) := by decide +kernel
theorem mc_14_6 : mm_code 14 6 = some (12, (5, (0, 0))) := by decide +kernel
theorem mc_14_7 : mm_code 14 7 = some (13, (40, (3, 0))) := by decide +kernel
theorem mc_14_8 : mm_code 14 8 = some (16, (3, (1, 0))) := by decide +kernel
theorem mc_14_9 : mm_code 14 9 = some (17, (3, (2, 0))) := by decide +kernel
theorem mc_14_10 : mm_code 14 10 = some (18, (44, (0, 0))) := by decide +kernel
theorem mc_14_11 : mm_code 14 11 = some (19, (103, (0, 0))) := by decide +kernel
theorem mc_15_0 : mm_code 15 0 = some (0, (3, (1, 0))) := by decide +kernel
theorem mc_15_1 : mm_code 15 1 = some (1, (27, (12, 24))) := by decide +kernel
theorem mc_15_2 : mm_code 15 2 = some (4, (3, (1, 0))) := by decide +kernel
theorem mc_15_3 : mm_code 15 3 = some (5, (2, (0, 201))) := by decide +kernel
theorem mc_15_4 : mm_code 15 4 = some (8, (34, (12, 17))) := by decide +kernel
theorem mc_15_5 : mm_code 15 5 = some (11, (3, (2, 0))) := by decide +kernel
theorem mc_15_6 : mm_code 15 6 = some (12, (27, (12, 13))) := by decide +kernel
theorem mc_15_7 : mm_code 15 7 = some (15, (3, (2, 0))) := by decide +kernel
theorem mc_15_8 : mm_code 15 8 = some (16, (1, (0, 26))) := by decide +kernel
theorem mc_15_9 : mm_code 15 9 = some (18, (34, (12, 7))) := by decide +kernel
theorem mc_15_10 : mm_code 15 10 = some (21, (0, (0, 1))) := by decide +kernel
theorem mc_15_11 : mm_code 15 11 = some (22, (24, (13, 4))) := by decide +kernel
theorem mc_15_12 : mm_code 15 12 = some (25, (0, (0, 0))) := by decide +kernel
theorem mc_15_13 : mm_code 15 13 = some (26, (8, (4, 0))) := by decide +kernel
theorem mc_15_14 : mm_code 15 14 = some (28, (4, (4, 0))) := by decide +kernel
theorem mc_15_15 : mm_code 15 15 = some (30, (25, (25, 15))) := by decide +kernel
theorem mc_15_16 : mm_code 15 16 = some (33, (5, (0, 0))) := by decide +kernel
theorem mc_15_17 : mm_code 15 17 = some (34, (40, (1, 0))) := by decide +kernel
theorem mc_15_18 : mm_code 15 18 = some (37, (3, (1, 0))) := by decide +kernel
theorem mc_15_19 : mm_code 15 19 = some (38, (1, (0, 26))) := by decide +kernel
theorem mc_15_20 : mm_code 15 20 = some (40, (13, (0, 0))) := by decide +kernel
theorem mc_15_21 : mm_code 15 21 = some (41, (3, (2, 0))) := by decide +kernel
theorem mc_15_22 : mm_code 15 22 = some (42, (11, (0, 0))) := by decide +kernel
theorem mc_15_23 : mm_code 15 23 = some (43, (3, (3, 0))) := by decide +kernel
theorem mc_15_24 : mm_code 15 24 = some (44, (44, (0, 0))) := by decide +kernel
theorem mc_15_25 : mm_code 15 25 = some (45, (103, (0, 0))) := by decide +kernel
theorem mc_16_0 : mm_code 16 0 = some (0, (5, (0, 0))) := by decide +kernel
theorem mc_16_1 : mm_code 16 1 = some (1, (57, (3, 0))) := by decide +kernel
theorem mc_16_2 : mm_code 16 2 = some (4, (5, (0, 0))) := by decide +kernel
theorem mc_16_3 : mm_code 16 3 = some (5, (2, (0, 804))) := by decide +kernel
theorem mc_16_4 : mm_code 16 4 = some (8, (51, (0, 0))) := by decide +kernel
theorem mc_16_5 : mm_code 16 5 = some (10, (42, (7, 0))) := by decide +kernel
theorem mc_16_6 : mm_code 16 6 = some (13, (5, (0, 0))) := by decide +kernel
theorem mc_16_7 : mm_code 16 7 = some (14, (2, (0, 804))) := by decide +kernel
theorem mc_16_8 : mm_code 16 8 = some (17, (51, (0, 0))) := by decide +kernel
theorem mc_16_9 : mm_code 16 9 = some (19, (42, (8, 0))) := by decide +kernel
theorem mc_16_10 : mm_code 16 10 = some (22, (5, (0, 0))) := by decide +kernel
theorem mc_16_11 : mm_code 16 11 = some (23, (2, (0, 804))) := by decide +kernel
theorem mc_16_12 : mm_code 16 12 = some (26, (51, (0, 0))) := by decide +kernel
theorem mc_16_13 : mm_code 16 13 = some (28, (42, (9, 0))) := by decide +kernel
theorem mc_16_14 : mm_code 16 14 = some (31, (103, (0, 0))) := by decide +kernel
theorem mc_17_0 : mm_code 17 0 = some (0, (3, (1, 0))) := by decide +kernel
theorem mc_17_1 : mm_code 17 1 = some (1, (3, (2, 0))) := by decide +kernel
theorem mc_17_2 : mm_code 17 2 = some (2, (106, (15, 0))) := by decide +kernel
theorem mc_17_3 : mm_code 17 3 = some (5, (7, (3, 0))) := by decide +kernel
theorem mc_17_4 : mm_code 17 4 = some (6, (3, (3, 0))) := by decide +kernel
theorem mc_17_5 : mm_code 17 5 = some (7, (0, (0, (-1)))) := by decide +kernel
theorem mc_17_6 : mm_code 17 6 = some (8, (32, (9, 7))) := by decide +kernel
theorem mc_17_7 : mm_code 17 7 = some (11, (0, (0, 0))) := by decide +kernel
theorem mc_17_8 : mm_code 17 8 = some (12, (24, (13, 9))) := by decide +kernel
theorem mc_17_9 : mm_code 17 9 = some (15, (5, (0, 0))) := by decide +kernel
theorem mc_17_10 : mm_code 17 10 = some (16, (40, (7, 0))) := by decide +kernel
theorem mc_17_11 : mm_code 17 11 = some (19, (3, (3, 0))) := by decide +kernel
theorem mc_17_12 : mm_code 17 12 = some (20, (43, (0, 0))) := by decide +kernel
theorem mc_17_13 : mm_code 17 13 = some (21, (100, (0, 0))) := by decide +kernel
theorem mc_18_0 : mm_code 18 0 = some (0, (3, (1, 0))) := by decide +kernel
theorem mc_18_1 : mm_code 18 1 = some (1, (3, (2, 0))) := by decide +kernel
theorem mc_18_2 : mm_code 18 2 = some (2, (106, (15, 0))) := by decide +kernel
theorem mc_18_3 : mm_code 18 3 = some (5, (7, (3, 0))) := by decide +kernel
theorem mc_18_4 : mm_code 18 4 = some (6, (3, (3, 0))) := by decide +kernel
theorem mc_18_5 : mm_code 18 5 = some (7, (0, (0, (-1)))) := by decide +kernel
theorem mc_18_6 : mm_code 18 6 = some (8, (32, (9, 7))) := by decide +kernel
theorem mc_18_7 : mm_code 18 7 = some (11, (0, (0, (-1)))) := by decide +kernel
theorem mc_18_8 : mm_code 18 8 = some (12, (24, (13, 9))) := by decide +kernel
theorem mc_18_9 : mm_code 18 9 = some (15, (5, (0, 0))) := by decide +kernel
theorem mc_18_10 : mm_code 18 10 = some (16, (40, (8, 0))) := by decide +kernel
theorem mc_18_11 : mm_code 18 11 = some (19, (3, (3, 0))) := by decide +kernel
theorem mc_18_12 : mm_code 18 12 = some (20, (43, (0, 0))) := by decide +kernel
theorem mc_18_13 : mm_code 18 13 = some (21, (100, (0, 0))) := by decide +kernel
theorem mc_19_0 : mm_code 19 0 = some (0, (3, (1, 0))) := by decide +kernel
theorem mc_19_1 : mm_code 19 1 = some (1, (3, (2, 0))) := by decide +kernel
theorem mc_19_2 : mm_code 19 2 = some (2, (106, (15, 0))) := by decide +kernel
theorem mc_19_3 : mm_code 19 3 = some (5, (7, (3, 0))) := by decide +kernel
theorem mc_19_4 : mm_code 19 4 = some (6, (3, (3, 0))) := by decide +kernel
theorem mc_19_5 : mm_code 19 5 = some (7, (0, (0, (-1)))) := by decide +kernel
theorem mc_19_6 : mm_code 19 6 = some (8, (32, (9, 7))) := by decide +kernel
theorem mc_19_7 : mm_code 19 7 = some (11, (0, (0, (-1)))) := by decide +kernel
theorem mc_19_8 : mm_code 19 8 = some (12, (24, (13, 9))) := by decide +kernel
theorem mc_19_9 : mm_code 19 9 = some (15, (5, (0, 0))) := by decide +kernel
theorem mc_19_10 : mm_code 19 10 = some (16, (40, (9, 0))) := by decide +kernel
theorem mc_19_11 : mm_code 19 11 = some (19, (3, (3, 0))) := by decide +kernel
theorem mc_19_12 : mm_code 19 12 = some (20, (43, (0, 0))) := by decide +kernel
theorem mc_19_13 : mm_code 19 13 = some (21, (100, (0, 0))) := by decide +kernel
theorem mc_20_0 : mm_code 20 0 = some (0, (0, (0, 0))) := by decide +kernel
theorem mc_20_1 : mm_code 20 1 = some (1, (7, (2, 0))) := by decide +kernel
theorem mc_20_2 : mm_code 20 2 = some (2, (0, (0, 0))) := by decide +kernel
theorem mc_20_3 : mm_code 20 3 = some (3, (7, (3, 0))) := by decide +kernel
theorem mc_20_4 : mm_code 20 4 = some (4, (3, (3, 0))) := by decide +kernel
theorem mc_20_5 : mm_code 20 5 = some (5, (0, (0, 4))) := by decide +kernel
theorem mc_20_6 : mm_code 20 6 = some (6, (34, (16, 18))) := by decide +kernel
theorem mc_20_7 : mm_code 20 7 = some (9, (3, (2, 0))) := by decide +kernel
theorem mc_20_8 : mm_code 20 8 = some (10, (5, (0, 0))) := by decide +kernel
theorem mc_20_9 : mm_code 20 9 = some (11, (3, (1, 0))) := by decide +kernel
theorem mc_20_10 : mm_code 20 10 = some (12, (3, (3, 0))) := by decide +kernel
theorem mc_20_11 : mm_code 20 11 = some (13, (105, (16, 0))) := by decide +kernel
theorem mc_20_12 : mm_code 20 12 = some (16, (11, (0, 0))) := by decide +kernel
theorem mc_20_13 : mm_code 20 13 = some (17, (7, (2, 0))) := by decide +kernel
theorem mc_20_14 : mm_code 20 14 = some (18, (20, (3, 1))) := by decide +kernel
theorem mc_20_15 : mm_code 20 15 = some (21, (24, (4, (-17)))) := by decide +kernel
theorem mc_20_16 : mm_code 20 16 = some (24, (3, (2, 0))) := by decide +kernel
theorem mc_20_17 : mm_code 20 17 = some (25, (100, (0, 0))) := by decide +kernel
theorem mc_21_0 : mm_code 21 0 = some (0, (0, (0, 0))) := by decide +kernel
theorem mc_21_1 : mm_code 21 1 = some (1, (7, (3, 0))) := by decide +kernel
theorem mc_21_2 : mm_code 21 2 = some (2, (3, (3, 0))) := by decide +kernel
theorem mc_21_3 : mm_code 21 3 = some (3, (0, (0, 4))) := by decide +kernel
theorem mc_21_4 : mm_code 21 4 = some (4, (34, (27, 41))) := by decide +kernel
theorem mc_21_5 : mm_code 21 5 = some (7, (3, (2, 0))) := by decide +kernel
theorem mc_21_6 : mm_code 21 6 = some (8, (3, (3, 0))) := by decide +kernel
theorem mc_21_7 : mm_code 21 7 = some (9, (17, (0, 0))) := by decide +kernel
theorem mc_21_8 : mm_code 21 8 = some (10, (0, (0, 1))) := by decide +kernel
theorem mc_21_9 : mm_code 21 9 = some (11, (18, (0, 0))) := by decide +kernel
theorem mc_21_10 : mm_code 21 10 = some (12, (0, (0, 1))) := by decide +kernel
theorem mc_21_11 : mm_code 21 11 = some (13, (32, (14, 7))) := by decide +kernel
theorem mc_21_12 : mm_code 21 12 = some (16, (0, (0, 1))) := by decide +kernel
theorem mc_21_13 : mm_code 21 13 = some (17, (24, (15, 4))) := by decide +kernel
theorem mc_21_14 : mm_code 21 14 = some (20, (0, (0, 0))) := by decide +kernel
theorem mc_21_15 : mm_code 21 15 = some (21, (8, (4, 0))) := by decide +kernel
theorem mc_21_16 : mm_code 21 16 = some (23, (4, (4, 0))) := by decide +kernel
theorem mc_21_17 : mm_code 21 17 = some (25, (25, (25, 14))) := by decide +kernel
theorem mc_21_18 : mm_code 21 18 = some (28, (5, (0, 0))) := by decide +kernel
theorem mc_21_19 : mm_code 21 19 = some (29, (3, (1, 0))) := by decide +kernel
theorem mc_21_20 : mm_code 21 20 = some (30, (3, (3, 0))) := by decide +kernel
theorem mc_21_21 : mm_code 21 21 = some (31, (105, (16, 0))) := by decide +kernel
theorem mc_21_22 : mm_code 21 22 = some (34, (26, (25, 5))) := by decide +kernel
theorem mc_21_23 : mm_code 21 23 = some (37, (0, (0, 0))) := by decide +kernel
theorem mc_21_24 : mm_code 21 24 = some (38, (101, (0, 0))) := by decide +kernel
theorem mc_21_25 : mm_code 21 25 = some (39, (20, (3, 1))) := by decide +kernel
theorem mc_21_26 : mm_code 21 26 = some (42, (24, (2, (-40)))) := by decide +kernel
theorem mc_21_27 : mm_code 21 27 = some (45, (0, (0, 1))) := by decide +kernel
theorem mc_21_28 : mm_code 21 28 = some (46, (101, (0, 0))) := by decide +kernel
theorem mc_22_0 : mm_code 22 0 = some (0, (3, (1, 0))) := by decide +kernel
theorem mc_22_1 : mm_code 22 1 = some (1, (3, (2, 0))) := by decide +kernel
theorem mc_22_2 : mm_code 22 2 = some (2, (106, (15, 0))) := by decide +kernel
theorem mc_22_3 : mm_code 22 3 = some (5, (8, (4, 0))) := by decide +kernel
theorem mc_22_4 : mm_code 22 4 = some (7, (4, (4, 0))) := by decide +kernel
theorem mc_22_5 : mm_code 22 5 = some (9, (0, (0, (-1)))) := by decide +kernel
theorem mc_22_6 : mm_code 22 6 = some (10, (32, (8, 4))) := by decide +kernel
theorem mc_22_7 : mm_code 22 7 = some (13, (103, (0, 0))) := by decide +kernel
theorem mc_22_8 : mm_code 22 8 = some (14, (5, (0, 0))) := by decide +kernel
theorem mc_22_9 : mm_code 22 9 = some (15, (40, (7, 0))) := by decide +kernel
theorem mc_22_10 : mm_code 22 10 = some (18, (4, (4, 0))) := by decide +kernel
theorem mc_22_11 : mm_code 22 11 = some (20, (43, (0, 0))) := by decide +kernel
theorem mc_22_12 : mm_code 22 12 = some (21, (26, (18, 11))) := by decide +kernel
theorem mc_22_13 : mm_code 22 13 = some (24, (5, (0, 0))) := by decide +kernel
theorem mc_22_14 : mm_code 22 14 = some (25, (40, (8, 0))) := by decide +kernel
theorem mc_22_15 : mm_code 22 15 = some (28, (4, (4, 0))) := by decide +kernel
theorem mc_22_16 : mm_code 22 16 = some (30, (3, (3, 0))) := by decide +kernel
theorem mc_22_17 : mm_code 22 17 = some (31, (44, (0, 0))) := by decide +kernel
theorem mc_22_18 : mm_code 22 18 = some (32, (5, (0, 0))) := by decide +kernel
theorem mc_22_19 : mm_code 22 19 = some (33, (40, (9, 0))) := by decide +kernel
theorem mc_22_20 : mm_code 22 20 = some (36, (4, (4, 0))) := by decide +kernel
theorem mc_22_21 : mm_code 22 21 = some (38, (3, (3, 0))) := by decide +kernel
theorem mc_22_22 : mm_code 22 22 = some (39, (44, (0, 0))) := by decide +kernel
theorem mc_22_23 : mm_code 22 23 = some (40, (5, (0, 0))) := by decide +kernel
theorem mc_22_24 : mm_code 22 24 = some (41, (40, (7, 0))) := by decide +kernel
theorem mc_22_25 : mm_code 22 25 = some (44, (4, (4, 0))) := by decide +kernel
theorem mc_22_26 : mm_code 22 26 = some (46, (22, (0, 0))) := by decide +kernel
theorem mc_22_27 : mm_code 22 27 = some (47, (43, (0, 0))) := by decide +kernel
theorem mc_22_28 : mm_code 22 28 = some (48, (0, (0, 1))) := by decide +kernel
theorem mc_22_29 : mm_code 22 29 = some (49, (11, (0, 0))) := by decide +kernel
theorem mc_22_30 : mm_code 22 30 = some (50, (44, (0, 0))) := by decide +kernel
theorem mc_22_31 : mm_code 22 31 = some (51, (103, (0, 0))) := by decide +kernel
theorem mc_23_0 : mm_code 23 0 = some (0, (0, (0, 0))) := by decide +kernel
theorem mc_23_1 : mm_code 23 1 = some (1, (7, (3, 0))) := by decide +kernel
theorem mc_23_2 : mm_code 23 2 = some (2, (3, (3, 0))) := by decide +kernel
theorem mc_23_3 : mm_code 23 3 = some (3, (0, (0, 4))) := by decide +kernel
theorem mc_23_4 : mm_code 23 4 = some (4, (34, (57, 101))) := by decide +kernel
theorem mc_23_5 : mm_code 23 5 = some (7, (3, (1, 0))) := by decide +kernel
theorem mc_23_6 : mm_code 23 6 = some (8, (3, (3, 0))) := by decide +kernel
theorem mc_23_7 : mm_code 23 7 = some (9, (106, (15, 0))) := by decide +kernel
theorem mc_23_8 : mm_code 23 8 = some (12, (8, (4, 0))) := by decide +kernel
theorem mc_23_9 : mm_code 23 9 = some (14, (3, (2, 0))) := by decide +kernel
theorem mc_23_10 : mm_code 23 10 = some (15, (3, (3, 0))) := by decide +kernel
theorem mc_23_11 : mm_code 23 11 = some (16, (106, (15, 0))) := by decide +kernel
theorem mc_23_12 : mm_code 23 12 = some (19, (8, (5, 0))) := by decide +kernel
theorem mc_23_13 : mm_code 23 13 = some (21, (4, (4, 0))) := by decide +kernel
theorem mc_23_14 : mm_code 23 14 = some (23, (0, (0, (-1)))) := by decide +kernel
theorem mc_23_15 : mm_code 23 15 = some (24, (31, (55, 75))) := by decide +kernel
theorem mc_23_16 : mm_code 23 16 = some (27, (5, (0, 0))) := by decide +kernel
theorem mc_23_17 : mm_code 23 17 = some (28, (40, (7, 0))) := by decide +kernel
theorem mc_23_18 : mm_code 23 18 = some (31, (4, (4, 0))) := by decide +kernel
theorem mc_23_19 : mm_code 23 19 = some (33, (4, (5, 0))) := by decide +kernel
theorem mc_23_20 : mm_code 23 20 = some (35, (0, (0, (-1)))) := by decide +kernel
theorem mc_23_21 : mm_code 23 21 = some (36, (32, (24, 7))) := by decide +kernel
theorem mc_23_22 : mm_code 23 22 = some (39, (0, (0, 0))) := by decide +kernel
theorem mc_23_23 : mm_code 23 23 = some (40, (24, (28, 10))) := by decide +kernel
theorem mc_23_24 : mm_code 23 24 = some (43, (5, (0, 0))) := by decide +kernel
theorem mc_23_25 : mm_code 23 25 = some (44, (40, (7, 0))) := by decide +kernel
theorem mc_23_26 : mm_code 23 26 = some (47, (4, (5, 0))) := by decide +kernel
theorem mc_23_27 : mm_code 23 27 = some (49, (43, (0, 0))) := by decide +kernel
theorem mc_23_28 : mm_code 23 28 = some (50, (44, (0, 0))) := by decide +kernel
theorem mc_23_29 : mm_code 23 29 = some (51, (5, (0, 0))) := by decide +kernel
theorem mc_23_30 : mm_code 23 30 = some (52, (40, (8, 0))) := by decide +kernel
theorem mc_23_31 : mm_code 23 31 = some (55, (4, (4, 0))) := by decide +kernel
theorem mc_23_32 : mm_code 23 32 = some (57, (4, (5, 0))) := by decide +kernel
theorem mc_23_33 : mm_code 23 33 = some (59, (0, (0, (-1)))) := by decide +kernel
theorem mc_23_34 : mm_code 23 34 = some (60, (32, (37, 7))) := by decide +kernel
theorem mc_23_35 : mm_code 23 35 = some (63, (0, (0, (-1)))) := by decide +kernel
theorem mc_23_36 : mm_code 23 36 = some (64, (24, (41, 10))) := by decide +kernel
theorem mc_23_37 : mm_code 23 37 = some (67, (5, (0, 0))) := by decide +kernel
theorem mc_23_38 : mm_code 23 38 = some (68, (40, (8, 0))) := by decide +kernel
theorem mc_23_39 : mm_code 23 39 = some (71, (4, (5, 0))) := by decide +kernel
theorem mc_23_40 : mm_code 23 40 = some (73, (43, (0, 0))) := by decide +kernel
theorem mc_23_41 : mm_code 23 41 = some (74, (44, (0, 0))) := by decide +kernel
theorem mc_23_42 : mm_code 23 42 = some (75, (5, (0, 0))) := by decide +kernel
theorem mc_23_43 : mm_code 23 43 = some (76, (40, (9, 0))) := by decide +kernel
theorem mc_23_44 : mm_code 23 44 = some (79, (4, (4, 0))) := by decide +kernel
theorem mc_23_45 : mm_code 23 45 = some (81, (4, (5, 0))) := by decide +kernel
theorem mc_23_46 : mm_code 23 46 = some (83, (0, (0, (-1)))) := by decide +kernel
theorem mc_23_47 : mm_code 23 47 = some (84, (32, (50, 7))) := by decide +kernel
theorem mc_23_48 : mm_code 23 48 = some (87, (0, (0, (-1)))) := by decide +kernel
theorem mc_23_49 : mm_code 23 49 = some (88, (24, (54, 10))) := by decide +kernel
theorem mc_23_50 : mm_code 23 50 = some (91, (5, (0, 0))) := by decide +kernel
theorem mc_23_51 : mm_code 23 51 = some (92, (40, (9, 0))) := by decide +kernel
theorem mc_23_52 : mm_code 23 52 = some (95, (4, (5, 0))) := by decide +kernel
theorem mc_23_53 : mm_code 23 53 = some (97, (43, (0, 0))) := by decide +kernel
theorem mc_23_54 : mm_code 23 54 = some (98, (44, (0, 0))) := by decide +kernel
theorem mc_23_55 : mm_code 23 55 = some (99, (20, (3, 1))) := by decide +kernel
theorem mc_23_56 : mm_code 23 56 = some (102, (24, (2, (-100)))) := by decide +kernel
theorem mc_23_57 : mm_code 23 57 = some (105, (103, (0, 0))) := by decide +kernel
theorem mc_24_0 : mm_code 24 0 = some (0, (3, (0, 0))) := by decide +kernel
theorem mc_24_1 : mm_code 24 1 = some (1, (27, (12, 23))) := by decide +kernel
theorem mc_24_2 : mm_code 24 2 = some (4, (3, (0, 0))) := by decide +kernel
theorem mc_24_3 : mm_code 24 3 = some (5, (2, (0, 201))) := by decide +kernel
theorem mc_24_4 : mm_code 24 4 = some (8, (34, (12, 16))) := by decide +kernel
theorem mc_24_5 : mm_code 24 5 = some (11, (3, (1, 0))) := by decide +kernel
theorem mc_24_6 : mm_code 24 6 = some (12, (27, (12, 12))) := by decide +kernel
theorem mc_24_7 : mm_code 24 7 = some (15, (3, (1, 0))) := by decide +kernel
theorem mc_24_8 : mm_code 24 8 = some (16, (0, (0, 4))) := by decide +kernel
theorem mc_24_9 : mm_code 24 9 = some (17, (34, (12, 7))) := by decide +kernel
theorem mc_24_10 : mm_code 24 10 = some (20, (0, (0, 1))) := by decide +kernel
theorem mc_24_11 : mm_code 24 11 = some (21, (24, (13, 4))) := by decide +kernel
theorem mc_24_12 : mm_code 24 12 = some (24, (0, (0, 0))) := by decide +kernel
theorem mc_24_13 : mm_code 24 13 = some (25, (7, (2, 0))) := by decide +kernel
theorem mc_24_14 : mm_code 24 14 = some (26, (3, (2, 0))) := by decide +kernel
theorem mc_24_15 : mm_code 24 15 = some (27, (25, (22, 11))) := by decide +kernel
theorem mc_24_16 : mm_code 24 16 = some (30, (3, (0, 0))) := by decide +kernel
theorem mc_24_17 : mm_code 24 17 = some (31, (0, (0, 4))) := by decide +kernel
theorem mc_24_18 : mm_code 24 18 = some (32, (13, (0, 0))) := by decide +kernel
theorem mc_24_19 : mm_code 24 19 = some (33, (3, (1, 0))) := by decide +kernel
theorem mc_24_20 : mm_code 24 20 = some (34, (11, (0, 0))) := by decide +kernel
theorem mc_24_21 : mm_code 24 21 = some (35, (24, (23, 4))) := by decide +kernel
theorem mc_24_22 : mm_code 24 22 = some (38, (0, (0, (-1)))) := by decide +kernel
theorem mc_24_23 : mm_code 24 23 = some (39, (100, (0, 0))) := by decide +kernel
theorem mc_25_0 : mm_code 25 0 = some (0, (5, (0, 0))) := by decide +kernel
theorem mc_25_1 : mm_code 25 1 = some (1, (57, (3, 0))) := by decide +kernel
theorem mc_25_2 : mm_code 25 2 = some (4, (5, (0, 0))) := by decide +kernel
theorem mc_25_3 : mm_code 25 3 = some (5, (50, (9, 0))) := by decide +kernel
theorem mc_25_4 : mm_code 25 4 = some (8, (21, (0, 0))) := by decide +kernel
theorem mc_25_5 : mm_code 25 5 = some (9, (108, (17, 0))) := by decide +kernel
theorem mc_25_6 : mm_code 25 6 = some (12, (42, (10, 0))) := by decide +kernel
theorem mc_25_7 : mm_code 25 7 = some (15, (5, (0, 0))) := by decide +kernel
theorem mc_25_8 : mm_code 25 8 = some (16, (2, (0, 201))) := by decide +kernel
theorem mc_25_9 : mm_code 25 9 = some (19, (51, (0, 0))) := by decide +kernel
theorem mc_25_10 : mm_code 25 10 = some (21, (42, (11, 0))) := by decide +kernel
theorem mc_25_11 : mm_code 25 11 = some (24, (5, (0, 0))) := by decide +kernel
theorem mc_25_12 : mm_code 25 12 = some (25, (0, (0, 0))) := by decide +kernel
theorem mc_25_13 : mm_code 25 13 = some (26, (41, (12, 0))) := by decide +kernel
theorem mc_25_14 : mm_code 25 14 = some (29, (103, (0, 0))) := by decide +kernel
theorem mc_26_0 : mm_code 26 0 = some (0, (5, (0, 0))) := by decide +kernel
theorem mc_26_1 : mm_code 26 1 = some (1, (0, (0, 0))) := by decide +kernel
theorem mc_26_2 : mm_code 26 2 = some (2, (41, (12, 0))) := by decide +kernel
theorem mc_26_3 : mm_code 26 3 = some (5, (5, (0, 0))) := by decide +kernel
theorem mc_26_4 : mm_code 26 4 = some (6, (40, (10, 0))) := by decide +kernel
theorem mc_26_5 : mm_code 26 5 = some (9, (105, (18, 0))) := by decide +kernel
theorem mc_26_6 : mm_code 26 6 = some (12, (0, (0, 1))) := by decide +kernel
theorem mc_26_7 : mm_code 26 7 = some (13, (12, (0, 0))) := by decide +kernel
theorem mc_26_8 : mm_code 26 8 = some (14, (7, (1, 0))) := by decide +kernel
theorem mc_26_9 : mm_code 26 9 = some (15, (3, (1, 0))) := by decide +kernel
theorem mc_26_10 : mm_code 26 10 = some (16, (27, (41, 59))) := by decide +kernel
theorem mc_26_11 : mm_code 26 11 = some (19, (5, (0, 0))) := by decide +kernel
theorem mc_26_12 : mm_code 26 12 = some (20, (40, (10, 0))) := by decide +kernel
theorem mc_26_13 : mm_code 26 13 = some (23, (3, (1, 0))) := by decide +kernel
theorem mc_26_14 : mm_code 26 14 = some (24, (105, (19, 0))) := by decide +kernel
theorem mc_26_15 : mm_code 26 15 = some (27, (7, (2, 0))) := by decide +kernel
theorem mc_26_16 : mm_code 26 16 = some (28, (0, (0, 1))) := by decide +kernel
theorem mc_26_17 : mm_code 26 17 = some (29, (7, (3, 0))) := by decide +kernel
theorem mc_26_18 : mm_code 26 18 = some (30, (0, (0, 0))) := by decide +kernel
theorem mc_26_19 : mm_code 26 19 = some (31, (8, (4, 0))) := by decide +kernel
theorem mc_26_20 : mm_code 26 20 = some (33, (4, (4, 0))) := by decide +kernel
theorem mc_26_21 : mm_code 26 21 = some (35, (1, (0, 26))) := by decide +kernel
theorem mc_26_22 : mm_code 26 22 = some (37, (34, (35, 26))) := by decide +kernel
theorem mc_26_23 : mm_code 26 23 = some (40, (3, (3, 0))) := by decide +kernel
theorem mc_26_24 : mm_code 26 24 = some (41, (5, (0, 0))) := by decide +kernel
theorem mc_26_25 : mm_code 26 25 = some (42, (5, (0, 0))) := by decide +kernel
theorem mc_26_26 : mm_code 26 26 = some (43, (40, (10, 0))) := by decide +kernel
theorem mc_26_27 : mm_code 26 27 = some (46, (3, (2, 0))) := by decide +kernel
theorem mc_26_28 : mm_code 26 28 = some (47, (4, (4, 0))) := by decide +kernel
theorem mc_26_29 : mm_code 26 29 = some (49, (105, (20, 0))) := by decide +kernel
theorem mc_26_30 : mm_code 26 30 = some (52, (105, (21, 0))) := by decide +kernel
theorem mc_26_31 : mm_code 26 31 = some (55, (11, (0, 0))) := by decide +kernel
theorem mc_26_32 : mm_code 26 32 = some (56, (7, (3, 0))) := by decide +kernel
theorem mc_26_33 : mm_code 26 33 = some (57, (20, (4, 1))) := by decide +kernel
theorem mc_26_34 : mm_code 26 34 = some (60, (24, (20, (-27)))) := by decide +kernel
theorem mc_26_35 : mm_code 26 35 = some (63, (5, (0, 0))) := by decide +kernel
theorem mc_26_36 : mm_code 26 36 = some (64, (3, (2, 0))) := by decide +kernel
theorem mc_26_37 : mm_code 26 37 = some (65, (3, (3, 0))) := by decide +kernel
theorem mc_26_38 : mm_code 26 38 = some (66, (105, (22, 0))) := by decide +kernel
theorem mc_26_39 : mm_code 26 39 = some (69, (20, (1, (-1)))) := by decide +kernel
theorem mc_26_40 : mm_code 26 40 = some (72, (24, (9, (-57)))) := by decide +kernel
theorem mc_26_41 : mm_code 26 41 = some (75, (103, (0, 0))) := by decide +kernel
theorem mc_27_0 : mm_code 27 0 = some (0, (5, (0, 0))) := by decide +kernel
theorem mc_27_1 : mm_code 27 1 = some (1, (0, (0, (-1)))) := by decide +kernel
theorem mc_27_2 : mm_code 27 2 = some (2, (41, (12, 0))) := by decide +kernel
theorem mc_27_3 : mm_code 27 3 = some (5, (5, (0, 0))) := by decide +kernel
theorem mc_27_4 : mm_code 27 4 = some (6, (40, (10, 0))) := by decide +kernel
theorem mc_27_5 : mm_code 27 5 = some (9, (105, (18, 0))) := by decide +kernel
theorem mc_27_6 : mm_code 27 6 = some (12, (0, (0, 1))) := by decide +kernel
theorem mc_27_7 : mm_code 27 7 = some (13, (12, (0, 0))) := by decide +kernel
theorem mc_27_8 : mm_code 27 8 = some (14, (7, (3, 0))) := by decide +kernel
theorem mc_27_9 : mm_code 27 9 = some (15, (3, (3, 0))) := by decide +kernel
theorem mc_27_10 : mm_code 27 10 = some (16, (27, (51, 85))) := by decide +kernel
theorem mc_27_11 : mm_code 27 11 = some (19, (5, (0, 0))) := by decide +kernel
theorem mc_27_12 : mm_code 27 12 = some (20, (40, (10, 0))) := by decide +kernel
theorem mc_27_13 : mm_code 27 13 = some (23, (3, (3, 0))) := by decide +kernel
theorem mc_27_14 : mm_code 27 14 = some (24, (105, (19, 0))) := by decide +kernel
theorem mc_27_15 : mm_code 27 15 = some (27, (8, (4, 0))) := by decide +kernel
theorem mc_27_16 : mm_code 27 16 = some (29, (0, (0, (-1)))) := by decide +kernel
theorem mc_27_17 : mm_code 27 17 = some (30, (8, (5, 0))) := by decide +kernel
theorem mc_27_18 : mm_code 27 18 = some (32, (0, (0, 0))) := by decide +kernel
theorem mc_27_19 : mm_code 27 19 = some (33, (8, (6, 0))) := by decide +kernel
theorem mc_27_20 : mm_code 27 20 = some (35, (4, (6, 0))) := by decide +kernel
theorem mc_27_21 : mm_code 27 21 = some (37, (1, (0, 26))) := by decide +kernel
theorem mc_27_22 : mm_code 27 22 = some (39, (34, (35, 31))) := by decide +kernel
theorem mc_27_23 : mm_code 27 23 = some (42, (4, (5, 0))) := by decide +kernel
theorem mc_27_24 : mm_code 27 24 = some (44, (5, (0, 0))) := by decide +kernel
theorem mc_27_25 : mm_code 27 25 = some (45, (5, (0, 0))) := by decide +kernel
theorem mc_27_26 : mm_code 27 26 = some (46, (40, (10, 0))) := by decide +kernel
theorem mc_27_27 : mm_code 27 27 = some (49, (4, (4, 0))) := by decide +kernel
theorem mc_27_28 : mm_code 27 28 = some (51, (4, (6, 0))) := by decide +kernel
theorem mc_27_29 : mm_code 27 29 = some (53, (105, (20, 0))) := by decide +kernel
theorem mc_27_30 : mm_code 27 30 = some (56, (105, (21, 0))) := by decide +kernel
theorem mc_27_31 : mm_code 27 31 = some (59, (58, (45, 0))) := by decide +kernel
theorem mc_27_32 : mm_code 27 32 = some (62, (8, (5, 0))) := by decide +kernel
theorem mc_27_33 : mm_code 27 33 = some (64, (20, (6, 1))) := by decide +kernel
theorem mc_27_34 : mm_code 27 34 = some (67, (24, (20, (-32)))) := by decide +kernel
theorem mc_27_35 : mm_code 27 35 = some (70, (5, (0, 0))) := by decide +kernel
theorem mc_27_36 : mm_code 27 36 = some (71, (4, (4, 0))) := by decide +kernel
theorem mc_27_37 : mm_code 27 37 = some (73, (5, (0, 0))) := by decide +kernel
theorem mc_27_38 : mm_code 27 38 = some (74, (4, (4, 0))) := by decide +kernel
theorem mc_27_39 : mm_code 27 39 = some (76, (3, (1, 0))) := by decide +kernel
theorem mc_27_40 : mm_code 27 40 = some (77, (3, (2, 0))) := by decide +kernel
theorem mc_27_41 : mm_code 27 41 = some (78, (105, (23, 0))) := by decide +kernel
theorem mc_27_42 : mm_code 27 42 = some (81, (25, (47, 10))) := by decide +kernel
theorem mc_27_43 : mm_code 27 43 = some (84, (4, (5, 0))) := by decide +kernel
theorem mc_27_44 : mm_code 27 44 = some (86, (0, (0, 1))) := by decide +kernel
theorem mc_27_45 : mm_code 27 45 = some (87, (11, (0, 0))) := by decide +kernel
theorem mc_27_46 : mm_code 27 46 = some (88, (24, (48, 4))) := by decide +kernel
theorem mc_27_47 : mm_code 27 47 = some (91, (0, (0, (-1)))) := by decide +kernel
theorem mc_27_48 : mm_code 27 48 = some (92, (105, (22, 0))) := by decide +kernel
theorem mc_27_49 : mm_code 27 49 = some (95, (20, (3, (-1)))) := by decide +kernel
theorem mc_27_50 : mm_code 27 50 = some (98, (24, (9, (-83)))) := by decide +kernel
theorem mc_27_51 : mm_code 27 51 = some (101, (103, (0, 0))) := by decide +kernel
theorem mc_28_0 : mm_code 28 0 = some (0, (5, (0, 0))) := by decide +kernel
theorem mc_28_1 : mm_code 28 1 = some (1, (0, (0, 0))) := by decide +kernel
theorem mc_28_2 : mm_code 28 2 = some (2, (41, (12, 0))) := by decide +kernel
theorem mc_28_3 : mm_code 28 3 = some (5, (5, (0, 0))) := by decide +kernel
theorem mc_28_4 : mm_code 28 4 = some (6, (40, (10, 0))) := by decide +kernel
theorem mc_28_5 : mm_code 28 5 = some (9, (105, (18, 0))) := by decide +kernel
theorem mc_28_6 : mm_code 28 6 = some (12, (0, (0, 1))) := by decide +kernel
theorem mc_28_7 : mm_code 28 7 = some (13, (12, (0, 0))) := by decide +kernel
theorem mc_28_8 : mm_code 28 8 = some (14, (7, (2, 0))) := by decide +kernel
theorem mc_28_9 : mm_code 28 9 = some (15, (3, (2, 0))) := by decide +kernel
theorem mc_28_10 : mm_code 28 10 = some (16, (27, (43, 67))) := by decide +kernel
theorem mc_28_11 : mm_code 28 11 = some (19, (5, (0, 0))) := by decide +kernel
theorem mc_28_12 : mm_code 28 12 = some (20, (40, (10, 0))) := by decide +kernel
theorem mc_28_13 : mm_code 28 13 = some (23, (3, (2, 0))) := by decide +kernel
theorem mc_28_14 : mm_code 28 14 = some (24, (105, (19, 0))) := by decide +kernel
theorem mc_28_15 : mm_code 28 15 = some (27, (7, (3, 0))) := by decide +kernel
theorem mc_28_16 : mm_code 28 16 = some (28, (1, (0, 100))) := by decide +kernel
theorem mc_28_17 : mm_code 28 17 = some (30, (8, (4, 0))) := by decide +kernel
theorem mc_28_18 : mm_code 28 18 = some (32, (0, (0, 0))) := by decide +kernel
theorem mc_28_19 : mm_code 28 19 = some (33, (8, (5, 0))) := by decide +kernel
theorem mc_28_20 : mm_code 28 20 = some (35, (4, (5, 0))) := by decide +kernel
theorem mc_28_21 : mm_code 28 21 = some (37, (3, (1, 0))) := by decide +kernel
theorem mc_28_22 : mm_code 28 22 = some (38, (34, (35, 30))) := by decide +kernel
theorem mc_28_23 : mm_code 28 23 = some (41, (4, (4, 0))) := by decide +kernel
theorem mc_28_24 : mm_code 28 24 = some (43, (5, (0, 0))) := by decide +kernel
theorem mc_28_25 : mm_code 28 25 = some (44, (5, (0, 0))) := by decide +kernel
theorem mc_28_26 : mm_code 28 26 = some (45, (40, (10, 0))) := by decide +kernel
theorem mc_28_27 : mm_code 28 27 = some (48, (3, (3, 0))) := by decide +kernel
theorem mc_28_28 : mm_code 28 28 = some (49, (4, (5, 0))) := by decide +kernel
theorem mc_28_29 : mm_code 28 29 = some (51, (105, (20, 0))) := by decide +kernel
theorem mc_28_30 : mm_code 28 30 = some (54, (105, (21, 0))) := by decide +kernel
theorem mc_28_31 : mm_code 28 31 = some (57, (59, (54, 0))) := by decide +kernel
theorem mc_28_32 : mm_code 28 32 = some (60, (8, (4, 0))) := by decide +kernel
theorem mc_28_33 : mm_code 28 33 = some (62, (20, (5, 1))) := by decide +kernel
theorem mc_28_34 : mm_code 28 34 = some (65, (24, (20, (-30)))) := by decide +kernel
theorem mc_28_35 : mm_code 28 35 = some (68, (5, (0, 0))) := by decide +kernel
theorem mc_28_36 : mm_code 28 36 = some (69, (3, (3, 0))) := by decide +kernel
theorem mc_28_37 : mm_code 28 37 = some (70, (4, (4, 0))) := by decide +kernel
theorem mc_28_38 : mm_code 28 38 = some (72, (0, (0, 1))) := by decide +kernel
theorem mc_28_39 : mm_code 28 39 = some (73, (11, (0, 0))) := by decide +kernel
theorem mc_28_40 : mm_code 28 40 = some (74, (105, (22, 0))) := by decide +kernel
theorem mc_28_41 : mm_code 28 41 = some (77, (20, (2, (-1)))) := by decide +kernel
theorem mc_28_42 : mm_code 28 42 = some (80, (24, (9, (-65)))) := by decide +kernel
theorem mc_28_43 : mm_code 28 43 = some (83, (103, (0, 0))) := by decide +kernel
theorem mc_29_0 : mm_code 29 0 = some (0, (0, (0, 0))) := by decide +kernel
theorem mc_29_1 : mm_code 29 1 = some (1, (7, (2, 0))) := by decide +kernel
theorem mc_29_2 : mm_code 29 2 = some (2, (0, (0, 0))) := by decide +kernel
theorem mc_29_3 : mm_code 29 3 = some (3, (7, (3, 0))) := by decide +kernel
theorem mc_29_4 : mm_code 29 4 = some (4, (5, (1, 0))) := by decide +kernel
theorem mc_29_5 : mm_code 29 5 = some (5, (38, (8, 7))) := by decide +kernel
theorem mc_29_6 : mm_code 29 6 = some (8, (0, (0, 0))) := by decide +kernel
theorem mc_29_7 : mm_code 29 7 = some (9, (24, (10, 7))) := by decide +kernel
theorem mc_29_8 : mm_code 29 8 = some (12, (5, (1, 0))) := by decide +kernel
theorem mc_29_9 : mm_code 29 9 = some (13, (105, (24, 0))) := by decide +kernel
theorem mc_29_10 : mm_code 29 10 = some (16, (8, (4, 0))) := by decide +kernel
theorem mc_29_11 : mm_code 29 11 = some (18, (0, (0, 0))) := by decide +kernel
theorem mc_29_12 : mm_code 29 12 = some (19, (8, (5, 0))) := by decide +kernel
theorem mc_29_13 : mm_code 29 13 = some (21, (4, (5, 0))) := by decide +kernel
theorem mc_29_14 : mm_code 29 14 = some (23, (4, (4, 0))) := by decide +kernel
theorem mc_29_15 : mm_code 29 15 = some (25, (34, (57, 83))) := by decide +kernel
theorem mc_29_16 : mm_code 29 16 = some (28, (3, (3, 0))) := by decide +kernel
theorem mc_29_17 : mm_code 29 17 = some (29, (0, (0, (-1)))) := by decide +kernel
theorem mc_29_18 : mm_code 29 18 = some (30, (31, (57, 78))) := by decide +kernel
theorem mc_29_19 : mm_code 29 19 = some (33, (5, (1, 0))) := by decide +kernel
theorem mc_29_20 : mm_code 29 20 = some (34, (4, (5, 0))) := by decide +kernel
theorem mc_29_21 : mm_code 29 21 = some (36, (105, (25, 0))) := by decide +kernel
theorem mc_29_22 : mm_code 29 22 = some (39, (8, (6, 0))) := by decide +kernel
theorem mc_29_23 : mm_code 29 23 = some (41, (0, (0, 0))) := by decide +kernel
theorem mc_29_24 : mm_code 29 24 = some (42, (8, (7, 0))) := by decide +kernel
theorem mc_29_25 : mm_code 29 25 = some (44, (4, (7, 0))) := by decide +kernel
theorem mc_29_26 : mm_code 29 26 = some (46, (4, (6, 0))) := by decide +kernel
theorem mc_29_27 : mm_code 29 27 = some (48, (34, (40, 26))) := by decide +kernel
theorem mc_29_28 : mm_code 29 28 = some (51, (3, (2, 0))) := by decide +kernel
theorem mc_29_29 : mm_code 29 29 = some (52, (5, (0, 0))) := by decide +kernel
theorem mc_29_30 : mm_code 29 30 = some (53, (5, (0, 0))) := by decide +kernel
theorem mc_29_31 : mm_code 29 31 = some (54, (40, (10, 0))) := by decide +kernel
theorem mc_29_32 : mm_code 29 32 = some (57, (3, (3, 0))) := by decide +kernel
theorem mc_29_33 : mm_code 29 33 = some (58, (4, (7, 0))) := by decide +kernel
theorem mc_29_34 : mm_code 29 34 = some (60, (105, (20, 0))) := by decide +kernel
theorem mc_29_35 : mm_code 29 35 = some (63, (105, (21, 0))) := by decide +kernel
theorem mc_29_36 : mm_code 29 36 = some (66, (11, (0, 0))) := by decide +kernel
theorem mc_29_37 : mm_code 29 37 = some (67, (7, (2, 0))) := by decide +kernel
theorem mc_29_38 : mm_code 29 38 = some (68, (20, (7, 1))) := by decide +kernel
theorem mc_29_39 : mm_code 29 39 = some (71, (24, (25, (-27)))) := by decide +kernel
theorem mc_29_40 : mm_code 29 40 = some (74, (5, (0, 0))) := by decide +kernel
theorem mc_29_41 : mm_code 29 41 = some (75, (40, (10, 0))) := by decide +kernel
theorem mc_29_42 : mm_code 29 42 = some (78, (3, (3, 0))) := by decide +kernel
theorem mc_29_43 : mm_code 29 43 = some (79, (4, (6, 0))) := by decide +kernel
theorem mc_29_44 : mm_code 29 44 = some (81, (105, (20, 0))) := by decide +kernel
theorem mc_29_45 : mm_code 29 45 = some (84, (7, (3, 0))) := by decide +kernel
theorem mc_29_46 : mm_code 29 46 = some (85, (3, (3, 0))) := by decide +kernel
theorem mc_29_47 : mm_code 29 47 = some (86, (0, (0, (-1)))) := by decide +kernel
theorem mc_29_48 : mm_code 29 48 = some (87, (31, (55, 15))) := by decide +kernel
theorem mc_29_49 : mm_code 29 49 = some (90, (4, (5, 0))) := by decide +kernel
theorem mc_29_50 : mm_code 29 50 = some (92, (4, (4, 0))) := by decide +kernel
theorem mc_29_51 : mm_code 29 51 = some (94, (0, (0, 1))) := by decide +kernel
theorem mc_29_52 : mm_code 29 52 = some (95, (12, (0, 0))) := by decide +kernel
theorem mc_29_53 : mm_code 29 53 = some (96, (34, (55, 6))) := by decide +kernel
theorem mc_29_54 : mm_code 29 54 = some (99, (20, (2, 1))) := by decide +kernel
theorem mc_29_55 : mm_code 29 55 = some (102, (20, (5, 1))) := by decide +kernel
theorem mc_29_56 : mm_code 29 56 = some (105, (24, (13, (-84)))) := by decide +kernel
theorem mc_29_57 : mm_code 29 57 = some (108, (3, (2, 0))) := by decide +kernel
theorem mc_29_58 : mm_code 29 58 = some (109, (100, (0, 0))) := by decide +kernel
theorem mc_30_0 : mm_code 30 0 = some (0, (5, (2, 0))) := by decide +kernel
theorem mc_30_1 : mm_code 30 1 = some (1, (38, (3, 4))) := by decide +kernel
theorem mc_30_2 : mm_code 30 2 = some (4, (103, (0, 0))) := by decide +kernel
theorem mc_30_3 : mm_code 30 3 = some (5, (5, (2, 0))) := by decide +kernel
theorem mc_30_4 : mm_code 30 4 = some (6, (105, (26, 0))) := by decide +kernel
theorem mc_30_5 : mm_code 30 5 = some (9, (0, (0, 0))) := by decide +kernel
theorem mc_30_6 : mm_code 30 6 = some (10, (7, (3, 0))) := by decide +kernel
theorem mc_30_7 : mm_code 30 7 = some (11, (3, (1, 0))) := by decide +kernel
theorem mc_30_8 : mm_code 30 8 = some (12, (8, (4, 0))) := by decide +kernel
theorem mc_30_9 : mm_code 30 9 = some (14, (4, (4, 0))) := by decide +kernel
theorem mc_30_10 : mm_code 30 10 = some (16, (27, (55, 93))) := by decide +kernel
theorem mc_30_11 : mm_code 30 11 = some (19, (3, (3, 0))) := by decide +kernel
theorem mc_30_12 : mm_code 30 12 = some (20, (0, (0, (-1)))) := by decide +kernel
theorem mc_30_13 : mm_code 30 13 = some (21, (31, (55, 88))) := by decide +kernel
theorem mc_30_14 : mm_code 30 14 = some (24, (0, (0, 0))) := by decide +kernel
theorem mc_30_15 : mm_code 30 15 = some (25, (8, (5, 0))) := by decide +kernel
theorem mc_30_16 : mm_code 30 16 = some (27, (5, (0, 0))) := by decide +kernel
theorem mc_30_17 : mm_code 30 17 = some (28, (5, (0, 0))) := by decide +kernel
theorem mc_30_18 : mm_code 30 18 = some (29, (40, (10, 0))) := by decide +kernel
theorem mc_30_19 : mm_code 30 19 = some (32, (3, (3, 0))) := by decide +kernel
theorem mc_30_20 : mm_code 30 20 = some (33, (4, (5, 0))) := by decide +kernel
theorem mc_30_21 : mm_code 30 21 = some (35, (105, (20, 0))) := by decide +kernel
theorem mc_30_22 : mm_code 30 22 = some (38, (105, (21, 0))) := by decide +kernel
theorem mc_30_23 : mm_code 30 23 = some (41, (8, (6, 0))) := by decide +kernel
theorem mc_30_24 : mm_code 30 24 = some (43, (4, (5, 0))) := by decide +kernel
theorem mc_30_25 : mm_code 30 25 = some (45, (1, (0, 26))) := by decide +kernel
theorem mc_30_26 : mm_code 30 26 = some (47, (34, (44, 39))) := by decide +kernel
theorem mc_30_27 : mm_code 30 27 = some (50, (4, (6, 0))) := by decide +kernel
theorem mc_30_28 : mm_code 30 28 = some (52, (4, (4, 0))) := by decide +kernel
theorem mc_30_29 : mm_code 30 29 = some (54, (35, (44, 32))) := by decide +kernel
theorem mc_30_30 : mm_code 30 30 = some (57, (4, (4, 0))) := by decide +kernel
theorem mc_30_31 : mm_code 30 31 = some (59, (4, (6, 0))) := by decide +kernel
theorem mc_30_32 : mm_code 30 32 = some (61, (12, (0, 0))) := by decide +kernel
theorem mc_30_33 : mm_code 30 33 = some (62, (8, (4, 0))) := by decide +kernel
theorem mc_30_34 : mm_code 30 34 = some (64, (20, (5, 1))) := by decide +kernel
theorem mc_30_35 : mm_code 30 35 = some (67, (5, (0, 0))) := by decide +kernel
theorem mc_30_36 : mm_code 30 36 = some (68, (5, (0, 0))) := by decide +kernel
theorem mc_30_37 : mm_code 30 37 = some (69, (40, (10, 0))) := by decide +kernel
theorem mc_30_38 : mm_code 30 38 = some (72, (3, (3, 0))) := by decide +kernel
theorem mc_30_39 : mm_code 30 39 = some (73, (4, (5, 0))) := by decide +kernel
theorem mc_30_40 : mm_code 30 40 = some (75, (105, (20, 0))) := by decide +kernel
theorem mc_30_41 : mm_code 30 41 = some (78, (105, (21, 0))) := by decide +kernel
theorem mc_30_42 : mm_code 30 42 = some (81, (8, (6, 0))) := by decide +kernel
theorem mc_30_43 : mm_code 30 43 = some (83, (24, (24, (-40)))) := by decide +kernel
theorem mc_30_44 : mm_code 30 44 = some (86, (5, (2, 0))) := by decide +kernel
theorem mc_30_45 : mm_code 30 45 = some (87, (4, (5, 0))) := by decide +kernel
theorem mc_30_46 : mm_code 30 46 = some (89, (105, (27, 0))) := by decide +kernel
theorem mc_30_47 : mm_code 30 47 = some (92, (5, (0, 0))) := by decide +kernel
theorem mc_30_48 : mm_code 30 48 = some (93, (40, (10, 0))) := by decide +kernel
theorem mc_30_49 : mm_code 30 49 = some (96, (3, (3, 0))) := by decide +kernel
theorem mc_30_50 : mm_code 30 50 = some (97, (4, (5, 0))) := by decide +kernel
theorem mc_30_51 : mm_code 30 51 = some (99, (105, (20, 0))) := by decide +kernel
theorem mc_30_52 : mm_code 30 52 = some (102, (7, (3, 0))) := by decide +kernel
theorem mc_30_53 : mm_code 30 53 = some (103, (20, (4, (-1)))) := by decide +kernel
theorem mc_30_54 : mm_code 30 54 = some (106, (24, (9, (-92)))) := by decide +kernel
theorem mc_30_55 : mm_code 30 55 = some (109, (103, (0, 0))) := by decide +kernel
theorem mc_31_0 : mm_code 31 0 = some (0, (5, (1, 0))) := by decide +kernel
theorem mc_31_1 : mm_code 31 1 = some (1, (38, (3, 4))) := by decide +kernel
theorem mc_31_2 : mm_code 31 2 = some (4, (103, (0, 0))) := by decide +kernel
theorem mc_31_3 : mm_code 31 3 = some (5, (5, (1, 0))) := by decide +kernel
theorem mc_31_4 : mm_code 31 4 = some (6, (105, (26, 0))) := by decide +kernel
theorem mc_31_5 : mm_code 31 5 = some (9, (0, (0, 0))) := by decide +kernel
theorem mc_31_6 : mm_code 31 6 = some (10, (7, (2, 0))) := by decide +kernel
theorem mc_31_7 : mm_code 31 7 = some (11, (5, (0, 0))) := by decide +kernel
theorem mc_31_8 : mm_code 31 8 = some (12, (0, (0, 0))) := by decide +kernel
theorem mc_31_9 : mm_code 31 9 = some (13, (105, (21, 0))) := by decide +kernel
theorem mc_31_10 : mm_code 31 10 = some (16, (0, (0, 1))) := by decide +kernel
theorem mc_31_11 : mm_code 31 11 = some (17, (12, (0, 0))) := by decide +kernel
theorem mc_31_12 : mm_code 31 12 = some (18, (7, (3, 0))) := by decide +kernel
theorem mc_31_13 : mm_code 31 13 = some (19, (3, (3, 0))) := by decide +kernel
theorem mc_31_14 : mm_code 31 14 = some (20, (27, (42, 60))) := by decide +kernel
theorem mc_31_15 : mm_code 31 15 = some (23, (0, (0, 0))) := by decide +kernel
theorem mc_31_16 : mm_code 31 16 = some (24, (8, (4, 0))) := by decide +kernel
theorem mc_31_17 : mm_code 31 17 = some (26, (4, (4, 0))) := by decide +kernel
theorem mc_31_18 : mm_code 31 18 = some (28, (1, (0, 26))) := by decide +kernel
theorem mc_31_19 : mm_code 31 19 = some (30, (34, (31, 27))) := by decide +kernel
theorem mc_31_20 : mm_code 31 20 = some (33, (5, (0, 0))) := by decide +kernel
theorem mc_31_21 : mm_code 31 21 = some (34, (5, (0, 0))) := by decide +kernel
theorem mc_31_22 : mm_code 31 22 = some (35, (40, (10, 0))) := by decide +kernel
theorem mc_31_23 : mm_code 31 23 = some (38, (3, (2, 0))) := by decide +kernel
theorem mc_31_24 : mm_code 31 24 = some (39, (4, (4, 0))) := by decide +kernel
theorem mc_31_25 : mm_code 31 25 = some (41, (105, (20, 0))) := by decide +kernel
theorem mc_31_26 : mm_code 31 26 = some (44, (105, (21, 0))) := by decide +kernel
theorem mc_31_27 : mm_code 31 27 = some (47, (3, (3, 0))) := by decide +kernel
theorem mc_31_28 : mm_code 31 28 = some (48, (31, (31, 9))) := by decide +kernel
theorem mc_31_29 : mm_code 31 29 = some (51, (20, (4, 1))) := by decide +kernel
theorem mc_31_30 : mm_code 31 30 = some (54, (24, (17, (-28)))) := by decide +kernel
theorem mc_31_31 : mm_code 31 31 = some (57, (5, (1, 0))) := by decide +kernel
theorem mc_31_32 : mm_code 31 32 = some (58, (4, (4, 0))) := by decide +kernel
theorem mc_31_33 : mm_code 31 33 = some (60, (105, (27, 0))) := by decide +kernel
theorem mc_31_34 : mm_code 31 34 = some (63, (5, (0, 0))) := by decide +kernel
theorem mc_31_35 : mm_code 31 35 = some (64, (40, (10, 0))) := by decide +kernel
theorem mc_31_36 : mm_code 31 36 = some (67, (3, (2, 0))) := by decide +kernel
theorem mc_31_37 : mm_code 31 37 = some (68, (4, (4, 0))) := by decide +kernel
theorem mc_31_38 : mm_code 31 38 = some (70, (105, (20, 0))) := by decide +kernel
theorem mc_31_39 : mm_code 31 39 = some (73, (7, (2, 0))) := by decide +kernel
theorem mc_31_40 : mm_code 31 40 = some (74, (20, (3, (-1)))) := by decide +kernel
theorem mc_31_41 : mm_code 31 41 = some (77, (24, (13, (-58)))) := by decide +kernel
theorem mc_31_42 : mm_code 31 42 = some (80, (103, (0, 0))) := by decide +kernel
theorem mc_32_0 : mm_code 32 0 = some (0, (3, (1, 0))) := by decide +kernel
theorem mc_32_1 : mm_code 32 1 = some (1, (25, (16, 33))) := by decide +kernel
theorem mc_32_2 : mm_code 32 2 = some (4, (5, (0, 0))) := by decide +kernel
theorem mc_32_3 : mm_code 32 3 = some (5, (40, (10, 0))) := by decide +kernel
theorem mc_32_4 : mm_code 32 4 = some (8, (40, (13, 0))) := by decide +kernel
theorem mc_32_5 : mm_code 32 5 = some (11, (3, (1, 0))) := by decide +kernel
theorem mc_32_6 : mm_code 32 6 = some (12, (3, (2, 0))) := by decide +kernel
theorem mc_32_7 : mm_code 32 7 = some (13, (105, (28, 0))) := by decide +kernel
theorem mc_32_8 : mm_code 32 8 = some (16, (25, (18, 22))) := by decide +kernel
theorem mc_32_9 : mm_code 32 9 = some (19, (5, (0, 0))) := by decide +kernel
theorem mc_32_10 : mm_code 32 10 = some (20, (40, (10, 0))) := by decide +kernel
theorem mc_32_11 : mm_code 32 11 = some (23, (40, (13, 0))) := by decide +kernel
theorem mc_32_12 : mm_code 32 12 = some (26, (3, (1, 0))) := by decide +kernel
theorem mc_32_13 : mm_code 32 13 = some (27, (105, (29, 0))) := by decide +kernel
theorem mc_32_14 : mm_code 32 14 = some (30, (3, (3, 0))) := by decide +kernel
theorem mc_32_15 : mm_code 32 15 = some (31, (33, (18, 7))) := by decide +kernel
theorem mc_32_16 : mm_code 32 16 = some (34, (0, (0, 1))) := by decide +kernel
theorem mc_32_17 : mm_code 32 17 = some (35, (24, (19, 4))) := by decide +kernel
theorem mc_32_18 : mm_code 32 18 = some (38, (0, (0, 0))) := by decide +kernel
theorem mc_32_19 : mm_code 32 19 = some (39, (101, (0, 0))) := by decide +kernel
theorem mc_33_0 : mm_code 33 0 = some (0, (3, (1, 0))) := by decide +kernel
theorem mc_33_1 : mm_code 33 1 = some (1, (5, (0, 0))) := by decide +kernel
theorem mc_33_2 : mm_code 33 2 = some (2, (40, (11, 0))) := by decide +kernel
theorem mc_33_3 : mm_code 33 3 = some (5, (49, (0, 0))) := by decide +kernel
theorem mc_33_4 : mm_code 33 4 = some (6, (107, (30, 0))) := by decide +kernel
theorem mc_33_5 : mm_code 33 5 = some (9, (25, (11, 12))) := by decide +kernel
theorem mc_33_6 : mm_code 33 6 = some (12, (5, (0, 0))) := by decide +kernel
theorem mc_33_7 : mm_code 33 7 = some (13, (40, (11, 0))) := by decide +kernel
theorem mc_33_8 : mm_code 33 8 = some (16, (3, (1, 0))) := by decide +kernel
theorem mc_33_9 : mm_code 33 9 = some (17, (43, (0, 0))) := by decide +kernel
theorem mc_33_10 : mm_code 33 10 = some (18, (24, (13, 7))) := by decide +kernel
theorem mc_33_11 : mm_code 33 11 = some (21, (5, (0, 0))) := by decide +kernel
theorem mc_33_12 : mm_code 33 12 = some (22, (40, (12, 0))) := by decide +kernel
theorem mc_33_13 : mm_code 33 13 = some (25, (100, (0, 0))) := by decide +kernel
theorem mc_34_0 : mm_code 34 0 = some (0, (3, (1, 0))) := by decide +kernel
theorem mc_34_1 : mm_code 34 1 = some (1, (5, (0, 0))) := by decide +kernel
theorem mc_34_2 : mm_code 34 2 = some (2, (40, (11, 0))) := by decide +kernel
theorem mc_34_3 : mm_code 34 3 = some (5, (49, (0, 0))) := by decide +kernel
theorem mc_34_4 : mm_code 34 4 = some (6, (107, (30, 0))) := by decide +kernel
theorem mc_34_5 : mm_code 34 5 = some (9, (25, (11, 10))) := by decide +kernel
theorem mc_34_6 : mm_code 34 6 = some (12, (5, (0, 0))) := by decide +kernel
theorem mc_34_7 : mm_code 34 7 = some (13, (40, (11, 0))) := by decide +kernel
theorem mc_34_8 : mm_code 34 8 = some (16, (3, (1, 0))) := by decide +kernel
theorem mc_34_9 : mm_code 34 9 = some (17, (3, (2, 0))) := by decide +kernel
theorem mc_34_10 : mm_code 34 10 = some (18, (44, (0, 0))) := by decide +kernel
theorem mc_34_11 : mm_code 34 11 = some (19, (103, (0, 0))) := by decide +kernel
theorem mc_35_0 : mm_code 35 0 = some (0, (5, (0, 0))) := by decide +kernel
theorem mc_35_1 : mm_code 35 1 = some (1, (57, (3, 0))) := by decide +kernel
theorem mc_35_2 : mm_code 35 2 = some (4, (5, (0, 0))) := by decide +kernel
theorem mc_35_3 : mm_code 35 3 = some (5, (3, (1, 0))) := by decide +kernel
theorem mc_35_4 : mm_code 35 4 = some (6, (0, (0, 0))) := by decide +kernel
theorem mc_35_5 : mm_code 35 5 = some (7, (58, (9, 0))) := by decide +kernel
theorem mc_35_6 : mm_code 35 6 = some (10, (51, (0, 0))) := by decide +kernel
theorem mc_35_7 : mm_code 35 7 = some (12, (42, (14, 0))) := by decide +kernel
theorem mc_35_8 : mm_code 35 8 = some (15, (5, (0, 0))) := by decide +kernel
theorem mc_35_9 : mm_code 35 9 = some (16, (0, (0, 0))) := by decide +kernel
theorem mc_35_10 : mm_code 35 10 = some (17, (41, (15, 0))) := by decide +kernel
theorem mc_35_11 : mm_code 35 11 = some (20, (103, (0, 0))) := by decide +kernel
theorem mc_36_0 : mm_code 36 0 = some (0, (5, (0, 0))) := by decide +kernel
theorem mc_36_1 : mm_code 36 1 = some (1, (40, (15, 0))) := by decide +kernel
theorem mc_36_2 : mm_code 36 2 = some (4, (100, (0, 0))) := by decide +kernel
theorem mc_37_0 : mm_code 37 0 = some (0, (3, (1, 0))) := by decide +kernel
theorem mc_37_1 : mm_code 37 1 = some (1, (5, (0, 0))) := by decide +kernel
theorem mc_37_2 : mm_code 37 2 = some (2, (40, (15, 0))) := by decide +kernel
theorem mc_37_3 : mm_code 37 3 = some (5, (107, (31, 0))) := by decide +kernel
theorem mc_37_4 : mm_code 37 4 = some (8, (25, (15, 21))) := by decide +kernel
theorem mc_37_5 : mm_code 37 5 = some (11, (3, (1, 0))) := by decide +kernel
theorem mc_37_6 : mm_code 37 6 = some (12, (5, (0, 0))) := by decide +kernel
theorem mc_37_7 : mm_code 37 7 = some (13, (40, (14, 0))) := by decide +kernel
theorem mc_37_8 : mm_code 37 8 = some (16, (49, (0, 0))) := by decide +kernel
theorem mc_37_9 : mm_code 37 9 = some (17, (34, (15, 12))) := by decide +kernel
theorem mc_37_10 : mm_code 37 10 = some (20, (5, (0, 0))) := by decide +kernel
theorem mc_37_11 : mm_code 37 11 = some (21, (40, (14, 0))) := by decide +kernel
theorem mc_37_12 : mm_code 37 12 = some (24, (3, (1, 0))) := by decide +kernel
theorem mc_37_13 : mm_code 37 13 = some (25, (43, (0, 0))) := by decide +kernel
theorem mc_37_14 : mm_code 37 14 = some (26, (24, (16, 4))) := by decide +kernel
theorem mc_37_15 : mm_code 37 15 = some (29, (0, (0, (-1)))) := by decide +kernel
theorem mc_37_16 : mm_code 37 16 = some (30, (100, (0, 0))) := by decide +kernel
theorem mc_38_0 : mm_code 38 0 = some (0, (5, (0, 0))) := by decide +kernel
theorem mc_38_1 : mm_code 38 1 = some (1, (40, (15, 0))) := by decide +kernel
theorem mc_38_2 : mm_code 38 2 = some (4, (5, (0, 0))) := by decide +kernel
theorem mc_38_3 : mm_code 38 3 = some (5, (40, (14, 0))) := by decide +kernel
theorem mc_38_4 : mm_code 38 4 = some (8, (49, (0, 0))) := by decide +kernel
theorem mc_38_5 : mm_code 38 5 = some (9, (107, (31, 0))) := by decide +kernel
theorem mc_38_6 : mm_code 38 6 = some (12, (25, (23, 32))) := by decide +kernel
theorem mc_38_7 : mm_code 38 7 = some (15, (3, (1, 0))) := by decide +kernel
theorem mc_38_8 : mm_code 38 8 = some (16, (1, (0, 26))) := by decide +kernel
theorem mc_38_9 : mm_code 38 9 = some (18, (107, (31, 0))) := by decide +kernel
theorem mc_38_10 : mm_code 38 10 = some (21, (25, (23, 23))) := by decide +kernel
theorem mc_38_11 : mm_code 38 11 = some (24, (5, (0, 0))) := by decide +kernel
theorem mc_38_12 : mm_code 38 12 = some (25, (40, (14, 0))) := by decide +kernel
theorem mc_38_13 : mm_code 38 13 = some (28, (5, (0, 0))) := by decide +kernel
theorem mc_38_14 : mm_code 38 14 = some (29, (40, (15, 0))) := by decide +kernel
theorem mc_38_15 : mm_code 38 15 = some (32, (3, (1, 0))) := by decide +kernel
theorem mc_38_16 : mm_code 38 16 = some (33, (44, (0, 0))) := by decide +kernel
theorem mc_38_17 : mm_code 38 17 = some (34, (5, (0, 0))) := by decide +kernel
theorem mc_38_18 : mm_code 38 18 = some (35, (21, (0, 0))) := by decide +kernel
theorem mc_38_19 : mm_code 38 19 = some (36, (40, (15, 0))) := by decide +kernel
theorem mc_38_20 : mm_code 38 20 = some (39, (0, (0, 1))) := by decide +kernel
theorem mc_38_21 : mm_code 38 21 = some (40, (11, (0, 0))) := by decide +kernel
theorem mc_38_22 : mm_code 38 22 = some (41, (41, (15, 0))) := by decide +kernel
theorem mc_38_23 : mm_code 38 23 = some (44, (103, (0, 0))) := by decide +kernel
theorem mc_39_0 : mm_code 39 0 = some (0, (5, (0, 0))) := by decide +kernel
theorem mc_39_1 : mm_code 39 1 = some (1, (40, (15, 0))) := by decide +kernel
theorem mc_39_2 : mm_code 39 2 = some (4, (30, (9, 13))) := by decide +kernel
theorem mc_39_3 : mm_code 39 3 = some (7, (5, (0, 0))) := by decide +kernel
theorem mc_39_4 : mm_code 39 4 = some (8, (21, (0, 0))) := by decide +kernel
theorem mc_39_5 : mm_code 39 5 = some (9, (40, (15, 0))) := by decide +kernel
theorem mc_39_6 : mm_code 39 6 = some (12, (0, (0, 1))) := by decide +kernel
theorem mc_39_7 : mm_code 39 7 = some (13, (12, (0, 0))) := by decide +kernel
theorem mc_39_8 : mm_code 39 8 = some (14, (41, (15, 0))) := by decide +kernel
theorem mc_39_9 : mm_code 39 9 = some (17, (103, (0, 0))) := by decide +kernel
theorem mc_40_0 : mm_code 40 0 = some (0, (5, (0, 0))) := by decide +kernel
theorem mc_40_1 : mm_code 40 1 = some (1, (0, (0, 0))) := by decide +kernel
theorem mc_40_2 : mm_code 40 2 = some (2, (41, (15, 0))) := by decide +kernel
theorem mc_40_3 : mm_code 40 3 = some (5, (103, (0, 0))) := by decide +kernel
theorem mc_41_0 : mm_code 41 0 = some (0, (5, (0, 0))) := by decide +kernel
theorem mc_41_1 : mm_code 41 1 = some (1, (57, (3, 0))) := by decide +kernel
theorem mc_41_2 : mm_code 41 2 = some (4, (5, (0, 0))) := by decide +kernel
theorem mc_41_3 : mm_code 41 3 = some (5, (0, (0, 4))) := by decide +kernel
theorem mc_41_4 : mm_code 41 4 = some (6, (53, (9, 0))) := by decide +kernel
theorem mc_41_5 : mm_code 41 5 = some (9, (42, (16, 0))) := by decide +kernel
theorem mc_41_6 : mm_code 41 6 = some (12, (0, (0, 0))) := by decide +kernel
theorem mc_41_7 : mm_code 41 7 = some (13, (7, (1, 0))) := by decide +kernel
theorem mc_41_8 : mm_code 41 8 = some (14, (3, (1, 0))) := by decide +kernel
theorem mc_41_9 : mm_code 41 9 = some (15, (5, (0, 0))) := by decide +kernel
theorem mc_41_10 : mm_code 41 10 = some (16, (40, (16, 0))) := by decide +kernel
theorem mc_41_11 : mm_code 41 11 = some (19, (49, (0, 0))) := by decide +kernel
theorem mc_41_12 : mm_code 41 12 = some (20, (34, (23, 24))) := by decide +kernel
theorem mc_41_13 : mm_code 41 13 = some (23, (5, (0, 0))) := by decide +kernel
theorem mc_41_14 : mm_code 41 14 = some (24, (40, (16, 0))) := by decide +kernel
theorem mc_41_15 : mm_code 41 15 = some (27, (3, (1, 0))) := by decide +kernel
theorem mc_41_16 : mm_code 41 16 = some (28, (50, (9, 3))) := by decide +kernel
theorem mc_41_17 : mm_code 41 17 = some (31, (21, (0, 0))) := by decide +kernel
theorem mc_41_18 : mm_code 41 18 = some (32, (1, (0, 100))) := by decide +kernel
theorem mc_41_19 : mm_code 41 19 = some (34, (108, (32, 0))) := by decide +kernel
theorem mc_41_20 : mm_code 41 20 = some (37, (48, (0, 0))) := by decide +kernel
theorem mc_41_21 : mm_code 41 21 = some (38, (20, (1, 1))) := by decide +kernel
theorem mc_41_22 : mm_code 41 22 = some (41, (24, (8, (-27)))) := by decide +kernel
theorem mc_41_23 : mm_code 41 23 = some (44, (5, (0, 0))) := by decide +kernel
theorem mc_41_24 : mm_code 41 24 = some (45, (50, (9, 3))) := by decide +kernel
theorem mc_41_25 : mm_code 41 25 = some (48, (21, (0, 0))) := by decide +kernel
theorem mc_41_26 : mm_code 41 26 = some (49, (1, (0, 120))) := by decide +kernel
theorem mc_41_27 : mm_code 41 27 = some (51, (108, (32, 0))) := by decide +kernel
theorem mc_41_28 : mm_code 41 28 = some (54, (42, (17, 0))) := by decide +kernel
theorem mc_41_29 : mm_code 41 29 = some (57, (5, (0, 0))) := by decide +kernel
theorem mc_41_30 : mm_code 41 30 = some (58, (50, (22, 2))) := by decide +kernel
theorem mc_41_31 : mm_code 41 31 = some (61, (21, (0, 0))) := by decide +kernel
theorem mc_41_32 : mm_code 41 32 = some (62, (108, (33, 0))) := by decide +kernel
theorem mc_41_33 : mm_code 41 33 = some (65, (42, (18, 0))) := by decide +kernel
theorem mc_41_34 : mm_code 41 34 = some (68, (5, (0, 0))) := by decide +kernel
theorem mc_41_35 : mm_code 41 35 = some (69, (5, (0, 0))) := by decide +kernel
theorem mc_41_36 : mm_code 41 36 = some (70, (40, (18, 0))) := by decide +kernel
theorem mc_41_37 : mm_code 41 37 = some (73, (40, (19, 0))) := by decide +kernel
theorem mc_41_38 : mm_code 41 38 = some (76, (42, (20, 0))) := by decide +kernel
theorem mc_41_39 : mm_code 41 39 = some (79, (5, (0, 0))) := by decide +kernel
theorem mc_41_40 : mm_code 41 40 = some (80, (0, (0, 0))) := by decide +kernel
theorem mc_41_41 : mm_code 41 41 = some (81, (41, (21, 0))) := by decide +kernel
theorem mc_41_42 : mm_code 41 42 = some (84, (5, (0, 0))) := by decide +kernel
theorem mc_41_43 : mm_code 41 43 = some (85, (0, (0, 0))) := by decide +kernel
theorem mc_41_44 : mm_code 41 44 = some (86, (41, (22, 0))) := by decide +kernel
theorem mc_41_45 : mm_code 41 45 = some (89, (103, (0, 0))) := by decide +kernel
theorem mc_42_0 : mm_code 42 0 = some (0, (0, (0, 0))) := by decide +kernel
theorem mc_42_1 : mm_code 42 1 = some (1, (7, (1, 0))) := by decide +kernel
theorem mc_42_2 : mm_code 42 2 = some (2, (3, (1, 0))) := by decide +kernel
theorem mc_42_3 : mm_code 42 3 = some (3, (5, (0, 0))) := by decide +kernel
theorem mc_42_4 : mm_code 42 4 = some (4, (40, (16, 0))) := by decide +kernel
theorem mc_42_5 : mm_code 42 5 = some (7, (49, (0, 0))) := by decide +kernel
theorem mc_42_6 : mm_code 42 6 = some (8, (34, (18, 24))) := by decide +kernel
theorem mc_42_7 : mm_code 42 7 = some (11, (5, (0, 0))) := by decide +kernel
theorem mc_42_8 : mm_code 42 8 = some (12, (40, (16, 0))) := by decide +kernel
theorem mc_42_9 : mm_code 42 9 = some (15, (3, (1, 0))) := by decide +kernel
theorem mc_42_10 : mm_code 42 10 = some (16, (47, (0, 0))) := by decide +kernel
theorem mc_42_11 : mm_code 42 11 = some (17, (9, (2, 0))) := by decide +kernel
theorem mc_42_12 : mm_code 42 12 = some (18, (5, (2, 0))) := by decide +kernel
theorem mc_42_13 : mm_code 42 13 = some (19, (37, (16, 7))) := by decide +kernel
theorem mc_42_14 : mm_code 42 14 = some (22, (5, (2, 0))) := by decide +kernel
theorem mc_42_15 : mm_code 42 15 = some (23, (105, (34, 0))) := by decide +kernel
theorem mc_42_16 : mm_code 42 16 = some (26, (20, (1, 1))) := by decide +kernel
theorem mc_42_17 : mm_code 42 17 = some (29, (24, (2, (-27)))) := by decide +kernel
theorem mc_42_18 : mm_code 42 18 = some (32, (5, (0, 0))) := by decide +kernel
theorem mc_42_19 : mm_code 42 19 = some (33, (0, (0, 0))) := by decide +kernel
theorem mc_42_20 : mm_code 42 20 = some (34, (41, (21, 0))) := by decide +kernel
theorem mc_42_21 : mm_code 42 21 = some (37, (5, (0, 0))) := by decide +kernel
theorem mc_42_22 : mm_code 42 22 = some (38, (0, (0, 0))) := by decide +kernel
theorem mc_42_23 : mm_code 42 23 = some (39, (41, (22, 0))) := by decide +kernel
theorem mc_42_24 : mm_code 42 24 = some (42, (5, (0, 0))) := by decide +kernel
theorem mc_42_25 : mm_code 42 25 = some (43, (40, (17, 0))) := by decide +kernel
theorem mc_42_26 : mm_code 42 26 = some (46, (105, (34, 0))) := by decide +kernel
theorem mc_42_27 : mm_code 42 27 = some (49, (5, (0, 0))) := by decide +kernel
theorem mc_42_28 : mm_code 42 28 = some (50, (40, (20, 0))) := by decide +kernel
theorem mc_42_29 : mm_code 42 29 = some (53, (105, (35, 0))) := by decide +kernel
theorem mc_42_30 : mm_code 42 30 = some (56, (103, (0, 0))) := by decide +kernel
theorem mc_43_0 : mm_code 43 0 = some (0, (5, (0, 0))) := by decide +kernel
theorem mc_43_1 : mm_code 43 1 = some (1, (40, (21, 0))) := by decide +kernel
theorem mc_43_2 : mm_code 43 2 = some (4, (0, (0, 4))) := by decide +kernel
theorem mc_43_3 : mm_code 43 3 = some (5, (33, (9, 13))) := by decide +kernel
theorem mc_43_4 : mm_code 43 4 = some (8, (104, (0, 2))) := by decide +kernel
theorem mc_43_9 : mm_code 43 9 = some (18, (5, (0, 0))) := by decide +kernel
theorem mc_43_10 : mm_code 43 10 = some (19, (21, (0, 0))) := by decide +kernel
theorem mc_43_11 : mm_code 43 11 = some (20, (40, (21, 0))) := by decide +kernel
theorem mc_43_12 : mm_code 43 12 = some (23, (0, (0, 1))) := by decide +kernel
theorem mc_43_13 : mm_code 43 13 = some (24, (11, (0, 0))) := by decide +kernel
theorem mc_43_14 : mm_code 43 14 = some (25, (41, (21, 0))) := by decide +kernel
theorem mc_43_15 : mm_code 43 15 = some (28, (5, (0, 0))) := by decide +kernel
theorem mc_43_16 : mm_code 43 16 = some (29, (40, (21, 0))) := by decide +kernel
theorem mc_43_17 : mm_code 43 17 = some (32, (0, (0, 1))) := by decide +kernel
theorem mc_43_18 : mm_code 43 18 = some (33, (12, (0, 0))) := by decide +kernel
theorem mc_43_19 : mm_code 43 19 = some (34, (100, (0, 0))) := by decide +kernel
theorem mc_44_0 : mm_code 44 0 = some (0, (5, (0, 0))) := by decide +kernel
theorem mc_44_1 : mm_code 44 1 = some (1, (3, (1, 0))) := by decide +kernel
theorem mc_44_2 : mm_code 44 2 = some (2, (105, (36, 0))) := by decide +kernel
theorem mc_44_3 : mm_code 44 3 = some (5, (9, (3, 0))) := by decide +kernel
theorem mc_44_4 : mm_code 44 4 = some (6, (3, (2, 0))) := by decide +kernel
theorem mc_44_5 : mm_code 44 5 = some (7, (106, (37, 0))) := by decide +kernel
theorem mc_44_6 : mm_code 44 6 = some (10, (5, (0, 0))) := by decide +kernel
theorem mc_44_7 : mm_code 44 7 = some (11, (40, (22, 0))) := by decide +kernel
theorem mc_44_8 : mm_code 44 8 = some (14, (1, (0, 100))) := by decide +kernel
theorem mc_44_9 : mm_code 44 9 = some (16, (33, (15, 13))) := by decide +kernel
theorem mc_44_10 : mm_code 44 10 = some (19, (104, (1, 2))) := by decide +kernel
theorem mc_44_15 : mm_code 44 15 = some (29, (5, (0, 0))) := by decide +kernel
theorem mc_44_16 : mm_code 44 16 = some (30, (40, (20, 0))) := by decide +kernel
theorem mc_44_17 : mm_code 44 17 = some (33, (3, (1, 0))) := by decide +kernel
theorem mc_44_18 : mm_code 44 18 = some (34, (5, (3, 0))) := by decide +kernel
theorem mc_44_19 : mm_code 44 19 = some (35, (105, (38, 0))) := by decide +kernel
theorem mc_44_20 : mm_code 44 20 = some (38, (3, (2, 0))) := by decide +kernel
theorem mc_44_21 : mm_code 44 21 = some (39, (105, (39, 0))) := by decide +kernel
theorem mc_44_22 : mm_code 44 22 = some (42, (5, (3, 0))) := by decide +kernel
theorem mc_44_23 : mm_code 44 23 = some (43, (3, (2, 0))) := by decide +kernel
theorem mc_44_24 : mm_code 44 24 = some (44, (105, (40, 0))) := by decide +kernel
theorem mc_44_25 : mm_code 44 25 = some (47, (5, (0, 0))) := by decide +kernel
theorem mc_44_26 : mm_code 44 26 = some (48, (21, (0, 0))) := by decide +kernel
theorem mc_44_27 : mm_code 44 27 = some (49, (40, (22, 0))) := by decide +kernel
theorem mc_44_28 : mm_code 44 28 = some (52, (0, (0, 1))) := by decide +kernel
theorem mc_44_29 : mm_code 44 29 = some (53, (11, (0, 0))) := by decide +kernel
theorem mc_44_30 : mm_code 44 30 = some (54, (41, (22, 0))) := by decide +kernel
theorem mc_44_31 : mm_code 44 31 = some (57, (5, (3, 0))) := by decide +kernel
theorem mc_44_32 : mm_code 44 32 = some (58, (105, (38, 0))) := by decide +kernel
theorem mc_44_33 : mm_code 44 33 = some (61, (100, (0, 0))) := by decide +kernel
theorem mc_45_0 : mm_code 45 0 = some (0, (5, (0, 0))) := by decide +kernel
theorem mc_45_1 : mm_code 45 1 = some (1, (40, (21, 0))) := by decide +kernel
theorem mc_45_2 : mm_code 45 2 = some (4, (100, (0, 0))) := by decide +kernel
theorem mc_46_0 : mm_code 46 0 = some (0, (5, (0, 0))) := by decide +kernel
theorem mc_46_1 : mm_code 46 1 = some (1, (3, (1, 0))) := by decide +kernel
theorem mc_46_2 : mm_code 46 2 = some (2, (105, (36, 0))) := by decide +kernel
theorem mc_46_3 : mm_code 46 3 = some (5, (105, (38, 0))) := by decide +kernel
theorem mc_46_4 : mm_code 46 4 = some (8, (100, (0, 0))) := by decide +kernel
theorem mc_47_0 : mm_code 47 0 = some (0, (5, (0, 0))) := by decide +kernel
theorem mc_47_1 : mm_code 47 1 = some (1, (3, (1, 0))) := by decide +kernel
theorem mc_47_2 : mm_code 47 2 = some (2, (105, (36, 0))) := by decide +kernel
theorem mc_47_3 : mm_code 47 3 = some (5, (9, (3, 0))) := by decide +kernel
theorem mc_47_4 : mm_code 47 4 = some (6, (3, (2, 0))) := by decide +kernel
theorem mc_47_5 : mm_code 47 5 = some (7, (5, (3, 0))) := by decide +kernel
theorem mc_47_6 : mm_code 47 6 = some (8, (105, (38, 0))) := by decide +kernel
theorem mc_47_7 : mm_code 47 7 = some (11, (106, (41, 0))) := by decide +kernel
theorem mc_47_8 : mm_code 47 8 = some (14, (26, (14, 13))) := by decide +kernel
theorem mc_47_9 : mm_code 47 9 = some (17, (104, (2, 0))) := by decide +kernel
theorem mc_47_14 : mm_code 47 14 = some (27, (5, (3, 0))) := by decide +kernel
theorem mc_47_15 : mm_code 47 15 = some (28, (3, (2, 0))) := by decide +kernel
theorem mc_47_16 : mm_code 47 16 = some (29, (105, (42, 0))) := by decide +kernel
theorem mc_47_17 : mm_code 47 17 = some (32, (100, (0, 0))) := by decide +kernel
theorem mc_48_0 : mm_code 48 0 = some (0, (3, (1, 0))) := by decide +kernel
theorem mc_48_1 : mm_code 48 1 = some (1, (106, (37, 0))) := by decide +kernel
theorem mc_48_2 : mm_code 48 2 = some (4, (5, (0, 0))) := by decide +kernel
theorem mc_48_3 : mm_code 48 3 = some (5, (40, (17, 0))) := by decide +kernel
theorem mc_48_4 : mm_code 48 4 = some (8, (105, (38, 0))) := by decide +kernel
theorem mc_48_5 : mm_code 48 5 = some (11, (1, (0, 120))) := by decide +kernel
theorem mc_48_6 : mm_code 48 6 = some (13, (33, (12, 13))) := by decide +kernel
theorem mc_48_7 : mm_code 48 7 = some (16, (104, (3, 2))) := by decide +kernel
theorem mc_48_12 : mm_code 48 12 = some (26, (5, (0, 0))) := by decide +kernel
theorem mc_48_13 : mm_code 48 13 = some (27, (40, (17, 0))) := by decide +kernel
theorem mc_48_14 : mm_code 48 14 = some (30, (3, (1, 0))) := by decide +kernel
theorem mc_48_15 : mm_code 48 15 = some (31, (105, (40, 0))) := by decide +kernel
theorem mc_48_16 : mm_code 48 16 = some (34, (5, (0, 0))) := by decide +kernel
theorem mc_48_17 : mm_code 48 17 = some (35, (40, (17, 0))) := by decide +kernel
theorem mc_48_18 : mm_code 48 18 = some (38, (105, (38, 0))) := by decide +kernel
theorem mc_48_19 : mm_code 48 19 = some (41, (100, (0, 0))) := by decide +kernel
theorem mc_49_0 : mm_code 49 0 = some (0, (5, (0, 0))) := by decide +kernel
theorem mc_49_1 : mm_code 49 1 = some (1, (40, (17, 0))) := by decide +kernel
theorem mc_49_2 : mm_code 49 2 = some (4, (105, (38, 0))) := by decide +kernel
theorem mc_49_3 : mm_code 49 3 = some (7, (26, (9, 13))) := by decide +kernel
theorem mc_49_4 : mm_code 49 4 = some (10, (104, (4, 2))) := by decide +kernel
theorem mc_49_9 : mm_code 49 9 = some (20, (5, (0, 0))) := by decide +kernel
theorem mc_49_10 : mm_code 49 10 = some (21, (40, (17, 0))) := by decide +kernel
theorem mc_49_11 : mm_code 49 11 = some (24, (5, (0, 0))) := by decide +kernel
theorem mc_49_12 : mm_code 49 12 = some (25, (40, (17, 0))) := by decide +kernel
theorem mc_49_13 : mm_code 49 13 = some (28, (105, (38, 0))) := by decide +kernel
theorem mc_49_14 : mm_code 49 14 = some (31, (0, (0, 1))) := by decide +kernel
theorem mc_49_15 : mm_code 49 15 = some (32, (12, (0, 0))) := by decide +kernel
theorem mc_49_16 : mm_code 49 16 = some (33, (105, (42, 0))) := by decide +kernel
theorem mc_49_17 : mm_code 49 17 = some (36, (7, (1, 0))) := by decide +kernel
theorem mc_49_18 : mm_code 49 18 = some (37, (5, (0, 0))) := by decide +kernel
theorem mc_49_19 : mm_code 49 19 = some (38, (40, (17, 0))) := by decide +kernel
theorem mc_49_20 : mm_code 49 20 = some (41, (105, (43, 0))) := by decide +kernel
theorem mc_49_21 : mm_code 49 21 = some (44, (3, (1, 0))) := by decide +kernel
theorem mc_49_22 : mm_code 49 22 = some (45, (100, (0, 0))) := by decide +kernel
theorem mc_50_0 : mm_code 50 0 = some (0, (5, (0, 0))) := by decide +kernel
theorem mc_50_1 : mm_code 50 1 = some (1, (40, (17, 0))) := by decide +kernel
theorem mc_50_2 : mm_code 50 2 = some (4, (105, (38, 0))) := by decide +kernel
theorem mc_50_3 : mm_code 50 3 = some (7, (7, (1, 0))) := by decide +kernel
theorem mc_50_4 : mm_code 50 4 = some (8, (5, (0, 0))) := by decide +kernel
theorem mc_50_5 : mm_code 50 5 = some (9, (40, (17, 0))) := by decide +kernel
theorem mc_50_6 : mm_code 50 6 = some (12, (105, (34, 0))) := by decide +kernel
theorem mc_50_7 : mm_code 50 7 = some (15, (3, (1, 0))) := by decide +kernel
theorem mc_50_8 : mm_code 50 8 = some (16, (100, (0, 0))) := by decide +kernel
theorem mc_51_0 : mm_code 51 0 = some (0, (5, (0, 0))) := by decide +kernel
theorem mc_51_1 : mm_code 51 1 = some (1, (3, (1, 0))) := by decide +kernel
theorem mc_51_2 : mm_code 51 2 = some (2, (105, (36, 0))) := by decide +kernel
theorem mc_51_3 : mm_code 51 3 = some (5, (10, (4, 0))) := by decide +kernel
theorem mc_51_4 : mm_code 51 4 = some (7, (3, (2, 0))) := by decide +kernel
theorem mc_51_5 : mm_code 51 5 = some (8, (27, (14, 18))) := by decide +kernel
theorem mc_51_6 : mm_code 51 6 = some (11, (3, (3, 0))) := by decide +kernel
theorem mc_51_7 : mm_code 51 7 = some (12, (27, (14, 14))) := by decide +kernel
theorem mc_51_8 : mm_code 51 8 = some (15, (3, (3, 0))) := by decide +kernel
theorem mc_51_9 : mm_code 51 9 = some (16, (6, (4, 0))) := by decide +kernel
theorem mc_51_10 : mm_code 51 10 = some (18, (105, (38, 0))) := by decide +kernel
theorem mc_51_11 : mm_code 51 11 = some (21, (3, (2, 0))) := by decide +kernel
theorem mc_51_12 : mm_code 51 12 = some (22, (12, (0, 0))) := by decide +kernel
theorem mc_51_13 : mm_code 51 13 = some (23, (36, (19, 13))) := by decide +kernel
theorem mc_51_14 : mm_code 51 14 = some (26, (104, (5, 1))) := by decide +kernel
theorem mc_51_19 : mm_code 51 19 = some (36, (5, (0, 0))) := by decide +kernel
theorem mc_51_20 : mm_code 51 20 = some (37, (40, (17, 0))) := by decide +kernel
theorem mc_51_21 : mm_code 51 21 = some (40, (105, (34, 0))) := by decide +kernel
theorem mc_51_22 : mm_code 51 22 = some (43, (0, (0, 0))) := by decide +kernel
theorem mc_51_23 : mm_code 51 23 = some (44, (8, (5, 0))) := by decide +kernel
theorem mc_51_24 : mm_code 51 24 = some (46, (4, (5, 0))) := by decide +kernel
theorem mc_51_25 : mm_code 51 25 = some (48, (3, (3, 0))) := by decide +kernel
theorem mc_51_26 : mm_code 51 26 = some (49, (34, (37, 25))) := by decide +kernel
theorem mc_51_27 : mm_code 51 27 = some (52, (5, (0, 0))) := by decide +kernel
theorem mc_51_28 : mm_code 51 28 = some (53, (40, (17, 0))) := by decide +kernel
theorem mc_51_29 : mm_code 51 29 = some (56, (6, (4, 0))) := by decide +kernel
theorem mc_51_30 : mm_code 51 30 = some (58, (3, (2, 0))) := by decide +kernel
theorem mc_51_31 : mm_code 51 31 = some (59, (4, (5, 0))) := by decide +kernel
theorem mc_51_32 : mm_code 51 32 = some (61, (11, (0, 0))) := by decide +kernel
theorem mc_51_33 : mm_code 51 33 = some (62, (105, (42, 0))) := by decide +kernel
theorem mc_51_34 : mm_code 51 34 = some (65, (105, (40, 0))) := by decide +kernel
theorem mc_51_35 : mm_code 51 35 = some (68, (20, (5, 1))) := by decide +kernel
theorem mc_51_36 : mm_code 51 36 = some (71, (24, (24, (-25)))) := by decide +kernel
theorem mc_51_37 : mm_code 51 37 = some (74, (103, (0, 0))) := by decide +kernel
theorem mc_52_0 : mm_code 52 0 = some (0, (5, (0, 0))) := by decide +kernel
theorem mc_52_1 : mm_code 52 1 = some (1, (40, (17, 0))) := by decide +kernel
theorem mc_52_2 : mm_code 52 2 = some (4, (105, (38, 0))) := by decide +kernel
theorem mc_52_3 : mm_code 52 3 = some (7, (100, (0, 0))) := by decide +kernel
theorem mc_53_0 : mm_code 53 0 = some (0, (3, (1, 0))) := by decide +kernel
theorem mc_53_1 : mm_code 53 1 = some (1, (5, (0, 0))) := by decide +kernel
theorem mc_53_2 : mm_code 53 2 = some (2, (40, (17, 0))) := by decide +kernel
theorem mc_53_3 : mm_code 53 3 = some (5, (105, (38, 0))) := by decide +kernel
theorem mc_53_4 : mm_code 53 4 = some (8, (106, (41, 0))) := by decide +kernel
theorem mc_53_5 : mm_code 53 5 = some (11, (26, (11, 13))) := by decide +kernel
theorem mc_53_6 : mm_code 53 6 = some (14, (104, (6, 0))) := by decide +kernel
theorem mc_53_11 : mm_code 53 11 = some (24, (5, (0, 0))) := by decide +kernel
theorem mc_53_12 : mm_code 53 12 = some (25, (40, (17, 0))) := by decide +kernel
theorem mc_53_13 : mm_code 53 13 = some (28, (3, (1, 0))) := by decide +kernel
theorem mc_53_14 : mm_code 53 14 = some (29, (105, (42, 0))) := by decide +kernel
theorem mc_53_15 : mm_code 53 15 = some (32, (100, (0, 0))) := by decide +kernel
theorem mc_54_0 : mm_code 54 0 = some (0, (5, (0, 0))) := by decide +kernel
theorem mc_54_1 : mm_code 54 1 = some (1, (105, (44, 0))) := by decide +kernel
theorem mc_54_2 : mm_code 54 2 = some (4, (0, (0, (-1)))) := by decide +kernel
theorem mc_54_3 : mm_code 54 3 = some (5, (31, (6, 7))) := by decide +kernel
theorem mc_54_4 : mm_code 54 4 = some (8, (0, (0, 1))) := by decide +kernel
theorem mc_54_5 : mm_code 54 5 = some (9, (24, (7, 4))) := by decide +kernel
theorem mc_54_6 : mm_code 54 6 = some (12, (0, (0, 0))) := by decide +kernel
theorem mc_54_7 : mm_code 54 7 = some (13, (101, (0, 0))) := by decide +kernel
theorem mc_55_0 : mm_code 55 0 = some (0, (5, (0, 0))) := by decide +kernel
theorem mc_55_1 : mm_code 55 1 = some (1, (40, (20, 0))) := by decide +kernel
theorem mc_55_2 : mm_code 55 2 = some (4, (40, (23, 0))) := by decide +kernel
theorem mc_55_3 : mm_code 55 3 = some (7, (5, (0, 0))) := by decide +kernel
theorem mc_55_4 : mm_code 55 4 = some (8, (105, (44, 0))) := by decide +kernel
theorem mc_55_5 : mm_code 55 5 = some (11, (105, (45, 0))) := by decide +kernel
theorem mc_55_6 : mm_code 55 6 = some (14, (100, (0, 0))) := by decide +kernel
theorem mc_56_0 : mm_code 56 0 = some (0, (5, (0, 0))) := by decide +kernel
theorem mc_56_1 : mm_code 56 1 = some (1, (3, (1, 0))) := by decide +kernel
theorem mc_56_2 : mm_code 56 2 = some (2, (105, (36, 0))) := by decide +kernel
theorem mc_56_3 : mm_code 56 3 = some (5, (23, (0, 0))) := by decide +kernel
theorem mc_56_4 : mm_code 56 4 = some (6, (5, (0, 0))) := by decide +kernel
theorem mc_56_5 : mm_code 56 5 = some (7, (40, (20, 0))) := by decide +kernel
theorem mc_56_6 : mm_code 56 6 = some (10, (40, (23, 0))) := by decide +kernel
theorem mc_56_7 : mm_code 56 7 = some (13, (5, (0, 0))) := by decide +kernel
theorem mc_56_8 : mm_code 56 8 = some (14, (105, (44, 0))) := by decide +kernel
theorem mc_56_9 : mm_code 56 9 = some (17, (3, (1, 0))) := by decide +kernel
theorem mc_56_10 : mm_code 56 10 = some (18, (105, (46, 0))) := by decide +kernel
theorem mc_56_11 : mm_code 56 11 = some (21, (100, (0, 0))) := by decide +kernel
theorem mc_57_0 : mm_code 57 0 = some (0, (5, (0, 0))) := by decide +kernel
theorem mc_57_1 : mm_code 57 1 = some (1, (3, (1, 0))) := by decide +kernel
theorem mc_57_2 : mm_code 57 2 = some (2, (105, (36, 0))) := by decide +kernel
theorem mc_57_3 : mm_code 57 3 = some (5, (23, (0, 0))) := by decide +kernel
theorem mc_57_4 : mm_code 57 4 = some (6, (5, (0, 0))) := by decide +kernel
theorem mc_57_5 : mm_code 57 5 = some (7, (5, (0, 0))) := by decide +kernel
theorem mc_57_6 : mm_code 57 6 = some (8, (40, (20, 0))) := by decide +kernel
theorem mc_57_7 : mm_code 57 7 = some (11, (40, (23, 0))) := by decide +kernel
theorem mc_57_8 : mm_code 57 8 = some (14, (5, (0, 0))) := by decide +kernel
theorem mc_57_9 : mm_code 57 9 = some (15, (105, (44, 0))) := by decide +kernel
theorem mc_57_10 : mm_code 57 10 = some (18, (3, (1, 0))) := by decide +kernel
theorem mc_57_11 : mm_code 57 11 = some (19, (105, (47, 0))) := by decide +kernel
theorem mc_57_12 : mm_code 57 12 = some (22, (105, (48, 0))) := by decide +kernel
theorem mc_57_13 : mm_code 57 13 = some (25, (100, (0, 0))) := by decide +kernel
theorem mc_58_0 : mm_code 58 0 = some (0, (5, (0, 0))) := by decide +kernel
theorem mc_58_1 : mm_code 58 1 = some (1, (3, (1, 0))) := by decide +kernel
theorem mc_58_2 : mm_code 58 2 = some (2, (105, (36, 0))) := by decide +kernel
theorem mc_58_3 : mm_code 58 3 = some (5, (23, (0, 0))) := by decide +kernel
theorem mc_58_4 : mm_code 58 4 = some (6, (5, (0, 0))) := by decide +kernel
theorem mc_58_5 : mm_code 58 5 = some (7, (5, (0, 0))) := by decide +kernel
theorem mc_58_6 : mm_code 58 6 = some (8, (40, (20, 0))) := by decide +kernel
theorem mc_58_7 : mm_code 58 7 = some (11, (40, (23, 0))) := by decide +kernel
theorem mc_58_8 : mm_code 58 8 = some (14, (5, (0, 0))) := by decide +kernel
theorem mc_58_9 : mm_code 58 9 = some (15, (105, (44, 0))) := by decide +kernel
theorem mc_58_10 : mm_code 58 10 = some (18, (3, (1, 0))) := by decide +kernel
theorem mc_58_11 : mm_code 58 11 = some (19, (105, (49, 0))) := by decide +kernel
theorem mc_58_12 : mm_code 58 12 = some (22, (105, (48, 0))) := by decide +kernel
theorem mc_58_13 : mm_code 58 13 = some (25, (100, (0, 0))) := by decide +kernel
theorem mc_59_0 : mm_code 59 0 = some (0, (5, (0, 0))) := by decide +kernel
theorem mc_59_1 : mm_code 59 1 = some (1, (0, (0, 0))) := by decide +kernel
theorem mc_59_2 : mm_code 59 2 = some (2, (105, (50, 0))) := by decide +kernel
theorem mc_59_3 : mm_code 59 3 = some (5, (7, (1, 0))) := by decide +kernel
theorem mc_59_4 : mm_code 59 4 = some (6, (0, (0, 0))) := by decide +kernel
theorem mc_59_5 : mm_code 59 5 = some (7, (7, (2, 0))) := by decide +kernel
theorem mc_59_6 : mm_code 59 6 = some (8, (0, (0, 0))) := by decide +kernel
theorem mc_59_7 : mm_code 59 7 = some (9, (7, (3, 0))) := by decide +kernel
theorem mc_59_8 : mm_code 59 8 = some (10, (3, (3, 0))) := by decide +kernel
theorem mc_59_9 : mm_code 59 9 = some (11, (1, (0, 26))) := by decide +kernel
theorem mc_59_10 : mm_code 59 10 = some (13, (34, (26, 28))) := by decide +kernel
theorem mc_59_11 : mm_code 59 11 = some (16, (5, (0, 0))) := by decide +kernel
theorem mc_59_12 : mm_code 59 12 = some (17, (40, (20, 0))) := by decide +kernel
theorem mc_59_13 : mm_code 59 13 = some (20, (3, (1, 0))) := by decide +kernel
theorem mc_59_14 : mm_code 59 14 = some (21, (3, (3, 0))) := by decide +kernel
theorem mc_59_15 : mm_code 59 15 = some (22, (105, (51, 0))) := by decide +kernel
theorem mc_59_16 : mm_code 59 16 = some (25, (0, (0, (-1)))) := by decide +kernel
theorem mc_59_17 : mm_code 59 17 = some (26, (31, (24, 9))) := by decide +kernel
theorem mc_59_18 : mm_code 59 18 = some (29, (3, (2, 0))) := by decide +kernel
theorem mc_59_19 : mm_code 59 19 = some (30, (0, (0, 1))) := by decide +kernel
theorem mc_59_20 : mm_code 59 20 = some (31, (3, (3, 0))) := by decide +kernel
theorem mc_59_21 : mm_code 59 21 = some (32, (16, (0, 0))) := by decide +kernel
theorem mc_59_22 : mm_code 59 22 = some (33, (19, (0, 0))) := by decide +kernel
theorem mc_59_23 : mm_code 59 23 = some (34, (7, (2, 0))) := by decide +kernel
theorem mc_59_24 : mm_code 59 24 = some (35, (20, (3, 1))) := by decide +kernel
theorem mc_59_25 : mm_code 59 25 = some (38, (24, (8, (-28)))) := by decide +kernel
theorem mc_59_26 : mm_code 59 26 = some (41, (3, (2, 0))) := by decide +kernel
theorem mc_59_27 : mm_code 59 27 = some (42, (100, (0, 0))) := by decide +kernel
theorem mc_60_0 : mm_code 60 0 = some (0, (0, (0, 0))) := by decide +kernel
theorem mc_60_1 : mm_code 60 1 = some (1, (7, (1, 0))) := by decide +kernel
theorem mc_60_2 : mm_code 60 2 = some (2, (0, (0, 0))) := by decide +kernel
theorem mc_60_3 : mm_code 60 3 = some (3, (7, (2, 0))) := by decide +kernel
theorem mc_60_4 : mm_code 60 4 = some (4, (3, (2, 0))) := by decide +kernel
theorem mc_60_5 : mm_code 60 5 = some (5, (1, (0, 26))) := by decide +kernel
theorem mc_60_6 : mm_code 60 6 = some (7, (34, (24, 32))) := by decide +kernel
theorem mc_60_7 : mm_code 60 7 = some (10, (5, (0, 0))) := by decide +kernel
theorem mc_60_8 : mm_code 60 8 = some (11, (5, (0, 0))) := by decide +kernel
theorem mc_60_9 : mm_code 60 9 = some (12, (40, (20, 0))) := by decide +kernel
theorem mc_60_10 : mm_code 60 10 = some (15, (0, (0, 0))) := by decide +kernel
theorem mc_60_11 : mm_code 60 11 = some (16, (3, (2, 0))) := by decide +kernel
theorem mc_60_12 : mm_code 60 12 = some (17, (105, (51, 0))) := by decide +kernel
theorem mc_60_13 : mm_code 60 13 = some (20, (105, (50, 0))) := by decide +kernel
theorem mc_60_14 : mm_code 60 14 = some (23, (0, (0, (-1)))) := by decide +kernel
theorem mc_60_15 : mm_code 60 15 = some (24, (31, (22, 9))) := by decide +kernel
theorem mc_60_16 : mm_code 60 16 = some (27, (3, (1, 0))) := by decide +kernel
theorem mc_60_17 : mm_code 60 17 = some (28, (0, (0, 1))) := by decide +kernel
theorem mc_60_18 : mm_code 60 18 = some (29, (3, (2, 0))) := by decide +kernel
theorem mc_60_19 : mm_code 60 19 = some (30, (16, (0, 0))) := by decide +kernel
theorem mc_60_20 : mm_code 60 20 = some (31, (19, (0, 0))) := by decide +kernel
theorem mc_60_21 : mm_code 60 21 = some (32, (7, (1, 0))) := by decide +kernel
theorem mc_60_22 : mm_code 60 22 = some (33, (20, (2, 1))) := by decide +kernel
theorem mc_60_23 : mm_code 60 23 = some (36, (24, (4, (-32)))) := by decide +kernel
theorem mc_60_24 : mm_code 60 24 = some (39, (3, (1, 0))) := by decide +kernel
theorem mc_60_25 : mm_code 60 25 = some (40, (100, (0, 0))) := by decide +kernel
theorem mc_61_0 : mm_code 61 0 = some (0, (5, (0, 0))) := by decide +kernel
theorem mc_61_1 : mm_code 61 1 = some (1, (40, (20, 0))) := by decide +kernel
theorem mc_61_2 : mm_code 61 2 = some (4, (105, (52, 0))) := by decide +kernel
theorem mc_61_3 : mm_code 61 3 = some (7, (0, (0, 1))) := by decide +kernel
theorem mc_61_4 : mm_code 61 4 = some (8, (12, (0, 0))) := by decide +kernel
theorem mc_61_5 : mm_code 61 5 = some (9, (100, (0, 0))) := by decide +kernel
theorem mc_62_0 : mm_code 62 0 = some (0, (5, (0, 0))) := by decide +kernel
theorem mc_62_1 : mm_code 62 1 = some (1, (105, (44, 0))) := by decide +kernel
theorem mc_62_2 : mm_code 62 2 = some (4, (7, (1, 0))) := by decide +kernel
theorem mc_62_3 : mm_code 62 3 = some (5, (3, (1, 0))) := by decide +kernel
theorem mc_62_4 : mm_code 62 4 = some (6, (0, (0, (-1)))) := by decide +kernel
theorem mc_62_5 : mm_code 62 5 = some (7, (32, (8, 7))) := by decide +kernel
theorem mc_62_6 : mm_code 62 6 = some (10, (0, (0, (-1)))) := by decide +kernel
theorem mc_62_7 : mm_code 62 7 = some (11, (24, (12, 11))) := by decide +kernel
theorem mc_62_8 : mm_code 62 8 = some (14, (5, (0, 0))) := by decide +kernel
theorem mc_62_9 : mm_code 62 9 = some (15, (40, (20, 0))) := by decide +kernel
theorem mc_62_10 : mm_code 62 10 = some (18, (3, (1, 0))) := by decide +kernel
theorem mc_62_11 : mm_code 62 11 = some (19, (105, (53, 0))) := by decide +kernel
theorem mc_62_12 : mm_code 62 12 = some (22, (100, (0, 0))) := by decide +kernel
theorem mc_63_0 : mm_code 63 0 = some (0, (5, (0, 0))) := by decide +kernel
theorem mc_63_1 : mm_code 63 1 = some (1, (105, (44, 0))) := by decide +kernel
theorem mc_63_2 : mm_code 63 2 = some (4, (7, (1, 0))) := by decide +kernel
theorem mc_63_3 : mm_code 63 3 = some (5, (3, (1, 0))) := by decide +kernel
theorem mc_63_4 : mm_code 63 4 = some (6, (0, (0, (-1)))) := by decide +kernel
theorem mc_63_5 : mm_code 63 5 = some (7, (32, (8, 7))) := by decide +kernel
theorem mc_63_6 : mm_code 63 6 = some (10, (0, (0, (-1)))) := by decide +kernel
theorem mc_63_7 : mm_code 63 7 = some (11, (24, (12, 11))) := by decide +kernel
theorem mc_63_8 : mm_code 63 8 = some (14, (5, (0, 0))) := by decide +kernel
theorem mc_63_9 : mm_code 63 9 = some (15, (40, (20, 0))) := by decide +kernel
theorem mc_63_10 : mm_code 63 10 = some (18, (3, (1, 0))) := by decide +kernel
theorem mc_63_11 : mm_code 63 11 = some (19, (105, (54, 0))) := by decide +kernel
theorem mc_63_12 : mm_code 63 12 = some (22, (100, (0, 0))) := by decide +kernel
theorem mc_64_0 : mm_code 64 0 = some (0, (5, (0, 0))) := by decide +kernel
theorem mc_64_1 : mm_code 64 1 = some (1, (40, (20, 0))) := by decide +kernel
theorem mc_64_2 : mm_code 64 2 = some (4, (105, (55, 0))) := by decide +kernel
theorem mc_64_3 : mm_code 64 3 = some (7, (100, (0, 0))) := by decide +kernel
theorem mc_65_0 : mm_code 65 0 = some (0, (5, (0, 0))) := by decide +kernel
theorem mc_65_1 : mm_code 65 1 = some (1, (40, (18, 0))) := by decide +kernel
theorem mc_65_2 : mm_code 65 2 = some (4, (105, (56, 0))) := by decide +kernel
theorem mc_65_3 : mm_code 65 3 = some (7, (5, (0, 0))) := by decide +kernel
theorem mc_65_4 : mm_code 65 4 = some (8, (40, (18, 0))) := by decide +kernel
theorem mc_65_5 : mm_code 65 5 = some (11, (5, (0, 0))) := by decide +kernel
theorem mc_65_6 : mm_code 65 6 = some (12, (40, (17, 0))) := by decide +kernel
theorem mc_65_7 : mm_code 65 7 = some (15, (105, (57, 0))) := by decide +kernel
theorem mc_65_8 : mm_code 65 8 = some (18, (100, (0, 0))) := by decide +kernel
theorem mc_66_0 : mm_code 66 0 = some (0, (3, (1, 0))) := by decide +kernel
theorem mc_66_1 : mm_code 66 1 = some (1, (5, (0, 0))) := by decide +kernel
theorem mc_66_2 : mm_code 66 2 = some (2, (40, (20, 0))) := by decide +kernel
theorem mc_66_3 : mm_code 66 3 = some (5, (105, (55, 0))) := by decide +kernel
theorem mc_66_4 : mm_code 66 4 = some (8, (106, (41, 0))) := by decide +kernel
theorem mc_66_5 : mm_code 66 5 = some (11, (26, (11, 13))) := by decide +kernel
theorem mc_66_6 : mm_code 66 6 = some (14, (104, (7, 0))) := by decide +kernel
theorem mc_66_11 : mm_code 66 11 = some (24, (5, (0, 0))) := by decide +kernel
theorem mc_66_12 : mm_code 66 12 = some (25, (40, (18, 0))) := by decide +kernel
theorem mc_66_13 : mm_code 66 13 = some (28, (105, (56, 0))) := by decide +kernel
theorem mc_66_14 : mm_code 66 14 = some (31, (5, (0, 0))) := by decide +kernel
theorem mc_66_15 : mm_code 66 15 = some (32, (40, (18, 0))) := by decide +kernel
theorem mc_66_16 : mm_code 66 16 = some (35, (3, (1, 0))) := by decide +kernel
theorem mc_66_17 : mm_code 66 17 = some (36, (5, (0, 0))) := by decide +kernel
theorem mc_66_18 : mm_code 66 18 = some (37, (40, (17, 0))) := by decide +kernel
theorem mc_66_19 : mm_code 66 19 = some (40, (105, (58, 0))) := by decide +kernel
theorem mc_66_20 : mm_code 66 20 = some (43, (5, (0, 0))) := by decide +kernel
theorem mc_66_21 : mm_code 66 21 = some (44, (40, (17, 0))) := by decide +kernel
theorem mc_66_22 : mm_code 66 22 = some (47, (105, (38, 0))) := by decide +kernel
theorem mc_66_23 : mm_code 66 23 = some (50, (100, (0, 0))) := by decide +kernel
theorem mc_67_0 : mm_code 67 0 = some (0, (3, (1, 0))) := by decide +kernel
theorem mc_67_1 : mm_code 67 1 = some (1, (0, (0, 1))) := by decide +kernel
theorem mc_67_2 : mm_code 67 2 = some (2, (33, (9, 13))) := by decide +kernel
theorem mc_67_3 : mm_code 67 3 = some (5, (3, (1, 0))) := by decide +kernel
theorem mc_67_4 : mm_code 67 4 = some (6, (0, (0, 1))) := by decide +kernel
theorem mc_67_5 : mm_code 67 5 = some (7, (5, (0, 0))) := by decide +kernel
theorem mc_67_6 : mm_code 67 6 = some (8, (40, (21, 0))) := by decide +kernel
theorem mc_67_7 : mm_code 67 7 = some (11, (16, (0, 0))) := by decide +kernel
theorem mc_67_8 : mm_code 67 8 = some (12, (33, (14, 13))) := by decide +kernel
theorem mc_67_9 : mm_code 67 9 = some (15, (104, (8, 1))) := by decide +kernel
theorem mc_67_14 : mm_code 67 14 = some (25, (5, (0, 0))) := by decide +kernel
theorem mc_67_15 : mm_code 67 15 = some (26, (40, (18, 0))) := by decide +kernel
theorem mc_67_16 : mm_code 67 16 = some (29, (3, (1, 0))) := by decide +kernel
theorem mc_67_17 : mm_code 67 17 = some (30, (0, (0, 1))) := by decide +kernel
theorem mc_67_18 : mm_code 67 18 = some (31, (105, (59, 0))) := by decide +kernel
theorem mc_67_19 : mm_code 67 19 = some (34, (5, (0, 0))) := by decide +kernel
theorem mc_67_20 : mm_code 67 20 = some (35, (40, (18, 0))) := by decide +kernel
theorem mc_67_21 : mm_code 67 21 = some (38, (5, (0, 0))) := by decide +kernel
theorem mc_67_22 : mm_code 67 22 = some (39, (40, (17, 0))) := by decide +kernel
theorem mc_67_23 : mm_code 67 23 = some (42, (105, (60, 0))) := by decide +kernel
theorem mc_67_24 : mm_code 67 24 = some (45, (5, (0, 0))) := by decide +kernel
theorem mc_67_25 : mm_code 67 25 = some (46, (40, (17, 0))) := by decide +kernel
theorem mc_67_26 : mm_code 67 26 = some (49, (105, (38, 0))) := by decide +kernel
theorem mc_67_27 : mm_code 67 27 = some (52, (100, (0, 0))) := by decide +kernel
theorem mc_68_0 : mm_code 68 0 = some (0, (3, (1, 0))) := by decide +kernel
theorem mc_68_1 : mm_code 68 1 = some (1, (0, (0, 1))) := by decide +kernel
theorem mc_68_2 : mm_code 68 2 = some (2, (34, (8, 13))) := by decide +kernel
theorem mc_68_3 : mm_code 68 3 = some (5, (104, (9, 1))) := by decide +kernel
theorem mc_68_8 : mm_code 68 8 = some (15, (5, (0, 0))) := by decide +kernel
theorem mc_68_9 : mm_code 68 9 = some (16, (40, (18, 0))) := by decide +kernel
theorem mc_68_10 : mm_code 68 10 = some (19, (0, (0, 0))) := by decide +kernel
theorem mc_68_11 : mm_code 68 11 = some (20, (3, (1, 0))) := by decide +kernel
theorem mc_68_12 : mm_code 68 12 = some (21, (105, (59, 0))) := by decide +kernel
theorem mc_68_13 : mm_code 68 13 = some (24, (5, (0, 0))) := by decide +kernel
theorem mc_68_14 : mm_code 68 14 = some (25, (40, (18, 0))) := by decide +kernel
theorem mc_68_15 : mm_code 68 15 = some (28, (5, (0, 0))) := by decide +kernel
theorem mc_68_16 : mm_code 68 16 = some (29, (40, (17, 0))) := by decide +kernel
theorem mc_68_17 : mm_code 68 17 = some (32, (105, (60, 0))) := by decide +kernel
theorem mc_68_18 : mm_code 68 18 = some (35, (5, (0, 0))) := by decide +kernel
theorem mc_68_19 : mm_code 68 19 = some (36, (40, (17, 0))) := by decide +kernel
theorem mc_68_20 : mm_code 68 20 = some (39, (105, (38, 0))) := by decide +kernel
theorem mc_68_21 : mm_code 68 21 = some (42, (100, (0, 0))) := by decide +kernel
theorem mc_69_0 : mm_code 69 0 = some (0, (3, (1, 0))) := by decide +kernel
theorem mc_69_1 : mm_code 69 1 = some (1, (0, (0, 1))) := by decide +kernel
theorem mc_69_2 : mm_code 69 2 = some (2, (33, (6, 9))) := by decide +kernel
theorem mc_69_3 : mm_code 69 3 = some (5, (3, (1, 0))) := by decide +kernel
theorem mc_69_4 : mm_code 69 4 = some (6, (1, (0, 26))) := by decide +kernel
theorem mc_69_5 : mm_code 69 5 = some (8, (36, (11, 13))) := by decide +kernel
theorem mc_69_6 : mm_code 69 6 = some (11, (104, (10, 1))) := by decide +kernel
theorem mc_69_11 : mm_code 69 11 = some (21, (5, (0, 0))) := by decide +kernel
theorem mc_69_12 : mm_code 69 12 = some (22, (40, (18, 0))) := by decide +kernel
theorem mc_69_13 : mm_code 69 13 = some (25, (3, (1, 0))) := by decide +kernel
theorem mc_69_14 : mm_code 69 14 = some (26, (105, (61, 0))) := by decide +kernel
theorem mc_69_15 : mm_code 69 15 = some (29, (5, (0, 0))) := by decide +kernel
theorem mc_69_16 : mm_code 69 16 = some (30, (40, (18, 0))) := by decide +kernel
theorem mc_69_17 : mm_code 69 17 = some (33, (5, (0, 0))) := by decide +kernel
theorem mc_69_18 : mm_code 69 18 = some (34, (40, (17, 0))) := by decide +kernel
theorem mc_69_19 : mm_code 69 19 = some (37, (105, (60, 0))) := by decide +kernel
theorem mc_69_20 : mm_code 69 20 = some (40, (5, (0, 0))) := by decide +kernel
theorem mc_69_21 : mm_code 69 21 = some (41, (40, (17, 0))) := by decide +kernel
theorem mc_69_22 : mm_code 69 22 = some (44, (105, (38, 0))) := by decide +kernel
theorem mc_69_23 : mm_code 69 23 = some (47, (100, (0, 0))) := by decide +kernel
theorem mc_70_0 : mm_code 70 0 = some (0, (3, (0, 0))) := by decide +kernel
theorem mc_70_1 : mm_code 70 1 = some (1, (27, (7, 12))) := by decide +kernel
theorem mc_70_2 : mm_code 70 2 = some (4, (3, (0, 0))) := by decide +kernel
theorem mc_70_3 : mm_code 70 3 = some (5, (3, (1, 0))) := by decide +kernel
theorem mc_70_4 : mm_code 70 4 = some (6, (34, (7, 7))) := by decide +kernel
theorem mc_70_5 : mm_code 70 5 = some (9, (0, (0, 1))) := by decide +kernel
theorem mc_70_6 : mm_code 70 6 = some (10, (24, (8, 4))) := by decide +kernel
theorem mc_70_7 : mm_code 70 7 = some (13, (0, (0, 0))) := by decide +kernel
theorem mc_70_8 : mm_code 70 8 = some (14, (101, (0, 0))) := by decide +kernel
theorem mc_71_0 : mm_code 71 0 = some (0, (3, (1, 0))) := by decide +kernel
theorem mc_71_1 : mm_code 71 1 = some (1, (5, (0, 0))) := by decide +kernel
theorem mc_71_2 : mm_code 71 2 = some (2, (40, (21, 0))) := by decide +kernel
theorem mc_71_3 : mm_code 71 3 = some (5, (106, (41, 0))) := by decide +kernel
theorem mc_71_4 : mm_code 71 4 = some (8, (25, (15, 21))) := by decide +kernel
theorem mc_71_5 : mm_code 71 5 = some (11, (3, (1, 0))) := by decide +kernel
theorem mc_71_6 : mm_code 71 6 = some (12, (5, (0, 0))) := by decide +kernel
theorem mc_71_7 : mm_code 71 7 = some (13, (40, (16, 0))) := by decide +kernel
theorem mc_71_8 : mm_code 71 8 = some (16, (49, (0, 0))) := by decide +kernel
theorem mc_71_9 : mm_code 71 9 = some (17, (34, (15, 12))) := by decide +kernel
theorem mc_71_10 : mm_code 71 10 = some (20, (5, (0, 0))) := by decide +kernel
theorem mc_71_11 : mm_code 71 11 = some (21, (40, (16, 0))) := by decide +kernel
theorem mc_71_12 : mm_code 71 12 = some (24, (3, (1, 0))) := by decide +kernel
theorem mc_71_13 : mm_code 71 13 = some (25, (47, (0, 0))) := by decide +kernel
theorem mc_71_14 : mm_code 71 14 = some (26, (24, (16, 4))) := by decide +kernel
theorem mc_71_15 : mm_code 71 15 = some (29, (39, (0, 0))) := by decide +kernel
theorem mc_71_16 : mm_code 71 16 = some (30, (9, (2, 0))) := by decide +kernel
theorem mc_71_17 : mm_code 71 17 = some (31, (5, (2, 0))) := by decide +kernel
theorem mc_71_18 : mm_code 71 18 = some (32, (38, (24, 13))) := by decide +kernel
theorem mc_71_19 : mm_code 71 19 = some (35, (104, (11, 0))) := by decide +kernel
theorem mc_71_24 : mm_code 71 24 = some (45, (5, (2, 0))) := by decide +kernel
theorem mc_71_25 : mm_code 71 25 = some (46, (102, (0, 0))) := by decide +kernel
theorem mc_72_0 : mm_code 72 0 = some (0, (3, (0, 0))) := by decide +kernel
theorem mc_72_1 : mm_code 72 1 = some (1, (1, (0, 26))) := by decide +kernel
theorem mc_72_2 : mm_code 72 2 = some (3, (106, (41, 0))) := by decide +kernel
theorem mc_72_3 : mm_code 72 3 = some (6, (26, (9, 13))) := by decide +kernel
theorem mc_72_4 : mm_code 72 4 = some (9, (104, (12, 1))) := by decide +kernel
theorem mc_72_9 : mm_code 72 9 = some (19, (103, (0, 0))) := by decide +kernel
theorem mc_73_0 : mm_code 73 0 = some (0, (3, (1, 0))) := by decide +kernel
theorem mc_73_1 : mm_code 73 1 = some (1, (7, (2, 0))) := by decide +kernel
theorem mc_73_2 : mm_code 73 2 = some (2, (0, (0, 0))) := by decide +kernel
theorem mc_73_3 : mm_code 73 3 = some (3, (7, (3, 0))) := by decide +kernel
theorem mc_73_4 : mm_code 73 4 = some (4, (3, (3, 0))) := by decide +kernel
theorem mc_73_5 : mm_code 73 5 = some (5, (5, (0, 0))) := by decide +kernel
theorem mc_73_6 : mm_code 73 6 = some (6, (40, (17, 0))) := by decide +kernel
theorem mc_73_7 : mm_code 73 7 = some (9, (105, (38, 0))) := by decide +kernel
theorem mc_73_8 : mm_code 73 8 = some (12, (34, (23, 31))) := by decide +kernel
theorem mc_73_9 : mm_code 73 9 = some (15, (3, (2, 0))) := by decide +kernel
theorem mc_73_10 : mm_code 73 10 = some (16, (0, (0, (-1)))) := by decide +kernel
theorem mc_73_11 : mm_code 73 11 = some (17, (31, (23, 26))) := by decide +kernel
theorem mc_73_12 : mm_code 73 12 = some (20, (5, (0, 0))) := by decide +kernel
theorem mc_73_13 : mm_code 73 13 = some (21, (40, (20, 0))) := by decide +kernel
theorem mc_73_14 : mm_code 73 14 = some (24, (3, (2, 0))) := by decide +kernel
theorem mc_73_15 : mm_code 73 15 = some (25, (5, (0, 0))) := by decide +kernel
theorem mc_73_16 : mm_code 73 16 = some (26, (40, (17, 0))) := by decide +kernel
theorem mc_73_17 : mm_code 73 17 = some (29, (3, (3, 0))) := by decide +kernel
theorem mc_73_18 : mm_code 73 18 = some (30, (105, (42, 0))) := by decide +kernel
theorem mc_73_19 : mm_code 73 19 = some (33, (105, (51, 0))) := by decide +kernel
theorem mc_73_20 : mm_code 73 20 = some (36, (7, (2, 0))) := by decide +kernel
theorem mc_73_21 : mm_code 73 21 = some (37, (20, (3, 1))) := by decide +kernel
theorem mc_73_22 : mm_code 73 22 = some (40, (24, (4, (-36)))) := by decide +kernel
theorem mc_73_23 : mm_code 73 23 = some (43, (3, (2, 0))) := by decide +kernel
theorem mc_73_24 : mm_code 73 24 = some (44, (100, (0, 0))) := by decide +kernel
theorem mc_74_0 : mm_code 74 0 = some (0, (5, (0, 0))) := by decide +kernel
theorem mc_74_1 : mm_code 74 1 = some (1, (40, (17, 0))) := by decide +kernel
theorem mc_74_2 : mm_code 74 2 = some (4, (105, (38, 0))) := by decide +kernel
theorem mc_74_3 : mm_code 74 3 = some (7, (26, (6, 7))) := by decide +kernel
theorem mc_74_4 : mm_code 74 4 = some (10, (0, (0, (-1)))) := by decide +kernel
theorem mc_74_5 : mm_code 74 5 = some (11, (24, (9, 8))) := by decide +kernel
theorem mc_74_6 : mm_code 74 6 = some (14, (5, (0, 0))) := by decide +kernel
theorem mc_74_7 : mm_code 74 7 = some (15, (0, (0, 0))) := by decide +kernel
theorem mc_74_8 : mm_code 74 8 = some (16, (105, (50, 0))) := by decide +kernel
theorem mc_74_9 : mm_code 74 9 = some (19, (100, (0, 0))) := by decide +kernel
theorem mc_75_0 : mm_code 75 0 = some (0, (3, (1, 0))) := by decide +kernel
theorem mc_75_1 : mm_code 75 1 = some (1, (0, (0, (-1)))) := by decide +kernel
theorem mc_75_2 : mm_code 75 2 = some (2, (32, (5, 7))) := by decide +kernel
theorem mc_75_3 : mm_code 75 3 = some (5, (0, (0, (-1)))) := by decide +kernel
theorem mc_75_4 : mm_code 75 4 = some (6, (24, (12, 14))) := by decide +kernel
theorem mc_75_5 : mm_code 75 5 = some (9, (3, (1, 0))) := by decide +kernel
theorem mc_75_6 : mm_code 75 6 = some (10, (5, (0, 0))) := by decide +kernel
theorem mc_75_7 : mm_code 75 7 = some (11, (40, (17, 0))) := by decide +kernel
theorem mc_75_8 : mm_code 75 8 = some (14, (105, (38, 0))) := by decide +kernel
theorem mc_75_9 : mm_code 75 9 = some (17, (12, (0, 0))) := by decide +kernel
theorem mc_75_10 : mm_code 75 10 = some (18, (0, (0, 1))) := by decide +kernel
theorem mc_75_11 : mm_code 75 11 = some (19, (11, (0, 0))) := by decide +kernel
theorem mc_75_12 : mm_code 75 12 = some (20, (100, (0, 0))) := by decide +kernel
theorem mc_76_0 : mm_code 76 0 = some (0, (5, (0, 0))) := by decide +kernel
theorem mc_76_1 : mm_code 76 1 = some (1, (57, (1, 0))) := by decide +kernel
theorem mc_76_2 : mm_code 76 2 = some (4, (5, (0, 0))) := by decide +kernel
theorem mc_76_3 : mm_code 76 3 = some (5, (2, (0, 400))) := by decide +kernel
theorem mc_76_4 : mm_code 76 4 = some (8, (51, (0, 0))) := by decide +kernel
theorem mc_76_5 : mm_code 76 5 = some (10, (42, (24, 0))) := by decide +kernel
theorem mc_76_6 : mm_code 76 6 = some (13, (5, (0, 0))) := by decide +kernel
theorem mc_76_7 : mm_code 76 7 = some (14, (0, (0, 4))) := by decide +kernel
theorem mc_76_8 : mm_code 76 8 = some (15, (51, (0, 0))) := by decide +kernel
theorem mc_76_9 : mm_code 76 9 = some (17, (42, (25, 0))) := by decide +kernel
theorem mc_76_10 : mm_code 76 10 = some (20, (5, (0, 0))) := by decide +kernel
theorem mc_76_11 : mm_code 76 11 = some (21, (1, (0, 120))) := by decide +kernel
theorem mc_76_12 : mm_code 76 12 = some (23, (51, (0, 0))) := by decide +kernel
theorem mc_76_13 : mm_code 76 13 = some (25, (42, (26, 0))) := by decide +kernel
theorem mc_76_14 : mm_code 76 14 = some (28, (5, (0, 0))) := by decide +kernel
theorem mc_76_15 : mm_code 76 15 = some (29, (1, (0, 100))) := by decide +kernel
theorem mc_76_16 : mm_code 76 16 = some (31, (51, (0, 0))) := by decide +kernel
theorem mc_76_17 : mm_code 76 17 = some (33, (42, (27, 0))) := by decide +kernel
theorem mc_76_18 : mm_code 76 18 = some (36, (5, (0, 0))) := by decide +kernel
theorem mc_76_19 : mm_code 76 19 = some (37, (1, (0, 100))) := by decide +kernel
theorem mc_76_20 : mm_code 76 20 = some (39, (51, (0, 0))) := by decide +kernel
theorem mc_76_21 : mm_code 76 21 = some (41, (42, (28, 0))) := by decide +kernel
theorem mc_76_22 : mm_code 76 22 = some (44, (103, (0, 0))) := by decide +kernel
theorem mc_77_0 : mm_code 77 0 = some (0, (5, (0, 0))) := by decide +kernel
theorem mc_77_1 : mm_code 77 1 = some (1, (40, (29, 0))) := by decide +kernel
theorem mc_77_2 : mm_code 77 2 = some (4, (100, (0, 0))) := by decide +kernel
theorem mc_78_0 : mm_code 78 0 = some (0, (5, (0, 0))) := by decide +kernel
theorem mc_78_1 : mm_code 78 1 = some (1, (3, (1, 0))) := by decide +kernel
theorem mc_78_2 : mm_code 78 2 = some (2, (41, (29, 0))) := by decide +kernel
theorem mc_78_3 : mm_code 78 3 = some (5, (3, (1, 0))) := by decide +kernel
theorem mc_78_4 : mm_code 78 4 = some (6, (26, (7, 7))) := by decide +kernel
theorem mc_78_5 : mm_code 78 5 = some (9, (0, (0, 1))) := by decide +kernel
theorem mc_78_6 : mm_code 78 6 = some (10, (24, (8, 4))) := by decide +kernel
theorem mc_78_7 : mm_code 78 7 = some (13, (0, (0, 0))) := by decide +kernel
theorem mc_78_8 : mm_code 78 8 = some (14, (101, (0, 0))) := by decide +kernel
theorem mc_79_0 : mm_code 79 0 = some (0, (3, (1, 0))) := by decide +kernel
theorem mc_79_1 : mm_code 79 1 = some (1, (27, (8, 15))) := by decide +kernel
theorem mc_79_2 : mm_code 79 2 = some (4, (3, (1, 0))) := by decide +kernel
theorem mc_79_3 : mm_code 79 3 = some (5, (5, (0, 0))) := by decide +kernel
theorem mc_79_4 : mm_code 79 4 = some (6, (40, (30, 0))) := by decide +kernel
theorem mc_79_5 : mm_code 79 5 = some (9, (34, (8, 7))) := by decide +kernel
theorem mc_79_6 : mm_code 79 6 = some (12, (0, (0, 1))) := by decide +kernel
theorem mc_79_7 : mm_code 79 7 = some (13, (24, (9, 4))) := by decide +kernel
theorem mc_79_8 : mm_code 79 8 = some (16, (0, (0, 0))) := by decide +kernel
theorem mc_79_9 : mm_code 79 9 = some (17, (101, (0, 0))) := by decide +kernel
theorem mc_80_0 : mm_code 80 0 = some (0, (5, (0, 0))) := by decide +kernel
theorem mc_80_1 : mm_code 80 1 = some (1, (0, (0, 0))) := by decide +kernel
theorem mc_80_2 : mm_code 80 2 = some (2, (41, (29, 0))) := by decide +kernel
theorem mc_80_3 : mm_code 80 3 = some (5, (5, (0, 0))) := by decide +kernel
theorem mc_80_4 : mm_code 80 4 = some (6, (0, (0, 0))) := by decide +kernel
theorem mc_80_5 : mm_code 80 5 = some (7, (41, (30, 0))) := by decide +kernel
theorem mc_80_6 : mm_code 80 6 = some (10, (5, (0, 0))) := by decide +kernel
theorem mc_80_7 : mm_code 80 7 = some (11, (0, (0, 0))) := by decide +kernel
theorem mc_80_8 : mm_code 80 8 = some (12, (41, (31, 0))) := by decide +kernel
theorem mc_80_9 : mm_code 80 9 = some (15, (5, (0, 0))) := by decide +kernel
theorem mc_80_10 : mm_code 80 10 = some (16, (0, (0, 0))) := by decide +kernel
theorem mc_80_11 : mm_code 80 11 = some (17, (41, (32, 0))) := by decide +kernel
theorem mc_80_12 : mm_code 80 12 = some (20, (103, (0, 0))) := by decide +kernel
theorem mc_81_0 : mm_code 81 0 = some (0, (5, (0, 0))) := by decide +kernel
theorem mc_81_1 : mm_code 81 1 = some (1, (5, (0, 0))) := by decide +kernel
theorem mc_81_2 : mm_code 81 2 = some (2, (40, (30, 0))) := by decide +kernel
theorem mc_81_3 : mm_code 81 3 = some (5, (0, (0, 4))) := by decide +kernel
theorem mc_81_4 : mm_code 81 4 = some (6, (32, (7, 7))) := by decide +kernel
theorem mc_81_5 : mm_code 81 5 = some (9, (0, (0, 1))) := by decide +kernel
theorem mc_81_6 : mm_code 81 6 = some (10, (24, (8, 4))) := by decide +kernel
theorem mc_81_7 : mm_code 81 7 = some (13, (0, (0, 0))) := by decide +kernel
theorem mc_81_8 : mm_code 81 8 = some (14, (105, (62, 0))) := by decide +kernel
theorem mc_81_9 : mm_code 81 9 = some (17, (26, (12, 5))) := by decide +kernel
theorem mc_81_10 : mm_code 81 10 = some (20, (0, (0, 0))) := by decide +kernel
theorem mc_81_11 : mm_code 81 11 = some (21, (100, (0, 0))) := by decide +kernel
theorem mc_81_12 : mm_code 81 12 = some (22, (5, (0, 0))) := by decide +kernel
theorem mc_81_13 : mm_code 81 13 = some (23, (40, (25, 0))) := by decide +kernel
theorem mc_81_14 : mm_code 81 14 = some (26, (5, (0, 0))) := by decide +kernel
theorem mc_81_15 : mm_code 81 15 = some (27, (40, (30, 0))) := by decide +kernel
theorem mc_81_16 : mm_code 81 16 = some (30, (0, (0, 0))) := by decide +kernel
theorem mc_81_17 : mm_code 81 17 = some (31, (44, (0, 0))) := by decide +kernel
theorem mc_81_18 : mm_code 81 18 = some (32, (5, (0, 0))) := by decide +kernel
theorem mc_81_19 : mm_code 81 19 = some (33, (21, (0, 0))) := by decide +kernel
theorem mc_81_20 : mm_code 81 20 = some (34, (40, (30, 0))) := by decide +kernel
theorem mc_81_21 : mm_code 81 21 = some (37, (0, (0, 1))) := by decide +kernel
theorem mc_81_22 : mm_code 81 22 = some (38, (11, (0, 0))) := by decide +kernel
theorem mc_81_23 : mm_code 81 23 = some (39, (41, (30, 0))) := by decide +kernel
theorem mc_81_24 : mm_code 81 24 = some (42, (5, (0, 0))) := by decide +kernel
theorem mc_81_25 : mm_code 81 25 = some (43, (40, (30, 0))) := by decide +kernel
theorem mc_81_26 : mm_code 81 26 = some (46, (0, (0, 1))) := by decide +kernel
theorem mc_81_27 : mm_code 81 27 = some (47, (12, (0, 0))) := by decide +kernel
theorem mc_81_28 : mm_code 81 28 = some (48, (100, (0, 0))) := by decide +kernel
theorem mc_82_0 : mm_code 82 0 = some (0, (3, (0, 0))) := by decide +kernel
theorem mc_82_1 : mm_code 82 1 = some (1, (27, (7, 13))) := by decide +kernel
theorem mc_82_2 : mm_code 82 2 = some (4, (3, (0, 0))) := by decide +kernel
theorem mc_82_3 : mm_code 82 3 = some (5, (1, (0, 26))) := by decide +kernel
theorem mc_82_4 : mm_code 82 4 = some (7, (34, (7, 7))) := by decide +kernel
theorem mc_82_5 : mm_code 82 5 = some (10, (0, (0, 1))) := by decide +kernel
theorem mc_82_6 : mm_code 82 6 = some (11, (24, (8, 4))) := by decide +kernel
theorem mc_82_7 : mm_code 82 7 = some (14, (0, (0, 0))) := by decide +kernel
theorem mc_82_8 : mm_code 82 8 = some (15, (101, (0, 0))) := by decide +kernel
theorem mc_83_0 : mm_code 83 0 = some (0, (5, (0, 0))) := by decide +kernel
theorem mc_83_1 : mm_code 83 1 = some (1, (5, (0, 0))) := by decide +kernel
theorem mc_83_2 : mm_code 83 2 = some (2, (3, (1, 0))) := by decide +kernel
theorem mc_83_3 : mm_code 83 3 = some (3, (105, (63, 0))) := by decide +kernel
theorem mc_83_4 : mm_code 83 4 = some (6, (26, (7, 7))) := by decide +kernel
theorem mc_83_5 : mm_code 83 5 = some (9, (0, (0, 1))) := by decide +kernel
theorem mc_83_6 : mm_code 83 6 = some (10, (24, (19, 28))) := by decide +kernel
theorem mc_83_7 : mm_code 83 7 = some (13, (3, (2, 0))) := by decide +kernel
theorem mc_83_8 : mm_code 83 8 = some (14, (106, (64, 0))) := by decide +kernel
theorem mc_83_9 : mm_code 83 9 = some (17, (26, (12, 7))) := by decide +kernel
theorem mc_83_10 : mm_code 83 10 = some (20, (0, (0, 2))) := by decide +kernel
theorem mc_83_11 : mm_code 83 11 = some (21, (24, (19, 17))) := by decide +kernel
theorem mc_83_12 : mm_code 83 12 = some (24, (5, (0, 0))) := by decide +kernel
theorem mc_83_13 : mm_code 83 13 = some (25, (40, (31, 0))) := by decide +kernel
theorem mc_83_14 : mm_code 83 14 = some (28, (1, (0, 100))) := by decide +kernel
theorem mc_83_15 : mm_code 83 15 = some (30, (32, (18, 7))) := by decide +kernel
theorem mc_83_16 : mm_code 83 16 = some (33, (0, (0, 3))) := by decide +kernel
theorem mc_83_17 : mm_code 83 17 = some (34, (24, (19, 4))) := by decide +kernel
theorem mc_83_18 : mm_code 83 18 = some (37, (0, (0, 0))) := by decide +kernel
theorem mc_83_19 : mm_code 83 19 = some (38, (105, (62, 0))) := by decide +kernel
theorem mc_83_20 : mm_code 83 20 = some (41, (26, (23, 5))) := by decide +kernel
theorem mc_83_21 : mm_code 83 21 = some (44, (0, (0, 0))) := by decide +kernel
theorem mc_83_22 : mm_code 83 22 = some (45, (100, (0, 0))) := by decide +kernel
theorem mc_83_23 : mm_code 83 23 = some (46, (5, (0, 0))) := by decide +kernel
theorem mc_83_24 : mm_code 83 24 = some (47, (40, (24, 0))) := by decide +kernel
theorem mc_83_25 : mm_code 83 25 = some (50, (1, (0, 100))) := by decide +kernel
theorem mc_83_26 : mm_code 83 26 = some (52, (3, (1, 0))) := by decide +kernel
theorem mc_83_27 : mm_code 83 27 = some (53, (13, (0, 0))) := by decide +kernel
theorem mc_83_28 : mm_code 83 28 = some (54, (5, (0, 0))) := by decide +kernel
theorem mc_83_29 : mm_code 83 29 = some (55, (40, (25, 0))) := by decide +kernel
theorem mc_83_30 : mm_code 83 30 = some (58, (3, (1, 0))) := by decide +kernel
theorem mc_83_31 : mm_code 83 31 = some (59, (43, (0, 0))) := by decide +kernel
theorem mc_83_32 : mm_code 83 32 = some (60, (11, (0, 0))) := by decide +kernel
theorem mc_83_33 : mm_code 83 33 = some (61, (3, (2, 0))) := by decide +kernel
theorem mc_83_34 : mm_code 83 34 = some (62, (44, (0, 0))) := by decide +kernel
theorem mc_83_35 : mm_code 83 35 = some (63, (5, (0, 0))) := by decide +kernel
theorem mc_83_36 : mm_code 83 36 = some (64, (40, (25, 0))) := by decide +kernel
theorem mc_83_37 : mm_code 83 37 = some (67, (3, (1, 0))) := by decide +kernel
theorem mc_83_38 : mm_code 83 38 = some (68, (22, (0, 0))) := by decide +kernel
theorem mc_83_39 : mm_code 83 39 = some (69, (43, (0, 0))) := by decide +kernel
theorem mc_83_40 : mm_code 83 40 = some (70, (0, (0, 1))) := by decide +kernel
theorem mc_83_41 : mm_code 83 41 = some (71, (11, (0, 0))) := by decide +kernel
theorem mc_83_42 : mm_code 83 42 = some (72, (44, (0, 0))) := by decide +kernel
theorem mc_83_43 : mm_code 83 43 = some (73, (5, (0, 0))) := by decide +kernel
theorem mc_83_44 : mm_code 83 44 = some (74, (21, (0, 0))) := by decide +kernel
theorem mc_83_45 : mm_code 83 45 = some (75, (40, (31, 0))) := by decide +kernel
theorem mc_83_46 : mm_code 83 46 = some (78, (0, (0, 1))) := by decide +kernel
theorem mc_83_47 : mm_code 83 47 = some (79, (11, (0, 0))) := by decide +kernel
theorem mc_83_48 : mm_code 83 48 = some (80, (41, (31, 0))) := by decide +kernel
theorem mc_83_49 : mm_code 83 49 = some (83, (5, (0, 0))) := by decide +kernel
theorem mc_83_50 : mm_code 83 50 = some (84, (40, (25, 0))) := by decide +kernel
theorem mc_83_51 : mm_code 83 51 = some (87, (3, (1, 0))) := by decide +kernel
theorem mc_83_52 : mm_code 83 52 = some (88, (43, (0, 0))) := by decide +kernel
theorem mc_83_53 : mm_code 83 53 = some (89, (100, (0, 0))) := by decide +kernel
theorem mc_84_0 : mm_code 84 0 = some (0, (5, (0, 0))) := by decide +kernel
theorem mc_84_1 : mm_code 84 1 = some (1, (0, (0, 0))) := by decide +kernel
theorem mc_84_2 : mm_code 84 2 = some (2, (41, (29, 0))) := by decide +kernel
theorem mc_84_3 : mm_code 84 3 = some (5, (5, (0, 0))) := by decide +kernel
theorem mc_84_4 : mm_code 84 4 = some (6, (40, (30, 0))) := by decide +kernel
theorem mc_84_5 : mm_code 84 5 = some (9, (100, (0, 0))) := by decide +kernel
theorem mc_85_0 : mm_code 85 0 = some (0, (5, (0, 0))) := by decide +kernel
theorem mc_85_1 : mm_code 85 1 = some (1, (5, (0, 0))) := by decide +kernel
theorem mc_85_2 : mm_code 85 2 = some (2, (3, (1, 0))) := by decide +kernel
theorem mc_85_3 : mm_code 85 3 = some (3, (105, (63, 0))) := by decide +kernel
theorem mc_85_4 : mm_code 85 4 = some (6, (25, (7, 7))) := by decide +kernel
theorem mc_85_5 : mm_code 85 5 = some (9, (0, (0, 0))) := by decide +kernel
theorem mc_85_6 : mm_code 85 6 = some (10, (24, (8, 4))) := by decide +kernel
theorem mc_85_7 : mm_code 85 7 = some (13, (0, (0, 1))) := by decide +kernel
theorem mc_85_8 : mm_code 85 8 = some (14, (105, (62, 0))) := by decide +kernel
theorem mc_85_9 : mm_code 85 9 = some (17, (25, (15, 12))) := by decide +kernel
theorem mc_85_10 : mm_code 85 10 = some (20, (5, (0, 0))) := by decide +kernel
theorem mc_85_11 : mm_code 85 11 = some (21, (40, (25, 0))) := by decide +kernel
theorem mc_85_12 : mm_code 85 12 = some (24, (3, (1, 0))) := by decide +kernel
theorem mc_85_13 : mm_code 85 13 = some (25, (43, (0, 0))) := by decide +kernel
theorem mc_85_14 : mm_code 85 14 = some (26, (24, (16, 4))) := by decide +kernel
theorem mc_85_15 : mm_code 85 15 = some (29, (0, (0, 0))) := by decide +kernel
theorem mc_85_16 : mm_code 85 16 = some (30, (100, (0, 0))) := by decide +kernel
theorem mc_86_0 : mm_code 86 0 = some (0, (5, (0, 0))) := by decide +kernel
theorem mc_86_1 : mm_code 86 1 = some (1, (3, (1, 0))) := by decide +kernel
theorem mc_86_2 : mm_code 86 2 = some (2, (105, (63, 0))) := by decide +kernel
theorem mc_86_3 : mm_code 86 3 = some (5, (25, (14, 21))) := by decide +kernel
theorem mc_86_4 : mm_code 86 4 = some (8, (3, (2, 0))) := by decide +kernel
theorem mc_86_5 : mm_code 86 5 = some (9, (27, (14, 17))) := by decide +kernel
theorem mc_86_6 : mm_code 86 6 = some (12, (3, (2, 0))) := by decide +kernel
theorem mc_86_7 : mm_code 86 7 = some (13, (5, (0, 0))) := by decide +kernel
theorem mc_86_8 : mm_code 86 8 = some (14, (40, (25, 0))) := by decide +kernel
theorem mc_86_9 : mm_code 86 9 = some (17, (3, (1, 0))) := by decide +kernel
theorem mc_86_10 : mm_code 86 10 = some (18, (43, (0, 0))) := by decide +kernel
theorem mc_86_11 : mm_code 86 11 = some (19, (34, (14, 7))) := by decide +kernel
theorem mc_86_12 : mm_code 86 12 = some (22, (0, (0, 1))) := by decide +kernel
theorem mc_86_13 : mm_code 86 13 = some (23, (24, (15, 4))) := by decide +kernel
theorem mc_86_14 : mm_code 86 14 = some (26, (0, (0, 0))) := by decide +kernel
theorem mc_86_15 : mm_code 86 15 = some (27, (7, (3, 0))) := by decide +kernel
theorem mc_86_16 : mm_code 86 16 = some (28, (5, (0, 0))) := by decide +kernel
theorem mc_86_17 : mm_code 86 17 = some (29, (3, (3, 0))) := by decide +kernel
theorem mc_86_18 : mm_code 86 18 = some (30, (25, (21, 7))) := by decide +kernel
theorem mc_86_19 : mm_code 86 19 = some (33, (0, (0, 0))) := by decide +kernel
theorem mc_86_20 : mm_code 86 20 = some (34, (24, (22, 4))) := by decide +kernel
theorem mc_86_21 : mm_code 86 21 = some (37, (0, (0, 1))) := by decide +kernel
theorem mc_86_22 : mm_code 86 22 = some (38, (105, (62, 0))) := by decide +kernel
theorem mc_86_23 : mm_code 86 23 = some (41, (25, (33, 17))) := by decide +kernel
theorem mc_86_24 : mm_code 86 24 = some (44, (5, (0, 0))) := by decide +kernel
theorem mc_86_25 : mm_code 86 25 = some (45, (40, (24, 0))) := by decide +kernel
theorem mc_86_26 : mm_code 86 26 = some (48, (1, (0, 100))) := by decide +kernel
theorem mc_86_27 : mm_code 86 27 = some (50, (3, (1, 0))) := by decide +kernel
theorem mc_86_28 : mm_code 86 28 = some (51, (13, (0, 0))) := by decide +kernel
theorem mc_86_29 : mm_code 86 29 = some (52, (3, (2, 0))) := by decide +kernel
theorem mc_86_30 : mm_code 86 30 = some (53, (11, (0, 0))) := by decide +kernel
theorem mc_86_31 : mm_code 86 31 = some (54, (43, (0, 0))) := by decide +kernel
theorem mc_86_32 : mm_code 86 32 = some (55, (24, (34, 4))) := by decide +kernel
theorem mc_86_33 : mm_code 86 33 = some (58, (0, (0, 0))) := by decide +kernel
theorem mc_86_34 : mm_code 86 34 = some (59, (100, (0, 0))) := by decide +kernel
theorem mc_87_0 : mm_code 87 0 = some (0, (5, (0, 0))) := by decide +kernel
theorem mc_87_1 : mm_code 87 1 = some (1, (3, (1, 0))) := by decide +kernel
theorem mc_87_2 : mm_code 87 2 = some (2, (106, (64, 0))) := by decide +kernel
theorem mc_87_3 : mm_code 87 3 = some (5, (26, (6, 7))) := by decide +kernel
theorem mc_87_4 : mm_code 87 4 = some (8, (0, (0, 1))) := by decide +kernel
theorem mc_87_5 : mm_code 87 5 = some (9, (24, (13, 17))) := by decide +kernel
theorem mc_87_6 : mm_code 87 6 = some (12, (5, (0, 0))) := by decide +kernel
theorem mc_87_7 : mm_code 87 7 = some (13, (40, (32, 0))) := by decide +kernel
theorem mc_87_8 : mm_code 87 8 = some (16, (1, (0, 120))) := by decide +kernel
theorem mc_87_9 : mm_code 87 9 = some (18, (32, (12, 7))) := by decide +kernel
theorem mc_87_10 : mm_code 87 10 = some (21, (0, (0, 2))) := by decide +kernel
theorem mc_87_11 : mm_code 87 11 = some (22, (24, (13, 4))) := by decide +kernel
theorem mc_87_12 : mm_code 87 12 = some (25, (0, (0, 0))) := by decide +kernel
theorem mc_87_13 : mm_code 87 13 = some (26, (105, (62, 0))) := by decide +kernel
theorem mc_87_14 : mm_code 87 14 = some (29, (26, (17, 5))) := by decide +kernel
theorem mc_87_15 : mm_code 87 15 = some (32, (0, (0, 0))) := by decide +kernel
theorem mc_87_16 : mm_code 87 16 = some (33, (100, (0, 0))) := by decide +kernel
theorem mc_87_17 : mm_code 87 17 = some (34, (5, (0, 0))) := by decide +kernel
theorem mc_87_18 : mm_code 87 18 = some (35, (40, (26, 0))) := by decide +kernel
theorem mc_87_19 : mm_code 87 19 = some (38, (5, (0, 0))) := by decide +kernel
theorem mc_87_20 : mm_code 87 20 = some (39, (40, (32, 0))) := by decide +kernel
theorem mc_87_21 : mm_code 87 21 = some (42, (3, (1, 0))) := by decide +kernel
theorem mc_87_22 : mm_code 87 22 = some (43, (44, (0, 0))) := by decide +kernel
theorem mc_87_23 : mm_code 87 23 = some (44, (5, (0, 0))) := by decide +kernel
theorem mc_87_24 : mm_code 87 24 = some (45, (21, (0, 0))) := by decide +kernel
theorem mc_87_25 : mm_code 87 25 = some (46, (40, (32, 0))) := by decide +kernel
theorem mc_87_26 : mm_code 87 26 = some (49, (0, (0, 1))) := by decide +kernel
theorem mc_87_27 : mm_code 87 27 = some (50, (11, (0, 0))) := by decide +kernel
theorem mc_87_28 : mm_code 87 28 = some (51, (41, (32, 0))) := by decide +kernel
theorem mc_87_29 : mm_code 87 29 = some (54, (5, (0, 0))) := by decide +kernel
theorem mc_87_30 : mm_code 87 30 = some (55, (40, (32, 0))) := by decide +kernel
theorem mc_87_31 : mm_code 87 31 = some (58, (100, (0, 0))) := by decide +kernel
theorem mc_88_0 : mm_code 88 0 = some (0, (5, (0, 0))) := by decide +kernel
theorem mc_88_1 : mm_code 88 1 = some (1, (5, (0, 0))) := by decide +kernel
theorem mc_88_2 : mm_code 88 2 = some (2, (40, (32, 0))) := by decide +kernel
theorem mc_88_3 : mm_code 88 3 = some (5, (26, (6, 7))) := by decide +kernel
theorem mc_88_4 : mm_code 88 4 = some (8, (0, (0, 1))) := by decide +kernel
theorem mc_88_5 : mm_code 88 5 = some (9, (24, (7, 4))) := by decide +kernel
theorem mc_88_6 : mm_code 88 6 = some (12, (0, (0, 0))) := by decide +kernel
theorem mc_88_7 : mm_code 88 7 = some (13, (105, (62, 0))) := by decide +kernel
theorem mc_88_8 : mm_code 88 8 = some (16, (26, (11, 5))) := by decide +kernel
theorem mc_88_9 : mm_code 88 9 = some (19, (0, (0, 0))) := by decide +kernel
theorem mc_88_10 : mm_code 88 10 = some (20, (100, (0, 0))) := by decide +kernel
theorem mc_88_11 : mm_code 88 11 = some (21, (5, (0, 0))) := by decide +kernel
theorem mc_88_12 : mm_code 88 12 = some (22, (21, (0, 0))) := by decide +kernel
theorem mc_88_13 : mm_code 88 13 = some (23, (40, (32, 0))) := by decide +kernel
theorem mc_88_14 : mm_code 88 14 = some (26, (0, (0, 1))) := by decide +kernel
theorem mc_88_15 : mm_code 88 15 = some (27, (12, (0, 0))) := by decide +kernel
theorem mc_88_16 : mm_code 88 16 = some (28, (41, (32, 0))) := by decide +kernel
theorem mc_88_17 : mm_code 88 17 = some (31, (5, (0, 0))) := by decide +kernel
theorem mc_88_18 : mm_code 88 18 = some (32, (40, (26, 0))) := by decide +kernel
theorem mc_88_19 : mm_code 88 19 = some (35, (5, (0, 0))) := by decide +kernel
theorem mc_88_20 : mm_code 88 20 = some (36, (40, (32, 0))) := by decide +kernel
theorem mc_88_21 : mm_code 88 21 = some (39, (43, (0, 0))) := by decide +kernel
theorem mc_88_22 : mm_code 88 22 = some (40, (100, (0, 0))) := by decide +kernel
theorem mc_89_0 : mm_code 89 0 = some (0, (5, (0, 0))) := by decide +kernel
theorem mc_89_1 : mm_code 89 1 = some (1, (0, (0, 0))) := by decide +kernel
theorem mc_89_2 : mm_code 89 2 = some (2, (41, (29, 0))) := by decide +kernel
theorem mc_89_3 : mm_code 89 3 = some (5, (5, (0, 0))) := by decide +kernel
theorem mc_89_4 : mm_code 89 4 = some (6, (40, (32, 0))) := by decide +kernel
theorem mc_89_5 : mm_code 89 5 = some (9, (7, (1, 0))) := by decide +kernel
theorem mc_89_6 : mm_code 89 6 = some (10, (5, (0, 0))) := by decide +kernel
theorem mc_89_7 : mm_code 89 7 = some (11, (0, (0, 0))) := by decide +kernel
theorem mc_89_8 : mm_code 89 8 = some (12, (41, (32, 0))) := by decide +kernel
theorem mc_89_9 : mm_code 89 9 = some (15, (3, (1, 0))) := by decide +kernel
theorem mc_89_10 : mm_code 89 10 = some (16, (100, (0, 0))) := by decide +kernel
theorem mc_90_0 : mm_code 90 0 = some (0, (0, (0, 0))) := by decide +kernel
theorem mc_90_1 : mm_code 90 1 = some (1, (7, (3, 0))) := by decide +kernel
theorem mc_90_2 : mm_code 90 2 = some (2, (3, (3, 0))) := by decide +kernel
theorem mc_90_3 : mm_code 90 3 = some (3, (3, (2, 0))) := by decide +kernel
theorem mc_90_4 : mm_code 90 4 = some (4, (34, (17, 23))) := by decide +kernel
theorem mc_90_5 : mm_code 90 5 = some (7, (5, (0, 0))) := by decide +kernel
theorem mc_90_6 : mm_code 90 6 = some (8, (40, (26, 0))) := by decide +kernel
theorem mc_90_7 : mm_code 90 7 = some (11, (3, (3, 0))) := by decide +kernel
theorem mc_90_8 : mm_code 90 8 = some (12, (5, (0, 0))) := by decide +kernel
theorem mc_90_9 : mm_code 90 9 = some (13, (40, (24, 0))) := by decide +kernel
theorem mc_90_10 : mm_code 90 10 = some (16, (3, (1, 0))) := by decide +kernel
theorem mc_90_11 : mm_code 90 11 = some (17, (3, (3, 0))) := by decide +kernel
theorem mc_90_12 : mm_code 90 12 = some (18, (11, (0, 0))) := by decide +kernel
theorem mc_90_13 : mm_code 90 13 = some (19, (43, (0, 0))) := by decide +kernel
theorem mc_90_14 : mm_code 90 14 = some (20, (44, (0, 0))) := by decide +kernel
theorem mc_90_15 : mm_code 90 15 = some (21, (20, (3, 1))) := by decide +kernel
theorem mc_90_16 : mm_code 90 16 = some (24, (24, (2, (-22)))) := by decide +kernel
theorem mc_90_17 : mm_code 90 17 = some (27, (5, (0, 0))) := by decide +kernel
theorem mc_90_18 : mm_code 90 18 = some (28, (3, (2, 0))) := by decide +kernel
theorem mc_90_19 : mm_code 90 19 = some (29, (41, (32, 0))) := by decide +kernel
theorem mc_90_20 : mm_code 90 20 = some (32, (103, (0, 0))) := by decide +kernel
theorem mc_91_0 : mm_code 91 0 = some (0, (5, (0, 0))) := by decide +kernel
theorem mc_91_1 : mm_code 91 1 = some (1, (3, (1, 0))) := by decide +kernel
theorem mc_91_2 : mm_code 91 2 = some (2, (105, (63, 0))) := by decide +kernel
theorem mc_91_3 : mm_code 91 3 = some (5, (8, (4, 0))) := by decide +kernel
theorem mc_91_4 : mm_code 91 4 = some (7, (5, (0, 0))) := by decide +kernel
theorem mc_91_5 : mm_code 91 5 = some (8, (4, (4, 0))) := by decide +kernel
theorem mc_91_6 : mm_code 91 6 = some (10, (26, (9, 7))) := by decide +kernel
theorem mc_91_7 : mm_code 91 7 = some (13, (0, (0, 1))) := by decide +kernel
theorem mc_91_8 : mm_code 91 8 = some (14, (24, (30, 38))) := by decide +kernel
theorem mc_91_9 : mm_code 91 9 = some (17, (3, (2, 0))) := by decide +kernel
theorem mc_91_10 : mm_code 91 10 = some (18, (27, (27, 29))) := by decide +kernel
theorem mc_91_11 : mm_code 91 11 = some (21, (3, (3, 0))) := by decide +kernel
theorem mc_91_12 : mm_code 91 12 = some (22, (27, (27, 25))) := by decide +kernel
theorem mc_91_13 : mm_code 91 13 = some (25, (3, (2, 0))) := by decide +kernel
theorem mc_91_14 : mm_code 91 14 = some (26, (5, (0, 0))) := by decide +kernel
theorem mc_91_15 : mm_code 91 15 = some (27, (40, (25, 0))) := by decide +kernel
theorem mc_91_16 : mm_code 91 16 = some (30, (3, (1, 0))) := by decide +kernel
theorem mc_91_17 : mm_code 91 17 = some (31, (43, (0, 0))) := by decide +kernel
theorem mc_91_18 : mm_code 91 18 = some (32, (35, (27, 15))) := by decide +kernel
theorem mc_91_19 : mm_code 91 19 = some (35, (3, (3, 0))) := by decide +kernel
theorem mc_91_20 : mm_code 91 20 = some (36, (5, (0, 0))) := by decide +kernel
theorem mc_91_21 : mm_code 91 21 = some (37, (40, (25, 0))) := by decide +kernel
theorem mc_91_22 : mm_code 91 22 = some (40, (3, (1, 0))) := by decide +kernel
theorem mc_91_23 : mm_code 91 23 = some (41, (43, (0, 0))) := by decide +kernel
theorem mc_91_24 : mm_code 91 24 = some (42, (3, (2, 0))) := by decide +kernel
theorem mc_91_25 : mm_code 91 25 = some (43, (12, (0, 0))) := by decide +kernel
theorem mc_91_26 : mm_code 91 26 = some (44, (36, (29, 7))) := by decide +kernel
theorem mc_91_27 : mm_code 91 27 = some (47, (0, (0, 2))) := by decide +kernel
theorem mc_91_28 : mm_code 91 28 = some (48, (24, (30, 4))) := by decide +kernel
theorem mc_91_29 : mm_code 91 29 = some (51, (0, (0, 0))) := by decide +kernel
theorem mc_91_30 : mm_code 91 30 = some (52, (105, (62, 0))) := by decide +kernel
theorem mc_91_31 : mm_code 91 31 = some (55, (25, (40, 14))) := by decide +kernel
theorem mc_91_32 : mm_code 91 32 = some (58, (5, (0, 0))) := by decide +kernel
theorem mc_91_33 : mm_code 91 33 = some (59, (1, (0, 100))) := by decide +kernel
theorem mc_91_34 : mm_code 91 34 = some (61, (3, (1, 0))) := by decide +kernel
theorem mc_91_35 : mm_code 91 35 = some (62, (13, (0, 0))) := by decide +kernel
theorem mc_91_36 : mm_code 91 36 = some (63, (3, (2, 0))) := by decide +kernel
theorem mc_91_37 : mm_code 91 37 = some (64, (11, (0, 0))) := by decide +kernel
theorem mc_91_38 : mm_code 91 38 = some (65, (3, (3, 0))) := by decide +kernel
theorem mc_91_39 : mm_code 91 39 = some (66, (105, (65, 0))) := by decide +kernel
theorem mc_91_40 : mm_code 91 40 = some (69, (103, (0, 0))) := by decide +kernel
theorem mc_92_0 : mm_code 92 0 = some (0, (5, (0, 0))) := by decide +kernel
theorem mc_92_1 : mm_code 92 1 = some (1, (0, (0, 0))) := by decide +kernel
theorem mc_92_2 : mm_code 92 2 = some (2, (41, (29, 0))) := by decide +kernel
theorem mc_92_3 : mm_code 92 3 = some (5, (5, (0, 0))) := by decide +kernel
theorem mc_92_4 : mm_code 92 4 = some (6, (40, (32, 0))) := by decide +kernel
theorem mc_92_5 : mm_code 92 5 = some (9, (100, (0, 0))) := by decide +kernel
theorem mc_93_0 : mm_code 93 0 = some (0, (5, (0, 0))) := by decide +kernel
theorem mc_93_1 : mm_code 93 1 = some (1, (3, (1, 0))) := by decide +kernel
theorem mc_93_2 : mm_code 93 2 = some (2, (27, (9, 15))) := by decide +kernel
theorem mc_93_3 : mm_code 93 3 = some (5, (3, (1, 0))) := by decide +kernel
theorem mc_93_4 : mm_code 93 4 = some (6, (5, (0, 0))) := by decide +kernel
theorem mc_93_5 : mm_code 93 5 = some (7, (40, (32, 0))) := by decide +kernel
theorem mc_93_6 : mm_code 93 6 = some (10, (34, (9, 7))) := by decide +kernel
theorem mc_93_7 : mm_code 93 7 = some (13, (0, (0, 0))) := by decide +kernel
theorem mc_93_8 : mm_code 93 8 = some (14, (24, (10, 4))) := by decide +kernel
theorem mc_93_9 : mm_code 93 9 = some (17, (0, (0, 1))) := by decide +kernel
theorem mc_93_10 : mm_code 93 10 = some (18, (105, (62, 0))) := by decide +kernel
theorem mc_93_11 : mm_code 93 11 = some (21, (25, (17, 12))) := by decide +kernel
theorem mc_93_12 : mm_code 93 12 = some (24, (5, (0, 0))) := by decide +kernel
theorem mc_93_13 : mm_code 93 13 = some (25, (40, (26, 0))) := by decide +kernel
theorem mc_93_14 : mm_code 93 14 = some (28, (3, (1, 0))) := by decide +kernel
theorem mc_93_15 : mm_code 93 15 = some (29, (43, (0, 0))) := by decide +kernel
theorem mc_93_16 : mm_code 93 16 = some (30, (24, (18, 4))) := by decide +kernel
theorem mc_93_17 : mm_code 93 17 = some (33, (0, (0, 0))) := by decide +kernel
theorem mc_93_18 : mm_code 93 18 = some (34, (100, (0, 0))) := by decide +kernel
theorem mc_94_0 : mm_code 94 0 = some (0, (3, (1, 0))) := by decide +kernel
theorem mc_94_1 : mm_code 94 1 = some (1, (5, (0, 0))) := by decide +kernel
theorem mc_94_2 : mm_code 94 2 = some (2, (40, (32, 0))) := by decide +kernel
theorem mc_94_3 : mm_code 94 3 = some (5, (34, (19, 28))) := by decide +kernel
theorem mc_94_4 : mm_code 94 4 = some (8, (3, (3, 0))) := by decide +kernel
theorem mc_94_5 : mm_code 94 5 = some (9, (27, (19, 24))) := by decide +kernel
theorem mc_94_6 : mm_code 94 6 = some (12, (3, (3, 0))) := by decide +kernel
theorem mc_94_7 : mm_code 94 7 = some (13, (5, (0, 0))) := by decide +kernel
theorem mc_94_8 : mm_code 94 8 = some (14, (40, (32, 0))) := by decide +kernel
theorem mc_94_9 : mm_code 94 9 = some (17, (11, (0, 0))) := by decide +kernel
theorem mc_94_10 : mm_code 94 10 = some (18, (3, (1, 0))) := by decide +kernel
theorem mc_94_11 : mm_code 94 11 = some (19, (12, (0, 0))) := by decide +kernel
theorem mc_94_12 : mm_code 94 12 = some (20, (5, (0, 0))) := by decide +kernel
theorem mc_94_13 : mm_code 94 13 = some (21, (40, (25, 0))) := by decide +kernel
theorem mc_94_14 : mm_code 94 14 = some (24, (3, (2, 0))) := by decide +kernel
theorem mc_94_15 : mm_code 94 15 = some (25, (43, (0, 0))) := by decide +kernel
theorem mc_94_16 : mm_code 94 16 = some (26, (35, (19, 7))) := by decide +kernel
theorem mc_94_17 : mm_code 94 17 = some (29, (0, (0, 1))) := by decide +kernel
theorem mc_94_18 : mm_code 94 18 = some (30, (24, (20, 4))) := by decide +kernel
theorem mc_94_19 : mm_code 94 19 = some (33, (0, (0, 0))) := by decide +kernel
theorem mc_94_20 : mm_code 94 20 = some (34, (8, (4, 0))) := by decide +kernel
theorem mc_94_21 : mm_code 94 21 = some (36, (3, (1, 0))) := by decide +kernel
theorem mc_94_22 : mm_code 94 22 = some (37, (8, (5, 0))) := by decide +kernel
theorem mc_94_23 : mm_code 94 23 = some (39, (4, (5, 0))) := by decide +kernel
theorem mc_94_24 : mm_code 94 24 = some (41, (5, (0, 0))) := by decide +kernel
theorem mc_94_25 : mm_code 94 25 = some (42, (40, (32, 0))) := by decide +kernel
theorem mc_94_26 : mm_code 94 26 = some (45, (34, (52, 47))) := by decide +kernel
theorem mc_94_27 : mm_code 94 27 = some (48, (4, (4, 0))) := by decide +kernel
theorem mc_94_28 : mm_code 94 28 = some (50, (25, (52, 42))) := by decide +kernel
theorem mc_94_29 : mm_code 94 29 = some (53, (5, (0, 0))) := by decide +kernel
theorem mc_94_30 : mm_code 94 30 = some (54, (40, (24, 0))) := by decide +kernel
theorem mc_94_31 : mm_code 94 31 = some (57, (1, (0, 100))) := by decide +kernel
theorem mc_94_32 : mm_code 94 32 = some (59, (3, (2, 0))) := by decide +kernel
theorem mc_94_33 : mm_code 94 33 = some (60, (13, (0, 0))) := by decide +kernel
theorem mc_94_34 : mm_code 94 34 = some (61, (3, (3, 0))) := by decide +kernel
theorem mc_94_35 : mm_code 94 35 = some (62, (11, (0, 0))) := by decide +kernel
theorem mc_94_36 : mm_code 94 36 = some (63, (4, (5, 0))) := by decide +kernel
theorem mc_94_37 : mm_code 94 37 = some (65, (11, (0, 0))) := by decide +kernel
theorem mc_94_38 : mm_code 94 38 = some (66, (3, (1, 0))) := by decide +kernel
theorem mc_94_39 : mm_code 94 39 = some (67, (12, (0, 0))) := by decide +kernel
theorem mc_94_40 : mm_code 94 40 = some (68, (43, (0, 0))) := by decide +kernel
theorem mc_94_41 : mm_code 94 41 = some (69, (5, (0, 0))) := by decide +kernel
theorem mc_94_42 : mm_code 94 42 = some (70, (40, (26, 0))) := by decide +kernel
theorem mc_94_43 : mm_code 94 43 = some (73, (4, (5, 0))) := by decide +kernel
theorem mc_94_44 : mm_code 94 44 = some (75, (43, (0, 0))) := by decide +kernel
theorem mc_94_45 : mm_code 94 45 = some (76, (32, (48, 7))) := by decide +kernel
theorem mc_94_46 : mm_code 94 46 = some (79, (0, (0, 1))) := by decide +kernel
theorem mc_94_47 : mm_code 94 47 = some (80, (24, (49, 4))) := by decide +kernel
theorem mc_94_48 : mm_code 94 48 = some (83, (0, (0, 0))) := by decide +kernel
theorem mc_94_49 : mm_code 94 49 = some (84, (8, (4, 0))) := by decide +kernel
theorem mc_94_50 : mm_code 94 50 = some (86, (20, (5, 1))) := by decide +kernel
theorem mc_94_51 : mm_code 94 51 = some (89, (24, (23, (-50)))) := by decide +kernel
theorem mc_94_52 : mm_code 94 52 = some (92, (4, (4, 0))) := by decide +kernel
theorem mc_94_53 : mm_code 94 53 = some (94, (101, (0, 0))) := by decide +kernel
theorem mc_95_0 : mm_code 95 0 = some (0, (0, (0, 0))) := by decide +kernel
theorem mc_95_1 : mm_code 95 1 = some (1, (7, (3, 0))) := by decide +kernel
theorem mc_95_2 : mm_code 95 2 = some (2, (0, (0, 0))) := by decide +kernel
theorem mc_95_3 : mm_code 95 3 = some (3, (8, (4, 0))) := by decide +kernel
theorem mc_95_4 : mm_code 95 4 = some (5, (4, (4, 0))) := by decide +kernel
theorem mc_95_5 : mm_code 95 5 = some (7, (5, (0, 0))) := by decide +kernel
theorem mc_95_6 : mm_code 95 6 = some (8, (40, (25, 0))) := by decide +kernel
theorem mc_95_7 : mm_code 95 7 = some (11, (3, (2, 0))) := by decide +kernel
theorem mc_95_8 : mm_code 95 8 = some (12, (43, (0, 0))) := by decide +kernel
theorem mc_95_9 : mm_code 95 9 = some (13, (34, (24, 28))) := by decide +kernel
theorem mc_95_10 : mm_code 95 10 = some (16, (3, (3, 0))) := by decide +kernel
theorem mc_95_11 : mm_code 95 11 = some (17, (5, (0, 0))) := by decide +kernel
theorem mc_95_12 : mm_code 95 12 = some (18, (3, (1, 0))) := by decide +kernel
theorem mc_95_13 : mm_code 95 13 = some (19, (3, (2, 0))) := by decide +kernel
theorem mc_95_14 : mm_code 95 14 = some (20, (4, (4, 0))) := by decide +kernel
theorem mc_95_15 : mm_code 95 15 = some (22, (105, (66, 0))) := by decide +kernel
theorem mc_95_16 : mm_code 95 16 = some (25, (25, (19, 7))) := by decide +kernel
theorem mc_95_17 : mm_code 95 17 = some (28, (0, (0, 1))) := by decide +kernel
theorem mc_95_18 : mm_code 95 18 = some (29, (24, (20, 4))) := by decide +kernel
theorem mc_95_19 : mm_code 95 19 = some (32, (0, (0, 0))) := by decide +kernel
theorem mc_95_20 : mm_code 95 20 = some (33, (11, (0, 0))) := by decide +kernel
theorem mc_95_21 : mm_code 95 21 = some (34, (7, (3, 0))) := by decide +kernel
theorem mc_95_22 : mm_code 95 22 = some (35, (20, (4, 1))) := by decide +kernel
theorem mc_95_23 : mm_code 95 23 = some (38, (24, (4, (-33)))) := by decide +kernel
theorem mc_95_24 : mm_code 95 24 = some (41, (3, (3, 0))) := by decide +kernel
theorem mc_95_25 : mm_code 95 25 = some (42, (100, (0, 0))) := by decide +kernel
theorem mc_96_0 : mm_code 96 0 = some (0, (0, (0, 0))) := by decide +kernel
theorem mc_96_1 : mm_code 96 1 = some (1, (7, (2, 0))) := by decide +kernel
theorem mc_96_2 : mm_code 96 2 = some (2, (0, (0, 0))) := by decide +kernel
theorem mc_96_3 : mm_code 96 3 = some (3, (7, (3, 0))) := by decide +kernel
theorem mc_96_4 : mm_code 96 4 = some (4, (3, (3, 0))) := by decide +kernel
theorem mc_96_5 : mm_code 96 5 = some (5, (5, (0, 0))) := by decide +kernel
theorem mc_96_6 : mm_code 96 6 = some (6, (40, (30, 0))) := by decide +kernel
theorem mc_96_7 : mm_code 96 7 = some (9, (34, (17, 18))) := by decide +kernel
theorem mc_96_8 : mm_code 96 8 = some (12, (3, (2, 0))) := by decide +kernel
theorem mc_96_9 : mm_code 96 9 = some (13, (5, (0, 0))) := by decide +kernel
theorem mc_96_10 : mm_code 96 10 = some (14, (3, (1, 0))) := by decide +kernel
theorem mc_96_11 : mm_code 96 11 = some (15, (3, (3, 0))) := by decide +kernel
theorem mc_96_12 : mm_code 96 12 = some (16, (105, (67, 0))) := by decide +kernel
theorem mc_96_13 : mm_code 96 13 = some (19, (11, (0, 0))) := by decide +kernel
theorem mc_96_14 : mm_code 96 14 = some (20, (7, (2, 0))) := by decide +kernel
theorem mc_96_15 : mm_code 96 15 = some (21, (20, (3, 1))) := by decide +kernel
theorem mc_96_16 : mm_code 96 16 = some (24, (24, (4, (-20)))) := by decide +kernel
theorem mc_96_17 : mm_code 96 17 = some (27, (3, (2, 0))) := by decide +kernel
theorem mc_96_18 : mm_code 96 18 = some (28, (100, (0, 0))) := by decide +kernel
theorem mc_97_0 : mm_code 97 0 = some (0, (5, (0, 0))) := by decide +kernel
theorem mc_97_1 : mm_code 97 1 = some (1, (0, (0, 0))) := by decide +kernel
theorem mc_97_2 : mm_code 97 2 = some (2, (41, (29, 0))) := by decide +kernel
theorem mc_97_3 : mm_code 97 3 = some (5, (5, (0, 0))) := by decide +kernel
theorem mc_97_4 : mm_code 97 4 = some (6, (0, (0, 0))) := by decide +kernel
theorem mc_97_5 : mm_code 97 5 = some (7, (105, (68, 0))) := by decide +kernel
theorem mc_97_6 : mm_code 97 6 = some (10, (30, (9, 7))) := by decide +kernel
theorem mc_97_7 : mm_code 97 7 = some (13, (0, (0, 1))) := by decide +kernel
theorem mc_97_8 : mm_code 97 8 = some (14, (24, (10, 4))) := by decide +kernel
theorem mc_97_9 : mm_code 97 9 = some (17, (0, (0, 0))) := by decide +kernel
theorem mc_97_10 : mm_code 97 10 = some (18, (101, (0, 0))) := by decide +kernel
theorem mc_98_0 : mm_code 98 0 = some (0, (5, (0, 0))) := by decide +kernel
theorem mc_98_1 : mm_code 98 1 = some (1, (0, (0, 0))) := by decide +kernel
theorem mc_98_2 : mm_code 98 2 = some (2, (41, (29, 0))) := by decide +kernel
theorem mc_98_3 : mm_code 98 3 = some (5, (5, (0, 0))) := by decide +kernel
theorem mc_98_4 : mm_code 98 4 = some (6, (0, (0, 0))) := by decide +kernel
theorem mc_98_5 : mm_code 98 5 = some (7, (105, (68, 0))) := by decide +kernel
theorem mc_98_6 : mm_code 98 6 = some (10, (100, (0, 0))) := by decide +kernel
theorem mc_99_0 : mm_code 99 0 = some (0, (5, (0, 0))) := by decide +kernel
theorem mc_99_1 : mm_code 99 1 = some (1, (5, (0, 0))) := by decide +kernel
theorem mc_99_2 : mm_code 99 2 = some (2, (3, (1, 0))) := by decide +kernel
theorem mc_99_3 : mm_code 99 3 = some (3, (105, (63, 0))) := by decide +kernel
theorem mc_99_4 : mm_code 99 4 = some (6, (25, (7, 7))) := by decide +kernel
theorem mc_99_5 : mm_code 99 5 = some (9, (0, (0, 0))) := by decide +kernel
theorem mc_99_6 : mm_code 99 6 = some (10, (24, (8, 4))) := by decide +kernel
theorem mc_99_7 : mm_code 99 7 = some (13, (0, (0, 1))) := by decide +kernel
theorem mc_99_8 : mm_code 99 8 = some (14, (105, (62, 0))) := by decide +kernel
theorem mc_99_9 : mm_code 99 9 = some (17, (25, (15, 12))) := by decide +kernel
theorem mc_99_10 : mm_code 99 10 = some (20, (5, (0, 0))) := by decide +kernel
theorem mc_99_11 : mm_code 99 11 = some (21, (0, (0, 0))) := by decide +kernel
theorem mc_99_12 : mm_code 99 12 = some (22, (3, (1, 0))) := by decide +kernel
theorem mc_99_13 : mm_code 99 13 = some (23, (105, (67, 0))) := by decide +kernel
theorem mc_99_14 : mm_code 99 14 = some (26, (24, (16, 4))) := by decide +kernel
theorem mc_99_15 : mm_code 99 15 = some (29, (0, (0, 0))) := by decide +kernel
theorem mc_99_16 : mm_code 99 16 = some (30, (100, (0, 0))) := by decide +kernel
theorem mc_100_0 : mm_code 100 0 = some (0, (5, (0, 0))) := by decide +kernel
theorem mc_100_1 : mm_code 100 1 = some (1, (5, (0, 0))) := by decide +kernel
theorem mc_100_2 : mm_code 100 2 = some (2, (3, (1, 0))) := by decide +kernel
theorem mc_100_3 : mm_code 100 3 = some (3, (105, (63, 0))) := by decide +kernel
theorem mc_100_4 : mm_code 100 4 = some (6, (25, (7, 7))) := by decide +kernel
theorem mc_100_5 : mm_code 100 5 = some (9, (0, (0, 0))) := by decide +kernel
theorem mc_100_6 : mm_code 100 6 = some (10, (24, (8, 4))) := by decide +kernel
theorem mc_100_7 : mm_code 100 7 = some (13, (0, (0, 1))) := by decide +kernel
theorem mc_100_8 : mm_code 100 8 = some (14, (105, (62, 0))) := by decide +kernel
theorem mc_100_9 : mm_code 100 9 = some (17, (26, (12, 5))) := by decide +kernel
theorem mc_100_10 : mm_code 100 10 = some (20, (0, (0, 0))) := by decide +kernel
theorem mc_100_11 : mm_code 100 11 = some (21, (100, (0, 0))) := by decide +kernel
theorem mc_100_12 : mm_code 100 12 = some (22, (0, (0, (-1)))) := by decide +kernel
theorem mc_100_13 : mm_code 100 13 = some (23, (7, (2, 0))) := by decide +kernel
theorem mc_100_14 : mm_code 100 14 = some (24, (5, (0, 0))) := by decide +kernel
theorem mc_100_15 : mm_code 100 15 = some (25, (40, (25, 0))) := by decide +kernel
theorem mc_100_16 : mm_code 100 16 = some (28, (3, (1, 0))) := by decide +kernel
theorem mc_100_17 : mm_code 100 17 = some (29, (43, (0, 0))) := by decide +kernel
theorem mc_100_18 : mm_code 100 18 = some (30, (0, (0, 1))) := by decide +kernel
theorem mc_100_19 : mm_code 100 19 = some (31, (12, (0, 0))) := by decide +kernel
theorem mc_100_20 : mm_code 100 20 = some (32, (7, (3, 0))) := by decide +kernel
theorem mc_100_21 : mm_code 100 21 = some (33, (3, (3, 0))) := by decide +kernel
theorem mc_100_22 : mm_code 100 22 = some (34, (27, (35, 25))) := by decide +kernel
theorem mc_100_23 : mm_code 100 23 = some (37, (5, (0, 0))) := by decide +kernel
theorem mc_100_24 : mm_code 100 24 = some (38, (0, (0, 0))) := by decide +kernel
theorem mc_100_25 : mm_code 100 25 = some (39, (3, (1, 0))) := by decide +kernel
theorem mc_100_26 : mm_code 100 26 = some (40, (3, (3, 0))) := by decide +kernel
theorem mc_100_27 : mm_code 100 27 = some (41, (105, (66, 0))) := by decide +kernel
theorem mc_100_28 : mm_code 100 28 = some (44, (25, (31, 7))) := by decide +kernel
theorem mc_100_29 : mm_code 100 29 = some (47, (3, (3, 0))) := by decide +kernel
theorem mc_100_30 : mm_code 100 30 = some (48, (24, (32, 4))) := by decide +kernel
theorem mc_100_31 : mm_code 100 31 = some (51, (3, (2, 0))) := by decide +kernel
theorem mc_100_32 : mm_code 100 32 = some (52, (7, (2, 0))) := by decide +kernel
theorem mc_100_33 : mm_code 100 33 = some (53, (20, (3, (-1)))) := by decide +kernel
theorem mc_100_34 : mm_code 100 34 = some (56, (24, (21, (-23)))) := by decide +kernel
theorem mc_100_35 : mm_code 100 35 = some (59, (3, (2, 0))) := by decide +kernel
theorem mc_100_36 : mm_code 100 36 = some (60, (100, (0, 0))) := by decide +kernel
theorem mc_101_0 : mm_code 101 0 = some (0, (5, (0, 0))) := by decide +kernel
theorem mc_101_1 : mm_code 101 1 = some (1, (5, (0, 0))) := by decide +kernel
theorem mc_101_2 : mm_code 101 2 = some (2, (3, (1, 0))) := by decide +kernel
theorem mc_101_3 : mm_code 101 3 = some (3, (105, (63, 0))) := by decide +kernel
theorem mc_101_4 : mm_code 101 4 = some (6, (25, (7, 7))) := by decide +kernel
theorem mc_101_5 : mm_code 101 5 = some (9, (0, (0, 0))) := by decide +kernel
theorem mc_101_6 : mm_code 101 6 = some (10, (24, (8, 4))) := by decide +kernel
theorem mc_101_7 : mm_code 101 7 = some (13, (0, (0, 1))) := by decide +kernel
theorem mc_101_8 : mm_code 101 8 = some (14, (105, (62, 0))) := by decide +kernel
theorem mc_101_9 : mm_code 101 9 = some (17, (26, (12, 5))) := by decide +kernel
theorem mc_101_10 : mm_code 101 10 = some (20, (0, (0, 0))) := by decide +kernel
theorem mc_101_11 : mm_code 101 11 = some (21, (100, (0, 0))) := by decide +kernel
theorem mc_101_12 : mm_code 101 12 = some (22, (0, (0, (-1)))) := by decide +kernel
theorem mc_101_13 : mm_code 101 13 = some (23, (7, (2, 0))) := by decide +kernel
theorem mc_101_14 : mm_code 101 14 = some (24, (0, (0, 0))) := by decide +kernel
theorem mc_101_15 : mm_code 101 15 = some (25, (7, (3, 0))) := by decide +kernel
theorem mc_101_16 : mm_code 101 16 = some (26, (3, (3, 0))) := by decide +kernel
theorem mc_101_17 : mm_code 101 17 = some (27, (5, (0, 0))) := by decide +kernel
theorem mc_101_18 : mm_code 101 18 = some (28, (40, (25, 0))) := by decide +kernel
theorem mc_101_19 : mm_code 101 19 = some (31, (3, (1, 0))) := by decide +kernel
theorem mc_101_20 : mm_code 101 20 = some (32, (43, (0, 0))) := by decide +kernel
theorem mc_101_21 : mm_code 101 21 = some (33, (34, (34, 25))) := by decide +kernel
theorem mc_101_22 : mm_code 101 22 = some (36, (5, (0, 0))) := by decide +kernel
theorem mc_101_23 : mm_code 101 23 = some (37, (0, (0, 0))) := by decide +kernel
theorem mc_101_24 : mm_code 101 24 = some (38, (3, (1, 0))) := by decide +kernel
theorem mc_101_25 : mm_code 101 25 = some (39, (3, (3, 0))) := by decide +kernel
theorem mc_101_26 : mm_code 101 26 = some (40, (105, (66, 0))) := by decide +kernel
theorem mc_101_27 : mm_code 101 27 = some (43, (25, (30, 7))) := by decide +kernel
theorem mc_101_28 : mm_code 101 28 = some (46, (3, (3, 0))) := by decide +kernel
theorem mc_101_29 : mm_code 101 29 = some (47, (24, (31, 4))) := by decide +kernel
theorem mc_101_30 : mm_code 101 30 = some (50, (3, (2, 0))) := by decide +kernel
theorem mc_101_31 : mm_code 101 31 = some (51, (7, (2, 0))) := by decide +kernel
theorem mc_101_32 : mm_code 101 32 = some (52, (20, (3, 1))) := by decide +kernel
theorem mc_101_33 : mm_code 101 33 = some (55, (24, (16, (-29)))) := by decide +kernel
theorem mc_101_34 : mm_code 101 34 = some (58, (3, (2, 0))) := by decide +kernel
theorem mc_101_35 : mm_code 101 35 = some (59, (100, (0, 0))) := by decide +kernel
theorem mc_102_0 : mm_code 102 0 = some (0, (0, (0, 0))) := by decide +kernel
theorem mc_102_1 : mm_code 102 1 = some (1, (7, (2, 0))) := by decide +kernel
theorem mc_102_2 : mm_code 102 2 = some (2, (0, (0, 0))) := by decide +kernel
theorem mc_102_3 : mm_code 102 3 = some (3, (7, (3, 0))) := by decide +kernel
theorem mc_102_4 : mm_code 102 4 = some (4, (3, (3, 0))) := by decide +kernel
theorem mc_102_5 : mm_code 102 5 = some (5, (5, (0, 0))) := by decide +kernel
theorem mc_102_6 : mm_code 102 6 = some (6, (40, (30, 0))) := by decide +kernel
theorem mc_102_7 : mm_code 102 7 = some (9, (34, (67, 114))) := by decide +kernel
theorem mc_102_8 : mm_code 102 8 = some (12, (0, (0, 0))) := by decide +kernel
theorem mc_102_9 : mm_code 102 9 = some (13, (8, (4, 0))) := by decide +kernel
theorem mc_102_10 : mm_code 102 10 = some (15, (4, (4, 0))) := by decide +kernel
theorem mc_102_11 : mm_code 102 11 = some (17, (5, (0, 0))) := by decide +kernel
theorem mc_102_12 : mm_code 102 12 = some (18, (40, (25, 0))) := by decide +kernel
theorem mc_102_13 : mm_code 102 13 = some (21, (3, (3, 0))) := by decide +kernel
theorem mc_102_14 : mm_code 102 14 = some (22, (43, (0, 0))) := by decide +kernel
theorem mc_102_15 : mm_code 102 15 = some (23, (34, (65, 94))) := by decide +kernel
theorem mc_102_16 : mm_code 102 16 = some (26, (4, (4, 0))) := by decide +kernel
theorem mc_102_17 : mm_code 102 17 = some (28, (3, (1, 0))) := by decide +kernel
theorem mc_102_18 : mm_code 102 18 = some (29, (11, (0, 0))) := by decide +kernel
theorem mc_102_19 : mm_code 102 19 = some (30, (8, (5, 0))) := by decide +kernel
theorem mc_102_20 : mm_code 102 20 = some (32, (5, (0, 0))) := by decide +kernel
theorem mc_102_21 : mm_code 102 21 = some (33, (40, (32, 0))) := by decide +kernel
theorem mc_102_22 : mm_code 102 22 = some (36, (25, (37, 30))) := by decide +kernel
theorem mc_102_23 : mm_code 102 23 = some (39, (5, (0, 0))) := by decide +kernel
theorem mc_102_24 : mm_code 102 24 = some (40, (0, (0, 0))) := by decide +kernel
theorem mc_102_25 : mm_code 102 25 = some (41, (3, (3, 0))) := by decide +kernel
theorem mc_102_26 : mm_code 102 26 = some (42, (4, (4, 0))) := by decide +kernel
theorem mc_102_27 : mm_code 102 27 = some (44, (105, (66, 0))) := by decide +kernel
theorem mc_102_28 : mm_code 102 28 = some (47, (25, (39, 23))) := by decide +kernel
theorem mc_102_29 : mm_code 102 29 = some (50, (4, (5, 0))) := by decide +kernel
theorem mc_102_30 : mm_code 102 30 = some (52, (27, (39, 18))) := by decide +kernel
theorem mc_102_31 : mm_code 102 31 = some (55, (4, (5, 0))) := by decide +kernel
theorem mc_102_32 : mm_code 102 32 = some (57, (5, (0, 0))) := by decide +kernel
theorem mc_102_33 : mm_code 102 33 = some (58, (40, (25, 0))) := by decide +kernel
theorem mc_102_34 : mm_code 102 34 = some (61, (3, (3, 0))) := by decide +kernel
theorem mc_102_35 : mm_code 102 35 = some (62, (43, (0, 0))) := by decide +kernel
theorem mc_102_36 : mm_code 102 36 = some (63, (34, (39, 7))) := by decide +kernel
theorem mc_102_37 : mm_code 102 37 = some (66, (0, (0, 1))) := by decide +kernel
theorem mc_102_38 : mm_code 102 38 = some (67, (24, (40, 4))) := by decide +kernel
theorem mc_102_39 : mm_code 102 39 = some (70, (0, (0, 0))) := by decide +kernel
theorem mc_102_40 : mm_code 102 40 = some (71, (8, (6, 0))) := by decide +kernel
theorem mc_102_41 : mm_code 102 41 = some (73, (3, (2, 0))) := by decide +kernel
theorem mc_102_42 : mm_code 102 42 = some (74, (4, (6, 0))) := by decide +kernel
theorem mc_102_43 : mm_code 102 43 = some (76, (25, (60, 32))) := by decide +kernel
theorem mc_102_44 : mm_code 102 44 = some (79, (0, (0, 1))) := by decide +kernel
theorem mc_102_45 : mm_code 102 45 = some (80, (5, (0, 0))) := by decide +kernel
theorem mc_102_46 : mm_code 102 46 = some (81, (40, (24, 0))) := by decide +kernel
theorem mc_102_47 : mm_code 102 47 = some (84, (1, (0, 100))) := by decide +kernel
theorem mc_102_48 : mm_code 102 48 = some (86, (3, (3, 0))) := by decide +kernel
theorem mc_102_49 : mm_code 102 49 = some (87, (13, (0, 0))) := by decide +kernel
theorem mc_102_50 : mm_code 102 50 = some (88, (5, (0, 0))) := by decide +kernel
theorem mc_102_51 : mm_code 102 51 = some (89, (40, (32, 0))) := by decide +kernel
theorem mc_102_52 : mm_code 102 52 = some (92, (26, (55, 8))) := by decide +kernel
theorem mc_102_53 : mm_code 102 53 = some (95, (4, (4, 0))) := by decide +kernel
theorem mc_102_54 : mm_code 102 54 = some (97, (24, (56, 5))) := by decide +kernel
theorem mc_102_55 : mm_code 102 55 = some (100, (4, (5, 0))) := by decide +kernel
theorem mc_102_56 : mm_code 102 56 = some (102, (11, (0, 0))) := by decide +kernel
theorem mc_102_57 : mm_code 102 57 = some (103, (43, (0, 0))) := by decide +kernel
theorem mc_102_58 : mm_code 102 58 = some (104, (16, (0, 0))) := by decide +kernel
theorem mc_102_59 : mm_code 102 59 = some (105, (24, (61, 4))) := by decide +kernel
theorem mc_102_60 : mm_code 102 60 = some (108, (0, (0, 0))) := by decide +kernel
theorem mc_102_61 : mm_code 102 61 = some (109, (19, (0, 0))) := by decide +kernel
theorem mc_102_62 : mm_code 102 62 = some (110, (7, (2, 0))) := by decide +kernel
theorem mc_102_63 : mm_code 102 63 = some (111, (20, (4, 1))) := by decide +kernel
theorem mc_102_64 : mm_code 102 64 = some (114, (24, (10, (-99)))) := by decide +kernel
theorem mc_102_65 : mm_code 102 65 = some (117, (20, (3, 1))) := by decide +kernel
theorem mc_102_66 : mm_code 102 66 = some (120, (24, (4, (-116)))) := by decide +kernel
theorem mc_102_67 : mm_code 102 67 = some (123, (3, (2, 0))) := by decide +kernel
theorem mc_102_68 : mm_code 102 68 = some (124, (100, (0, 0))) := by decide +kernel
theorem mc_103_0 : mm_code 103 0 = some (0, (5, (0, 0))) := by decide +kernel
theorem mc_103_1 : mm_code 103 1 = some (1, (0, (0, 0))) := by decide +kernel
theorem mc_103_2 : mm_code 103 2 = some (2, (41, (29, 0))) := by decide +kernel
theorem mc_103_3 : mm_code 103 3 = some (5, (5, (0, 0))) := by decide +kernel
theorem mc_103_4 : mm_code 103 4 = some (6, (5, (0, 0))) := by decide +kernel
theorem mc_103_5 : mm_code 103 5 = some (7, (40, (32, 0))) := by decide +kernel
theorem mc_103_6 : mm_code 103 6 = some (10, (105, (69, 0))) := by decide +kernel
theorem mc_103_7 : mm_code 103 7 = some (13, (100, (0, 0))) := by decide +kernel
theorem mc_104_0 : mm_code 104 0 = some (0, (5, (0, 0))) := by decide +kernel
theorem mc_104_1 : mm_code 104 1 = some (1, (0, (0, 0))) := by decide +kernel
theorem mc_104_2 : mm_code 104 2 = some (2, (41, (29, 0))) := by decide +kernel
theorem mc_104_3 : mm_code 104 3 = some (5, (5, (0, 0))) := by decide +kernel
theorem mc_104_4 : mm_code 104 4 = some (6, (0, (0, (-1)))) := by decide +kernel
theorem mc_104_5 : mm_code 104 5 = some (7, (105, (69, 0))) := by decide +kernel
theorem mc_104_6 : mm_code 104 6 = some (10, (100, (0, 0))) := by decide +kernel
theorem mc_105_0 : mm_code 105 0 = some (0, (5, (0, 0))) := by decide +kernel
theorem mc_105_1 : mm_code 105 1 = some (1, (40, (25, 0))) := by decide +kernel
theorem mc_105_2 : mm_code 105 2 = some (4, (3, (1, 0))) := by decide +kernel
theorem mc_105_3 : mm_code 105 3 = some (5, (1, (0, 100))) := by decide +kernel
theorem mc_105_4 : mm_code 105 4 = some (7, (14, (0, 0))) := by decide +kernel
theorem mc_105_5 : mm_code 105 5 = some (8, (43, (0, 0))) := by decide +kernel
theorem mc_105_6 : mm_code 105 6 = some (9, (3, (1, 0))) := by decide +kernel
theorem mc_105_7 : mm_code 105 7 = some (10, (1, (0, 100))) := by decide +kernel
theorem mc_105_8 : mm_code 105 8 = some (12, (15, (0, 0))) := by decide +kernel
theorem mc_105_9 : mm_code 105 9 = some (13, (12, (0, 0))) := by decide +kernel
theorem mc_105_10 : mm_code 105 10 = some (14, (100, (0, 0))) := by decide +kernel
theorem mc_106_0 : mm_code 106 0 = some (0, (0, (0, 0))) := by decide +kernel
theorem mc_106_1 : mm_code 106 1 = some (1, (7, (3, 0))) := by decide +kernel
theorem mc_106_2 : mm_code 106 2 = some (2, (3, (3, 0))) := by decide +kernel
theorem mc_106_3 : mm_code 106 3 = some (3, (5, (0, 0))) := by decide +kernel
theorem mc_106_4 : mm_code 106 4 = some (4, (3, (1, 0))) := by decide +kernel
theorem mc_106_5 : mm_code 106 5 = some (5, (105, (70, 0))) := by decide +kernel
theorem mc_106_6 : mm_code 106 6 = some (8, (34, (27, 37))) := by decide +kernel
theorem mc_106_7 : mm_code 106 7 = some (11, (3, (3, 0))) := by decide +kernel
theorem mc_106_8 : mm_code 106 8 = some (12, (5, (0, 0))) := by decide +kernel
theorem mc_106_9 : mm_code 106 9 = some (13, (3, (2, 0))) := by decide +kernel
theorem mc_106_10 : mm_code 106 10 = some (14, (105, (70, 0))) := by decide +kernel
theorem mc_106_11 : mm_code 106 11 = some (17, (34, (27, 28))) := by decide +kernel
theorem mc_106_12 : mm_code 106 12 = some (20, (5, (0, 0))) := by decide +kernel
theorem mc_106_13 : mm_code 106 13 = some (21, (40, (24, 0))) := by decide +kernel
theorem mc_106_14 : mm_code 106 14 = some (24, (3, (1, 0))) := by decide +kernel
theorem mc_106_15 : mm_code 106 15 = some (25, (3, (3, 0))) := by decide +kernel
theorem mc_106_16 : mm_code 106 16 = some (26, (11, (0, 0))) := by decide +kernel
theorem mc_106_17 : mm_code 106 17 = some (27, (43, (0, 0))) := by decide +kernel
theorem mc_106_18 : mm_code 106 18 = some (28, (5, (0, 0))) := by decide +kernel
theorem mc_106_19 : mm_code 106 19 = some (29, (40, (24, 0))) := by decide +kernel
theorem mc_106_20 : mm_code 106 20 = some (32, (3, (2, 0))) := by decide +kernel
theorem mc_106_21 : mm_code 106 21 = some (33, (3, (3, 0))) := by decide +kernel
theorem mc_106_22 : mm_code 106 22 = some (34, (11, (0, 0))) := by decide +kernel
theorem mc_106_23 : mm_code 106 23 = some (35, (43, (0, 0))) := by decide +kernel
theorem mc_106_24 : mm_code 106 24 = some (36, (32, (27, 9))) := by decide +kernel
theorem mc_106_25 : mm_code 106 25 = some (39, (20, (3, 1))) := by decide +kernel
theorem mc_106_26 : mm_code 106 26 = some (42, (24, (2, (-40)))) := by decide +kernel
theorem mc_106_27 : mm_code 106 27 = some (45, (3, (3, 0))) := by decide +kernel
theorem mc_106_28 : mm_code 106 28 = some (46, (100, (0, 0))) := by decide +kernel
theorem mc_107_0 : mm_code 107 0 = some (0, (5, (0, 0))) := by decide +kernel
theorem mc_107_1 : mm_code 107 1 = some (1, (3, (1, 0))) := by decide +kernel
theorem mc_107_2 : mm_code 107 2 = some (2, (3, (2, 0))) := by decide +kernel
theorem mc_107_3 : mm_code 107 3 = some (3, (105, (71, 0))) := by decide +kernel
theorem mc_107_4 : mm_code 107 4 = some (6, (7, (3, 0))) := by decide +kernel
theorem mc_107_5 : mm_code 107 5 = some (7, (3, (3, 0))) := by decide +kernel
theorem mc_107_6 : mm_code 107 6 = some (8, (5, (0, 0))) := by decide +kernel
theorem mc_107_7 : mm_code 107 7 = some (9, (3, (1, 0))) := by decide +kernel
theorem mc_107_8 : mm_code 107 8 = some (10, (105, (70, 0))) := by decide +kernel
theorem mc_107_9 : mm_code 107 9 = some (13, (32, (19, 20))) := by decide +kernel
theorem mc_107_10 : mm_code 107 10 = some (16, (3, (3, 0))) := by decide +kernel
theorem mc_107_11 : mm_code 107 11 = some (17, (5, (0, 0))) := by decide +kernel
theorem mc_107_12 : mm_code 107 12 = some (18, (3, (2, 0))) := by decide +kernel
theorem mc_107_13 : mm_code 107 13 = some (19, (105, (70, 0))) := by decide +kernel
theorem mc_107_14 : mm_code 107 14 = some (22, (34, (17, 7))) := by decide +kernel
theorem mc_107_15 : mm_code 107 15 = some (25, (0, (0, 1))) := by decide +kernel
theorem mc_107_16 : mm_code 107 16 = some (26, (24, (40, 40))) := by decide +kernel
theorem mc_107_17 : mm_code 107 17 = some (29, (0, (0, 0))) := by decide +kernel
theorem mc_107_18 : mm_code 107 18 = some (30, (24, (40, 36))) := by decide +kernel
theorem mc_107_19 : mm_code 107 19 = some (33, (3, (3, 0))) := by decide +kernel
theorem mc_107_20 : mm_code 107 20 = some (34, (5, (0, 0))) := by decide +kernel
theorem mc_107_21 : mm_code 107 21 = some (35, (3, (2, 0))) := by decide +kernel
theorem mc_107_22 : mm_code 107 22 = some (36, (105, (70, 0))) := by decide +kernel
theorem mc_107_23 : mm_code 107 23 = some (39, (34, (39, 26))) := by decide +kernel
theorem mc_107_24 : mm_code 107 24 = some (42, (5, (0, 0))) := by decide +kernel
theorem mc_107_25 : mm_code 107 25 = some (43, (40, (24, 0))) := by decide +kernel
theorem mc_107_26 : mm_code 107 26 = some (46, (3, (1, 0))) := by decide +kernel
theorem mc_107_27 : mm_code 107 27 = some (47, (3, (3, 0))) := by decide +kernel
theorem mc_107_28 : mm_code 107 28 = some (48, (11, (0, 0))) := by decide +kernel
theorem mc_107_29 : mm_code 107 29 = some (49, (43, (0, 0))) := by decide +kernel
theorem mc_107_30 : mm_code 107 30 = some (50, (5, (0, 0))) := by decide +kernel
theorem mc_107_31 : mm_code 107 31 = some (51, (40, (24, 0))) := by decide +kernel
theorem mc_107_32 : mm_code 107 32 = some (54, (3, (2, 0))) := by decide +kernel
theorem mc_107_33 : mm_code 107 33 = some (55, (3, (3, 0))) := by decide +kernel
theorem mc_107_34 : mm_code 107 34 = some (56, (11, (0, 0))) := by decide +kernel
theorem mc_107_35 : mm_code 107 35 = some (57, (43, (0, 0))) := by decide +kernel
theorem mc_107_36 : mm_code 107 36 = some (58, (34, (39, 7))) := by decide +kernel
theorem mc_107_37 : mm_code 107 37 = some (61, (0, (0, 1))) := by decide +kernel
theorem mc_107_38 : mm_code 107 38 = some (62, (24, (40, 4))) := by decide +kernel
theorem mc_107_39 : mm_code 107 39 = some (65, (0, (0, 0))) := by decide +kernel
theorem mc_107_40 : mm_code 107 40 = some (66, (101, (0, 0))) := by decide +kernel
theorem mc_108_0 : mm_code 108 0 = some (0, (0, (0, 0))) := by decide +kernel
theorem mc_108_1 : mm_code 108 1 = some (1, (7, (1, 0))) := by decide +kernel
theorem mc_108_2 : mm_code 108 2 = some (2, (0, (0, 0))) := by decide +kernel
theorem mc_108_3 : mm_code 108 3 = some (3, (7, (2, 0))) := by decide +kernel
theorem mc_108_4 : mm_code 108 4 = some (4, (3, (2, 0))) := by decide +kernel
theorem mc_108_5 : mm_code 108 5 = some (5, (5, (0, 0))) := by decide +kernel
theorem mc_108_6 : mm_code 108 6 = some (6, (40, (30, 0))) := by decide +kernel
theorem mc_108_7 : mm_code 108 7 = some (9, (34, (60, 95))) := by decide +kernel
theorem mc_108_8 : mm_code 108 8 = some (12, (0, (0, 0))) := by decide +kernel
theorem mc_108_9 : mm_code 108 9 = some (13, (7, (3, 0))) := by decide +kernel
theorem mc_108_10 : mm_code 108 10 = some (14, (3, (3, 0))) := by decide +kernel
theorem mc_108_11 : mm_code 108 11 = some (15, (5, (0, 0))) := by decide +kernel
theorem mc_108_12 : mm_code 108 12 = some (16, (40, (25, 0))) := by decide +kernel
theorem mc_108_13 : mm_code 108 13 = some (19, (3, (2, 0))) := by decide +kernel
theorem mc_108_14 : mm_code 108 14 = some (20, (43, (0, 0))) := by decide +kernel
theorem mc_108_15 : mm_code 108 15 = some (21, (34, (58, 77))) := by decide +kernel
theorem mc_108_16 : mm_code 108 16 = some (24, (3, (1, 0))) := by decide +kernel
theorem mc_108_17 : mm_code 108 17 = some (25, (8, (4, 0))) := by decide +kernel
theorem mc_108_18 : mm_code 108 18 = some (27, (4, (4, 0))) := by decide +kernel
theorem mc_108_19 : mm_code 108 19 = some (29, (30, (46, 47))) := by decide +kernel
theorem mc_108_20 : mm_code 108 20 = some (32, (5, (0, 0))) := by decide +kernel
theorem mc_108_21 : mm_code 108 21 = some (33, (1, (0, 100))) := by decide +kernel
theorem mc_108_22 : mm_code 108 22 = some (35, (3, (2, 0))) := by decide +kernel
theorem mc_108_23 : mm_code 108 23 = some (36, (13, (0, 0))) := by decide +kernel
theorem mc_108_24 : mm_code 108 24 = some (37, (3, (3, 0))) := by decide +kernel
theorem mc_108_25 : mm_code 108 25 = some (38, (11, (0, 0))) := by decide +kernel
theorem mc_108_26 : mm_code 108 26 = some (39, (5, (0, 0))) := by decide +kernel
theorem mc_108_27 : mm_code 108 27 = some (40, (40, (27, 0))) := by decide +kernel
theorem mc_108_28 : mm_code 108 28 = some (43, (4, (4, 0))) := by decide +kernel
theorem mc_108_29 : mm_code 108 29 = some (45, (0, (0, 1))) := by decide +kernel
theorem mc_108_30 : mm_code 108 30 = some (46, (12, (0, 0))) := by decide +kernel
theorem mc_108_31 : mm_code 108 31 = some (47, (43, (0, 0))) := by decide +kernel
theorem mc_108_32 : mm_code 108 32 = some (48, (105, (72, 0))) := by decide +kernel
theorem mc_108_33 : mm_code 108 33 = some (51, (25, (46, 25))) := by decide +kernel
theorem mc_108_34 : mm_code 108 34 = some (54, (5, (0, 0))) := by decide +kernel
theorem mc_108_35 : mm_code 108 35 = some (55, (40, (27, 0))) := by decide +kernel
theorem mc_108_36 : mm_code 108 36 = some (58, (4, (4, 0))) := by decide +kernel
theorem mc_108_37 : mm_code 108 37 = some (60, (5, (0, 0))) := by decide +kernel
theorem mc_108_38 : mm_code 108 38 = some (61, (40, (27, 0))) := by decide +kernel
theorem mc_108_39 : mm_code 108 39 = some (64, (4, (4, 0))) := by decide +kernel
theorem mc_108_40 : mm_code 108 40 = some (66, (0, (0, 1))) := by decide +kernel
theorem mc_108_41 : mm_code 108 41 = some (67, (12, (0, 0))) := by decide +kernel
theorem mc_108_42 : mm_code 108 42 = some (68, (43, (0, 0))) := by decide +kernel
theorem mc_108_43 : mm_code 108 43 = some (69, (44, (0, 0))) := by decide +kernel
theorem mc_108_44 : mm_code 108 44 = some (70, (20, (4, (-1)))) := by decide +kernel
theorem mc_108_45 : mm_code 108 45 = some (73, (24, (18, (-46)))) := by decide +kernel
theorem mc_108_46 : mm_code 108 46 = some (76, (5, (0, 0))) := by decide +kernel
theorem mc_108_47 : mm_code 108 47 = some (77, (40, (27, 0))) := by decide +kernel
theorem mc_108_48 : mm_code 108 48 = some (80, (4, (4, 0))) := by decide +kernel
theorem mc_108_49 : mm_code 108 49 = some (82, (1, (0, 100))) := by decide +kernel
theorem mc_108_50 : mm_code 108 50 = some (84, (3, (2, 0))) := by decide +kernel
theorem mc_108_51 : mm_code 108 51 = some (85, (13, (0, 0))) := by decide +kernel
theorem mc_108_52 : mm_code 108 52 = some (86, (3, (3, 0))) := by decide +kernel
theorem mc_108_53 : mm_code 108 53 = some (87, (11, (0, 0))) := by decide +kernel
theorem mc_108_54 : mm_code 108 54 = some (88, (44, (0, 0))) := by decide +kernel
theorem mc_108_55 : mm_code 108 55 = some (89, (20, (1, 1))) := by decide +kernel
theorem mc_108_56 : mm_code 108 56 = some (92, (20, (3, 1))) := by decide +kernel
theorem mc_108_57 : mm_code 108 57 = some (95, (24, (10, (-81)))) := by decide +kernel
theorem mc_108_58 : mm_code 108 58 = some (98, (20, (2, 1))) := by decide +kernel
theorem mc_108_59 : mm_code 108 59 = some (101, (24, (4, (-97)))) := by decide +kernel
theorem mc_108_60 : mm_code 108 60 = some (104, (0, (0, 0))) := by decide +kernel
theorem mc_108_61 : mm_code 108 61 = some (105, (7, (2, 0))) := by decide +kernel
theorem mc_108_62 : mm_code 108 62 = some (106, (3, (2, 0))) := by decide +kernel
theorem mc_108_63 : mm_code 108 63 = some (107, (3, (1, 0))) := by decide +kernel
theorem mc_108_64 : mm_code 108 64 = some (108, (34, (87, 41))) := by decide +kernel
theorem mc_108_65 : mm_code 108 65 = some (111, (5, (0, 0))) := by decide +kernel
theorem mc_108_66 : mm_code 108 66 = some (112, (40, (28, 0))) := by decide +kernel
theorem mc_108_67 : mm_code 108 67 = some (115, (3, (2, 0))) := by decide +kernel
theorem mc_108_68 : mm_code 108 68 = some (116, (3, (2, 0))) := by decide +kernel
theorem mc_108_69 : mm_code 108 69 = some (117, (26, (72, 7))) := by decide +kernel
theorem mc_108_70 : mm_code 108 70 = some (120, (0, (0, 0))) := by decide +kernel
theorem mc_108_71 : mm_code 108 71 = some (121, (24, (84, 21))) := by decide +kernel
theorem mc_108_72 : mm_code 108 72 = some (124, (5, (0, 0))) := by decide +kernel
theorem mc_108_73 : mm_code 108 73 = some (125, (5, (0, 0))) := by decide +kernel
theorem mc_108_74 : mm_code 108 74 = some (126, (40, (27, 0))) := by decide +kernel
theorem mc_108_75 : mm_code 108 75 = some (129, (3, (2, 0))) := by decide +kernel
theorem mc_108_76 : mm_code 108 76 = some (130, (0, (0, 1))) := by decide +kernel
theorem mc_108_77 : mm_code 108 77 = some (131, (12, (0, 0))) := by decide +kernel
theorem mc_108_78 : mm_code 108 78 = some (132, (43, (0, 0))) := by decide +kernel
theorem mc_108_79 : mm_code 108 79 = some (133, (5, (0, 0))) := by decide +kernel
theorem mc_108_80 : mm_code 108 80 = some (134, (40, (27, 0))) := by decide +kernel
theorem mc_108_81 : mm_code 108 81 = some (137, (3, (2, 0))) := by decide +kernel
theorem mc_108_82 : mm_code 108 82 = some (138, (43, (0, 0))) := by decide +kernel
theorem mc_108_83 : mm_code 108 83 = some (139, (105, (71, 0))) := by decide +kernel
theorem mc_108_84 : mm_code 108 84 = some (142, (44, (0, 0))) := by decide +kernel
theorem mc_108_85 : mm_code 108 85 = some (143, (20, (2, 1))) := by decide +kernel
theorem mc_108_86 : mm_code 108 86 = some (146, (24, (62, (-40)))) := by decide +kernel
theorem mc_108_87 : mm_code 108 87 = some (149, (103, (0, 0))) := by decide +kernel
theorem mc_109_0 : mm_code 109 0 = some (0, (5, (0, 0))) := by decide +kernel
theorem mc_109_1 : mm_code 109 1 = some (1, (0, (0, 0))) := by decide +kernel
theorem mc_109_2 : mm_code 109 2 = some (2, (41, (33, 0))) := by decide +kernel
theorem mc_109_3 : mm_code 109 3 = some (5, (5, (0, 0))) := by decide +kernel
theorem mc_109_4 : mm_code 109 4 = some (6, (0, (0, 0))) := by decide +kernel
theorem mc_109_5 : mm_code 109 5 = some (7, (41, (34, 0))) := by decide +kernel
theorem mc_109_6 : mm_code 109 6 = some (10, (5, (0, 0))) := by decide +kernel
theorem mc_109_7 : mm_code 109 7 = some (11, (0, (0, 0))) := by decide +kernel
theorem mc_109_8 : mm_code 109 8 = some (12, (41, (35, 0))) := by decide +kernel
theorem mc_109_9 : mm_code 109 9 = some (15, (5, (0, 0))) := by decide +kernel
theorem mc_109_10 : mm_code 109 10 = some (16, (0, (0, 0))) := by decide +kernel
theorem mc_109_11 : mm_code 109 11 = some (17, (41, (36, 0))) := by decide +kernel
theorem mc_109_12 : mm_code 109 12 = some (20, (0, (0, 1))) := by decide +kernel
theorem mc_109_13 : mm_code 109 13 = some (21, (7, (3, 0))) := by decide +kernel
theorem mc_109_14 : mm_code 109 14 = some (22, (3, (1, 0))) := by decide +kernel
theorem mc_109_15 : mm_code 109 15 = some (23, (8, (4, 0))) := by decide +kernel
theorem mc_109_16 : mm_code 109 16 = some (25, (4, (4, 0))) := by decide +kernel
theorem mc_109_17 : mm_code 109 17 = some (27, (5, (0, 0))) := by decide +kernel
theorem mc_109_18 : mm_code 109 18 = some (28, (40, (31, 0))) := by decide +kernel
theorem mc_109_19 : mm_code 109 19 = some (31, (34, (102, 149))) := by decide +kernel
theorem mc_109_20 : mm_code 109 20 = some (34, (3, (3, 0))) := by decide +kernel
theorem mc_109_21 : mm_code 109 21 = some (35, (25, (102, 145))) := by decide +kernel
theorem mc_109_22 : mm_code 109 22 = some (38, (5, (0, 0))) := by decide +kernel
theorem mc_109_23 : mm_code 109 23 = some (39, (21, (0, 0))) := by decide +kernel
theorem mc_109_24 : mm_code 109 24 = some (40, (40, (33, 0))) := by decide +kernel
theorem mc_109_25 : mm_code 109 25 = some (43, (0, (0, 1))) := by decide +kernel
theorem mc_109_26 : mm_code 109 26 = some (44, (11, (0, 0))) := by decide +kernel
theorem mc_109_27 : mm_code 109 27 = some (45, (41, (33, 0))) := by decide +kernel
theorem mc_109_28 : mm_code 109 28 = some (48, (5, (0, 0))) := by decide +kernel
theorem mc_109_29 : mm_code 109 29 = some (49, (21, (0, 0))) := by decide +kernel
theorem mc_109_30 : mm_code 109 30 = some (50, (40, (34, 0))) := by decide +kernel
theorem mc_109_31 : mm_code 109 31 = some (53, (0, (0, 1))) := by decide +kernel
theorem mc_109_32 : mm_code 109 32 = some (54, (5, (0, 0))) := by decide +kernel
theorem mc_109_33 : mm_code 109 33 = some (55, (40, (27, 0))) := by decide +kernel
theorem mc_109_34 : mm_code 109 34 = some (58, (4, (4, 0))) := by decide +kernel
theorem mc_109_35 : mm_code 109 35 = some (60, (43, (0, 0))) := by decide +kernel
theorem mc_109_36 : mm_code 109 36 = some (61, (1, (0, 100))) := by decide +kernel
theorem mc_109_37 : mm_code 109 37 = some (63, (14, (0, 0))) := by decide +kernel
theorem mc_109_38 : mm_code 109 38 = some (64, (16, (0, 0))) := by decide +kernel
theorem mc_109_39 : mm_code 109 39 = some (65, (19, (0, 0))) := by decide +kernel
theorem mc_109_40 : mm_code 109 40 = some (66, (41, (34, 0))) := by decide +kernel
theorem mc_109_41 : mm_code 109 41 = some (69, (5, (0, 0))) := by decide +kernel
theorem mc_109_42 : mm_code 109 42 = some (70, (40, (27, 0))) := by decide +kernel
theorem mc_109_43 : mm_code 109 43 = some (73, (4, (4, 0))) := by decide +kernel
theorem mc_109_44 : mm_code 109 44 = some (75, (43, (0, 0))) := by decide +kernel
theorem mc_109_45 : mm_code 109 45 = some (76, (1, (0, 100))) := by decide +kernel
theorem mc_109_46 : mm_code 109 46 = some (78, (15, (0, 0))) := by decide +kernel
theorem mc_109_47 : mm_code 109 47 = some (79, (26, (50, 7))) := by decide +kernel
theorem mc_109_48 : mm_code 109 48 = some (82, (0, (0, 1))) := by decide +kernel
theorem mc_109_49 : mm_code 109 49 = some (83, (24, (51, 4))) := by decide +kernel
theorem mc_109_50 : mm_code 109 50 = some (86, (0, (0, 0))) := by decide +kernel
theorem mc_109_51 : mm_code 109 51 = some (87, (8, (5, 0))) := by decide +kernel
theorem mc_109_52 : mm_code 109 52 = some (89, (5, (0, 0))) := by decide +kernel
theorem mc_109_53 : mm_code 109 53 = some (90, (5, (0, 0))) := by decide +kernel
theorem mc_109_54 : mm_code 109 54 = some (91, (40, (36, 0))) := by decide +kernel
theorem mc_109_55 : mm_code 109 55 = some (94, (26, (58, 8))) := by decide +kernel
theorem mc_109_56 : mm_code 109 56 = some (97, (4, (5, 0))) := by decide +kernel
theorem mc_109_57 : mm_code 109 57 = some (99, (25, (60, 7))) := by decide +kernel
theorem mc_109_58 : mm_code 109 58 = some (102, (0, (0, 1))) := by decide +kernel
theorem mc_109_59 : mm_code 109 59 = some (103, (24, (61, 4))) := by decide +kernel
theorem mc_109_60 : mm_code 109 60 = some (106, (0, (0, 0))) := by decide +kernel
theorem mc_109_61 : mm_code 109 61 = some (107, (41, (36, 0))) := by decide +kernel
theorem mc_109_62 : mm_code 109 62 = some (110, (5, (0, 0))) := by decide +kernel
theorem mc_109_63 : mm_code 109 63 = some (111, (21, (0, 0))) := by decide +kernel
theorem mc_109_64 : mm_code 109 64 = some (112, (40, (35, 0))) := by decide +kernel
theorem mc_109_65 : mm_code 109 65 = some (115, (4, (5, 0))) := by decide +kernel
theorem mc_109_66 : mm_code 109 66 = some (117, (25, (69, 7))) := by decide +kernel
theorem mc_109_67 : mm_code 109 67 = some (120, (0, (0, 0))) := by decide +kernel
theorem mc_109_68 : mm_code 109 68 = some (121, (24, (80, 19))) := by decide +kernel
theorem mc_109_69 : mm_code 109 69 = some (124, (0, (0, 1))) := by decide +kernel
theorem mc_109_70 : mm_code 109 70 = some (125, (5, (0, 0))) := by decide +kernel
theorem mc_109_71 : mm_code 109 71 = some (126, (40, (24, 0))) := by decide +kernel
theorem mc_109_72 : mm_code 109 72 = some (129, (5, (0, 0))) := by decide +kernel
theorem mc_109_73 : mm_code 109 73 = some (130, (40, (27, 0))) := by decide +kernel
theorem mc_109_74 : mm_code 109 74 = some (133, (4, (4, 0))) := by decide +kernel
theorem mc_109_75 : mm_code 109 75 = some (135, (43, (0, 0))) := by decide +kernel
theorem mc_109_76 : mm_code 109 76 = some (136, (0, (0, 1))) := by decide +kernel
theorem mc_109_77 : mm_code 109 77 = some (137, (12, (0, 0))) := by decide +kernel
theorem mc_109_78 : mm_code 109 78 = some (138, (43, (0, 0))) := by decide +kernel
theorem mc_109_79 : mm_code 109 79 = some (139, (16, (0, 0))) := by decide +kernel
theorem mc_109_80 : mm_code 109 80 = some (140, (19, (0, 0))) := by decide +kernel
theorem mc_109_81 : mm_code 109 81 = some (141, (41, (35, 0))) := by decide +kernel
theorem mc_109_82 : mm_code 109 82 = some (144, (4, (4, 0))) := by decide +kernel
theorem mc_109_83 : mm_code 109 83 = some (146, (0, (0, 1))) := by decide +kernel
theorem mc_109_84 : mm_code 109 84 = some (147, (11, (0, 0))) := by decide +kernel
theorem mc_109_85 : mm_code 109 85 = some (148, (5, (0, 0))) := by decide +kernel
theorem mc_109_86 : mm_code 109 86 = some (149, (40, (31, 0))) := by decide +kernel
theorem mc_109_87 : mm_code 109 87 = some (152, (34, (98, 20))) := by decide +kernel
theorem mc_109_88 : mm_code 109 88 = some (155, (5, (0, 0))) := by decide +kernel
theorem mc_109_89 : mm_code 109 89 = some (156, (40, (28, 0))) := by decide +kernel
theorem mc_109_90 : mm_code 109 90 = some (159, (4, (4, 0))) := by decide +kernel
theorem mc_109_91 : mm_code 109 91 = some (161, (0, (0, 1))) := by decide +kernel
theorem mc_109_92 : mm_code 109 92 = some (162, (11, (0, 0))) := by decide +kernel
theorem mc_109_93 : mm_code 109 93 = some (163, (43, (0, 0))) := by decide +kernel
theorem mc_109_94 : mm_code 109 94 = some (164, (3, (2, 0))) := by decide +kernel
theorem mc_109_95 : mm_code 109 95 = some (165, (33, (98, 7))) := by decide +kernel
theorem mc_109_96 : mm_code 109 96 = some (168, (0, (0, 1))) := by decide +kernel
theorem mc_109_97 : mm_code 109 97 = some (169, (24, (99, 4))) := by decide +kernel
theorem mc_109_98 : mm_code 109 98 = some (172, (0, (0, 0))) := by decide +kernel
theorem mc_109_99 : mm_code 109 99 = some (173, (7, (3, 0))) := by decide +kernel
theorem mc_109_100 : mm_code 109 100 = some (174, (20, (4, 1))) := by decide +kernel
theorem mc_109_101 : mm_code 109 101 = some (177, (24, (16, (-152)))) := by decide +kernel
theorem mc_109_102 : mm_code 109 102 = some (180, (103, (0, 0))) := by decide +kernel
theorem mc_110_0 : mm_code 110 0 = some (0, (5, (0, 0))) := by decide +kernel
theorem mc_110_1 : mm_code 110 1 = some (1, (0, (0, 0))) := by decide +kernel
theorem mc_110_2 : mm_code 110 2 = some (2, (41, (29, 0))) := by decide +kernel
theorem mc_110_3 : mm_code 110 3 = some (5, (5, (0, 0))) := by decide +kernel
theorem mc_110_4 : mm_code 110 4 = some (6, (105, (73, 0))) := by decide +kernel
theorem mc_110_5 : mm_code 110 5 = some (9, (0, (0, 0))) := by decide +kernel
theorem mc_110_6 : mm_code 110 6 = some (10, (7, (1, 0))) := by decide +kernel
theorem mc_110_7 : mm_code 110 7 = some (11, (0, (0, 0))) := by decide +kernel
theorem mc_110_8 : mm_code 110 8 = some (12, (7, (2, 0))) := by decide +kernel
theorem mc_110_9 : mm_code 110 9 = some (13, (3, (2, 0))) := by decide +kernel
theorem mc_110_10 : mm_code 110 10 = some (14, (5, (0, 0))) := by decide +kernel
theorem mc_110_11 : mm_code 110 11 = some (15, (40, (31, 0))) := by decide +kernel
theorem mc_110_12 : mm_code 110 12 = some (18, (34, (53, 73))) := by decide +kernel
theorem mc_110_13 : mm_code 110 13 = some (21, (5, (0, 0))) := by decide +kernel
theorem mc_110_14 : mm_code 110 14 = some (22, (40, (28, 0))) := by decide +kernel
theorem mc_110_15 : mm_code 110 15 = some (25, (3, (2, 0))) := by decide +kernel
theorem mc_110_16 : mm_code 110 16 = some (26, (43, (0, 0))) := by decide +kernel
theorem mc_110_17 : mm_code 110 17 = some (27, (0, (0, 1))) := by decide +kernel
theorem mc_110_18 : mm_code 110 18 = some (28, (11, (0, 0))) := by decide +kernel
theorem mc_110_19 : mm_code 110 19 = some (29, (7, (3, 0))) := by decide +kernel
theorem mc_110_20 : mm_code 110 20 = some (30, (3, (3, 0))) := by decide +kernel
theorem mc_110_21 : mm_code 110 21 = some (31, (5, (0, 0))) := by decide +kernel
theorem mc_110_22 : mm_code 110 22 = some (32, (5, (0, 0))) := by decide +kernel
theorem mc_110_23 : mm_code 110 23 = some (33, (40, (27, 0))) := by decide +kernel
theorem mc_110_24 : mm_code 110 24 = some (36, (3, (2, 0))) := by decide +kernel
theorem mc_110_25 : mm_code 110 25 = some (37, (43, (0, 0))) := by decide +kernel
theorem mc_110_26 : mm_code 110 26 = some (38, (105, (70, 0))) := by decide +kernel
theorem mc_110_27 : mm_code 110 27 = some (41, (35, (51, 44))) := by decide +kernel
theorem mc_110_28 : mm_code 110 28 = some (44, (5, (0, 0))) := by decide +kernel
theorem mc_110_29 : mm_code 110 29 = some (45, (3, (2, 0))) := by decide +kernel
theorem mc_110_30 : mm_code 110 30 = some (46, (3, (3, 0))) := by decide +kernel
theorem mc_110_31 : mm_code 110 31 = some (47, (105, (74, 0))) := by decide +kernel
theorem mc_110_32 : mm_code 110 32 = some (50, (3, (1, 0))) := by decide +kernel
theorem mc_110_33 : mm_code 110 33 = some (51, (5, (0, 0))) := by decide +kernel
theorem mc_110_34 : mm_code 110 34 = some (52, (40, (36, 0))) := by decide +kernel
theorem mc_110_35 : mm_code 110 35 = some (55, (26, (44, 17))) := by decide +kernel
theorem mc_110_36 : mm_code 110 36 = some (58, (5, (0, 0))) := by decide +kernel
theorem mc_110_37 : mm_code 110 37 = some (59, (40, (35, 0))) := by decide +kernel
theorem mc_110_38 : mm_code 110 38 = some (62, (5, (0, 0))) := by decide +kernel
theorem mc_110_39 : mm_code 110 39 = some (63, (40, (35, 0))) := by decide +kernel
theorem mc_110_40 : mm_code 110 40 = some (66, (0, (0, 1))) := by decide +kernel
theorem mc_110_41 : mm_code 110 41 = some (67, (12, (0, 0))) := by decide +kernel
theorem mc_110_42 : mm_code 110 42 = some (68, (18, (0, 0))) := by decide +kernel
theorem mc_110_43 : mm_code 110 43 = some (69, (25, (46, 7))) := by decide +kernel
theorem mc_110_44 : mm_code 110 44 = some (72, (0, (0, 1))) := by decide +kernel
theorem mc_110_45 : mm_code 110 45 = some (73, (24, (47, 4))) := by decide +kernel
theorem mc_110_46 : mm_code 110 46 = some (76, (0, (0, 0))) := by decide +kernel
theorem mc_110_47 : mm_code 110 47 = some (77, (11, (0, 0))) := by decide +kernel
theorem mc_110_48 : mm_code 110 48 = some (78, (7, (1, 0))) := by decide +kernel
theorem mc_110_49 : mm_code 110 49 = some (79, (20, (3, 1))) := by decide +kernel
theorem mc_110_50 : mm_code 110 50 = some (82, (24, (20, (-52)))) := by decide +kernel
theorem mc_110_51 : mm_code 110 51 = some (85, (20, (2, 1))) := by decide +kernel
theorem mc_110_52 : mm_code 110 52 = some (88, (24, (9, (-75)))) := by decide +kernel
theorem mc_110_53 : mm_code 110 53 = some (91, (3, (1, 0))) := by decide +kernel
theorem mc_110_54 : mm_code 110 54 = some (92, (100, (0, 0))) := by decide +kernel
theorem mc_111_0 : mm_code 111 0 = some (0, (0, (0, (-1)))) := by decide +kernel
theorem mc_111_1 : mm_code 111 1 = some (1, (7, (2, 0))) := by decide +kernel
theorem mc_111_2 : mm_code 111 2 = some (2, (0, (0, 1))) := by decide +kernel
theorem mc_111_3 : mm_code 111 3 = some (3, (7, (3, 0))) := by decide +kernel
theorem mc_111_4 : mm_code 111 4 = some (4, (0, (0, 0))) := by decide +kernel
theorem mc_111_5 : mm_code 111 5 = some (5, (8, (4, 0))) := by decide +kernel
theorem mc_111_6 : mm_code 111 6 = some (7, (4, (4, 0))) := by decide +kernel
theorem mc_111_7 : mm_code 111 7 = some (9, (5, (0, 0))) := by decide +kernel
theorem mc_111_8 : mm_code 111 8 = some (10, (40, (30, 0))) := by decide +kernel
theorem mc_111_9 : mm_code 111 9 = some (13, (34, (61, 99))) := by decide +kernel
theorem mc_111_10 : mm_code 111 10 = some (16, (0, (0, 0))) := by decide +kernel
theorem mc_111_11 : mm_code 111 11 = some (17, (8, (5, 0))) := by decide +kernel
theorem mc_111_12 : mm_code 111 12 = some (19, (4, (5, 0))) := by decide +kernel
theorem mc_111_13 : mm_code 111 13 = some (21, (5, (0, 0))) := by decide +kernel
theorem mc_111_14 : mm_code 111 14 = some (22, (40, (25, 0))) := by decide +kernel
theorem mc_111_15 : mm_code 111 15 = some (25, (4, (4, 0))) := by decide +kernel
theorem mc_111_16 : mm_code 111 16 = some (27, (43, (0, 0))) := by decide +kernel
theorem mc_111_17 : mm_code 111 17 = some (28, (34, (59, 78))) := by decide +kernel
theorem mc_111_18 : mm_code 111 18 = some (31, (3, (3, 0))) := by decide +kernel
theorem mc_111_19 : mm_code 111 19 = some (32, (25, (59, 74))) := by decide +kernel
theorem mc_111_20 : mm_code 111 20 = some (35, (5, (0, 0))) := by decide +kernel
theorem mc_111_21 : mm_code 111 21 = some (36, (0, (0, 0))) := by decide +kernel
theorem mc_111_22 : mm_code 111 22 = some (37, (4, (4, 0))) := by decide +kernel
theorem mc_111_23 : mm_code 111 23 = some (39, (4, (5, 0))) := by decide +kernel
theorem mc_111_24 : mm_code 111 24 = some (41, (105, (66, 0))) := by decide +kernel
theorem mc_111_25 : mm_code 111 25 = some (44, (25, (57, 56))) := by decide +kernel
theorem mc_111_26 : mm_code 111 26 = some (47, (4, (5, 0))) := by decide +kernel
theorem mc_111_27 : mm_code 111 27 = some (49, (3, (1, 0))) := by decide +kernel
theorem mc_111_28 : mm_code 111 28 = some (50, (34, (31, 7))) := by decide +kernel
theorem mc_111_29 : mm_code 111 29 = some (53, (0, (0, (-1)))) := by decide +kernel
theorem mc_111_30 : mm_code 111 30 = some (54, (24, (41, 18))) := by decide +kernel
theorem mc_111_31 : mm_code 111 31 = some (57, (5, (0, 0))) := by decide +kernel
theorem mc_111_32 : mm_code 111 32 = some (58, (40, (24, 0))) := by decide +kernel
theorem mc_111_33 : mm_code 111 33 = some (61, (1, (0, 100))) := by decide +kernel
theorem mc_111_34 : mm_code 111 34 = some (63, (4, (4, 0))) := by decide +kernel
theorem mc_111_35 : mm_code 111 35 = some (65, (13, (0, 0))) := by decide +kernel
theorem mc_111_36 : mm_code 111 36 = some (66, (4, (5, 0))) := by decide +kernel
theorem mc_111_37 : mm_code 111 37 = some (68, (11, (0, 0))) := by decide +kernel
theorem mc_111_38 : mm_code 111 38 = some (69, (3, (1, 0))) := by decide +kernel
theorem mc_111_39 : mm_code 111 39 = some (70, (12, (0, 0))) := by decide +kernel
theorem mc_111_40 : mm_code 111 40 = some (71, (43, (0, 0))) := by decide +kernel
theorem mc_111_41 : mm_code 111 41 = some (72, (8, (6, 0))) := by decide +kernel
theorem mc_111_42 : mm_code 111 42 = some (74, (4, (6, 0))) := by decide +kernel
theorem mc_111_43 : mm_code 111 43 = some (76, (0, (0, (-1)))) := by decide +kernel
theorem mc_111_44 : mm_code 111 44 = some (77, (31, (53, 18))) := by decide +kernel
theorem mc_111_45 : mm_code 111 45 = some (80, (3, (2, 0))) := by decide +kernel
theorem mc_111_46 : mm_code 111 46 = some (81, (0, (0, (-1)))) := by decide +kernel
theorem mc_111_47 : mm_code 111 47 = some (82, (31, (51, 9))) := by decide +kernel
theorem mc_111_48 : mm_code 111 48 = some (85, (4, (6, 0))) := by decide +kernel
theorem mc_111_49 : mm_code 111 49 = some (87, (3, (2, 0))) := by decide +kernel
theorem mc_111_50 : mm_code 111 50 = some (88, (32, (53, 7))) := by decide +kernel
theorem mc_111_51 : mm_code 111 51 = some (91, (0, (0, 1))) := by decide +kernel
theorem mc_111_52 : mm_code 111 52 = some (92, (24, (54, 4))) := by decide +kernel
theorem mc_111_53 : mm_code 111 53 = some (95, (0, (0, 0))) := by decide +kernel
theorem mc_111_54 : mm_code 111 54 = some (96, (7, (3, 0))) := by decide +kernel
theorem mc_111_55 : mm_code 111 55 = some (97, (4, (6, 0))) := by decide +kernel
theorem mc_111_56 : mm_code 111 56 = some (99, (7, (2, 0))) := by decide +kernel
theorem mc_111_57 : mm_code 111 57 = some (100, (20, (5, 1))) := by decide +kernel
theorem mc_111_58 : mm_code 111 58 = some (103, (24, (12, (-84)))) := by decide +kernel
theorem mc_111_59 : mm_code 111 59 = some (106, (20, (4, 1))) := by decide +kernel
theorem mc_111_60 : mm_code 111 60 = some (109, (24, (6, (-102)))) := by decide +kernel
theorem mc_111_61 : mm_code 111 61 = some (112, (3, (3, 0))) := by decide +kernel
theorem mc_111_62 : mm_code 111 62 = some (113, (101, (0, 0))) := by decide +kernel
theorem mc_112_0 : mm_code 112 0 = some (0, (5, (0, 0))) := by decide +kernel
theorem mc_112_1 : mm_code 112 1 = some (1, (0, (0, 0))) := by decide +kernel
theorem mc_112_2 : mm_code 112 2 = some (2, (41, (29, 0))) := by decide +kernel
theorem mc_112_3 : mm_code 112 3 = some (5, (5, (0, 0))) := by decide +kernel
theorem mc_112_4 : mm_code 112 4 = some (6, (0, (0, 0))) := by decide +kernel
theorem mc_112_5 : mm_code 112 5 = some (7, (105, (68, 0))) := by decide +kernel
theorem mc_112_6 : mm_code 112 6 = some (10, (26, (9, 5))) := by decide +kernel
theorem mc_112_7 : mm_code 112 7 = some (13, (0, (0, (-1)))) := by decide +kernel
theorem mc_112_8 : mm_code 112 8 = some (14, (100, (0, 0))) := by decide +kernel
theorem mc_112_9 : mm_code 112 9 = some (15, (0, (0, 0))) := by decide +kernel
theorem mc_112_10 : mm_code 112 10 = some (16, (7, (1, 0))) := by decide +kernel
theorem mc_112_11 : mm_code 112 11 = some (17, (5, (0, 0))) := by decide +kernel
theorem mc_112_12 : mm_code 112 12 = some (18, (3, (1, 0))) := by decide +kernel
theorem mc_112_13 : mm_code 112 13 = some (19, (0, (0, 1))) := by decide +kernel
theorem mc_112_14 : mm_code 112 14 = some (20, (11, (0, 0))) := by decide +kernel
theorem mc_112_15 : mm_code 112 15 = some (21, (105, (75, 0))) := by decide +kernel
theorem mc_112_16 : mm_code 112 16 = some (24, (25, (19, 9))) := by decide +kernel
theorem mc_112_17 : mm_code 112 17 = some (27, (20, (1, 1))) := by decide +kernel
theorem mc_112_18 : mm_code 112 18 = some (30, (24, (11, (-13)))) := by decide +kernel
theorem mc_112_19 : mm_code 112 19 = some (33, (5, (0, 0))) := by decide +kernel
theorem mc_112_20 : mm_code 112 20 = some (34, (40, (32, 0))) := by decide +kernel
theorem mc_112_21 : mm_code 112 21 = some (37, (3, (1, 0))) := by decide +kernel
theorem mc_112_22 : mm_code 112 22 = some (38, (11, (0, 0))) := by decide +kernel
theorem mc_112_23 : mm_code 112 23 = some (39, (100, (0, 0))) := by decide +kernel
theorem mc_113_0 : mm_code 113 0 = some (0, (5, (0, 0))) := by decide +kernel
theorem mc_113_1 : mm_code 113 1 = some (1, (0, (0, 0))) := by decide +kernel
theorem mc_113_2 : mm_code 113 2 = some (2, (41, (29, 0))) := by decide +kernel
theorem mc_113_3 : mm_code 113 3 = some (5, (5, (0, 0))) := by decide +kernel
theorem mc_113_4 : mm_code 113 4 = some (6, (0, (0, 0))) := by decide +kernel
theorem mc_113_5 : mm_code 113 5 = some (7, (105, (68, 0))) := by decide +kernel
theorem mc_113_6 : mm_code 113 6 = some (10, (7, (1, 0))) := by decide +kernel
theorem mc_113_7 : mm_code 113 7 = some (11, (3, (1, 0))) := by decide +kernel
theorem mc_113_8 : mm_code 113 8 = some (12, (26, (11, 5))) := by decide +kernel
theorem mc_113_9 : mm_code 113 9 = some (15, (0, (0, (-1)))) := by decide +kernel
theorem mc_113_10 : mm_code 113 10 = some (16, (100, (0, 0))) := by decide +kernel
theorem mc_113_11 : mm_code 113 11 = some (17, (0, (0, 0))) := by decide +kernel
theorem mc_113_12 : mm_code 113 12 = some (18, (7, (2, 0))) := by decide +kernel
theorem mc_113_13 : mm_code 113 13 = some (19, (3, (2, 0))) := by decide +kernel
theorem mc_113_14 : mm_code 113 14 = some (20, (0, (0, 1))) := by decide +kernel
theorem mc_113_15 : mm_code 113 15 = some (21, (11, (0, 0))) := by decide +kernel
theorem mc_113_16 : mm_code 113 16 = some (22, (5, (0, 0))) := by decide +kernel
theorem mc_113_17 : mm_code 113 17 = some (23, (40, (32, 0))) := by decide +kernel
theorem mc_113_18 : mm_code 113 18 = some (26, (34, (28, 20))) := by decide +kernel
theorem mc_113_19 : mm_code 113 19 = some (29, (5, (0, 0))) := by decide +kernel
theorem mc_113_20 : mm_code 113 20 = some (30, (3, (2, 0))) := by decide +kernel
theorem mc_113_21 : mm_code 113 21 = some (31, (0, (0, 1))) := by decide +kernel
theorem mc_113_22 : mm_code 113 22 = some (32, (11, (0, 0))) := by decide +kernel
theorem mc_113_23 : mm_code 113 23 = some (33, (105, (68, 0))) := by decide +kernel
theorem mc_113_24 : mm_code 113 24 = some (36, (3, (1, 0))) := by decide +kernel
theorem mc_113_25 : mm_code 113 25 = some (37, (32, (28, 9))) := by decide +kernel
theorem mc_113_26 : mm_code 113 26 = some (40, (20, (2, 1))) := by decide +kernel
theorem mc_113_27 : mm_code 113 27 = some (43, (24, (13, (-24)))) := by decide +kernel
theorem mc_113_28 : mm_code 113 28 = some (46, (5, (0, 0))) := by decide +kernel
theorem mc_113_29 : mm_code 113 29 = some (47, (40, (32, 0))) := by decide +kernel
theorem mc_113_30 : mm_code 113 30 = some (50, (3, (2, 0))) := by decide +kernel
theorem mc_113_31 : mm_code 113 31 = some (51, (12, (0, 0))) := by decide +kernel
theorem mc_113_32 : mm_code 113 32 = some (52, (100, (0, 0))) := by decide +kernel
theorem mc_114_0 : mm_code 114 0 = some (0, (5, (0, 0))) := by decide +kernel
theorem mc_114_1 : mm_code 114 1 = some (1, (105, (73, 0))) := by decide +kernel
theorem mc_114_2 : mm_code 114 2 = some (4, (0, (0, 0))) := by decide +kernel
theorem mc_114_3 : mm_code 114 3 = some (5, (7, (1, 0))) := by decide +kernel
theorem mc_114_4 : mm_code 114 4 = some (6, (0, (0, 0))) := by decide +kernel
theorem mc_114_5 : mm_code 114 5 = some (7, (7, (2, 0))) := by decide +kernel
theorem mc_114_6 : mm_code 114 6 = some (8, (3, (2, 0))) := by decide +kernel
theorem mc_114_7 : mm_code 114 7 = some (9, (5, (0, 0))) := by decide +kernel
theorem mc_114_8 : mm_code 114 8 = some (10, (40, (31, 0))) := by decide +kernel
theorem mc_114_9 : mm_code 114 9 = some (13, (34, (26, 29))) := by decide +kernel
theorem mc_114_10 : mm_code 114 10 = some (16, (3, (1, 0))) := by decide +kernel
theorem mc_114_11 : mm_code 114 11 = some (17, (5, (0, 0))) := by decide +kernel
theorem mc_114_12 : mm_code 114 12 = some (18, (5, (0, 0))) := by decide +kernel
theorem mc_114_13 : mm_code 114 13 = some (19, (40, (27, 0))) := by decide +kernel
theorem mc_114_14 : mm_code 114 14 = some (22, (3, (2, 0))) := by decide +kernel
theorem mc_114_15 : mm_code 114 15 = some (23, (43, (0, 0))) := by decide +kernel
theorem mc_114_16 : mm_code 114 16 = some (24, (105, (70, 0))) := by decide +kernel
theorem mc_114_17 : mm_code 114 17 = some (27, (5, (0, 0))) := by decide +kernel
theorem mc_114_18 : mm_code 114 18 = some (28, (40, (28, 0))) := by decide +kernel
theorem mc_114_19 : mm_code 114 19 = some (31, (3, (2, 0))) := by decide +kernel
theorem mc_114_20 : mm_code 114 20 = some (32, (43, (0, 0))) := by decide +kernel
theorem mc_114_21 : mm_code 114 21 = some (33, (12, (0, 0))) := by decide +kernel
theorem mc_114_22 : mm_code 114 22 = some (34, (11, (0, 0))) := by decide +kernel
theorem mc_114_23 : mm_code 114 23 = some (35, (7, (1, 0))) := by decide +kernel
theorem mc_114_24 : mm_code 114 24 = some (36, (20, (2, 1))) := by decide +kernel
theorem mc_114_25 : mm_code 114 25 = some (39, (24, (6, (-31)))) := by decide +kernel
theorem mc_114_26 : mm_code 114 26 = some (42, (3, (1, 0))) := by decide +kernel
theorem mc_114_27 : mm_code 114 27 = some (43, (100, (0, 0))) := by decide +kernel
theorem mc_115_0 : mm_code 115 0 = some (0, (5, (0, 0))) := by decide +kernel
theorem mc_115_1 : mm_code 115 1 = some (1, (0, (0, 0))) := by decide +kernel
theorem mc_115_2 : mm_code 115 2 = some (2, (41, (29, 0))) := by decide +kernel
theorem mc_115_3 : mm_code 115 3 = some (5, (5, (0, 0))) := by decide +kernel
theorem mc_115_4 : mm_code 115 4 = some (6, (105, (76, 0))) := by decide +kernel
theorem mc_115_5 : mm_code 115 5 = some (9, (100, (0, 0))) := by decide +kernel
theorem mc_116_0 : mm_code 116 0 = some (0, (0, (0, 0))) := by decide +kernel
theorem mc_116_1 : mm_code 116 1 = some (1, (7, (2, 0))) := by decide +kernel
theorem mc_116_2 : mm_code 116 2 = some (2, (3, (2, 0))) := by decide +kernel
theorem mc_116_3 : mm_code 116 3 = some (3, (5, (0, 0))) := by decide +kernel
theorem mc_116_4 : mm_code 116 4 = some (4, (40, (32, 0))) := by decide +kernel
theorem mc_116_5 : mm_code 116 5 = some (7, (34, (24, 35))) := by decide +kernel
theorem mc_116_6 : mm_code 116 6 = some (10, (3, (2, 0))) := by decide +kernel
theorem mc_116_7 : mm_code 116 7 = some (11, (5, (0, 0))) := by decide +kernel
theorem mc_116_8 : mm_code 116 8 = some (12, (3, (1, 0))) := by decide +kernel
theorem mc_116_9 : mm_code 116 9 = some (13, (105, (70, 0))) := by decide +kernel
theorem mc_116_10 : mm_code 116 10 = some (16, (34, (24, 26))) := by decide +kernel
theorem mc_116_11 : mm_code 116 11 = some (19, (5, (0, 0))) := by decide +kernel
theorem mc_116_12 : mm_code 116 12 = some (20, (40, (24, 0))) := by decide +kernel
theorem mc_116_13 : mm_code 116 13 = some (23, (3, (1, 0))) := by decide +kernel
theorem mc_116_14 : mm_code 116 14 = some (24, (3, (2, 0))) := by decide +kernel
theorem mc_116_15 : mm_code 116 15 = some (25, (11, (0, 0))) := by decide +kernel
theorem mc_116_16 : mm_code 116 16 = some (26, (43, (0, 0))) := by decide +kernel
theorem mc_116_17 : mm_code 116 17 = some (27, (5, (0, 0))) := by decide +kernel
theorem mc_116_18 : mm_code 116 18 = some (28, (40, (26, 0))) := by decide +kernel
theorem mc_116_19 : mm_code 116 19 = some (31, (3, (2, 0))) := by decide +kernel
theorem mc_116_20 : mm_code 116 20 = some (32, (43, (0, 0))) := by decide +kernel
theorem mc_116_21 : mm_code 116 21 = some (33, (32, (24, 9))) := by decide +kernel
theorem mc_116_22 : mm_code 116 22 = some (36, (20, (2, 1))) := by decide +kernel
theorem mc_116_23 : mm_code 116 23 = some (39, (24, (2, (-37)))) := by decide +kernel
theorem mc_116_24 : mm_code 116 24 = some (42, (3, (2, 0))) := by decide +kernel
theorem mc_116_25 : mm_code 116 25 = some (43, (100, (0, 0))) := by decide +kernel
theorem mc_117_0 : mm_code 117 0 = some (0, (5, (0, 0))) := by decide +kernel
theorem mc_117_1 : mm_code 117 1 = some (1, (0, (0, 0))) := by decide +kernel
theorem mc_117_2 : mm_code 117 2 = some (2, (41, (29, 0))) := by decide +kernel
theorem mc_117_3 : mm_code 117 3 = some (5, (5, (0, 0))) := by decide +kernel
theorem mc_117_4 : mm_code 117 4 = some (6, (105, (73, 0))) := by decide +kernel
theorem mc_117_5 : mm_code 117 5 = some (9, (0, (0, 0))) := by decide +kernel
theorem mc_117_6 : mm_code 117 6 = some (10, (7, (1, 0))) := by decide +kernel
theorem mc_117_7 : mm_code 117 7 = some (11, (0, (0, 0))) := by decide +kernel
theorem mc_117_8 : mm_code 117 8 = some (12, (7, (2, 0))) := by decide +kernel
theorem mc_117_9 : mm_code 117 9 = some (13, (3, (2, 0))) := by decide +kernel
theorem mc_117_10 : mm_code 117 10 = some (14, (5, (0, 0))) := by decide +kernel
theorem mc_117_11 : mm_code 117 11 = some (15, (40, (31, 0))) := by decide +kernel
theorem mc_117_12 : mm_code 117 12 = some (18, (34, (79, 116))) := by decide +kernel
theorem mc_117_13 : mm_code 117 13 = some (21, (5, (0, 0))) := by decide +kernel
theorem mc_117_14 : mm_code 117 14 = some (22, (5, (0, 0))) := by decide +kernel
theorem mc_117_15 : mm_code 117 15 = some (23, (40, (27, 0))) := by decide +kernel
theorem mc_117_16 : mm_code 117 16 = some (26, (3, (2, 0))) := by decide +kernel
theorem mc_117_17 : mm_code 117 17 = some (27, (43, (0, 0))) := by decide +kernel
theorem mc_117_18 : mm_code 117 18 = some (28, (105, (77, 0))) := by decide +kernel
theorem mc_117_19 : mm_code 117 19 = some (31, (7, (3, 0))) := by decide +kernel
theorem mc_117_20 : mm_code 117 20 = some (32, (3, (3, 0))) := by decide +kernel
theorem mc_117_21 : mm_code 117 21 = some (33, (5, (0, 0))) := by decide +kernel
theorem mc_117_22 : mm_code 117 22 = some (34, (40, (32, 0))) := by decide +kernel
theorem mc_117_23 : mm_code 117 23 = some (37, (32, (29, 12))) := by decide +kernel
theorem mc_117_24 : mm_code 117 24 = some (40, (5, (0, 0))) := by decide +kernel
theorem mc_117_25 : mm_code 117 25 = some (41, (40, (32, 0))) := by decide +kernel
theorem mc_117_26 : mm_code 117 26 = some (44, (0, (0, 1))) := by decide +kernel
theorem mc_117_27 : mm_code 117 27 = some (45, (12, (0, 0))) := by decide +kernel
theorem mc_117_28 : mm_code 117 28 = some (46, (24, (59, 53))) := by decide +kernel
theorem mc_117_29 : mm_code 117 29 = some (49, (3, (3, 0))) := by decide +kernel
theorem mc_117_30 : mm_code 117 30 = some (50, (5, (0, 0))) := by decide +kernel
theorem mc_117_31 : mm_code 117 31 = some (51, (5, (0, 0))) := by decide +kernel
theorem mc_117_32 : mm_code 117 32 = some (52, (40, (27, 0))) := by decide +kernel
theorem mc_117_33 : mm_code 117 33 = some (55, (3, (2, 0))) := by decide +kernel
theorem mc_117_34 : mm_code 117 34 = some (56, (43, (0, 0))) := by decide +kernel
theorem mc_117_35 : mm_code 117 35 = some (57, (105, (70, 0))) := by decide +kernel
theorem mc_117_36 : mm_code 117 36 = some (60, (34, (58, 38))) := by decide +kernel
theorem mc_117_37 : mm_code 117 37 = some (63, (5, (0, 0))) := by decide +kernel
theorem mc_117_38 : mm_code 117 38 = some (64, (40, (24, 0))) := by decide +kernel
theorem mc_117_39 : mm_code 117 39 = some (67, (5, (0, 0))) := by decide +kernel
theorem mc_117_40 : mm_code 117 40 = some (68, (40, (27, 0))) := by decide +kernel
theorem mc_117_41 : mm_code 117 41 = some (71, (3, (2, 0))) := by decide +kernel
theorem mc_117_42 : mm_code 117 42 = some (72, (43, (0, 0))) := by decide +kernel
theorem mc_117_43 : mm_code 117 43 = some (73, (3, (3, 0))) := by decide +kernel
theorem mc_117_44 : mm_code 117 44 = some (74, (11, (0, 0))) := by decide +kernel
theorem mc_117_45 : mm_code 117 45 = some (75, (43, (0, 0))) := by decide +kernel
theorem mc_117_46 : mm_code 117 46 = some (76, (5, (0, 0))) := by decide +kernel
theorem mc_117_47 : mm_code 117 47 = some (77, (40, (26, 0))) := by decide +kernel
theorem mc_117_48 : mm_code 117 48 = some (80, (3, (3, 0))) := by decide +kernel
theorem mc_117_49 : mm_code 117 49 = some (81, (43, (0, 0))) := by decide +kernel
theorem mc_117_50 : mm_code 117 50 = some (82, (34, (58, 16))) := by decide +kernel
theorem mc_117_51 : mm_code 117 51 = some (85, (5, (0, 0))) := by decide +kernel
theorem mc_117_52 : mm_code 117 52 = some (86, (5, (0, 0))) := by decide +kernel
theorem mc_117_53 : mm_code 117 53 = some (87, (40, (27, 0))) := by decide +kernel
theorem mc_117_54 : mm_code 117 54 = some (90, (3, (2, 0))) := by decide +kernel
theorem mc_117_55 : mm_code 117 55 = some (91, (43, (0, 0))) := by decide +kernel
theorem mc_117_56 : mm_code 117 56 = some (92, (105, (70, 0))) := by decide +kernel
theorem mc_117_57 : mm_code 117 57 = some (95, (24, (59, 4))) := by decide +kernel
theorem mc_117_58 : mm_code 117 58 = some (98, (3, (3, 0))) := by decide +kernel
theorem mc_117_59 : mm_code 117 59 = some (99, (8, (4, 0))) := by decide +kernel
theorem mc_117_60 : mm_code 117 60 = some (101, (3, (1, 0))) := by decide +kernel
theorem mc_117_61 : mm_code 117 61 = some (102, (4, (4, 0))) := by decide +kernel
theorem mc_117_62 : mm_code 117 62 = some (104, (5, (0, 0))) := by decide +kernel
theorem mc_117_63 : mm_code 117 63 = some (105, (40, (28, 0))) := by decide +kernel
theorem mc_117_64 : mm_code 117 64 = some (108, (3, (2, 0))) := by decide +kernel
theorem mc_117_65 : mm_code 117 65 = some (109, (43, (0, 0))) := by decide +kernel
theorem mc_117_66 : mm_code 117 66 = some (110, (36, (74, 15))) := by decide +kernel
theorem mc_117_67 : mm_code 117 67 = some (113, (4, (4, 0))) := by decide +kernel
theorem mc_117_68 : mm_code 117 68 = some (115, (5, (0, 0))) := by decide +kernel
theorem mc_117_69 : mm_code 117 69 = some (116, (40, (28, 0))) := by decide +kernel
theorem mc_117_70 : mm_code 117 70 = some (119, (3, (2, 0))) := by decide +kernel
theorem mc_117_71 : mm_code 117 71 = some (120, (43, (0, 0))) := by decide +kernel
theorem mc_117_72 : mm_code 117 72 = some (121, (12, (0, 0))) := by decide +kernel
theorem mc_117_73 : mm_code 117 73 = some (122, (24, (75, 4))) := by decide +kernel
theorem mc_117_74 : mm_code 117 74 = some (125, (0, (0, 0))) := by decide +kernel
theorem mc_117_75 : mm_code 117 75 = some (126, (11, (0, 0))) := by decide +kernel
theorem mc_117_76 : mm_code 117 76 = some (127, (7, (1, 0))) := by decide +kernel
theorem mc_117_77 : mm_code 117 77 = some (128, (20, (2, 1))) := by decide +kernel
theorem mc_117_78 : mm_code 117 78 = some (131, (24, (9, (-118)))) := by decide +kernel
theorem mc_117_79 : mm_code 117 79 = some (134, (3, (1, 0))) := by decide +kernel
theorem mc_117_80 : mm_code 117 80 = some (135, (100, (0, 0))) := by decide +kernel
theorem mc_118_0 : mm_code 118 0 = some (0, (5, (0, 0))) := by decide +kernel
theorem mc_118_1 : mm_code 118 1 = some (1, (3, (1, 0))) := by decide +kernel
theorem mc_118_2 : mm_code 118 2 = some (2, (27, (7, 11))) := by decide +kernel
theorem mc_118_3 : mm_code 118 3 = some (5, (3, (1, 0))) := by decide +kernel
theorem mc_118_4 : mm_code 118 4 = some (6, (5, (0, 0))) := by decide +kernel
theorem mc_118_5 : mm_code 118 5 = some (7, (105, (76, 0))) := by decide +kernel
theorem mc_118_6 : mm_code 118 6 = some (10, (33, (9, 7))) := by decide +kernel
theorem mc_118_7 : mm_code 118 7 = some (13, (0, (0, 1))) := by decide +kernel
theorem mc_118_8 : mm_code 118 8 = some (14, (24, (10, 4))) := by decide +kernel
theorem mc_118_9 : mm_code 118 9 = some (17, (0, (0, 0))) := by decide +kernel
theorem mc_118_10 : mm_code 118 10 = some (18, (105, (62, 0))) := by decide +kernel
theorem mc_118_11 : mm_code 118 11 = some (21, (26, (14, 5))) := by decide +kernel
theorem mc_118_12 : mm_code 118 12 = some (24, (0, (0, 0))) := by decide +kernel
theorem mc_118_13 : mm_code 118 13 = some (25, (100, (0, 0))) := by decide +kernel
theorem mc_118_14 : mm_code 118 14 = some (26, (3, (1, 0))) := by decide +kernel
theorem mc_118_15 : mm_code 118 15 = some (27, (7, (2, 0))) := by decide +kernel
theorem mc_118_16 : mm_code 118 16 = some (28, (0, (0, 0))) := by decide +kernel
theorem mc_118_17 : mm_code 118 17 = some (29, (7, (3, 0))) := by decide +kernel
theorem mc_118_18 : mm_code 118 18 = some (30, (3, (2, 0))) := by decide +kernel
theorem mc_118_19 : mm_code 118 19 = some (31, (5, (0, 0))) := by decide +kernel
theorem mc_118_20 : mm_code 118 20 = some (32, (5, (0, 0))) := by decide +kernel
theorem mc_118_21 : mm_code 118 21 = some (33, (40, (27, 0))) := by decide +kernel
theorem mc_118_22 : mm_code 118 22 = some (36, (3, (3, 0))) := by decide +kernel
theorem mc_118_23 : mm_code 118 23 = some (37, (43, (0, 0))) := by decide +kernel
theorem mc_118_24 : mm_code 118 24 = some (38, (105, (70, 0))) := by decide +kernel
theorem mc_118_25 : mm_code 118 25 = some (41, (5, (0, 0))) := by decide +kernel
theorem mc_118_26 : mm_code 118 26 = some (42, (40, (28, 0))) := by decide +kernel
theorem mc_118_27 : mm_code 118 27 = some (45, (3, (3, 0))) := by decide +kernel
theorem mc_118_28 : mm_code 118 28 = some (46, (43, (0, 0))) := by decide +kernel
theorem mc_118_29 : mm_code 118 29 = some (47, (12, (0, 0))) := by decide +kernel
theorem mc_118_30 : mm_code 118 30 = some (48, (33, (47, 29))) := by decide +kernel
theorem mc_118_31 : mm_code 118 31 = some (51, (3, (2, 0))) := by decide +kernel
theorem mc_118_32 : mm_code 118 32 = some (52, (5, (0, 0))) := by decide +kernel
theorem mc_118_33 : mm_code 118 33 = some (53, (5, (0, 0))) := by decide +kernel
theorem mc_118_34 : mm_code 118 34 = some (54, (40, (27, 0))) := by decide +kernel
theorem mc_118_35 : mm_code 118 35 = some (57, (3, (3, 0))) := by decide +kernel
theorem mc_118_36 : mm_code 118 36 = some (58, (43, (0, 0))) := by decide +kernel
theorem mc_118_37 : mm_code 118 37 = some (59, (105, (70, 0))) := by decide +kernel
theorem mc_118_38 : mm_code 118 38 = some (62, (5, (0, 0))) := by decide +kernel
theorem mc_118_39 : mm_code 118 39 = some (63, (40, (28, 0))) := by decide +kernel
theorem mc_118_40 : mm_code 118 40 = some (66, (3, (3, 0))) := by decide +kernel
theorem mc_118_41 : mm_code 118 41 = some (67, (43, (0, 0))) := by decide +kernel
theorem mc_118_42 : mm_code 118 42 = some (68, (12, (0, 0))) := by decide +kernel
theorem mc_118_43 : mm_code 118 43 = some (69, (12, (0, 0))) := by decide +kernel
theorem mc_118_44 : mm_code 118 44 = some (70, (7, (2, 0))) := by decide +kernel
theorem mc_118_45 : mm_code 118 45 = some (71, (20, (3, 1))) := by decide +kernel
theorem mc_118_46 : mm_code 118 46 = some (74, (24, (18, (-44)))) := by decide +kernel
theorem mc_118_47 : mm_code 118 47 = some (77, (5, (0, 0))) := by decide +kernel
theorem mc_118_48 : mm_code 118 48 = some (78, (5, (0, 0))) := by decide +kernel
theorem mc_118_49 : mm_code 118 49 = some (79, (40, (27, 0))) := by decide +kernel
theorem mc_118_50 : mm_code 118 50 = some (82, (3, (3, 0))) := by decide +kernel
theorem mc_118_51 : mm_code 118 51 = some (83, (43, (0, 0))) := by decide +kernel
theorem mc_118_52 : mm_code 118 52 = some (84, (5, (0, 0))) := by decide +kernel
theorem mc_118_53 : mm_code 118 53 = some (85, (40, (28, 0))) := by decide +kernel
theorem mc_118_54 : mm_code 118 54 = some (88, (3, (3, 0))) := by decide +kernel
theorem mc_118_55 : mm_code 118 55 = some (89, (43, (0, 0))) := by decide +kernel
theorem mc_118_56 : mm_code 118 56 = some (90, (3, (2, 0))) := by decide +kernel
theorem mc_118_57 : mm_code 118 57 = some (91, (11, (0, 0))) := by decide +kernel
theorem mc_118_58 : mm_code 118 58 = some (92, (0, (0, 1))) := by decide +kernel
theorem mc_118_59 : mm_code 118 59 = some (93, (11, (0, 0))) := by decide +kernel
theorem mc_118_60 : mm_code 118 60 = some (94, (105, (65, 0))) := by decide +kernel
theorem mc_118_61 : mm_code 118 61 = some (97, (5, (0, 0))) := by decide +kernel
theorem mc_118_62 : mm_code 118 62 = some (98, (40, (32, 0))) := by decide +kernel
theorem mc_118_63 : mm_code 118 63 = some (101, (100, (0, 0))) := by decide +kernel
theorem mc_119_0 : mm_code 119 0 = some (0, (5, (0, 0))) := by decide +kernel
theorem mc_119_1 : mm_code 119 1 = some (1, (105, (73, 0))) := by decide +kernel
theorem mc_119_2 : mm_code 119 2 = some (4, (0, (0, 0))) := by decide +kernel
theorem mc_119_3 : mm_code 119 3 = some (5, (7, (3, 0))) := by decide +kernel
theorem mc_119_4 : mm_code 119 4 = some (6, (0, (0, 0))) := by decide +kernel
theorem mc_119_5 : mm_code 119 5 = some (7, (8, (4, 0))) := by decide +kernel
theorem mc_119_6 : mm_code 119 6 = some (9, (0, (0, 0))) := by decide +kernel
theorem mc_119_7 : mm_code 119 7 = some (10, (8, (5, 0))) := by decide +kernel
theorem mc_119_8 : mm_code 119 8 = some (12, (4, (5, 0))) := by decide +kernel
theorem mc_119_9 : mm_code 119 9 = some (14, (5, (0, 0))) := by decide +kernel
theorem mc_119_10 : mm_code 119 10 = some (15, (40, (31, 0))) := by decide +kernel
theorem mc_119_11 : mm_code 119 11 = some (18, (34, (67, 112))) := by decide +kernel
theorem mc_119_12 : mm_code 119 12 = some (21, (5, (0, 0))) := by decide +kernel
theorem mc_119_13 : mm_code 119 13 = some (22, (40, (28, 0))) := by decide +kernel
theorem mc_119_14 : mm_code 119 14 = some (25, (4, (5, 0))) := by decide +kernel
theorem mc_119_15 : mm_code 119 15 = some (27, (43, (0, 0))) := by decide +kernel
theorem mc_119_16 : mm_code 119 16 = some (28, (0, (0, 1))) := by decide +kernel
theorem mc_119_17 : mm_code 119 17 = some (29, (11, (0, 0))) := by decide +kernel
theorem mc_119_18 : mm_code 119 18 = some (30, (8, (6, 0))) := by decide +kernel
theorem mc_119_19 : mm_code 119 19 = some (32, (4, (6, 0))) := by decide +kernel
theorem mc_119_20 : mm_code 119 20 = some (34, (5, (0, 0))) := by decide +kernel
theorem mc_119_21 : mm_code 119 21 = some (35, (5, (0, 0))) := by decide +kernel
theorem mc_119_22 : mm_code 119 22 = some (36, (40, (27, 0))) := by decide +kernel
theorem mc_119_23 : mm_code 119 23 = some (39, (4, (5, 0))) := by decide +kernel
theorem mc_119_24 : mm_code 119 24 = some (41, (43, (0, 0))) := by decide +kernel
theorem mc_119_25 : mm_code 119 25 = some (42, (105, (70, 0))) := by decide +kernel
theorem mc_119_26 : mm_code 119 26 = some (45, (35, (65, 79))) := by decide +kernel
theorem mc_119_27 : mm_code 119 27 = some (48, (4, (6, 0))) := by decide +kernel
theorem mc_119_28 : mm_code 119 28 = some (50, (3, (3, 0))) := by decide +kernel
theorem mc_119_29 : mm_code 119 29 = some (51, (36, (63, 67))) := by decide +kernel
theorem mc_119_30 : mm_code 119 30 = some (54, (5, (0, 0))) := by decide +kernel
theorem mc_119_31 : mm_code 119 31 = some (55, (4, (5, 0))) := by decide +kernel
theorem mc_119_32 : mm_code 119 32 = some (57, (4, (6, 0))) := by decide +kernel
theorem mc_119_33 : mm_code 119 33 = some (59, (105, (74, 0))) := by decide +kernel
theorem mc_119_34 : mm_code 119 34 = some (62, (5, (0, 0))) := by decide +kernel
theorem mc_119_35 : mm_code 119 35 = some (63, (40, (34, 0))) := by decide +kernel
theorem mc_119_36 : mm_code 119 36 = some (66, (3, (1, 0))) := by decide +kernel
theorem mc_119_37 : mm_code 119 37 = some (67, (18, (0, 0))) := by decide +kernel
theorem mc_119_38 : mm_code 119 38 = some (68, (3, (1, 0))) := by decide +kernel
theorem mc_119_39 : mm_code 119 39 = some (69, (32, (46, 15))) := by decide +kernel
theorem mc_119_40 : mm_code 119 40 = some (72, (5, (0, 0))) := by decide +kernel
theorem mc_119_41 : mm_code 119 41 = some (73, (40, (33, 0))) := by decide +kernel
theorem mc_119_42 : mm_code 119 42 = some (76, (3, (2, 0))) := by decide +kernel
theorem mc_119_43 : mm_code 119 43 = some (77, (33, (46, 7))) := by decide +kernel
theorem mc_119_44 : mm_code 119 44 = some (80, (0, (0, 1))) := by decide +kernel
theorem mc_119_45 : mm_code 119 45 = some (81, (24, (47, 4))) := by decide +kernel
theorem mc_119_46 : mm_code 119 46 = some (84, (0, (0, 0))) := by decide +kernel
theorem mc_119_47 : mm_code 119 47 = some (85, (8, (7, 0))) := by decide +kernel
theorem mc_119_48 : mm_code 119 48 = some (87, (4, (7, 0))) := by decide +kernel
theorem mc_119_49 : mm_code 119 49 = some (89, (25, (55, 13))) := by decide +kernel
theorem mc_119_50 : mm_code 119 50 = some (92, (5, (0, 0))) := by decide +kernel
theorem mc_119_51 : mm_code 119 51 = some (93, (40, (27, 0))) := by decide +kernel
theorem mc_119_52 : mm_code 119 52 = some (96, (4, (5, 0))) := by decide +kernel
theorem mc_119_53 : mm_code 119 53 = some (98, (43, (0, 0))) := by decide +kernel
theorem mc_119_54 : mm_code 119 54 = some (99, (24, (56, 5))) := by decide +kernel
theorem mc_119_55 : mm_code 119 55 = some (102, (4, (4, 0))) := by decide +kernel
theorem mc_119_56 : mm_code 119 56 = some (104, (8, (4, 0))) := by decide +kernel
theorem mc_119_57 : mm_code 119 57 = some (106, (4, (7, 0))) := by decide +kernel
theorem mc_119_58 : mm_code 119 58 = some (108, (25, (61, 8))) := by decide +kernel
theorem mc_119_59 : mm_code 119 59 = some (111, (4, (6, 0))) := by decide +kernel
theorem mc_119_60 : mm_code 119 60 = some (113, (24, (62, 4))) := by decide +kernel
theorem mc_119_61 : mm_code 119 61 = some (116, (3, (3, 0))) := by decide +kernel
theorem mc_119_62 : mm_code 119 62 = some (117, (7, (3, 0))) := by decide +kernel
theorem mc_119_63 : mm_code 119 63 = some (118, (20, (6, 1))) := by decide +kernel
theorem mc_119_64 : mm_code 119 64 = some (121, (24, (19, (-89)))) := by decide +kernel
theorem mc_119_65 : mm_code 119 65 = some (124, (20, (5, 1))) := by decide +kernel
theorem mc_119_66 : mm_code 119 66 = some (127, (24, (8, (-115)))) := by decide +kernel
theorem mc_119_67 : mm_code 119 67 = some (130, (5, (0, 0))) := by decide +kernel
theorem mc_119_68 : mm_code 119 68 = some (131, (4, (4, 0))) := by decide +kernel
theorem mc_119_69 : mm_code 119 69 = some (133, (3, (3, 0))) := by decide +kernel
theorem mc_119_70 : mm_code 119 70 = some (134, (105, (65, 0))) := by decide +kernel
theorem mc_119_71 : mm_code 119 71 = some (137, (5, (0, 0))) := by decide +kernel
theorem mc_119_72 : mm_code 119 72 = some (138, (40, (32, 0))) := by decide +kernel
theorem mc_119_73 : mm_code 119 73 = some (141, (100, (0, 0))) := by decide +kernel
theorem mc_120_0 : mm_code 120 0 = some (0, (5, (0, 0))) := by decide +kernel
theorem mc_120_1 : mm_code 120 1 = some (1, (3, (1, 0))) := by decide +kernel
theorem mc_120_2 : mm_code 120 2 = some (2, (30, (10, 16))) := by decide +kernel
theorem mc_120_3 : mm_code 120 3 = some (5, (3, (1, 0))) := by decide +kernel
theorem mc_120_4 : mm_code 120 4 = some (6, (5, (0, 0))) := by decide +kernel
theorem mc_120_5 : mm_code 120 5 = some (7, (40, (30, 0))) := by decide +kernel
theorem mc_120_6 : mm_code 120 6 = some (10, (17, (0, 0))) := by decide +kernel
theorem mc_120_7 : mm_code 120 7 = some (11, (26, (10, 7))) := by decide +kernel
theorem mc_120_8 : mm_code 120 8 = some (14, (0, (0, 0))) := by decide +kernel
theorem mc_120_9 : mm_code 120 9 = some (15, (24, (11, 4))) := by decide +kernel
theorem mc_120_10 : mm_code 120 10 = some (18, (0, (0, 1))) := by decide +kernel
theorem mc_120_11 : mm_code 120 11 = some (19, (105, (62, 0))) := by decide +kernel
theorem mc_120_12 : mm_code 120 12 = some (22, (25, (18, 12))) := by decide +kernel
theorem mc_120_13 : mm_code 120 13 = some (25, (5, (0, 0))) := by decide +kernel
theorem mc_120_14 : mm_code 120 14 = some (26, (3, (1, 0))) := by decide +kernel
theorem mc_120_15 : mm_code 120 15 = some (27, (0, (0, 1))) := by decide +kernel
theorem mc_120_16 : mm_code 120 16 = some (28, (105, (78, 0))) := by decide +kernel
theorem mc_120_17 : mm_code 120 17 = some (31, (24, (19, 4))) := by decide +kernel
theorem mc_120_18 : mm_code 120 18 = some (34, (0, (0, 0))) := by decide +kernel
theorem mc_120_19 : mm_code 120 19 = some (35, (100, (0, 0))) := by decide +kernel
theorem mc_121_0 : mm_code 121 0 = some (0, (5, (0, 0))) := by decide +kernel
theorem mc_121_1 : mm_code 121 1 = some (1, (3, (1, 0))) := by decide +kernel
theorem mc_121_2 : mm_code 121 2 = some (2, (0, (0, 1))) := by decide +kernel
theorem mc_121_3 : mm_code 121 3 = some (3, (33, (6, 7))) := by decide +kernel
theorem mc_121_4 : mm_code 121 4 = some (6, (0, (0, 0))) := by decide +kernel
theorem mc_121_5 : mm_code 121 5 = some (7, (24, (7, 4))) := by decide +kernel
theorem mc_121_6 : mm_code 121 6 = some (10, (0, (0, 1))) := by decide +kernel
theorem mc_121_7 : mm_code 121 7 = some (11, (105, (62, 0))) := by decide +kernel
theorem mc_121_8 : mm_code 121 8 = some (14, (25, (14, 12))) := by decide +kernel
theorem mc_121_9 : mm_code 121 9 = some (17, (5, (0, 0))) := by decide +kernel
theorem mc_121_10 : mm_code 121 10 = some (18, (0, (0, 0))) := by decide +kernel
theorem mc_121_11 : mm_code 121 11 = some (19, (3, (1, 0))) := by decide +kernel
theorem mc_121_12 : mm_code 121 12 = some (20, (105, (78, 0))) := by decide +kernel
theorem mc_121_13 : mm_code 121 13 = some (23, (24, (15, 4))) := by decide +kernel
theorem mc_121_14 : mm_code 121 14 = some (26, (0, (0, 0))) := by decide +kernel
theorem mc_121_15 : mm_code 121 15 = some (27, (100, (0, 0))) := by decide +kernel
theorem mc_122_0 : mm_code 122 0 = some (0, (5, (0, 0))) := by decide +kernel
theorem mc_122_1 : mm_code 122 1 = some (1, (40, (32, 0))) := by decide +kernel
theorem mc_122_2 : mm_code 122 2 = some (4, (0, (0, 1))) := by decide +kernel
theorem mc_122_3 : mm_code 122 3 = some (5, (12, (0, 0))) := by decide +kernel
theorem mc_122_4 : mm_code 122 4 = some (6, (7, (2, 0))) := by decide +kernel
theorem mc_122_5 : mm_code 122 5 = some (7, (3, (2, 0))) := by decide +kernel
theorem mc_122_6 : mm_code 122 6 = some (8, (27, (22, 28))) := by decide +kernel
theorem mc_122_7 : mm_code 122 7 = some (11, (5, (0, 0))) := by decide +kernel
theorem mc_122_8 : mm_code 122 8 = some (12, (40, (26, 0))) := by decide +kernel
theorem mc_122_9 : mm_code 122 9 = some (15, (3, (2, 0))) := by decide +kernel
theorem mc_122_10 : mm_code 122 10 = some (16, (43, (0, 0))) := by decide +kernel
theorem mc_122_11 : mm_code 122 11 = some (17, (3, (1, 0))) := by decide +kernel
theorem mc_122_12 : mm_code 122 12 = some (18, (0, (0, 1))) := by decide +kernel
theorem mc_122_13 : mm_code 122 13 = some (19, (12, (0, 0))) := by decide +kernel
theorem mc_122_14 : mm_code 122 14 = some (20, (32, (22, 16))) := by decide +kernel
theorem mc_122_15 : mm_code 122 15 = some (23, (5, (0, 0))) := by decide +kernel
theorem mc_122_16 : mm_code 122 16 = some (24, (40, (26, 0))) := by decide +kernel
theorem mc_122_17 : mm_code 122 17 = some (27, (3, (2, 0))) := by decide +kernel
theorem mc_122_18 : mm_code 122 18 = some (28, (0, (0, 0))) := by decide +kernel
theorem mc_122_19 : mm_code 122 19 = some (29, (44, (0, 0))) := by decide +kernel
theorem mc_122_20 : mm_code 122 20 = some (30, (20, (2, (-1)))) := by decide +kernel
theorem mc_122_21 : mm_code 122 21 = some (33, (24, (5, (-26)))) := by decide +kernel
theorem mc_122_22 : mm_code 122 22 = some (36, (3, (2, 0))) := by decide +kernel
theorem mc_122_23 : mm_code 122 23 = some (37, (27, (32, 13))) := by decide +kernel
theorem mc_122_24 : mm_code 122 24 = some (40, (5, (0, 0))) := by decide +kernel
theorem mc_122_25 : mm_code 122 25 = some (41, (40, (26, 0))) := by decide +kernel
theorem mc_122_26 : mm_code 122 26 = some (44, (3, (2, 0))) := by decide +kernel
theorem mc_122_27 : mm_code 122 27 = some (45, (22, (0, 0))) := by decide +kernel
theorem mc_122_28 : mm_code 122 28 = some (46, (43, (0, 0))) := by decide +kernel
theorem mc_122_29 : mm_code 122 29 = some (47, (0, (0, 1))) := by decide +kernel
theorem mc_122_30 : mm_code 122 30 = some (48, (11, (0, 0))) := by decide +kernel
theorem mc_122_31 : mm_code 122 31 = some (49, (44, (0, 0))) := by decide +kernel
theorem mc_122_32 : mm_code 122 32 = some (50, (3, (2, 0))) := by decide +kernel
theorem mc_122_33 : mm_code 122 33 = some (51, (27, (36, 7))) := by decide +kernel
theorem mc_122_34 : mm_code 122 34 = some (54, (0, (0, 1))) := by decide +kernel
theorem mc_122_35 : mm_code 122 35 = some (55, (24, (37, 4))) := by decide +kernel
theorem mc_122_36 : mm_code 122 36 = some (58, (0, (0, 0))) := by decide +kernel
theorem mc_122_37 : mm_code 122 37 = some (59, (101, (0, 0))) := by decide +kernel
theorem mc_123_0 : mm_code 123 0 = some (0, (5, (0, 0))) := by decide +kernel
theorem mc_123_1 : mm_code 123 1 = some (1, (3, (1, 0))) := by decide +kernel
theorem mc_123_2 : mm_code 123 2 = some (2, (0, (0, 1))) := by decide +kernel
theorem mc_123_3 : mm_code 123 3 = some (3, (33, (9, 13))) := by decide +kernel
theorem mc_123_4 : mm_code 123 4 = some (6, (3, (1, 0))) := by decide +kernel
theorem mc_123_5 : mm_code 123 5 = some (7, (1, (0, 26))) := by decide +kernel
theorem mc_123_6 : mm_code 123 6 = some (9, (35, (9, 7))) := by decide +kernel
theorem mc_123_7 : mm_code 123 7 = some (12, (0, (0, 0))) := by decide +kernel
theorem mc_123_8 : mm_code 123 8 = some (13, (24, (10, 4))) := by decide +kernel
theorem mc_123_9 : mm_code 123 9 = some (16, (0, (0, 1))) := by decide +kernel
theorem mc_123_10 : mm_code 123 10 = some (17, (105, (62, 0))) := by decide +kernel
theorem mc_123_11 : mm_code 123 11 = some (20, (26, (14, 5))) := by decide +kernel
theorem mc_123_12 : mm_code 123 12 = some (23, (0, (0, 0))) := by decide +kernel
theorem mc_123_13 : mm_code 123 13 = some (24, (100, (0, 0))) := by decide +kernel
theorem mc_123_14 : mm_code 123 14 = some (25, (5, (0, 0))) := by decide +kernel
theorem mc_123_15 : mm_code 123 15 = some (26, (0, (0, 1))) := by decide +kernel
theorem mc_123_16 : mm_code 123 16 = some (27, (41, (32, 0))) := by decide +kernel
theorem mc_123_17 : mm_code 123 17 = some (30, (5, (0, 0))) := by decide +kernel
theorem mc_123_18 : mm_code 123 18 = some (31, (40, (26, 0))) := by decide +kernel
theorem mc_123_19 : mm_code 123 19 = some (34, (0, (0, 0))) := by decide +kernel
theorem mc_123_20 : mm_code 123 20 = some (35, (0, (0, 0))) := by decide +kernel
theorem mc_123_21 : mm_code 123 21 = some (36, (44, (0, 0))) := by decide +kernel
theorem mc_123_22 : mm_code 123 22 = some (37, (5, (0, 0))) := by decide +kernel
theorem mc_123_23 : mm_code 123 23 = some (38, (0, (0, 0))) := by decide +kernel
theorem mc_123_24 : mm_code 123 24 = some (39, (105, (68, 0))) := by decide +kernel
theorem mc_123_25 : mm_code 123 25 = some (42, (30, (43, 34))) := by decide +kernel
theorem mc_123_26 : mm_code 123 26 = some (45, (5, (0, 0))) := by decide +kernel
theorem mc_123_27 : mm_code 123 27 = some (46, (3, (1, 0))) := by decide +kernel
theorem mc_123_28 : mm_code 123 28 = some (47, (105, (79, 0))) := by decide +kernel
theorem mc_123_29 : mm_code 123 29 = some (50, (26, (22, (-13)))) := by decide +kernel
theorem mc_123_30 : mm_code 123 30 = some (53, (5, (0, 0))) := by decide +kernel
theorem mc_123_31 : mm_code 123 31 = some (54, (40, (26, 0))) := by decide +kernel
theorem mc_123_32 : mm_code 123 32 = some (57, (5, (0, 0))) := by decide +kernel
theorem mc_123_33 : mm_code 123 33 = some (58, (40, (32, 0))) := by decide +kernel
theorem mc_123_34 : mm_code 123 34 = some (61, (0, (0, 0))) := by decide +kernel
theorem mc_123_35 : mm_code 123 35 = some (62, (44, (0, 0))) := by decide +kernel
theorem mc_123_36 : mm_code 123 36 = some (63, (5, (0, 0))) := by decide +kernel
theorem mc_123_37 : mm_code 123 37 = some (64, (21, (0, 0))) := by decide +kernel
theorem mc_123_38 : mm_code 123 38 = some (65, (40, (32, 0))) := by decide +kernel
theorem mc_123_39 : mm_code 123 39 = some (68, (0, (0, 1))) := by decide +kernel
theorem mc_123_40 : mm_code 123 40 = some (69, (11, (0, 0))) := by decide +kernel
theorem mc_123_41 : mm_code 123 41 = some (70, (41, (32, 0))) := by decide +kernel
theorem mc_123_42 : mm_code 123 42 = some (73, (24, (22, (-36)))) := by decide +kernel
theorem mc_123_43 : mm_code 123 43 = some (76, (5, (0, 0))) := by decide +kernel
theorem mc_123_44 : mm_code 123 44 = some (77, (40, (32, 0))) := by decide +kernel
theorem mc_123_45 : mm_code 123 45 = some (80, (100, (0, 0))) := by decide +kernel
theorem mc_124_0 : mm_code 124 0 = some (0, (5, (1, 0))) := by decide +kernel
theorem mc_124_1 : mm_code 124 1 = some (1, (0, (0, 0))) := by decide +kernel
theorem mc_124_2 : mm_code 124 2 = some (2, (5, (0, 0))) := by decide +kernel
theorem mc_124_3 : mm_code 124 3 = some (3, (105, (80, 0))) := by decide +kernel
theorem mc_124_4 : mm_code 124 4 = some (6, (54, (0, 0))) := by decide +kernel
theorem mc_124_5 : mm_code 124 5 = some (7, (46, (0, 0))) := by decide +kernel
theorem mc_124_6 : mm_code 124 6 = some (8, (24, (10, 6))) := by decide +kernel
theorem mc_124_10 : mm_code 124 10 = some (14, (0, (0, 0))) := by decide +kernel
theorem mc_124_11 : mm_code 124 11 = some (15, (100, (0, 0))) := by decide +kernel
theorem mc_125_0 : mm_code 125 0 = some (0, (5, (3, 0))) := by decide +kernel
theorem mc_125_1 : mm_code 125 1 = some (1, (0, (0, 0))) := by decide +kernel
theorem mc_125_2 : mm_code 125 2 = some (2, (5, (0, 0))) := by decide +kernel
theorem mc_125_3 : mm_code 125 3 = some (3, (3, (1, 0))) := by decide +kernel
theorem mc_125_4 : mm_code 125 4 = some (4, (3, (2, 0))) := by decide +kernel
theorem mc_125_5 : mm_code 125 5 = some (5, (105, (81, 0))) := by decide +kernel
theorem mc_125_6 : mm_code 125 6 = some (8, (54, (0, 0))) := by decide +kernel
theorem mc_125_7 : mm_code 125 7 = some (9, (46, (0, 0))) := by decide +kernel
theorem mc_125_8 : mm_code 125 8 = some (10, (24, (18, 15))) := by decide +kernel
theorem mc_125_18 : mm_code 125 18 = some (25, (0, (0, 0))) := by decide +kernel
theorem mc_125_19 : mm_code 125 19 = some (26, (100, (0, 0))) := by decide +kernel
theorem mc_126_0 : mm_code 126 0 = some (0, (5, (2, 0))) := by decide +kernel
theorem mc_126_1 : mm_code 126 1 = some (1, (0, (0, 0))) := by decide +kernel
theorem mc_126_2 : mm_code 126 2 = some (2, (5, (0, 0))) := by decide +kernel
theorem mc_126_3 : mm_code 126 3 = some (3, (3, (1, 0))) := by decide +kernel
theorem mc_126_4 : mm_code 126 4 = some (4, (105, (82, 0))) := by decide +kernel
theorem mc_126_5 : mm_code 126 5 = some (7, (54, (0, 0))) := by decide +kernel
theorem mc_126_6 : mm_code 126 6 = some (8, (46, (0, 0))) := by decide +kernel
theorem mc_126_7 : mm_code 126 7 = some (9, (24, (11, 6))) := by decide +kernel
theorem mc_126_11 : mm_code 126 11 = some (15, (0, (0, 0))) := by decide +kernel
theorem mc_126_12 : mm_code 126 12 = some (16, (100, (0, 0))) := by decide +kernel
theorem mc_127_0 : mm_code 127 0 = some (0, (5, (3, 0))) := by decide +kernel
theorem mc_127_1 : mm_code 127 1 = some (1, (0, (0, 0))) := by decide +kernel
theorem mc_127_2 : mm_code 127 2 = some (2, (5, (0, 0))) := by decide +kernel
theorem mc_127_3 : mm_code 127 3 = some (3, (3, (1, 0))) := by decide +kernel
theorem mc_127_4 : mm_code 127 4 = some (4, (3, (2, 0))) := by decide +kernel
theorem mc_127_5 : mm_code 127 5 = some (5, (105, (83, 0))) := by decide +kernel
theorem mc_127_6 : mm_code 127 6 = some (8, (54, (0, 0))) := by decide +kernel
theorem mc_127_7 : mm_code 127 7 = some (9, (46, (0, 0))) := by decide +kernel
theorem mc_127_8 : mm_code 127 8 = some (10, (24, (12, 7))) := by decide +kernel
theorem mc_127_12 : mm_code 127 12 = some (17, (0, (0, 0))) := by decide +kernel
theorem mc_127_13 : mm_code 127 13 = some (18, (100, (0, 0))) := by decide +kernel
theorem mc_128_0 : mm_code 128 0 = some (0, (5, (2, 0))) := by decide +kernel
theorem mc_128_1 : mm_code 128 1 = some (1, (0, (0, 0))) := by decide +kernel
theorem mc_128_2 : mm_code 128 2 = some (2, (5, (0, 0))) := by decide +kernel
theorem mc_128_3 : mm_code 128 3 = some (3, (3, (1, 0))) := by decide +kernel
theorem mc_128_4 : mm_code 128 4 = some (4, (105, (84, 0))) := by decide +kernel
theorem mc_128_5 : mm_code 128 5 = some (7, (54, (0, 0))) := by decide +kernel
theorem mc_128_6 : mm_code 128 6 = some (8, (46, (0, 0))) := by decide +kernel
theorem mc_128_7 : mm_code 128 7 = some (9, (24, (14, 9))) := by decide +kernel
theorem mc_128_14 : mm_code 128 14 = some (18, (0, (0, 0))) := by decide +kernel
theorem mc_128_15 : mm_code 128 15 = some (19, (100, (0, 0))) := by decide +kernel
theorem mc_129_0 : mm_code 129 0 = some (0, (5, (1, 0))) := by decide +kernel
theorem mc_129_1 : mm_code 129 1 = some (1, (0, (0, 0))) := by decide +kernel
theorem mc_129_2 : mm_code 129 2 = some (2, (5, (0, 0))) := by decide +kernel
theorem mc_129_3 : mm_code 129 3 = some (3, (105, (85, 0))) := by decide +kernel
theorem mc_129_4 : mm_code 129 4 = some (6, (54, (0, 0))) := by decide +kernel
theorem mc_129_5 : mm_code 129 5 = some (7, (46, (0, 0))) := by decide +kernel
theorem mc_129_6 : mm_code 129 6 = some (8, (24, (10, 6))) := by decide +kernel
theorem mc_129_10 : mm_code 129 10 = some (14, (0, (0, 0))) := by decide +kernel
theorem mc_129_11 : mm_code 129 11 = some (15, (100, (0, 0))) := by decide +kernel
theorem mc_130_0 : mm_code 130 0 = some (0, (5, (0, 0))) := by decide +kernel
theorem mc_130_1 : mm_code 130 1 = some (1, (3, (1, 0))) := by decide +kernel
theorem mc_130_2 : mm_code 130 2 = some (2, (3, (2, 0))) := by decide +kernel
theorem mc_130_3 : mm_code 130 3 = some (3, (3, (3, 0))) := by decide +kernel
theorem mc_130_4 : mm_code 130 4 = some (4, (105, (86, 0))) := by decide +kernel
theorem mc_130_5 : mm_code 130 5 = some (7, (24, (12, 11))) := by decide +kernel
theorem mc_130_12 : mm_code 130 12 = some (18, (0, (0, 0))) := by decide +kernel
theorem mc_130_13 : mm_code 130 13 = some (19, (100, (0, 0))) := by decide +kernel
theorem mc_131_0 : mm_code 131 0 = some (0, (5, (2, 0))) := by decide +kernel
theorem mc_131_1 : mm_code 131 1 = some (1, (0, (0, 0))) := by decide +kernel
theorem mc_131_2 : mm_code 131 2 = some (2, (5, (0, 0))) := by decide +kernel
theorem mc_131_3 : mm_code 131 3 = some (3, (3, (1, 0))) := by decide +kernel
theorem mc_131_4 : mm_code 131 4 = some (4, (105, (87, 0))) := by decide +kernel
theorem mc_131_5 : mm_code 131 5 = some (7, (54, (0, 0))) := by decide +kernel
theorem mc_131_6 : mm_code 131 6 = some (8, (46, (0, 0))) := by decide +kernel
theorem mc_131_7 : mm_code 131 7 = some (9, (24, (11, 6))) := by decide +kernel
theorem mc_131_11 : mm_code 131 11 = some (15, (0, (0, 0))) := by decide +kernel
theorem mc_131_12 : mm_code 131 12 = some (16, (100, (0, 0))) := by decide +kernel
theorem mc_132_0 : mm_code 132 0 = some (0, (5, (2, 0))) := by decide +kernel
theorem mc_132_1 : mm_code 132 1 = some (1, (0, (0, 0))) := by decide +kernel
theorem mc_132_2 : mm_code 132 2 = some (2, (5, (0, 0))) := by decide +kernel
theorem mc_132_3 : mm_code 132 3 = some (3, (3, (1, 0))) := by decide +kernel
theorem mc_132_4 : mm_code 132 4 = some (4, (105, (88, 0))) := by decide +kernel
theorem mc_132_5 : mm_code 132 5 = some (7, (54, (0, 0))) := by decide +kernel
theorem mc_132_6 : mm_code 132 6 = some (8, (46, (0, 0))) := by decide +kernel
theorem mc_132_7 : mm_code 132 7 = some (9, (24, (11, 6))) := by decide +kernel
theorem mc_132_11 : mm_code 132 11 = some (15, (0, (0, 0))) := by decide +kernel
theorem mc_132_12 : mm_code 132 12 = some (16, (100, (0, 0))) := by decide +kernel
theorem mc_133_0 : mm_code 133 0 = some (0, (5, (2, 0))) := by decide +kernel
theorem mc_133_1 : mm_code 133 1 = some (1, (0, (0, 0))) := by decide +kernel
theorem mc_133_2 : mm_code 133 2 = some (2, (5, (0, 0))) := by decide +kernel
theorem mc_133_3 : mm_code 133 3 = some (3, (3, (1, 0))) := by decide +kernel
theorem mc_133_4 : mm_code 133 4 = some (4, (105, (89, 0))) := by decide +kernel
theorem mc_133_5 : mm_code 133 5 = some (7, (54, (0, 0))) := by decide +kernel
theorem mc_133_6 : mm_code 133 6 = some (8, (46, (0, 0))) := by decide +kernel
theorem mc_133_7 : mm_code 133 7 = some (9, (24, (11, 6))) := by decide +kernel
theorem mc_133_11 : mm_code 133 11 = some (15, (0, (0, 0))) := by decide +kernel
theorem mc_133_12 : mm_code 133 12 = some (16, (100, (0, 0))) := by decide +kernel
theorem mc_134_0 : mm_code 134 0 = some (0, (5, (2, 0))) := by decide +kernel
theorem mc_134_1 : mm_code 134 1 = some (1, (0, (0, 0))) := by decide +kernel
theorem mc_134_2 : mm_code 134 2 = some (2, (5, (0, 0))) := by decide +kernel
theorem mc_134_3 : mm_code 134 3 = some (3, (3, (1, 0))) := by decide +kernel
theorem mc_134_4 : mm_code 134 4 = some (4, (105, (90, 0))) := by decide +kernel
theorem mc_134_5 : mm_code 134 5 = some (7, (54, (0, 0))) := by decide +kernel
theorem mc_134_6 : mm_code 134 6 = some (8, (46, (0, 0))) := by decide +kernel
theorem mc_134_7 : mm_code 134 7 = some (9, (24, (11, 6))) := by decide +kernel
theorem mc_134_11 : mm_code 134 11 = some (15, (0, (0, 0))) := by decide +kernel
theorem mc_134_12 : mm_code 134 12 = some (16, (100, (0, 0))) := by decide +kernel
theorem mc_135_0 : mm_code 135 0 = some (0, (5, (2, 0))) := by decide +kernel
theorem mc_135_1 : mm_code 135 1 = some (1, (0, (0, 0))) := by decide +kernel
theorem mc_135_2 : mm_code 135 2 = some (2, (5, (0, 0))) := by decide +kernel
theorem mc_135_3 : mm_code 135 3 = some (3, (3, (1, 0))) := by decide +kernel
theorem mc_135_4 : mm_code 135 4 = some (4, (105, (91, 0))) := by decide +kernel
theorem mc_135_5 : mm_code 135 5 = some (7, (54, (0, 0))) := by decide +kernel
theorem mc_135_6 : mm_code 135 6 = some (8, (46, (0, 0))) := by decide +kernel
theorem mc_135_7 : mm_code 135 7 = some (9, (24, (11, 6))) := by decide +kernel
theorem mc_135_11 : mm_code 135 11 = some (15, (0, (0, 0))) := by decide +kernel
theorem mc_135_12 : mm_code 135 12 = some (16, (100, (0, 0))) := by decide +kernel
theorem mc_136_0 : mm_code 136 0 = some (0, (5, (2, 0))) := by decide +kernel
theorem mc_136_1 : mm_code 136 1 = some (1, (0, (0, 0))) := by decide +kernel
theorem mc_136_2 : mm_code 136 2 = some (2, (5, (0, 0))) := by decide +kernel
theorem mc_136_3 : mm_code 136 3 = some (3, (3, (1, 0))) := by decide +kernel
theorem mc_136_4 : mm_code 136 4 = some (4, (105, (92, 0))) := by decide +kernel
theorem mc_136_5 : mm_code 136 5 = some (7, (54, (0, 0))) := by decide +kernel
theorem mc_136_6 : mm_code 136 6 = some (8, (46, (0, 0))) := by decide +kernel
theorem mc_136_7 : mm_code 136 7 = some (9, (24, (11, 6))) := by decide +kernel
theorem mc_136_11 : mm_code 136 11 = some (15, (0, (0, 0))) := by decide +kernel
theorem mc_136_12 : mm_code 136 12 = some (16, (100, (0, 0))) := by decide +kernel
theorem mc_137_0 : mm_code 137 0 = some (0, (5, (2, 0))) := by decide +kernel
theorem mc_137_1 : mm_code 137 1 = some (1, (0, (0, 0))) := by decide +kernel
theorem mc_137_2 : mm_code 137 2 = some (2, (5, (0, 0))) := by decide +kernel
theorem mc_137_3 : mm_code 137 3 = some (3, (3, (1, 0))) := by decide +kernel
theorem mc_137_4 : mm_code 137 4 = some (4, (105, (93, 0))) := by decide +kernel
theorem mc_137_5 : mm_code 137 5 = some (7, (54, (0, 0))) := by decide +kernel
theorem mc_137_6 : mm_code 137 6 = some (8, (46, (0, 0))) := by decide +kernel
theorem mc_137_7 : mm_code 137 7 = some (9, (24, (11, 6))) := by decide +kernel
theorem mc_137_11 : mm_code 137 11 = some (15, (0, (0, 0))) := by decide +kernel
theorem mc_137_12 : mm_code 137 12 = some (16, (100, (0, 0))) := by decide +kernel
theorem mc_138_0 : mm_code 138 0 = some (0, (5, (2, 0))) := by decide +kernel
theorem mc_138_1 : mm_code 138 1 = some (1, (0, (0, 0))) := by decide +kernel
theorem mc_138_2 : mm_code 138 2 = some (2, (5, (0, 0))) := by decide +kernel
theorem mc_138_3 : mm_code 138 3 = some (3, (3, (1, 0))) := by decide +kernel
theorem mc_138_4 : mm_code 138 4 = some (4, (105, (94, 0))) := by decide +kernel
theorem mc_138_5 : mm_code 138 5 = some (7, (54, (0, 0))) := by decide +kernel
theorem mc_138_6 : mm_code 138 6 = some (8, (46, (0, 0))) := by decide +kernel
theorem mc_138_7 : mm_code 138 7 = some (9, (24, (11, 6))) := by decide +kernel
theorem mc_138_11 : mm_code 138 11 = some (15, (0, (0, 0))) := by decide +kernel
theorem mc_138_12 : mm_code 138 12 = some (16, (100, (0, 0))) := by decide +kernel
theorem mc_139_0 : mm_code 139 0 = some (0, (50, (8, 4))) := by decide +kernel
theorem mc_139_1 : mm_code 139 1 = some (3, (21, (0, 0))) := by decide +kernel
theorem mc_139_2 : mm_code 139 2 = some (4, (108, (95, 0))) := by decide +kernel
theorem mc_139_3 : mm_code 139 3 = some (7, (9, (1, 0))) := by decide +kernel
theorem mc_139_4 : mm_code 139 4 = some (8, (50, (65, 5))) := by decide +kernel
theorem mc_139_5 : mm_code 139 5 = some (11, (21, (0, 0))) := by decide +kernel
theorem mc_139_6 : mm_code 139 6 = some (12, (108, (96, 0))) := by decide +kernel
theorem mc_139_7 : mm_code 139 7 = some (15, (9, (2, 0))) := by decide +kernel
theorem mc_139_8 : mm_code 139 8 = some (16, (0, (0, 1))) := by decide +kernel
theorem mc_139_9 : mm_code 139 9 = some (17, (52, (0, 0))) := by decide +kernel
theorem mc_139_10 : mm_code 139 10 = some (19, (9, (3, 0))) := by decide +kernel
theorem mc_139_11 : mm_code 139 11 = some (20, (0, (0, 0))) := by decide +kernel
theorem mc_139_12 : mm_code 139 12 = some (21, (8, (4, 0))) := by decide +kernel
theorem mc_139_13 : mm_code 139 13 = some (23, (4, (4, 0))) := by decide +kernel
theorem mc_139_14 : mm_code 139 14 = some (25, (5, (0, 0))) := by decide +kernel
theorem mc_139_15 : mm_code 139 15 = some (26, (49, (0, 0))) := by decide +kernel
theorem mc_139_16 : mm_code 139 16 = some (27, (0, (0, 4))) := by decide +kernel
theorem mc_139_17 : mm_code 139 17 = some (28, (12, (0, 0))) := by decide +kernel
theorem mc_139_18 : mm_code 139 18 = some (29, (35, (648, 1152))) := by decide +kernel
theorem mc_139_19 : mm_code 139 19 = some (32, (5, (0, 0))) := by decide +kernel
theorem mc_139_20 : mm_code 139 20 = some (33, (4, (4, 0))) := by decide +kernel
theorem mc_139_21 : mm_code 139 21 = some (35, (43, (0, 0))) := by decide +kernel
theorem mc_139_22 : mm_code 139 22 = some (36, (1, (0, 31))) := by decide +kernel
theorem mc_139_23 : mm_code 139 23 = some (38, (18, (0, 0))) := by decide +kernel
theorem mc_139_24 : mm_code 139 24 = some (39, (56, (0, 0))) := by decide +kernel
theorem mc_139_25 : mm_code 139 25 = some (164, (5, (1, 0))) := by decide +kernel
theorem mc_139_26 : mm_code 139 26 = some (165, (105, (97, 0))) := by decide +kernel
theorem mc_139_27 : mm_code 139 27 = some (168, (5, (2, 0))) := by decide +kernel
theorem mc_139_28 : mm_code 139 28 = some (169, (105, (98, 0))) := by decide +kernel
theorem mc_139_29 : mm_code 139 29 = some (172, (24, (646, 1003))) := by decide +kernel
theorem mc_139_30 : mm_code 139 30 = some (175, (5, (1, 0))) := by decide +kernel
theorem mc_139_31 : mm_code 139 31 = some (176, (5, (3, 0))) := by decide +kernel
theorem mc_139_32 : mm_code 139 32 = some (177, (106, (99, 0))) := by decide +kernel
theorem mc_139_33 : mm_code 139 33 = some (180, (8, (5, 0))) := by decide +kernel
theorem mc_139_34 : mm_code 139 34 = some (182, (5, (2, 0))) := by decide +kernel
theorem mc_139_35 : mm_code 139 35 = some (183, (105, (100, 0))) := by decide +kernel
theorem mc_139_36 : mm_code 139 36 = some (186, (8, (6, 0))) := by decide +kernel
theorem mc_139_37 : mm_code 139 37 = some (188, (5, (2, 0))) := by decide +kernel
theorem mc_139_38 : mm_code 139 38 = some (189, (105, (101, 0))) := by decide +kernel
theorem mc_139_39 : mm_code 139 39 = some (192, (4, (5, 0))) := by decide +kernel
theorem mc_139_40 : mm_code 139 40 = some (194, (31, (43, 5))) := by decide +kernel
theorem mc_139_41 : mm_code 139 41 = some (197, (0, (0, 0))) := by decide +kernel
theorem mc_139_42 : mm_code 139 42 = some (198, (101, (0, 0))) := by decide +kernel
theorem mc_139_43 : mm_code 139 43 = some (199, (4, (5, 0))) := by decide +kernel
theorem mc_139_44 : mm_code 139 44 = some (201, (26, (54, 15))) := by decide +kernel
theorem mc_139_45 : mm_code 139 45 = some (204, (5, (3, 0))) := by decide +kernel
theorem mc_139_46 : mm_code 139 46 = some (205, (0, (0, 0))) := by decide +kernel
theorem mc_139_47 : mm_code 139 47 = some (206, (45, (0, 0))) := by decide +kernel
theorem mc_139_48 : mm_code 139 48 = some (207, (4, (6, 0))) := by decide +kernel
theorem mc_139_49 : mm_code 139 49 = some (209, (54, (0, 0))) := by decide +kernel
theorem mc_139_50 : mm_code 139 50 = some (210, (55, (0, 0))) := by decide +kernel
theorem mc_139_51 : mm_code 139 51 = some (211, (25, (54, 5))) := by decide +kernel
theorem mc_139_52 : mm_code 139 52 = some (214, (0, (0, 0))) := by decide +kernel
theorem mc_139_53 : mm_code 139 53 = some (215, (101, (0, 0))) := by decide +kernel
theorem mc_139_54 : mm_code 139 54 = some (216, (24, (646, 959))) := by decide +kernel
theorem mc_139_55 : mm_code 139 55 = some (219, (5, (1, 0))) := by decide +kernel
theorem mc_139_56 : mm_code 139 56 = some (220, (5, (0, 0))) := by decide +kernel
theorem mc_139_57 : mm_code 139 57 = some (221, (4, (4, 0))) := by decide +kernel
theorem mc_139_58 : mm_code 139 58 = some (223, (0, (0, 1))) := by decide +kernel
theorem mc_139_59 : mm_code 139 59 = some (224, (11, (0, 0))) := by decide +kernel
theorem mc_139_60 : mm_code 139 60 = some (225, (43, (0, 0))) := by decide +kernel
theorem mc_139_61 : mm_code 139 61 = some (226, (5, (0, 0))) := by decide +kernel
theorem mc_139_62 : mm_code 139 62 = some (227, (4, (4, 0))) := by decide +kernel
theorem mc_139_63 : mm_code 139 63 = some (229, (0, (0, 2))) := by decide +kernel
theorem mc_139_64 : mm_code 139 64 = some (230, (11, (0, 0))) := by decide +kernel
theorem mc_139_65 : mm_code 139 65 = some (231, (43, (0, 0))) := by decide +kernel
theorem mc_139_66 : mm_code 139 66 = some (232, (5, (3, 0))) := by decide +kernel
theorem mc_139_67 : mm_code 139 67 = some (233, (106, (102, 0))) := by decide +kernel
theorem mc_139_68 : mm_code 139 68 = some (236, (8, (5, 0))) := by decide +kernel
theorem mc_139_69 : mm_code 139 69 = some (238, (5, (2, 0))) := by decide +kernel
theorem mc_139_70 : mm_code 139 70 = some (239, (5, (0, 0))) := by decide +kernel
theorem mc_139_71 : mm_code 139 71 = some (240, (4, (4, 0))) := by decide +kernel
theorem mc_139_72 : mm_code 139 72 = some (242, (0, (0, 1))) := by decide +kernel
theorem mc_139_73 : mm_code 139 73 = some (243, (11, (0, 0))) := by decide +kernel
theorem mc_139_74 : mm_code 139 74 = some (244, (43, (0, 0))) := by decide +kernel
theorem mc_139_75 : mm_code 139 75 = some (245, (5, (0, 0))) := by decide +kernel
theorem mc_139_76 : mm_code 139 76 = some (246, (4, (4, 0))) := by decide +kernel
theorem mc_139_77 : mm_code 139 77 = some (248, (0, (0, 2))) := by decide +kernel
theorem mc_139_78 : mm_code 139 78 = some (249, (11, (0, 0))) := by decide +kernel
theorem mc_139_79 : mm_code 139 79 = some (250, (43, (0, 0))) := by decide +kernel
theorem mc_139_80 : mm_code 139 80 = some (251, (105, (103, 0))) := by decide +kernel
theorem mc_139_81 : mm_code 139 81 = some (254, (8, (6, 0))) := by decide +kernel
theorem mc_139_82 : mm_code 139 82 = some (256, (5, (2, 0))) := by decide +kernel
theorem mc_139_83 : mm_code 139 83 = some (257, (105, (101, 0))) := by decide +kernel
theorem mc_139_84 : mm_code 139 84 = some (260, (4, (5, 0))) := by decide +kernel
theorem mc_139_85 : mm_code 139 85 = some (262, (31, (88, 5))) := by decide +kernel
theorem mc_139_86 : mm_code 139 86 = some (265, (0, (0, 0))) := by decide +kernel
theorem mc_139_87 : mm_code 139 87 = some (266, (101, (0, 0))) := by decide +kernel
theorem mc_139_88 : mm_code 139 88 = some (267, (4, (5, 0))) := by decide +kernel
theorem mc_139_89 : mm_code 139 89 = some (269, (26, (99, 15))) := by decide +kernel
theorem mc_139_90 : mm_code 139 90 = some (272, (5, (3, 0))) := by decide +kernel
theorem mc_139_91 : mm_code 139 91 = some (273, (0, (0, 0))) := by decide +kernel
theorem mc_139_92 : mm_code 139 92 = some (274, (45, (0, 0))) := by decide +kernel
theorem mc_139_93 : mm_code 139 93 = some (275, (4, (6, 0))) := by decide +kernel
theorem mc_139_94 : mm_code 139 94 = some (277, (54, (0, 0))) := by decide +kernel
theorem mc_139_95 : mm_code 139 95 = some (278, (55, (0, 0))) := by decide +kernel
theorem mc_139_96 : mm_code 139 96 = some (279, (25, (99, 5))) := by decide +kernel
theorem mc_139_97 : mm_code 139 97 = some (282, (0, (0, 0))) := by decide +kernel
theorem mc_139_98 : mm_code 139 98 = some (283, (101, (0, 0))) := by decide +kernel
theorem mc_139_99 : mm_code 139 99 = some (284, (24, (646, 891))) := by decide +kernel
theorem mc_139_100 : mm_code 139 100 = some (287, (5, (1, 0))) := by decide +kernel
theorem mc_139_101 : mm_code 139 101 = some (288, (105, (104, 0))) := by decide +kernel
theorem mc_139_102 : mm_code 139 102 = some (291, (5, (2, 0))) := by decide +kernel
theorem mc_139_103 : mm_code 139 103 = some (292, (105, (105, 0))) := by decide +kernel
theorem mc_139_104 : mm_code 139 104 = some (295, (31, (646, 880))) := by decide +kernel
theorem mc_139_105 : mm_code 139 105 = some (298, (0, (0, 0))) := by decide +kernel
theorem mc_139_106 : mm_code 139 106 = some (299, (101, (0, 0))) := by decide +kernel
theorem mc_139_107 : mm_code 139 107 = some (300, (5, (1, 0))) := by decide +kernel
theorem mc_139_108 : mm_code 139 108 = some (301, (5, (0, 0))) := by decide +kernel
theorem mc_139_109 : mm_code 139 109 = some (302, (4, (4, 0))) := by decide +kernel
theorem mc_139_110 : mm_code 139 110 = some (304, (0, (0, 1))) := by decide +kernel
theorem mc_139_111 : mm_code 139 111 = some (305, (11, (0, 0))) := by decide +kernel
theorem mc_139_112 : mm_code 139 112 = some (306, (43, (0, 0))) := by decide +kernel
theorem mc_139_113 : mm_code 139 113 = some (307, (5, (3, 0))) := by decide +kernel
theorem mc_139_114 : mm_code 139 114 = some (308, (106, (106, 0))) := by decide +kernel
theorem mc_139_115 : mm_code 139 115 = some (311, (8, (5, 0))) := by decide +kernel
theorem mc_139_116 : mm_code 139 116 = some (313, (5, (2, 0))) := by decide +kernel
theorem mc_139_117 : mm_code 139 117 = some (314, (5, (0, 0))) := by decide +kernel
theorem mc_139_118 : mm_code 139 118 = some (315, (4, (4, 0))) := by decide +kernel
theorem mc_139_119 : mm_code 139 119 = some (317, (0, (0, 1))) := by decide +kernel
theorem mc_139_120 : mm_code 139 120 = some (318, (11, (0, 0))) := by decide +kernel
theorem mc_139_121 : mm_code 139 121 = some (319, (43, (0, 0))) := by decide +kernel
theorem mc_139_122 : mm_code 139 122 = some (320, (105, (107, 0))) := by decide +kernel
theorem mc_139_123 : mm_code 139 123 = some (323, (8, (6, 0))) := by decide +kernel
theorem mc_139_124 : mm_code 139 124 = some (325, (5, (2, 0))) := by decide +kernel
theorem mc_139_125 : mm_code 139 125 = some (326, (105, (101, 0))) := by decide +kernel
theorem mc_139_126 : mm_code 139 126 = some (329, (4, (5, 0))) := by decide +kernel
theorem mc_139_127 : mm_code 139 127 = some (331, (31, (130, 5))) := by decide +kernel
theorem mc_139_128 : mm_code 139 128 = some (334, (0, (0, 0))) := by decide +kernel
theorem mc_139_129 : mm_code 139 129 = some (335, (101, (0, 0))) := by decide +kernel
theorem mc_139_130 : mm_code 139 130 = some (336, (4, (5, 0))) := by decide +kernel
theorem mc_139_131 : mm_code 139 131 = some (338, (26, (141, 15))) := by decide +kernel
theorem mc_139_132 : mm_code 139 132 = some (341, (5, (3, 0))) := by decide +kernel
theorem mc_139_133 : mm_code 139 133 = some (342, (0, (0, 0))) := by decide +kernel
theorem mc_139_134 : mm_code 139 134 = some (343, (45, (0, 0))) := by decide +kernel
theorem mc_139_135 : mm_code 139 135 = some (344, (4, (6, 0))) := by decide +kernel
theorem mc_139_136 : mm_code 139 136 = some (346, (54, (0, 0))) := by decide +kernel
theorem mc_139_137 : mm_code 139 137 = some (347, (55, (0, 0))) := by decide +kernel
theorem mc_139_138 : mm_code 139 138 = some (348, (25, (141, 5))) := by decide +kernel
theorem mc_139_139 : mm_code 139 139 = some (351, (0, (0, 0))) := by decide +kernel
theorem mc_139_140 : mm_code 139 140 = some (352, (101, (0, 0))) := by decide +kernel
theorem mc_139_141 : mm_code 139 141 = some (353, (24, (646, 822))) := by decide +kernel
theorem mc_139_142 : mm_code 139 142 = some (356, (5, (1, 0))) := by decide +kernel
theorem mc_139_143 : mm_code 139 143 = some (357, (5, (0, 0))) := by decide +kernel
theorem mc_139_144 : mm_code 139 144 = some (358, (4, (4, 0))) := by decide +kernel
theorem mc_139_145 : mm_code 139 145 = some (360, (0, (0, 1))) := by decide +kernel
theorem mc_139_146 : mm_code 139 146 = some (361, (11, (0, 0))) := by decide +kernel
theorem mc_139_147 : mm_code 139 147 = some (362, (43, (0, 0))) := by decide +kernel
theorem mc_139_148 : mm_code 139 148 = some (363, (5, (0, 0))) := by decide +kernel
theorem mc_139_149 : mm_code 139 149 = some (364, (4, (4, 0))) := by decide +kernel
theorem mc_139_150 : mm_code 139 150 = some (366, (0, (0, 2))) := by decide +kernel
theorem mc_139_151 : mm_code 139 151 = some (367, (11, (0, 0))) := by decide +kernel
theorem mc_139_152 : mm_code 139 152 = some (368, (43, (0, 0))) := by decide +kernel
theorem mc_139_153 : mm_code 139 153 = some (369, (5, (3, 0))) := by decide +kernel
theorem mc_139_154 : mm_code 139 154 = some (370, (106, (108, 0))) := by decide +kernel
theorem mc_139_155 : mm_code 139 155 = some (373, (8, (5, 0))) := by decide +kernel
theorem mc_139_156 : mm_code 139 156 = some (375, (5, (2, 0))) := by decide +kernel
theorem mc_139_157 : mm_code 139 157 = some (376, (5, (0, 0))) := by decide +kernel
theorem mc_139_158 : mm_code 139 158 = some (377, (4, (4, 0))) := by decide +kernel
theorem mc_139_159 : mm_code 139 159 = some (379, (0, (0, 1))) := by decide +kernel
theorem mc_139_160 : mm_code 139 160 = some (380, (11, (0, 0))) := by decide +kernel
theorem mc_139_161 : mm_code 139 161 = some (381, (43, (0, 0))) := by decide +kernel
theorem mc_139_162 : mm_code 139 162 = some (382, (5, (0, 0))) := by decide +kernel
theorem mc_139_163 : mm_code 139 163 = some (383, (4, (4, 0))) := by decide +kernel
theorem mc_139_164 : mm_code 139 164 = some (385, (0, (0, 2))) := by decide +kernel
theorem mc_139_165 : mm_code 139 165 = some (386, (11, (0, 0))) := by decide +kernel
theorem mc_139_166 : mm_code 139 166 = some (387, (43, (0, 0))) := by decide +kernel
theorem mc_139_167 : mm_code 139 167 = some (388, (105, (109, 0))) := by decide +kernel
theorem mc_139_168 : mm_code 139 168 = some (391, (8, (6, 0))) := by decide +kernel
theorem mc_139_169 : mm_code 139 169 = some (393, (5, (2, 0))) := by decide +kernel
theorem mc_139_170 : mm_code 139 170 = some (394, (105, (101, 0))) := by decide +kernel
theorem mc_139_171 : mm_code 139 171 = some (397, (4, (5, 0))) := by decide +kernel
theorem mc_139_172 : mm_code 139 172 = some (399, (31, (175, 5))) := by decide +kernel
theorem mc_139_173 : mm_code 139 173 = some (402, (0, (0, 0))) := by decide +kernel
theorem mc_139_174 : mm_code 139 174 = some (403, (101, (0, 0))) := by decide +kernel
theorem mc_139_175 : mm_code 139 175 = some (404, (4, (5, 0))) := by decide +kernel
theorem mc_139_176 : mm_code 139 176 = some (406, (26, (186, 15))) := by decide +kernel
theorem mc_139_177 : mm_code 139 177 = some (409, (5, (3, 0))) := by decide +kernel
theorem mc_139_178 : mm_code 139 178 = some (410, (0, (0, 0))) := by decide +kernel
theorem mc_139_179 : mm_code 139 179 = some (411, (45, (0, 0))) := by decide +kernel
theorem mc_139_180 : mm_code 139 180 = some (412, (4, (6, 0))) := by decide +kernel
theorem mc_139_181 : mm_code 139 181 = some (414, (54, (0, 0))) := by decide +kernel
theorem mc_139_182 : mm_code 139 182 = some (415, (55, (0, 0))) := by decide +kernel
theorem mc_139_183 : mm_code 139 183 = some (416, (25, (186, 5))) := by decide +kernel
theorem mc_139_184 : mm_code 139 184 = some (419, (0, (0, 0))) := by decide +kernel
theorem mc_139_185 : mm_code 139 185 = some (420, (101, (0, 0))) := by decide +kernel
theorem mc_139_186 : mm_code 139 186 = some (421, (24, (646, 754))) := by decide +kernel
theorem mc_139_187 : mm_code 139 187 = some (424, (5, (1, 0))) := by decide +kernel
theorem mc_139_188 : mm_code 139 188 = some (425, (5, (0, 0))) := by decide +kernel
theorem mc_139_189 : mm_code 139 189 = some (426, (4, (4, 0))) := by decide +kernel
theorem mc_139_190 : mm_code 139 190 = some (428, (0, (0, 1))) := by decide +kernel
theorem mc_139_191 : mm_code 139 191 = some (429, (11, (0, 0))) := by decide +kernel
theorem mc_139_192 : mm_code 139 192 = some (430, (43, (0, 0))) := by decide +kernel
theorem mc_139_193 : mm_code 139 193 = some (431, (5, (3, 0))) := by decide +kernel
theorem mc_139_194 : mm_code 139 194 = some (432, (106, (110, 0))) := by decide +kernel
theorem mc_139_195 : mm_code 139 195 = some (435, (8, (5, 0))) := by decide +kernel
theorem mc_139_196 : mm_code 139 196 = some (437, (5, (2, 0))) := by decide +kernel
theorem mc_139_197 : mm_code 139 197 = some (438, (5, (0, 0))) := by decide +kernel
theorem mc_139_198 : mm_code 139 198 = some (439, (4, (4, 0))) := by decide +kernel
theorem mc_139_199 : mm_code 139 199 = some (441, (0, (0, 1))) := by decide +kernel
theorem mc_139_200 : mm_code 139 200 = some (442, (11, (0, 0))) := by decide +kernel
theorem mc_139_201 : mm_code 139 201 = some (443, (43, (0, 0))) := by decide +kernel
theorem mc_139_202 : mm_code 139 202 = some (444, (105, (111, 0))) := by decide +kernel
theorem mc_139_203 : mm_code 139 203 = some (447, (8, (6, 0))) := by decide +kernel
theorem mc_139_204 : mm_code 139 204 = some (449, (5, (2, 0))) := by decide +kernel
theorem mc_139_205 : mm_code 139 205 = some (450, (105, (101, 0))) := by decide +kernel
theorem mc_139_206 : mm_code 139 206 = some (453, (4, (5, 0))) := by decide +kernel
theorem mc_139_207 : mm_code 139 207 = some (455, (31, (210, 5))) := by decide +kernel
theorem mc_139_208 : mm_code 139 208 = some (458, (0, (0, 0))) := by decide +kernel
theorem mc_139_209 : mm_code 139 209 = some (459, (101, (0, 0))) := by decide +kernel
theorem mc_139_210 : mm_code 139 210 = some (460, (4, (5, 0))) := by decide +kernel
theorem mc_139_211 : mm_code 139 211 = some (462, (26, (221, 15))) := by decide +kernel
theorem mc_139_212 : mm_code 139 212 = some (465, (5, (3, 0))) := by decide +kernel
theorem mc_139_213 : mm_code 139 213 = some (466, (0, (0, 0))) := by decide +kernel
theorem mc_139_214 : mm_code 139 214 = some (467, (45, (0, 0))) := by decide +kernel
theorem mc_139_215 : mm_code 139 215 = some (468, (4, (6, 0))) := by decide +kernel
theorem mc_139_216 : mm_code 139 216 = some (470, (54, (0, 0))) := by decide +kernel
theorem mc_139_217 : mm_code 139 217 = some (471, (55, (0, 0))) := by decide +kernel
theorem mc_139_218 : mm_code 139 218 = some (472, (25, (221, 5))) := by decide +kernel
theorem mc_139_219 : mm_code 139 219 = some (475, (0, (0, 0))) := by decide +kernel
theorem mc_139_220 : mm_code 139 220 = some (476, (101, (0, 0))) := by decide +kernel
theorem mc_139_221 : mm_code 139 221 = some (477, (24, (646, 698))) := by decide +kernel
theorem mc_139_222 : mm_code 139 222 = some (480, (5, (1, 0))) := by decide +kernel
theorem mc_139_223 : mm_code 139 223 = some (481, (5, (3, 0))) := by decide +kernel
theorem mc_139_224 : mm_code 139 224 = some (482, (106, (112, 0))) := by decide +kernel
theorem mc_139_225 : mm_code 139 225 = some (485, (8, (5, 0))) := by decide +kernel
theorem mc_139_226 : mm_code 139 226 = some (487, (5, (2, 0))) := by decide +kernel
theorem mc_139_227 : mm_code 139 227 = some (488, (105, (113, 0))) := by decide +kernel
theorem mc_139_228 : mm_code 139 228 = some (491, (8, (6, 0))) := by decide +kernel
theorem mc_139_229 : mm_code 139 229 = some (493, (5, (2, 0))) := by decide +kernel
theorem mc_139_230 : mm_code 139 230 = some (494, (105, (101, 0))) := by decide +kernel
theorem mc_139_231 : mm_code 139 231 = some (497, (4, (5, 0))) := by decide +kernel
theorem mc_139_232 : mm_code 139 232 = some (499, (31, (235, 5))) := by decide +kernel
theorem mc_139_233 : mm_code 139 233 = some (502, (0, (0, 0))) := by decide +kernel
theorem mc_139_234 : mm_code 139 234 = some (503, (101, (0, 0))) := by decide +kernel
theorem mc_139_235 : mm_code 139 235 = some (504, (4, (5, 0))) := by decide +kernel
theorem mc_139_236 : mm_code 139 236 = some (506, (26, (246, 15))) := by decide +kernel
theorem mc_139_237 : mm_code 139 237 = some (509, (5, (3, 0))) := by decide +kernel
theorem mc_139_238 : mm_code 139 238 = some (510, (0, (0, 0))) := by decide +kernel
theorem mc_139_239 : mm_code 139 239 = some (511, (45, (0, 0))) := by decide +kernel
theorem mc_139_240 : mm_code 139 240 = some (512, (4, (6, 0))) := by decide +kernel
theorem mc_139_241 : mm_code 139 241 = some (514, (54, (0, 0))) := by decide +kernel
theorem mc_139_242 : mm_code 139 242 = some (515, (55, (0, 0))) := by decide +kernel
theorem mc_139_243 : mm_code 139 243 = some (516, (25, (246, 5))) := by decide +kernel
theorem mc_139_244 : mm_code 139 244 = some (519, (0, (0, 0))) := by decide +kernel
theorem mc_139_245 : mm_code 139 245 = some (520, (101, (0, 0))) := by decide +kernel
theorem mc_139_246 : mm_code 139 246 = some (521, (24, (646, 654))) := by decide +kernel
theorem mc_139_247 : mm_code 139 247 = some (524, (5, (1, 0))) := by decide +kernel
theorem mc_139_248 : mm_code 139 248 = some (525, (105, (114, 0))) := by decide +kernel
theorem mc_139_249 : mm_code 139 249 = some (528, (5, (2, 0))) := by decide +kernel
theorem mc_139_250 : mm_code 139 250 = some (529, (105, (115, 0))) := by decide +kernel
theorem mc_139_251 : mm_code 139 251 = some (532, (31, (646, 643))) := by decide +kernel
theorem mc_139_252 : mm_code 139 252 = some (535, (0, (0, 0))) := by decide +kernel
theorem mc_139_253 : mm_code 139 253 = some (536, (101, (0, 0))) := by decide +kernel
theorem mc_139_254 : mm_code 139 254 = some (537, (5, (1, 0))) := by decide +kernel
theorem mc_139_255 : mm_code 139 255 = some (538, (5, (0, 0))) := by decide +kernel
theorem mc_139_256 : mm_code 139 256 = some (539, (4, (4, 0))) := by decide +kernel
theorem mc_139_257 : mm_code 139 257 = some (541, (0, (0, 1))) := by decide +kernel
theorem mc_139_258 : mm_code 139 258 = some (542, (11, (0, 0))) := by decide +kernel
theorem mc_139_259 : mm_code 139 259 = some (543, (43, (0, 0))) := by decide +kernel
theorem mc_139_260 : mm_code 139 260 = some (544, (5, (0, 0))) := by decide +kernel
theorem mc_139_261 : mm_code 139 261 = some (545, (4, (4, 0))) := by decide +kernel
theorem mc_139_262 : mm_code 139 262 = some (547, (0, (0, 2))) := by decide +kernel
theorem mc_139_263 : mm_code 139 263 = some (548, (11, (0, 0))) := by decide +kernel
theorem mc_139_264 : mm_code 139 264 = some (549, (43, (0, 0))) := by decide +kernel
theorem mc_139_265 : mm_code 139 265 = some (550, (5, (0, 0))) := by decide +kernel
theorem mc_139_266 : mm_code 139 266 = some (551, (4, (4, 0))) := by decide +kernel
theorem mc_139_267 : mm_code 139 267 = some (553, (0, (0, 3))) := by decide +kernel
theorem mc_139_268 : mm_code 139 268 = some (554, (11, (0, 0))) := by decide +kernel
theorem mc_139_269 : mm_code 139 269 = some (555, (43, (0, 0))) := by decide +kernel
theorem mc_139_270 : mm_code 139 270 = some (556, (106, (116, 0))) := by decide +kernel
theorem mc_139_271 : mm_code 139 271 = some (559, (8, (5, 0))) := by decide +kernel
theorem mc_139_272 : mm_code 139 272 = some (561, (5, (2, 0))) := by decide +kernel
theorem mc_139_273 : mm_code 139 273 = some (562, (5, (0, 0))) := by decide +kernel
theorem mc_139_274 : mm_code 139 274 = some (563, (4, (4, 0))) := by decide +kernel
theorem mc_139_275 : mm_code 139 275 = some (565, (0, (0, 1))) := by decide +kernel
theorem mc_139_276 : mm_code 139 276 = some (566, (11, (0, 0))) := by decide +kernel
theorem mc_139_277 : mm_code 139 277 = some (567, (43, (0, 0))) := by decide +kernel
theorem mc_139_278 : mm_code 139 278 = some (568, (5, (0, 0))) := by decide +kernel
theorem mc_139_279 : mm_code 139 279 = some (569, (4, (4, 0))) := by decide +kernel
theorem mc_139_280 : mm_code 139 280 = some (571, (0, (0, 2))) := by decide +kernel
theorem mc_139_281 : mm_code 139 281 = some (572, (11, (0, 0))) := by decide +kernel
theorem mc_139_282 : mm_code 139 282 = some (573, (43, (0, 0))) := by decide +kernel
theorem mc_139_283 : mm_code 139 283 = some (574, (5, (0, 0))) := by decide +kernel
theorem mc_139_284 : mm_code 139 284 = some (575, (4, (4, 0))) := by decide +kernel
theorem mc_139_285 : mm_code 139 285 = some (577, (0, (0, 3))) := by decide +kernel
theorem mc_139_286 : mm_code 139 286 = some (578, (11, (0, 0))) := by decide +kernel
theorem mc_139_287 : mm_code 139 287 = some (579, (43, (0, 0))) := by decide +kernel
theorem mc_139_288 : mm_code 139 288 = some (580, (105, (117, 0))) := by decide +kernel
theorem mc_139_289 : mm_code 139 289 = some (583, (5, (2, 0))) := by decide +kernel
theorem mc_139_290 : mm_code 139 290 = some (584, (105, (101, 0))) := by decide +kernel
theorem mc_139_291 : mm_code 139 291 = some (587, (4, (5, 0))) := by decide +kernel
theorem mc_139_292 : mm_code 139 292 = some (589, (31, (295, 5))) := by decide +kernel
theorem mc_139_293 : mm_code 139 293 = some (592, (0, (0, 0))) := by decide +kernel
theorem mc_139_294 : mm_code 139 294 = some (593, (101, (0, 0))) := by decide +kernel
theorem mc_139_295 : mm_code 139 295 = some (594, (24, (646, 581))) := by decide +kernel
theorem mc_139_296 : mm_code 139 296 = some (597, (5, (1, 0))) := by decide +kernel
theorem mc_139_297 : mm_code 139 297 = some (598, (105, (118, 0))) := by decide +kernel
theorem mc_139_298 : mm_code 139 298 = some (601, (5, (2, 0))) := by decide +kernel
theorem mc_139_299 : mm_code 139 299 = some (602, (105, (119, 0))) := by decide +kernel
theorem mc_139_300 : mm_code 139 300 = some (605, (31, (646, 570))) := by decide +kernel
theorem mc_139_301 : mm_code 139 301 = some (608, (0, (0, 0))) := by decide +kernel
theorem mc_139_302 : mm_code 139 302 = some (609, (101, (0, 0))) := by decide +kernel
theorem mc_139_303 : mm_code 139 303 = some (610, (5, (1, 0))) := by decide +kernel
theorem mc_139_304 : mm_code 139 304 = some (611, (5, (0, 0))) := by decide +kernel
theorem mc_139_305 : mm_code 139 305 = some (612, (4, (4, 0))) := by decide +kernel
theorem mc_139_306 : mm_code 139 306 = some (614, (0, (0, 1))) := by decide +kernel
theorem mc_139_307 : mm_code 139 307 = some (615, (11, (0, 0))) := by decide +kernel
theorem mc_139_308 : mm_code 139 308 = some (616, (43, (0, 0))) := by decide +kernel
theorem mc_139_309 : mm_code 139 309 = some (617, (5, (3, 0))) := by decide +kernel
theorem mc_139_310 : mm_code 139 310 = some (618, (106, (120, 0))) := by decide +kernel
theorem mc_139_311 : mm_code 139 311 = some (621, (8, (5, 0))) := by decide +kernel
theorem mc_139_312 : mm_code 139 312 = some (623, (5, (2, 0))) := by decide +kernel
theorem mc_139_313 : mm_code 139 313 = some (624, (5, (0, 0))) := by decide +kernel
theorem mc_139_314 : mm_code 139 314 = some (625, (4, (4, 0))) := by decide +kernel
theorem mc_139_315 : mm_code 139 315 = some (627, (0, (0, 1))) := by decide +kernel
theorem mc_139_316 : mm_code 139 316 = some (628, (11, (0, 0))) := by decide +kernel
theorem mc_139_317 : mm_code 139 317 = some (629, (43, (0, 0))) := by decide +kernel
theorem mc_139_318 : mm_code 139 318 = some (630, (105, (121, 0))) := by decide +kernel
theorem mc_139_319 : mm_code 139 319 = some (633, (8, (6, 0))) := by decide +kernel
theorem mc_139_320 : mm_code 139 320 = some (635, (5, (2, 0))) := by decide +kernel
theorem mc_139_321 : mm_code 139 321 = some (636, (105, (101, 0))) := by decide +kernel
theorem mc_139_322 : mm_code 139 322 = some (639, (4, (5, 0))) := by decide +kernel
theorem mc_139_323 : mm_code 139 323 = some (641, (31, (326, 5))) := by decide +kernel
theorem mc_139_324 : mm_code 139 324 = some (644, (0, (0, 0))) := by decide +kernel
theorem mc_139_325 : mm_code 139 325 = some (645, (101, (0, 0))) := by decide +kernel
theorem mc_139_326 : mm_code 139 326 = some (646, (4, (5, 0))) := by decide +kernel
theorem mc_139_327 : mm_code 139 327 = some (648, (26, (337, 15))) := by decide +kernel
theorem mc_139_328 : mm_code 139 328 = some (651, (5, (3, 0))) := by decide +kernel
theorem mc_139_329 : mm_code 139 329 = some (652, (0, (0, 0))) := by decide +kernel
theorem mc_139_330 : mm_code 139 330 = some (653, (45, (0, 0))) := by decide +kernel
theorem mc_139_331 : mm_code 139 331 = some (654, (4, (6, 0))) := by decide +kernel
theorem mc_139_332 : mm_code 139 332 = some (656, (54, (0, 0))) := by decide +kernel
theorem mc_139_333 : mm_code 139 333 = some (657, (55, (0, 0))) := by decide +kernel
theorem mc_139_334 : mm_code 139 334 = some (658, (25, (337, 5))) := by decide +kernel
theorem mc_139_335 : mm_code 139 335 = some (661, (0, (0, 0))) := by decide +kernel
theorem mc_139_336 : mm_code 139 336 = some (662, (101, (0, 0))) := by decide +kernel
theorem mc_139_337 : mm_code 139 337 = some (663, (24, (646, 512))) := by decide +kernel
theorem mc_139_338 : mm_code 139 338 = some (666, (5, (1, 0))) := by decide +kernel
theorem mc_139_339 : mm_code 139 339 = some (667, (105, (122, 0))) := by decide +kernel
theorem mc_139_340 : mm_code 139 340 = some (670, (5, (2, 0))) := by decide +kernel
theorem mc_139_341 : mm_code 139 341 = some (671, (105, (123, 0))) := by decide +kernel
theorem mc_139_342 : mm_code 139 342 = some (674, (31, (646, 501))) := by decide +kernel
theorem mc_139_343 : mm_code 139 343 = some (677, (0, (0, 0))) := by decide +kernel
theorem mc_139_344 : mm_code 139 344 = some (678, (101, (0, 0))) := by decide +kernel
theorem mc_139_345 : mm_code 139 345 = some (679, (5, (1, 0))) := by decide +kernel
theorem mc_139_346 : mm_code 139 346 = some (680, (105, (124, 0))) := by decide +kernel
theorem mc_139_347 : mm_code 139 347 = some (683, (5, (2, 0))) := by decide +kernel
theorem mc_139_348 : mm_code 139 348 = some (684, (105, (125, 0))) := by decide +kernel
theorem mc_139_349 : mm_code 139 349 = some (687, (31, (646, 488))) := by decide +kernel
theorem mc_139_350 : mm_code 139 350 = some (690, (0, (0, 0))) := by decide +kernel
theorem mc_139_351 : mm_code 139 351 = some (691, (101, (0, 0))) := by decide +kernel
theorem mc_139_352 : mm_code 139 352 = some (692, (5, (1, 0))) := by decide +kernel
theorem mc_139_353 : mm_code 139 353 = some (693, (5, (0, 0))) := by decide +kernel
theorem mc_139_354 : mm_code 139 354 = some (694, (4, (4, 0))) := by decide +kernel
theorem mc_139_355 : mm_code 139 355 = some (696, (0, (0, 1))) := by decide +kernel
theorem mc_139_356 : mm_code 139 356 = some (697, (11, (0, 0))) := by decide +kernel
theorem mc_139_357 : mm_code 139 357 = some (698, (43, (0, 0))) := by decide +kernel
theorem mc_139_358 : mm_code 139 358 = some (699, (5, (3, 0))) := by decide +kernel
theorem mc_139_359 : mm_code 139 359 = some (700, (106, (126, 0))) := by decide +kernel
theorem mc_139_360 : mm_code 139 360 = some (703, (8, (5, 0))) := by decide +kernel
theorem mc_139_361 : mm_code 139 361 = some (705, (5, (2, 0))) := by decide +kernel
theorem mc_139_362 : mm_code 139 362 = some (706, (5, (0, 0))) := by decide +kernel
theorem mc_139_363 : mm_code 139 363 = some (707, (4, (4, 0))) := by decide +kernel
theorem mc_139_364 : mm_code 139 364 = some (709, (0, (0, 1))) := by decide +kernel
theorem mc_139_365 : mm_code 139 365 = some (710, (11, (0, 0))) := by decide +kernel
theorem mc_139_366 : mm_code 139 366 = some (711, (43, (0, 0))) := by decide +kernel
theorem mc_139_367 : mm_code 139 367 = some (712, (105, (127, 0))) := by decide +kernel
theorem mc_139_368 : mm_code 139 368 = some (715, (8, (6, 0))) := by decide +kernel
theorem mc_139_369 : mm_code 139 369 = some (717, (5, (2, 0))) := by decide +kernel
theorem mc_139_370 : mm_code 139 370 = some (718, (105, (101, 0))) := by decide +kernel
theorem mc_139_371 : mm_code 139 371 = some (721, (4, (5, 0))) := by decide +kernel
theorem mc_139_372 : mm_code 139 372 = some (723, (31, (375, 5))) := by decide +kernel
theorem mc_139_373 : mm_code 139 373 = some (726, (0, (0, 0))) := by decide +kernel
theorem mc_139_374 : mm_code 139 374 = some (727, (101, (0, 0))) := by decide +kernel
theorem mc_139_375 : mm_code 139 375 = some (728, (4, (5, 0))) := by decide +kernel
theorem mc_139_376 : mm_code 139 376 = some (730, (26, (386, 15))) := by decide +kernel
theorem mc_139_377 : mm_code 139 377 = some (733, (5, (3, 0))) := by decide +kernel
theorem mc_139_378 : mm_code 139 378 = some (734, (0, (0, 0))) := by decide +kernel
theorem mc_139_379 : mm_code 139 379 = some (735, (45, (0, 0))) := by decide +kernel
theorem mc_139_380 : mm_code 139 380 = some (736, (4, (6, 0))) := by decide +kernel
theorem mc_139_381 : mm_code 139 381 = some (738, (54, (0, 0))) := by decide +kernel
theorem mc_139_382 : mm_code 139 382 = some (739, (55, (0, 0))) := by decide +kernel
theorem mc_139_383 : mm_code 139 383 = some (740, (25, (386, 5))) := by decide +kernel
theorem mc_139_384 : mm_code 139 384 = some (743, (0, (0, 0))) := by decide +kernel
theorem mc_139_385 : mm_code 139 385 = some (744, (101, (0, 0))) := by decide +kernel
theorem mc_139_386 : mm_code 139 386 = some (745, (24, (646, 430))) := by decide +kernel
theorem mc_139_387 : mm_code 139 387 = some (748, (5, (1, 0))) := by decide +kernel
theorem mc_139_388 : mm_code 139 388 = some (749, (5, (0, 0))) := by decide +kernel
theorem mc_139_389 : mm_code 139 389 = some (750, (4, (4, 0))) := by decide +kernel
theorem mc_139_390 : mm_code 139 390 = some (752, (0, (0, 1))) := by decide +kernel
theorem mc_139_391 : mm_code 139 391 = some (753, (11, (0, 0))) := by decide +kernel
theorem mc_139_392 : mm_code 139 392 = some (754, (43, (0, 0))) := by decide +kernel
theorem mc_139_393 : mm_code 139 393 = some (755, (5, (3, 0))) := by decide +kernel
theorem mc_139_394 : mm_code 139 394 = some (756, (106, (128, 0))) := by decide +kernel
theorem mc_139_395 : mm_code 139 395 = some (759, (8, (5, 0))) := by decide +kernel
theorem mc_139_396 : mm_code 139 396 = some (761, (5, (2, 0))) := by decide +kernel
theorem mc_139_397 : mm_code 139 397 = some (762, (5, (0, 0))) := by decide +kernel
theorem mc_139_398 : mm_code 139 398 = some (763, (4, (4, 0))) := by decide +kernel
theorem mc_139_399 : mm_code 139 399 = some (765, (0, (0, 1))) := by decide +kernel
theorem mc_139_400 : mm_code 139 400 = some (766, (11, (0, 0))) := by decide +kernel
theorem mc_139_401 : mm_code 139 401 = some (767, (43, (0, 0))) := by decide +kernel
theorem mc_139_402 : mm_code 139 402 = some (768, (105, (129, 0))) := by decide +kernel
theorem mc_139_403 : mm_code 139 403 = some (771, (8, (6, 0))) := by decide +kernel
theorem mc_139_404 : mm_code 139 404 = some (773, (5, (2, 0))) := by decide +kernel
theorem mc_139_405 : mm_code 139 405 = some (774, (105, (101, 0))) := by decide +kernel
theorem mc_139_406 : mm_code 139 406 = some (777, (4, (5, 0))) := by decide +kernel
theorem mc_139_407 : mm_code 139 407 = some (779, (31, (410, 5))) := by decide +kernel
theorem mc_139_408 : mm_code 139 408 = some (782, (0, (0, 0))) := by decide +kernel
theorem mc_139_409 : mm_code 139 409 = some (783, (101, (0, 0))) := by decide +kernel
theorem mc_139_410 : mm_code 139 410 = some (784, (4, (5, 0))) := by decide +kernel
theorem mc_139_411 : mm_code 139 411 = some (786, (26, (421, 15))) := by decide +kernel
theorem mc_139_412 : mm_code 139 412 = some (789, (5, (3, 0))) := by decide +kernel
theorem mc_139_413 : mm_code 139 413 = some (790, (0, (0, 0))) := by decide +kernel
theorem mc_139_414 : mm_code 139 414 = some (791, (45, (0, 0))) := by decide +kernel
theorem mc_139_415 : mm_code 139 415 = some (792, (4, (6, 0))) := by decide +kernel
theorem mc_139_416 : mm_code 139 416 = some (794, (54, (0, 0))) := by decide +kernel
theorem mc_139_417 : mm_code 139 417 = some (795, (55, (0, 0))) := by decide +kernel
theorem mc_139_418 : mm_code 139 418 = some (796, (25, (421, 5))) := by decide +kernel
theorem mc_139_419 : mm_code 139 419 = some (799, (0, (0, 0))) := by decide +kernel
theorem mc_139_420 : mm_code 139 420 = some (800, (101, (0, 0))) := by decide +kernel
theorem mc_139_421 : mm_code 139 421 = some (801, (24, (646, 374))) := by decide +kernel
theorem mc_139_422 : mm_code 139 422 = some (804, (5, (1, 0))) := by decide +kernel
theorem mc_139_423 : mm_code 139 423 = some (805, (5, (0, 0))) := by decide +kernel
theorem mc_139_424 : mm_code 139 424 = some (806, (4, (4, 0))) := by decide +kernel
theorem mc_139_425 : mm_code 139 425 = some (808, (0, (0, 1))) := by decide +kernel
theorem mc_139_426 : mm_code 139 426 = some (809, (11, (0, 0))) := by decide +kernel
theorem mc_139_427 : mm_code 139 427 = some (810, (43, (0, 0))) := by decide +kernel
theorem mc_139_428 : mm_code 139 428 = some (811, (5, (3, 0))) := by decide +kernel
theorem mc_139_429 : mm_code 139 429 = some (812, (106, (130, 0))) := by decide +kernel
theorem mc_139_430 : mm_code 139 430 = some (815, (8, (5, 0))) := by decide +kernel
theorem mc_139_431 : mm_code 139 431 = some (817, (5, (2, 0))) := by decide +kernel
theorem mc_139_432 : mm_code 139 432 = some (818, (5, (0, 0))) := by decide +kernel
theorem mc_139_433 : mm_code 139 433 = some (819, (4, (4, 0))) := by decide +kernel
theorem mc_139_434 : mm_code 139 434 = some (821, (0, (0, 1))) := by decide +kernel
theorem mc_139_435 : mm_code 139 435 = some (822, (11, (0, 0))) := by decide +kernel
theorem mc_139_436 : mm_code 139 436 = some (823, (43, (0, 0))) := by decide +kernel
theorem mc_139_437 : mm_code 139 437 = some (824, (105, (131, 0))) := by decide +kernel
theorem mc_139_438 : mm_code 139 438 = some (827, (8, (6, 0))) := by decide +kernel
theorem mc_139_439 : mm_code 139 439 = some (829, (5, (2, 0))) := by decide +kernel
theorem mc_139_440 : mm_code 139 440 = some (830, (105, (101, 0))) := by decide +kernel
theorem mc_139_441 : mm_code 139 441 = some (833, (4, (5, 0))) := by decide +kernel
theorem mc_139_442 : mm_code 139 442 = some (835, (31, (445, 5))) := by decide +kernel
theorem mc_139_443 : mm_code 139 443 = some (838, (0, (0, 0))) := by decide +kernel
theorem mc_139_444 : mm_code 139 444 = some (839, (101, (0, 0))) := by decide +kernel
theorem mc_139_445 : mm_code 139 445 = some (840, (4, (5, 0))) := by decide +kernel
theorem mc_139_446 : mm_code 139 446 = some (842, (26, (456, 15))) := by decide +kernel
theorem mc_139_447 : mm_code 139 447 = some (845, (5, (3, 0))) := by decide +kernel
theorem mc_139_448 : mm_code 139 448 = some (846, (0, (0, 0))) := by decide +kernel
theorem mc_139_449 : mm_code 139 449 = some (847, (45, (0, 0))) := by decide +kernel
theorem mc_139_450 : mm_code 139 450 = some (848, (4, (6, 0))) := by decide +kernel
theorem mc_139_451 : mm_code 139 451 = some (850, (54, (0, 0))) := by decide +kernel
theorem mc_139_452 : mm_code 139 452 = some (851, (55, (0, 0))) := by decide +kernel
theorem mc_139_453 : mm_code 139 453 = some (852, (25, (456, 5))) := by decide +kernel
theorem mc_139_454 : mm_code 139 454 = some (855, (0, (0, 0))) := by decide +kernel
theorem mc_139_455 : mm_code 139 455 = some (856, (101, (0, 0))) := by decide +kernel
theorem mc_139_456 : mm_code 139 456 = some (857, (24, (646, 318))) := by decide +kernel
theorem mc_139_457 : mm_code 139 457 = some (860, (5, (1, 0))) := by decide +kernel
theorem mc_139_458 : mm_code 139 458 = some (861, (105, (132, 0))) := by decide +kernel
theorem mc_139_459 : mm_code 139 459 = some (864, (5, (2, 0))) := by decide +kernel
theorem mc_139_460 : mm_code 139 460 = some (865, (105, (133, 0))) := by decide +kernel
theorem mc_139_461 : mm_code 139 461 = some (868, (31, (646, 307))) := by decide +kernel
theorem mc_139_462 : mm_code 139 462 = some (871, (0, (0, 0))) := by decide +kernel
theorem mc_139_463 : mm_code 139 463 = some (872, (101, (0, 0))) := by decide +kernel
theorem mc_139_464 : mm_code 139 464 = some (873, (5, (1, 0))) := by decide +kernel
theorem mc_139_465 : mm_code 139 465 = some (874, (105, (134, 0))) := by decide +kernel
theorem mc_139_466 : mm_code 139 466 = some (877, (5, (2, 0))) := by decide +kernel
theorem mc_139_467 : mm_code 139 467 = some (878, (105, (135, 0))) := by decide +kernel
theorem mc_139_468 : mm_code 139 468 = some (881, (31, (646, 294))) := by decide +kernel
theorem mc_139_469 : mm_code 139 469 = some (884, (0, (0, 0))) := by decide +kernel
theorem mc_139_470 : mm_code 139 470 = some (885, (101, (0, 0))) := by decide +kernel
theorem mc_139_471 : mm_code 139 471 = some (886, (5, (1, 0))) := by decide +kernel
theorem mc_139_472 : mm_code 139 472 = some (887, (105, (136, 0))) := by decide +kernel
theorem mc_139_473 : mm_code 139 473 = some (890, (5, (2, 0))) := by decide +kernel
theorem mc_139_474 : mm_code 139 474 = some (891, (105, (137, 0))) := by decide +kernel
theorem mc_139_475 : mm_code 139 475 = some (894, (31, (646, 281))) := by decide +kernel
theorem mc_139_476 : mm_code 139 476 = some (897, (0, (0, 0))) := by decide +kernel
theorem mc_139_477 : mm_code 139 477 = some (898, (101, (0, 0))) := by decide +kernel
theorem mc_139_478 : mm_code 139 478 = some (899, (5, (1, 0))) := by decide +kernel
theorem mc_139_479 : mm_code 139 479 = some (900, (105, (138, 0))) := by decide +kernel
theorem mc_139_480 : mm_code 139 480 = some (903, (5, (2, 0))) := by decide +kernel
theorem mc_139_481 : mm_code 139 481 = some (904, (105, (139, 0))) := by decide +kernel
theorem mc_139_482 : mm_code 139 482 = some (907, (31, (646, 268))) := by decide +kernel
theorem mc_139_483 : mm_code 139 483 = some (910, (0, (0, 0))) := by decide +kernel
theorem mc_139_484 : mm_code 139 484 = some (911, (101, (0, 0))) := by decide +kernel
theorem mc_139_485 : mm_code 139 485 = some (912, (5, (1, 0))) := by decide +kernel
theorem mc_139_486 : mm_code 139 486 = some (913, (105, (140, 0))) := by decide +kernel
theorem mc_139_487 : mm_code 139 487 = some (916, (5, (2, 0))) := by decide +kernel
theorem mc_139_488 : mm_code 139 488 = some (917, (105, (141, 0))) := by decide +kernel
theorem mc_139_489 : mm_code 139 489 = some (920, (31, (646, 255))) := by decide +kernel
theorem mc_139_490 : mm_code 139 490 = some (923, (0, (0, 0))) := by decide +kernel
theorem mc_139_491 : mm_code 139 491 = some (924, (101, (0, 0))) := by decide +kernel
theorem mc_139_492 : mm_code 139 492 = some (925, (5, (1, 0))) := by decide +kernel
theorem mc_139_493 : mm_code 139 493 = some (926, (105, (142, 0))) := by decide +kernel
theorem mc_139_494 : mm_code 139 494 = some (929, (5, (2, 0))) := by decide +kernel
theorem mc_139_495 : mm_code 139 495 = some (930, (105, (143, 0))) := by decide +kernel
theorem mc_139_496 : mm_code 139 496 = some (933, (31, (646, 242))) := by decide +kernel
theorem mc_139_497 : mm_code 139 497 = some (936, (0, (0, 0))) := by decide +kernel
theorem mc_139_498 : mm_code 139 498 = some (937, (101, (0, 0))) := by decide +kernel
theorem mc_139_499 : mm_code 139 499 = some (938, (5, (1, 0))) := by decide +kernel
theorem mc_139_500 : mm_code 139 500 = some (939, (105, (144, 0))) := by decide +kernel
theorem mc_139_501 : mm_code 139 501 = some (942, (5, (2, 0))) := by decide +kernel
theorem mc_139_502 : mm_code 139 502 = some (943, (105, (145, 0))) := by decide +kernel
theorem mc_139_503 : mm_code 139 503 = some (946, (31, (646, 229))) := by decide +kernel
theorem mc_139_504 : mm_code 139 504 = some (949, (0, (0, 0))) := by decide +kernel
theorem mc_139_505 : mm_code 139 505 = some (950, (101, (0, 0))) := by decide +kernel
theorem mc_139_506 : mm_code 139 506 = some (951, (5, (1, 0))) := by decide +kernel
theorem mc_139_507 : mm_code 139 507 = some (952, (5, (0, 0))) := by decide +kernel
theorem mc_139_508 : mm_code 139 508 = some (953, (4, (4, 0))) := by decide +kernel
theorem mc_139_509 : mm_code 139 509 = some (955, (0, (0, 1))) := by decide +kernel
theorem mc_139_510 : mm_code 139 510 = some (956, (11, (0, 0))) := by decide +kernel
theorem mc_139_511 : mm_code 139 511 = some (957, (43, (0, 0))) := by decide +kernel
theorem mc_139_512 : mm_code 139 512 = some (958, (5, (3, 0))) := by decide +kernel
theorem mc_139_513 : mm_code 139 513 = some (959, (106, (146, 0))) := by decide +kernel
theorem mc_139_514 : mm_code 139 514 = some (962, (8, (5, 0))) := by decide +kernel
theorem mc_139_515 : mm_code 139 515 = some (964, (5, (2, 0))) := by decide +kernel
theorem mc_139_516 : mm_code 139 516 = some (965, (5, (0, 0))) := by decide +kernel
theorem mc_139_517 : mm_code 139 517 = some (966, (4, (4, 0))) := by decide +kernel
theorem mc_139_518 : mm_code 139 518 = some (968, (0, (0, 1))) := by decide +kernel
theorem mc_139_519 : mm_code 139 519 = some (969, (11, (0, 0))) := by decide +kernel
theorem mc_139_520 : mm_code 139 520 = some (970, (43, (0, 0))) := by decide +kernel
theorem mc_139_521 : mm_code 139 521 = some (971, (105, (147, 0))) := by decide +kernel
theorem mc_139_522 : mm_code 139 522 = some (974, (8, (6, 0))) := by decide +kernel
theorem mc_139_523 : mm_code 139 523 = some (976, (5, (2, 0))) := by decide +kernel
theorem mc_139_524 : mm_code 139 524 = some (977, (105, (101, 0))) := by decide +kernel
theorem mc_139_525 : mm_code 139 525 = some (980, (4, (5, 0))) := by decide +kernel
theorem mc_139_526 : mm_code 139 526 = some (982, (31, (529, 5))) := by decide +kernel
theorem mc_139_527 : mm_code 139 527 = some (985, (0, (0, 0))) := by decide +kernel
theorem mc_139_528 : mm_code 139 528 = some (986, (101, (0, 0))) := by decide +kernel
theorem mc_139_529 : mm_code 139 529 = some (987, (4, (5, 0))) := by decide +kernel
theorem mc_139_530 : mm_code 139 530 = some (989, (26, (540, 15))) := by decide +kernel
theorem mc_139_531 : mm_code 139 531 = some (992, (5, (3, 0))) := by decide +kernel
theorem mc_139_532 : mm_code 139 532 = some (993, (0, (0, 0))) := by decide +kernel
theorem mc_139_533 : mm_code 139 533 = some (994, (45, (0, 0))) := by decide +kernel
theorem mc_139_534 : mm_code 139 534 = some (995, (4, (6, 0))) := by decide +kernel
theorem mc_139_535 : mm_code 139 535 = some (997, (54, (0, 0))) := by decide +kernel
theorem mc_139_536 : mm_code 139 536 = some (998, (55, (0, 0))) := by decide +kernel
theorem mc_139_537 : mm_code 139 537 = some (999, (25, (540, 5))) := by decide +kernel
theorem mc_139_538 : mm_code 139 538 = some (1002, (0, (0, 0))) := by decide +kernel
theorem mc_139_539 : mm_code 139 539 = some (1003, (101, (0, 0))) := by decide +kernel
theorem mc_139_540 : mm_code 139 540 = some (1004, (24, (646, 171))) := by decide +kernel
theorem mc_139_541 : mm_code 139 541 = some (1007, (5, (1, 0))) := by decide +kernel
theorem mc_139_542 : mm_code 139 542 = some (1008, (5, (0, 0))) := by decide +kernel
theorem mc_139_543 : mm_code 139 543 = some (1009, (4, (4, 0))) := by decide +kernel
theorem mc_139_544 : mm_code 139 544 = some (1011, (0, (0, 1))) := by decide +kernel
theorem mc_139_545 : mm_code 139 545 = some (1012, (11, (0, 0))) := by decide +kernel
theorem mc_139_546 : mm_code 139 546 = some (1013, (43, (0, 0))) := by decide +kernel
theorem mc_139_547 : mm_code 139 547 = some (1014, (5, (3, 0))) := by decide +kernel
theorem mc_139_548 : mm_code 139 548 = some (1015, (106, (148, 0))) := by decide +kernel
theorem mc_139_549 : mm_code 139 549 = some (1018, (8, (5, 0))) := by decide +kernel
theorem mc_139_550 : mm_code 139 550 = some (1020, (5, (2, 0))) := by decide +kernel
theorem mc_139_551 : mm_code 139 551 = some (1021, (5, (0, 0))) := by decide +kernel
theorem mc_139_552 : mm_code 139 552 = some (1022, (4, (4, 0))) := by decide +kernel
theorem mc_139_553 : mm_code 139 553 = some (1024, (0, (0, 1))) := by decide +kernel
theorem mc_139_554 : mm_code 139 554 = some (1025, (11, (0, 0))) := by decide +kernel
theorem mc_139_555 : mm_code 139 555 = some (1026, (43, (0, 0))) := by decide +kernel
theorem mc_139_556 : mm_code 139 556 = some (1027, (105, (149, 0))) := by decide +kernel
theorem mc_139_557 : mm_code 139 557 = some (1030, (8, (6, 0))) := by decide +kernel
theorem mc_139_558 : mm_code 139 558 = some (1032, (5, (2, 0))) := by decide +kernel
theorem mc_139_559 : mm_code 139 559 = some (1033, (105, (101, 0))) := by decide +kernel
theorem mc_139_560 : mm_code 139 560 = some (1036, (4, (5, 0))) := by decide +kernel
theorem mc_139_561 : mm_code 139 561 = some (1038, (31, (564, 5))) := by decide +kernel
theorem mc_139_562 : mm_code 139 562 = some (1041, (0, (0, 0))) := by decide +kernel
theorem mc_139_563 : mm_code 139 563 = some (1042, (101, (0, 0))) := by decide +kernel
theorem mc_139_564 : mm_code 139 564 = some (1043, (4, (5, 0))) := by decide +kernel
theorem mc_139_565 : mm_code 139 565 = some (1045, (26, (575, 15))) := by decide +kernel
theorem mc_139_566 : mm_code 139 566 = some (1048, (5, (3, 0))) := by decide +kernel
theorem mc_139_567 : mm_code 139 567 = some (1049, (0, (0, 0))) := by decide +kernel
theorem mc_139_568 : mm_code 139 568 = some (1050, (45, (0, 0))) := by decide +kernel
theorem mc_139_569 : mm_code 139 569 = some (1051, (4, (6, 0))) := by decide +kernel
theorem mc_139_570 : mm_code 139 570 = some (1053, (54, (0, 0))) := by decide +kernel
theorem mc_139_571 : mm_code 139 571 = some (1054, (55, (0, 0))) := by decide +kernel
theorem mc_139_572 : mm_code 139 572 = some (1055, (25, (575, 5))) := by decide +kernel
theorem mc_139_573 : mm_code 139 573 = some (1058, (0, (0, 0))) := by decide +kernel
theorem mc_139_574 : mm_code 139 574 = some (1059, (101, (0, 0))) := by decide +kernel
theorem mc_139_575 : mm_code 139 575 = some (1060, (24, (646, 115))) := by decide +kernel
theorem mc_139_576 : mm_code 139 576 = some (1063, (5, (1, 0))) := by decide +kernel
theorem mc_139_577 : mm_code 139 577 = some (1064, (5, (0, 0))) := by decide +kernel
theorem mc_139_578 : mm_code 139 578 = some (1065, (4, (4, 0))) := by decide +kernel
theorem mc_139_579 : mm_code 139 579 = some (1067, (0, (0, 1))) := by decide +kernel
theorem mc_139_580 : mm_code 139 580 = some (1068, (11, (0, 0))) := by decide +kernel
theorem mc_139_581 : mm_code 139 581 = some (1069, (43, (0, 0))) := by decide +kernel
theorem mc_139_582 : mm_code 139 582 = some (1070, (5, (3, 0))) := by decide +kernel
theorem mc_139_583 : mm_code 139 583 = some (1071, (106, (150, 0))) := by decide +kernel
theorem mc_139_584 : mm_code 139 584 = some (1074, (8, (5, 0))) := by decide +kernel
theorem mc_139_585 : mm_code 139 585 = some (1076, (5, (2, 0))) := by decide +kernel
theorem mc_139_586 : mm_code 139 586 = some (1077, (5, (0, 0))) := by decide +kernel
theorem mc_139_587 : mm_code 139 587 = some (1078, (4, (4, 0))) := by decide +kernel
theorem mc_139_588 : mm_code 139 588 = some (1080, (0, (0, 1))) := by decide +kernel
theorem mc_139_589 : mm_code 139 589 = some (1081, (11, (0, 0))) := by decide +kernel
theorem mc_139_590 : mm_code 139 590 = some (1082, (43, (0, 0))) := by decide +kernel
theorem mc_139_591 : mm_code 139 591 = some (1083, (105, (151, 0))) := by decide +kernel
theorem mc_139_592 : mm_code 139 592 = some (1086, (8, (6, 0))) := by decide +kernel
theorem mc_139_593 : mm_code 139 593 = some (1088, (5, (2, 0))) := by decide +kernel
theorem mc_139_594 : mm_code 139 594 = some (1089, (105, (101, 0))) := by decide +kernel
theorem mc_139_595 : mm_code 139 595 = some (1092, (4, (5, 0))) := by decide +kernel
theorem mc_139_596 : mm_code 139 596 = some (1094, (31, (599, 5))) := by decide +kernel
theorem mc_139_597 : mm_code 139 597 = some (1097, (0, (0, 0))) := by decide +kernel
theorem mc_139_598 : mm_code 139 598 = some (1098, (101, (0, 0))) := by decide +kernel
theorem mc_139_599 : mm_code 139 599 = some (1099, (4, (5, 0))) := by decide +kernel
theorem mc_139_600 : mm_code 139 600 = some (1101, (26, (610, 15))) := by decide +kernel
theorem mc_139_601 : mm_code 139 601 = some (1104, (5, (3, 0))) := by decide +kernel
theorem mc_139_602 : mm_code 139 602 = some (1105, (0, (0, 0))) := by decide +kernel
theorem mc_139_603 : mm_code 139 603 = some (1106, (45, (0, 0))) := by decide +kernel
theorem mc_139_604 : mm_code 139 604 = some (1107, (4, (6, 0))) := by decide +kernel
theorem mc_139_605 : mm_code 139 605 = some (1109, (54, (0, 0))) := by decide +kernel
theorem mc_139_606 : mm_code 139 606 = some (1110, (55, (0, 0))) := by decide +kernel
theorem mc_139_607 : mm_code 139 607 = some (1111, (25, (610, 5))) := by decide +kernel
theorem mc_139_608 : mm_code 139 608 = some (1114, (0, (0, 0))) := by decide +kernel
theorem mc_139_609 : mm_code 139 609 = some (1115, (101, (0, 0))) := by decide +kernel
theorem mc_139_610 : mm_code 139 610 = some (1116, (24, (646, 59))) := by decide +kernel
theorem mc_139_611 : mm_code 139 611 = some (1119, (5, (1, 0))) := by decide +kernel
theorem mc_139_612 : mm_code 139 612 = some (1120, (5, (0, 0))) := by decide +kernel
theorem mc_139_613 : mm_code 139 613 = some (1121, (4, (4, 0))) := by decide +kernel
theorem mc_139_614 : mm_code 139 614 = some (1123, (0, (0, 1))) := by decide +kernel
theorem mc_139_615 : mm_code 139 615 = some (1124, (11, (0, 0))) := by decide +kernel
theorem mc_139_616 : mm_code 139 616 = some (1125, (43, (0, 0))) := by decide +kernel
theorem mc_139_617 : mm_code 139 617 = some (1126, (5, (3, 0))) := by decide +kernel
theorem mc_139_618 : mm_code 139 618 = some (1127, (106, (152, 0))) := by decide +kernel
theorem mc_139_619 : mm_code 139 619 = some (1130, (8, (5, 0))) := by decide +kernel
theorem mc_139_620 : mm_code 139 620 = some (1132, (5, (2, 0))) := by decide +kernel
theorem mc_139_621 : mm_code 139 621 = some (1133, (5, (0, 0))) := by decide +kernel
theorem mc_139_622 : mm_code 139 622 = some (1134, (4, (4, 0))) := by decide +kernel
theorem mc_139_623 : mm_code 139 623 = some (1136, (0, (0, 1))) := by decide +kernel
theorem mc_139_624 : mm_code 139 624 = some (1137, (11, (0, 0))) := by decide +kernel
theorem mc_139_625 : mm_code 139 625 = some (1138, (43, (0, 0))) := by decide +kernel
theorem mc_139_626 : mm_code 139 626 = some (1139, (105, (153, 0))) := by decide +kernel
theorem mc_139_627 : mm_code 139 627 = some (1142, (8, (6, 0))) := by decide +kernel
theorem mc_139_628 : mm_code 139 628 = some (1144, (5, (2, 0))) := by decide +kernel
theorem mc_139_629 : mm_code 139 629 = some (1145, (105, (101, 0))) := by decide +kernel
theorem mc_139_630 : mm_code 139 630 = some (1148, (4, (5, 0))) := by decide +kernel
theorem mc_139_631 : mm_code 139 631 = some (1150, (31, (634, 5))) := by decide +kernel
theorem mc_139_632 : mm_code 139 632 = some (1153, (0, (0, 0))) := by decide +kernel
theorem mc_139_633 : mm_code 139 633 = some (1154, (101, (0, 0))) := by decide +kernel
theorem mc_139_634 : mm_code 139 634 = some (1155, (4, (5, 0))) := by decide +kernel
theorem mc_139_635 : mm_code 139 635 = some (1157, (26, (645, 15))) := by decide +kernel
theorem mc_139_636 : mm_code 139 636 = some (1160, (5, (3, 0))) := by decide +kernel
theorem mc_139_637 : mm_code 139 637 = some (1161, (0, (0, 0))) := by decide +kernel
theorem mc_139_638 : mm_code 139 638 = some (1162, (45, (0, 0))) := by decide +kernel
theorem mc_139_639 : mm_code 139 639 = some (1163, (4, (6, 0))) := by decide +kernel
theorem mc_139_640 : mm_code 139 640 = some (1165, (54, (0, 0))) := by decide +kernel
theorem mc_139_641 : mm_code 139 641 = some (1166, (55, (0, 0))) := by decide +kernel
theorem mc_139_642 : mm_code 139 642 = some (1167, (25, (645, 5))) := by decide +kernel
theorem mc_139_643 : mm_code 139 643 = some (1170, (0, (0, 0))) := by decide +kernel
theorem mc_139_644 : mm_code 139 644 = some (1171, (101, (0, 0))) := by decide +kernel
theorem mc_139_645 : mm_code 139 645 = some (1172, (24, (646, 3))) := by decide +kernel
theorem mc_139_646 : mm_code 139 646 = some (1175, (20, (4, 4))) := by decide +kernel
theorem mc_139_647 : mm_code 139 647 = some (1178, (24, (13, (-1155)))) := by decide +kernel
theorem mc_139_648 : mm_code 139 648 = some (1181, (0, (0, 1))) := by decide +kernel
theorem mc_139_649 : mm_code 139 649 = some (1182, (101, (0, 0))) := by decide +kernel
end
section
/-! triples over MM: from here the run ends with Q -/
def mt (y i : Nat) (ls : mm_F) (st : List mm_V) (h : mm_H) (Q : mm_O → mm_H → Prop) : Prop := ∃ (n : Nat) (o : mm_O) (h' : mm_H), mm_go n y i ls st h = some (o, h') ∧ Q o h'
theorem mm_run_succ (n y i : Nat) (ls : mm_F) (st : List mm_V) (h : mm_H) : mm_go (n + 1) y i ls st h = match mm_code y i with
    | none => none
    | some (_, (op, (a, b))) =>
      if op < 60 then
        if op = 56 then match st with
          | .inl x :: st => mm_go n y (mm_sw x) ls st h
          | _ => none
        else match mm_op mm_fld op a b ls st h with
        | none => none
        | some (ls', (st', (h', j))) => mm_go n y (j.getD (i + 1)) ls' st' h'
      else if op = 100 then match st with
        | [.inl z] => some (.inl (some (mm_I z)), h)
        | _ => none
      else if op = 101 then match st with
        | [.inl z] => if z = 0 ∨ z = 1 then some (.inl (some (mm_I z)), h) else none
        | _ => none
      else if op = 102 then match st with
        | [.inr (.inr (some r))] => some (.inl (some (mm_P r)), h)
        | _ => none
      else if op = 103 then match st with
        | [] => some (.inl none, h)
        | _ => none
      else if op = 104 then match st with
        | [] => some (.inr b.toNat, (h.1, (h.2.1 + 1, (h.2.2.1 + 6, h.2.2.2))))
        | _ => none
      else if op < 109 then
        let s := mm_site a
        let args := (st.take s.2.1).reverse
        let rest := st.drop s.2.1
        if s.2.1 ≤ st.length ∧ rest.length ≤ 4 ∧ args.all mm_no2 = true ∧ s.2.1 ≤ s.2.2.1 ∧ mm_rcv s.2.2.2 args h = true then
          match mm_go n s.1 0 (args.map some ++ List.replicate (s.2.2.1 - s.2.1) none) [] h with
          | none => none
          | some (.inl v, h') => mm_go n y (i + 1) ls (v.toList ++ rest) h'
          | some (.inr E, h') => if op = 107 ∨ op = 108 then none else match mm_hand y E with
            | some z => some (.inl (some (mm_I z)), h')
            | none => if mm_noH y then some (.inr E, h') else none
        else none
      else none := rfl
theorem mm_more1 : ∀ (n y i : Nat) (ls : mm_F) (st : List mm_V) (h : mm_H) (r : mm_O × mm_H), mm_go n y i ls st h = some r → mm_go (n + 1) y i ls st h = some r := by
  intro n
  induction n with
  | zero => intro y i ls st h r hr; cases hr
  | succ n ih =>
    intro y i ls st h r hr
    rw [mm_run_succ] at hr ⊢
    cases hc : mm_code y i with
    | none => rw [hc] at hr; cases hr
    | some q =>
      obtain ⟨pc, op, a, b⟩ := q
      rw [hc] at hr
      dsimp only at hr ⊢
      by_cases h60 : op < 60
      · rw [if_pos h60] at hr ⊢
        by_cases h56 : op = 56
        · rw [if_pos h56] at hr ⊢
          split at hr
          · exact ih _ _ _ _ _ _ hr
          · cases hr
        · rw [if_neg h56] at hr ⊢
          cases hop : mm_op mm_fld op a b ls st h with
          | none => rw [hop] at hr; cases hr
          | some z =>
            obtain ⟨ls', st', h', j⟩ := z
            rw [hop] at hr
            exact ih _ _ _ _ _ _ hr
      · rw [if_neg h60] at hr ⊢
        by_cases h100 : op = 100
        · rw [if_pos h100] at hr ⊢; exact hr
        rw [if_neg h100] at hr ⊢
        by_cases h101 : op = 101
        · rw [if_pos h101] at hr ⊢; exact hr
        rw [if_neg h101] at hr ⊢
        by_cases h102 : op = 102
        · rw [if_pos h102] at hr ⊢; exact hr
        rw [if_neg h102] at hr ⊢
        by_cases h103 : op = 103
        · rw [if_pos h103] at hr ⊢; exact hr
        rw [if_neg h103] at hr ⊢
        by_cases h104 : op = 104
        · rw [if_pos h104] at hr ⊢; exact hr
        rw [if_neg h104] at hr ⊢
        by_cases h109 : op < 109
        · rw [if_pos h109] at hr ⊢
          split at hr
          · rename_i hg
            rw [if_pos hg]
            cases hcal : mm_go n (mm_site a).1 0 (((st.take (mm_site a).2.1).reverse).map some ++ List.replicate ((mm_site a).2.2.1 - (mm_site a).2.1) none) [] h with
            | none => rw [hcal] at hr; cases hr
            | some z =>
              rw [hcal] at hr
              rw [ih _ _ _ _ _ _ hcal]
              obtain ⟨o1, h1⟩ := z
              cases o1 with
              | inl v => exact ih _ _ _ _ _ _ hr
              | inr E => exact hr
          · cases hr
        · rw [if_neg h109] at hr; cases hr
theorem mm_more {n m y i : Nat} {ls : mm_F} {st : List mm_V} {h : mm_H} {r : mm_O × mm_H} (hr : mm_go n y i ls st h = some r) (hm : n ≤ m) : mm_go m y i ls st h = some r := by
  obtain ⟨k, rfl⟩ := Nat.le.dest hm
  induction k with
  | zero => exact hr
  | succ k ih => exact mm_more1 _ _ _ _ _ _ _ (ih (Nat.le_add_right _ _))
section MT
variable {y i pc op a : Nat} {b : Int} {ls ls' : mm_F} {st st' : List mm_V} {h h' : mm_H} {j : Option Nat} {Q : mm_O → mm_H → Prop}
theorem mt_mono {Q' : mm_O → mm_H → Prop} (k : mt y i ls st h Q) (hq : ∀ o h', Q o h' → Q' o h') : mt y i ls st h Q' := by
  obtain ⟨n, o, h', h1, h2⟩ := k
  exact ⟨n, o, h', h1, hq _ _ h2⟩
/-- any row but calls and ends -/
theorem mt_op (hc : mm_code y i = some (pc, (op, (a, b)))) (h60 : op < 60) (h56 : ¬ op = 56) (hop : mm_op mm_fld op a b ls st h = some (ls', (st', (h', j)))) (k : mt y (j.getD (i + 1)) ls' st' h' Q) : mt y i ls st h Q := by
  obtain ⟨n, o, h1, h2, h3⟩ := k
  refine ⟨n + 1, o, h1, ?_, h3⟩
  rw [mm_run_succ, hc]
  dsimp only
  rw [if_pos h60, if_neg h56, hop]
  exact h2
theorem mt_sw {x : Int} (hc : mm_code y i = some (pc, (56, (a, b)))) (k : mt y (mm_sw x) ls st h Q) : mt y i ls (.inl x :: st) h Q := by
  obtain ⟨n, o, h1, h2, h3⟩ := k
  refine ⟨n + 1, o, h1, ?_, h3⟩
  rw [mm_run_succ, hc]
  exact h2
theorem mt_ret {z : Int} (hc : mm_code y i = some (pc, (100, (a, b)))) (k : Q (.inl (some (mm_I z))) h) : mt y i ls [.inl z] h Q := by
  refine ⟨1, _, h, ?_, k⟩
  rw [mm_run_succ, hc]
  rfl
theorem mt_retB {z : Int} (hc : mm_code y i = some (pc, (101, (a, b)))) (hz : z = 0 ∨ z = 1) (k : Q (.inl (some (mm_I z))) h) : mt y i ls [.inl z] h Q := by
  refine ⟨1, _, h, ?_, k⟩
  rw [mm_run_succ, hc]
  dsimp only
  rw [if_neg (by decide), if_neg (by decide), if_pos rfl, if_pos hz]
theorem mt_retR {r : Nat} (hc : mm_code y i = some (pc, (102, (a, b)))) (k : Q (.inl (some (mm_P r))) h) : mt y i ls [.inr (.inr (some r))] h Q := by
  refine ⟨1, _, h, ?_, k⟩
  rw [mm_run_succ, hc]
  rfl
theorem mt_retV (hc : mm_code y i = some (pc, (103, (a, b)))) (k : Q (.inl none) h) : mt y i ls [] h Q := by
  refine ⟨1, _, h, ?_, k⟩
  rw [mm_run_succ, hc]
  rfl
theorem mt_thr (hc : mm_code y i = some (pc, (104, (a, b)))) (k : Q (.inr b.toNat) (h.1, (h.2.1 + 1, (h.2.2.1 + 6, h.2.2.2)))) : mt y i ls [] h Q := by
  refine ⟨1, _, _, ?_, k⟩
  rw [mm_run_succ, hc]
  rfl
/-- a call -/
theorem mt_call {Q1 : mm_O → mm_H → Prop} {y1 k m kd : Nat} {args rest : List mm_V} (hc : mm_code y i = some (pc, (op, (a, b)))) (hop : 105 ≤ op ∧ op ≤ 108) (hs : mm_site a = (y1, (k, (m, kd)))) (hst : st = args.reverse ++ rest) (hk : args.length = k) (hg : rest.length ≤ 4 ∧ args.all mm_no2 = true ∧ k ≤ m) (hr : mm_rcv kd args h = true)
    (hcal : mt y1 0 (args.map some ++ List.replicate (m - k) none) [] h Q1)
    (kk : ∀ (o1 : mm_O) (h1 : mm_H), Q1 o1 h1 → (∃ v, o1 = .inl v ∧ mt y (i + 1) ls (v.toList ++ rest) h1 Q) ∨ (∃ E, o1 = .inr E ∧ ¬ (op = 107 ∨ op = 108) ∧ ((∃ z, mm_hand y E = some z ∧ Q (.inl (some (mm_I z))) h1) ∨ (mm_hand y E = none ∧ mm_noH y = true ∧ Q (.inr E) h1)))) :
    mt y i ls st h Q := by
  obtain ⟨n1, o1, h1, e1, q1⟩ := hcal
  have et : (st.take k).reverse = args := by rw [hst, ← hk, List.take_left' (List.length_reverse), List.reverse_reverse]
  have ed : st.drop k = rest := by rw [hst, ← hk]; exact List.drop_left' List.length_reverse
  have el : k ≤ st.length := by rw [hst, List.length_append, List.length_reverse]; omega
  have hgg : (mm_site a).2.1 ≤ st.length ∧ (st.drop (mm_site a).2.1).length ≤ 4 ∧ ((st.take (mm_site a).2.1).reverse).all mm_no2 = true ∧ (mm_site a).2.1 ≤ (mm_site a).2.2.1 ∧ mm_rcv (mm_site a).2.2.2 (st.take (mm_site a).2.1).reverse h = true := by
    rw [hs]
    dsimp only
    rw [et, ed]
    exact ⟨el, hg.1, hg.2.1, hg.2.2, hr⟩
  have step : ∀ n, mm_go (n + 1) y i ls st h = match mm_go n y1 0 (args.map some ++ List.replicate (m - k) none) [] h with
          | none => none
          | some (.inl v, h') => mm_go n y (i + 1) ls (v.toList ++ rest) h'
          | some (.inr E, h') => if op = 107 ∨ op = 108 then none else match mm_hand y E with
            | some z => some (.inl (some (mm_I z)), h')
            | none => if mm_noH y then some (.inr E, h') else none := by
    intro n
    rw [mm_run_succ, hc]
    dsimp only
    rw [if_neg (show ¬ op < 60 by omega), if_neg (show ¬ op = 100 by omega), if_neg (show ¬ op = 101 by omega), if_neg (show ¬ op = 102 by omega), if_neg (show ¬ op = 103 by omega), if_neg (show ¬ op = 104 by omega), if_pos (show op < 109 by omega), if_pos hgg, hs]
    dsimp only
    rw [et, ed]
  rcases kk o1 h1 q1 with ⟨v, rfl, n2, o2, h2, e2, q2⟩ | ⟨E, rfl, hno, hx⟩
  · refine ⟨n1 + n2 + 1, o2, h2, ?_, q2⟩
    rw [step, mm_more e1 (Nat.le_add_right _ _)]
    exact mm_more e2 (Nat.le_add_left _ _)
  · rcases hx with ⟨z, hz, q2⟩ | ⟨hz, hn, q2⟩
    · refine ⟨n1 + 1, _, h1, ?_, q2⟩
      rw [step, e1]
      dsimp only
      rw [if_neg hno, hz]
    · refine ⟨n1 + 1, _, h1, ?_, q2⟩
      rw [step, e1]
      dsimp only
      rw [if_neg hno, hz]
      dsimp only
      rw [if_pos hn]
end MT
end
section
/-! the heap behind the constructors: 31 cells; their ints are D cell place -/
def mm_al (r : Nat) : Option Nat := match r with
  | 3 => some 100
  | 5 => some 100
  | 7 => some 100
  | 9 => some 100
  | 11 => some 120
  | 15 => some 804
  | 16 => some 804
  | 17 => some 804
  | 18 => some 5226
  | 19 => some 201
  | 20 => some 201
  | 21 => some 201
  | 22 => some 4
  | 23 => some 201
  | 25 => some 400
  | 26 => some 4
  | 27 => some 120
  | 28 => some 100
  | 29 => some 100
  | _ => none
def mm_ob (f : Int → Int) (u : Int) (r : Nat) : Nat × List mm_V := match r with
  | 0 => (14, [mm_P 1, mm_P 10, mm_P 12, mm_P 13, mm_I (f 4), mm_I (f 5)])
  | 1 => (2, [mm_P 2, mm_P 4, mm_P 6, mm_P 8])
  | 2 => (13, [mm_P 3, mm_I (f 1)])
  | 4 => (13, [mm_P 5, mm_I (f 1)])
  | 6 => (13, [mm_P 7, mm_I (f 1)])
  | 8 => (13, [mm_P 9, mm_I (f 1)])
  | 10 => (13, [mm_P 11, mm_I (f 1)])
  | 12 => (12, [mm_P 13, mm_P 23, mm_I (f 2)])
  | 13 => (10, [mm_P 14, mm_P 18, mm_P 19, mm_P 20, mm_P 21, mm_P 22, mm_I (f 6)])
  | 14 => (11, [mm_P 15, mm_P 16, mm_P 17])
  | 24 => (15, [mm_I (f 0), mm_P 25, mm_P 26, mm_I (f 3), mm_I (f 4), mm_P 27, mm_I (f 6), mm_P 28, mm_P 29, mm_I (f 9), mm_I (f 10), mm_I (f 11), mm_I (f 12)])
  | _ => (1, [mm_L u])
def mm_cell (f : Int → Int) (u : Int) (r : Nat) : Nat × List mm_V := match mm_al r with
  | some n => (0, (List.range n).map fun j : Nat => mm_I (f (j : Int)))
  | none => mm_ob f u r
/-- D: the ints; u: what out holds; x: cells made, slots made, the script -/
abbrev mm_D : Type := Nat → Int → Int
def mm_mk (D : mm_D) (u : Int) (x : Nat × (Nat × List Int)) : mm_H := ((List.range 31).map fun r => mm_cell (D r) u r, x)
def mm_wr (D : mm_D) (r : Nat) (k v : Int) : mm_D := fun r' k' => if r' = r ∧ k' = k then v else D r' k'
theorem mm_wr_eq (D : mm_D) (r : Nat) (k v : Int) : mm_wr D r k v r k = v := if_pos ⟨rfl, rfl⟩
theorem mm_wr_ne {D : mm_D} {r r' : Nat} {k k' v : Int} (h : ¬ (r' = r ∧ k' = k)) : mm_wr D r k v r' k' = D r' k' := if_neg h
theorem mm_wr_r {D : mm_D} {r r' : Nat} {k k' v : Int} (h : r' ≠ r) : mm_wr D r k v r' k' = D r' k' := if_neg (fun q => h q.1)
theorem mm_wr_k {D : mm_D} {r : Nat} {k k' v : Int} (h : k' ≠ k) : mm_wr D r k v r k' = D r k' := if_neg (fun q => h q.2)
theorem mm_wr_row {D : mm_D} {r r' : Nat} {k v : Int} (h : r' ≠ r) : mm_wr D r k v r' = D r' := by funext k'; exact mm_wr_r h
theorem mm_mk_at (D : mm_D) (u : Int) (x : Nat × (Nat × List Int)) {r : Nat} (h : r < 31) : (mm_mk D u x).1[r]? = some (mm_cell (D r) u r) := by
  unfold mm_mk
  rw [List.getElem?_map, List.getElem?_range h]
  rfl
theorem mm_mk_set (D D' : mm_D) (u u' : Int) (x : Nat × (Nat × List Int)) {r : Nat} {c : Nat × List mm_V} (hr : r < 31) (hc : c = mm_cell (D' r) u' r) (ho : ∀ r', r' < 31 → r' ≠ r → mm_cell (D' r') u' r' = mm_cell (D r') u r') : ((mm_mk D u x).1.set r c, x) = mm_mk D' u' x := by
  unfold mm_mk
  congr 1
  apply List.ext_getElem?
  intro i
  rw [List.getElem?_set, List.getElem?_map, List.getElem?_map, List.length_map, List.length_range]
  by_cases h : r = i
  · subst h
    rw [if_pos rfl, if_pos hr, List.getElem?_range hr, hc]
    rfl
  · rw [if_neg h]
    by_cases h31 : i < 31
    · rw [List.getElem?_range h31]
      show some (mm_cell (D i) u i) = some (mm_cell (D' i) u' i)
      rw [ho i h31 (Ne.symm h)]
    · rw [List.getElem?_eq_none (by rw [List.length_range]; omega)]
      rfl
theorem mm_al_lt {r n : Nat} (h : mm_al r = some n) : r < 30 := by
  unfold mm_al at h
  split at h <;> first | omega | cases h
theorem mm_cell_al {r n : Nat} (f : Int → Int) (u : Int) (h : mm_al r = some n) : mm_cell f u r = (0, (List.range n).map fun j : Nat => mm_I (f (j : Int))) := by unfold mm_cell; rw [h]
theorem mm_cell_u {r : Nat} (f : Int → Int) (u u' : Int) (h : r ≠ 30) (h31 : r < 31) : mm_cell f u r = mm_cell f u' r := by
  have h9 : r = 0 ∨ r = 1 ∨ r = 2 ∨ r = 3 ∨ r = 4 ∨ r = 5 ∨ r = 6 ∨ r = 7 ∨ r = 8 ∨ r = 9 ∨ r = 10 ∨ r = 11 ∨ r = 12 ∨ r = 13 ∨ r = 14 ∨ r = 15 ∨ r = 16 ∨ r = 17 ∨ r = 18 ∨ r = 19 ∨ r = 20 ∨ r = 21 ∨ r = 22 ∨ r = 23 ∨ r = 24 ∨ r = 25 ∨ r = 26 ∨ r = 27 ∨ r = 28 ∨ r = 29 := by omega
  rcases h9 with rfl | rfl | rfl | rfl | rfl | rfl | rfl | rfl | rfl | rfl | rfl | rfl | rfl | rfl | rfl | rfl | rfl | rfl | rfl | rfl | rfl | rfl | rfl | rfl | rfl | rfl | rfl | rfl | rfl | rfl <;> rfl
/-- storing an int of an array -/
theorem mm_mk_ast (D : mm_D) (u : Int) (x : Nat × (Nat × List Int)) {r n : Nat} {i v : Int} (h : mm_al r = some n) (h0 : 0 ≤ i) (hi : i < n) : ((mm_mk D u x).1.set r (0, (mm_cell (D r) u r).2.set i.toNat (mm_I v)), x) = mm_mk (mm_wr D r i v) u x := by
  refine mm_mk_set D (mm_wr D r i v) u u x (by have := mm_al_lt h; omega) ?_ (fun r' _ hne => by rw [mm_wr_row hne])
  rw [mm_cell_al _ _ h, mm_cell_al _ _ h]
  congr 1
  apply List.ext_getElem?
  intro j
  rw [List.getElem?_set, List.getElem?_map, List.getElem?_map, List.length_map, List.length_range]
  by_cases e : i.toNat = j
  · subst e
    have hlt : i.toNat < n := by omega
    rw [if_pos rfl, if_pos hlt, List.getElem?_range hlt]
    show some (mm_I v) = some (mm_I (mm_wr D r i v r (i.toNat : Int)))
    rw [Int.toNat_of_nonneg h0, mm_wr_eq]
  · rw [if_neg e]
    by_cases hj : j < n
    · rw [List.getElem?_range hj]
      show some (mm_I (D r j)) = some (mm_I (mm_wr D r i v r j))
      rw [mm_wr_k (by omega)]
    · rw [List.getElem?_eq_none (by rw [List.length_range]; omega)]
      rfl
/-- a Word's cell -/
def mm_isW (w : Nat) : Prop := w = 2 ∨ w = 4 ∨ w = 6 ∨ w = 8 ∨ w = 10
/-- what a field holds -/
def mm_fv (cf : Nat × Nat) (r : Nat) (D : mm_D) : Option mm_V := if r < 31 ∧ (mm_ob (D r) 0 r).1 = 10 + cf.1 ∧ mm_al r = none then (mm_ob (D r) 0 r).2[cf.2]? else none
theorem mm_fvW (D : mm_D) {w : Nat} (h : mm_isW w) : mm_fv (3, 0) w D = some (mm_P (w + 1)) ∧ mm_fv (3, 1) w D = some (mm_I (D w 1)) ∧ mm_al (w + 1) = some (if w = 10 then 120 else 100) := by
  rcases h with rfl | rfl | rfl | rfl | rfl <;> exact ⟨rfl, rfl, rfl⟩
/-- the int fields -/
def mm_pvT : List ((Nat × Nat) × Nat) := [((4, 4), 0), ((4, 5), 0), ((3, 1), 2), ((3, 1), 4), ((3, 1), 6), ((3, 1), 8), ((3, 1), 10), ((2, 2), 12), ((0, 6), 13), ((5, 0), 24), ((5, 3), 24), ((5, 4), 24), ((5, 6), 24), ((5, 9), 24), ((5, 10), 24), ((5, 11), 24), ((5, 12), 24)]
theorem mm_mk_put (D : mm_D) (u : Int) (x : Nat × (Nat × List Int)) {ci k r : Nat} {v : Int} (h : ((ci, k), r) ∈ mm_pvT) : ((mm_mk D u x).1.set r ((mm_cell (D r) u r).1, (mm_cell (D r) u r).2.set k (mm_I v)), x) = mm_mk (mm_wr D r k v) u x ∧ (mm_cell (D r) u r).1 = 10 + ci ∧ k < (mm_cell (D r) u r).2.length ∧ r < 31 := by
  have key : (mm_cell (D r) u r).1 = 10 + ci ∧ k < (mm_cell (D r) u r).2.length ∧ r < 31 ∧ ((mm_cell (D r) u r).1, (mm_cell (D r) u r).2.set k (mm_I v)) = mm_cell (mm_wr D r k v r) u r := by
    simp only [mm_pvT, List.mem_cons, List.not_mem_nil, or_false, Prod.mk.injEq] at h
    rcases h with ⟨⟨rfl, rfl⟩, rfl⟩ | ⟨⟨rfl, rfl⟩, rfl⟩ | ⟨⟨rfl, rfl⟩, rfl⟩ | ⟨⟨rfl, rfl⟩, rfl⟩ | ⟨⟨rfl, rfl⟩, rfl⟩ | ⟨⟨rfl, rfl⟩, rfl⟩ | ⟨⟨rfl, rfl⟩, rfl⟩ | ⟨⟨rfl, rfl⟩, rfl⟩ | ⟨⟨rfl, rfl⟩, rfl⟩ | ⟨⟨rfl, rfl⟩, rfl⟩ | ⟨⟨rfl, rfl⟩, rfl⟩ | ⟨⟨rfl, rfl⟩, rfl⟩ | ⟨⟨rfl, rfl⟩, rfl⟩ | ⟨⟨rfl, rfl⟩, rfl⟩ | ⟨⟨rfl, rfl⟩, rfl⟩ | ⟨⟨rfl, rfl⟩, rfl⟩ | ⟨⟨rfl, rfl⟩, rfl⟩
    all_goals
      refine ⟨rfl, by simp [mm_cell, mm_al, mm_ob], by decide, ?_⟩
      simp [mm_cell, mm_al, mm_ob, mm_wr]
  exact ⟨mm_mk_set D (mm_wr D r k v) u u x key.2.2.1 key.2.2.2 (fun r' _ hne => by rw [mm_wr_row hne]), key.1, key.2.1, key.2.2.1⟩
theorem mm_pvW {w : Nat} (h : mm_isW w) : ((3, 1), w) ∈ mm_pvT := by
  rcases h with rfl | rfl | rfl | rfl | rfl <;> decide
section MU
variable {y i pc op a : Nat} {b : Int} {ls ls' : mm_F} {st st' : List mm_V} {h h' : mm_H} {D : mm_D} {u : Int} {x : Nat × (Nat × List Int)} {Q : mm_O → mm_H → Prop}
theorem mu_const {z : Int} (hc : mm_code y i = some (pc, (op, (a, z)))) (ho : op < 3) (hr : mm_rng z) (k : mt y (i + 1) ls (mm_I z :: st) h Q) : mt y i ls st h Q := by
  have h9 : op = 0 ∨ op = 1 ∨ op = 2 := by omega
  refine mt_op hc (by omega) (by omega) (ls' := ls) (st' := mm_I z :: st) (h' := h) (j := none) ?_ k
  rcases h9 with rfl | rfl | rfl <;> exact if_pos hr
theorem mu_load {z : Int} (hc : mm_code y i = some (pc, (op, (a, b)))) (ho : op = 3 ∨ op = 4) (hl : ls[a]? = some (some (mm_I z))) (k : mt y (i + 1) ls (mm_I z :: st) h Q) : mt y i ls st h Q := by
  refine mt_op hc (by omega) (by omega) (ls' := ls) (st' := mm_I z :: st) (h' := h) (j := none) ?_ k
  rcases ho with rfl | rfl <;> (show mm_o_load a ls st h = _; unfold mm_o_load; rw [hl])
theorem mu_aload {r : Option Nat} (hc : mm_code y i = some (pc, (op, (a, b)))) (ho : op = 5 ∨ op = 6) (hl : ls[a]? = some (some (.inr (.inr r)))) (k : mt y (i + 1) ls (.inr (.inr r) :: st) h Q) : mt y i ls st h Q := by
  refine mt_op hc (by omega) (by omega) (ls' := ls) (st' := .inr (.inr r) :: st) (h' := h) (j := none) ?_ k
  rcases ho with rfl | rfl <;> (show mm_o_aload a ls st h = _; unfold mm_o_aload; rw [hl])
theorem mu_store {z : Int} (hc : mm_code y i = some (pc, (op, (a, b)))) (ho : op = 7 ∨ op = 8) (ha : a < ls.length) (hl : ls.set a (some (mm_I z)) = ls') (k : mt y (i + 1) ls' st h Q) : mt y i ls (mm_I z :: st) h Q := by
  subst hl
  refine mt_op hc (by omega) (by omega) (ls' := ls.set a (some (mm_I z))) (st' := st) (h' := h) (j := none) ?_ k
  rcases ho with rfl | rfl <;> exact if_pos ha
theorem mu_astore {r : Option Nat} (hc : mm_code y i = some (pc, (op, (a, b)))) (ho : op = 9 ∨ op = 10) (ha : a < ls.length) (hl : ls.set a (some (.inr (.inr r))) = ls') (k : mt y (i + 1) ls' st h Q) : mt y i ls (.inr (.inr r) :: st) h Q := by
  subst hl
  refine mt_op hc (by omega) (by omega) (ls' := ls.set a (some (.inr (.inr r)))) (st' := st) (h' := h) (j := none) ?_ k
  rcases ho with rfl | rfl <;> exact if_pos ha
theorem mu_bin {g : Int → Int → Option Int} {x9 y9 z : Int} (hc : mm_code y i = some (pc, (op, (a, b)))) (ho : op < 60 ∧ ¬ op = 56) (he : mm_op mm_fld op a b ls (mm_I y9 :: mm_I x9 :: st) h = mm_o_bin g ls (mm_I y9 :: mm_I x9 :: st) h) (hg : g x9 y9 = some z) (hr : mm_rng z) (k : mt y (i + 1) ls (mm_I z :: st) h Q) : mt y i ls (mm_I y9 :: mm_I x9 :: st) h Q := by
  refine mt_op hc ho.1 ho.2 (ls' := ls) (st' := mm_I z :: st) (h' := h) (j := none) ?_ k
  rw [he]
  show (match g x9 y9 with | some z => if mm_rng z then some (ls, (mm_I z :: st, (h, none))) else none | none => none) = _
  rw [hg]
  exact if_pos hr
theorem mu_iadd {x9 y9 : Int} (hc : mm_code y i = some (pc, (11, (a, b)))) (hr : mm_rng (x9 + y9)) (k : mt y (i + 1) ls (mm_I (x9 + y9) :: st) h Q) : mt y i ls (mm_I y9 :: mm_I x9 :: st) h Q := mu_bin (g := fun x y => some (x + y)) hc (by decide) rfl rfl hr k
theorem mu_isub {x9 y9 : Int} (hc : mm_code y i = some (pc, (12, (a, b)))) (hr : mm_rng (x9 - y9)) (k : mt y (i + 1) ls (mm_I (x9 - y9) :: st) h Q) : mt y i ls (mm_I y9 :: mm_I x9 :: st) h Q := mu_bin (g := fun x y => some (x - y)) hc (by decide) rfl rfl hr k
theorem mu_imul {x9 y9 : Int} (hc : mm_code y i = some (pc, (13, (a, b)))) (hr : mm_rng (x9 * y9)) (k : mt y (i + 1) ls (mm_I (x9 * y9) :: st) h Q) : mt y i ls (mm_I y9 :: mm_I x9 :: st) h Q := mu_bin (g := fun x y => some (x * y)) hc (by decide) rfl rfl hr k
theorem mu_idiv {x9 y9 : Int} (hc : mm_code y i = some (pc, (14, (a, b)))) (hg : 0 ≤ x9 ∧ 0 < y9) (hr : mm_rng (x9 / y9)) (k : mt y (i + 1) ls (mm_I (x9 / y9) :: st) h Q) : mt y i ls (mm_I y9 :: mm_I x9 :: st) h Q := mu_bin (g := fun x y => if 0 ≤ x ∧ 0 < y then some (x / y) else none) hc (by decide) rfl (if_pos hg) hr k
theorem mu_irem {x9 y9 : Int} (hc : mm_code y i = some (pc, (15, (a, b)))) (hg : 0 ≤ x9 ∧ 0 < y9) (hr : mm_rng (x9 % y9)) (k : mt y (i + 1) ls (mm_I (x9 % y9) :: st) h Q) : mt y i ls (mm_I y9 :: mm_I x9 :: st) h Q := mu_bin (g := fun x y => if 0 ≤ x ∧ 0 < y then some (x % y) else none) hc (by decide) rfl (if_pos hg) hr k
theorem mu_ishl {x9 y9 : Int} (hc : mm_code y i = some (pc, (16, (a, b)))) (hg : 0 ≤ x9 ∧ 0 ≤ y9 ∧ y9 < 31) (hr : mm_rng (x9 * 2 ^ y9.toNat)) (k : mt y (i + 1) ls (mm_I (x9 * 2 ^ y9.toNat) :: st) h Q) : mt y i ls (mm_I y9 :: mm_I x9 :: st) h Q := mu_bin (g := fun x y => if 0 ≤ x ∧ 0 ≤ y ∧ y < 31 then some (x * 2 ^ y.toNat) else none) hc (by decide) rfl (if_pos hg) hr k
theorem mu_ishr {x9 y9 : Int} (hc : mm_code y i = some (pc, (17, (a, b)))) (hg : 0 ≤ x9 ∧ 0 ≤ y9 ∧ y9 < 31) (hr : mm_rng (x9 / 2 ^ y9.toNat)) (k : mt y (i + 1) ls (mm_I (x9 / 2 ^ y9.toNat) :: st) h Q) : mt y i ls (mm_I y9 :: mm_I x9 :: st) h Q := mu_bin (g := fun x y => if 0 ≤ x ∧ 0 ≤ y ∧ y < 31 then some (x / 2 ^ y.toNat) else none) hc (by decide) rfl (if_pos hg) hr k
theorem mu_iand {x9 y9 : Int} (hc : mm_code y i = some (pc, (18, (a, b)))) (k : mt y (i + 1) ls (mm_I (mm_and x9 y9) :: st) h Q) : mt y i ls (mm_I y9 :: mm_I x9 :: st) h Q := mu_bin (g := fun x y => some (mm_and x y)) hc (by decide) rfl rfl (mm_and_r _ _) k
theorem mu_ior {x9 y9 : Int} (hc : mm_code y i = some (pc, (19, (a, b)))) (k : mt y (i + 1) ls (mm_I (mm_or x9 y9) :: st) h Q) : mt y i ls (mm_I y9 :: mm_I x9 :: st) h Q := mu_bin (g := fun x y => some (mm_or x y)) hc (by decide) rfl rfl (mm_or_r _ _) k
theorem mu_iinc {z : Int} (hc : mm_code y i = some (pc, (20, (a, b)))) (hl : ls[a]? = some (some (mm_I z))) (hr : mm_rng (z + b)) (hs : ls.set a (some (mm_I (z + b))) = ls') (k : mt y (i + 1) ls' st h Q) : mt y i ls st h Q := by
  subst hs
  refine mt_op hc (by decide) (by decide) (ls' := ls.set a (some (mm_I (z + b)))) (st' := st) (h' := h) (j := none) ?_ k
  show mm_o_iinc a b ls st h = _
  unfold mm_o_iinc
  rw [hl]
  exact if_pos hr
/-- rows that 'rfl' works out -/
theorem mu_rfl {j : Option Nat} {n : Nat} (hc : mm_code y i = some (pc, (op, (a, b)))) (ho : op < 60 ∧ ¬ op = 56) (he : mm_op mm_fld op a b ls st h = some (ls, (st', (h, j)))) (hj : j.getD (i + 1) = n) (k : mt y n ls st' h Q) : mt y i ls st h Q := by
  subst hj
  exact mt_op hc ho.1 ho.2 he k
theorem mu_if_eq {z : Int} (hc : mm_code y i = some (pc, (25, (a, b)))) (k1 : (z = 0) → mt y a ls st h Q) (k2 : ¬ (z = 0) → mt y (i + 1) ls st h Q) : mt y i ls (mm_I z :: st) h Q := by
  by_cases q : z = 0
  · exact mt_op hc (by decide) (by decide) (ls' := ls) (st' := st) (h' := h) (j := some a) (by show some (ls, (st, (h, if decide (z = 0) = true then some a else none))) = _; rw [if_pos (decide_eq_true q)]) (k1 q)
  · exact mt_op hc (by decide) (by decide) (ls' := ls) (st' := st) (h' := h) (j := none) (by show some (ls, (st, (h, if decide (z = 0) = true then some a else none))) = _; rw [if_neg (by rw [decide_eq_true_eq]; exact q)]) (k2 q)
theorem mu_if_ne {z : Int} (hc : mm_code y i = some (pc, (26, (a, b)))) (k1 : (¬ z = 0) → mt y a ls st h Q) (k2 : ¬ (¬ z = 0) → mt y (i + 1) ls st h Q) : mt y i ls (mm_I z :: st) h Q := by
  by_cases q : ¬ z = 0
  · exact mt_op hc (by decide) (by decide) (ls' := ls) (st' := st) (h' := h) (j := some a) (by show some (ls, (st, (h, if decide (¬ z = 0) = true then some a else none))) = _; rw [if_pos (decide_eq_true q)]) (k1 q)
  · exact mt_op hc (by decide) (by decide) (ls' := ls) (st' := st) (h' := h) (j := none) (by show some (ls, (st, (h, if decide (¬ z = 0) = true then some a else none))) = _; rw [if_neg (by rw [decide_eq_true_eq]; exact q)]) (k2 q)
theorem mu_if_lt {z : Int} (hc : mm_code y i = some (pc, (27, (a, b)))) (k1 : (z < 0) → mt y a ls st h Q) (k2 : ¬ (z < 0) → mt y (i + 1) ls st h Q) : mt y i ls (mm_I z :: st) h Q := by
  by_cases q : z < 0
  · exact mt_op hc (by decide) (by decide) (ls' := ls) (st' := st) (h' := h) (j := some a) (by show some (ls, (st, (h, if decide (z < 0) = true then some a else none))) = _; rw [if_pos (decide_eq_true q)]) (k1 q)
  · exact mt_op hc (by decide) (by decide) (ls' := ls) (st' := st) (h' := h) (j := none) (by show some (ls, (st, (h, if decide (z < 0) = true then some a else none))) = _; rw [if_neg (by rw [decide_eq_true_eq]; exact q)]) (k2 q)
theorem mu_if_ge {z : Int} (hc : mm_code y i = some (pc, (28, (a, b)))) (k1 : (0 ≤ z) → mt y a ls st h Q) (k2 : ¬ (0 ≤ z) → mt y (i + 1) ls st h Q) : mt y i ls (mm_I z :: st) h Q := by
  by_cases q : 0 ≤ z
  · exact mt_op hc (by decide) (by decide) (ls' := ls) (st' := st) (h' := h) (j := some a) (by show some (ls, (st, (h, if decide (0 ≤ z) = true then some a else none))) = _; rw [if_pos (decide_eq_true q)]) (k1 q)
  · exact mt_op hc (by decide) (by decide) (ls' := ls) (st' := st) (h' := h) (j := none) (by show some (ls, (st, (h, if decide (0 ≤ z) = true then some a else none))) = _; rw [if_neg (by rw [decide_eq_true_eq]; exact q)]) (k2 q)
theorem mu_if_gt {z : Int} (hc : mm_code y i = some (pc, (29, (a, b)))) (k1 : (0 < z) → mt y a ls st h Q) (k2 : ¬ (0 < z) → mt y (i + 1) ls st h Q) : mt y i ls (mm_I z :: st) h Q := by
  by_cases q : 0 < z
  · exact mt_op hc (by decide) (by decide) (ls' := ls) (st' := st) (h' := h) (j := some a) (by show some (ls, (st, (h, if decide (0 < z) = true then some a else none))) = _; rw [if_pos (decide_eq_true q)]) (k1 q)
  · exact mt_op hc (by decide) (by decide) (ls' := ls) (st' := st) (h' := h) (j := none) (by show some (ls, (st, (h, if decide (0 < z) = true then some a else none))) = _; rw [if_neg (by rw [decide_eq_true_eq]; exact q)]) (k2 q)
theorem mu_if_le {z : Int} (hc : mm_code y i = some (pc, (30, (a, b)))) (k1 : (z ≤ 0) → mt y a ls st h Q) (k2 : ¬ (z ≤ 0) → mt y (i + 1) ls st h Q) : mt y i ls (mm_I z :: st) h Q := by
  by_cases q : z ≤ 0
  · exact mt_op hc (by decide) (by decide) (ls' := ls) (st' := st) (h' := h) (j := some a) (by show some (ls, (st, (h, if decide (z ≤ 0) = true then some a else none))) = _; rw [if_pos (decide_eq_true q)]) (k1 q)
  · exact mt_op hc (by decide) (by decide) (ls' := ls) (st' := st) (h' := h) (j := none) (by show some (ls, (st, (h, if decide (z ≤ 0) = true then some a else none))) = _; rw [if_neg (by rw [decide_eq_true_eq]; exact q)]) (k2 q)
theorem mu_ic_eq {x9 y9 : Int} (hc : mm_code y i = some (pc, (31, (a, b)))) (k1 : (x9 = y9) → mt y a ls st h Q) (k2 : ¬ (x9 = y9) → mt y (i + 1) ls st h Q) : mt y i ls (mm_I y9 :: mm_I x9 :: st) h Q := by
  by_cases q : x9 = y9
  · exact mt_op hc (by decide) (by decide) (ls' := ls) (st' := st) (h' := h) (j := some a) (by show some (ls, (st, (h, if decide (x9 = y9) = true then some a else none))) = _; rw [if_pos (decide_eq_true q)]) (k1 q)
  · exact mt_op hc (by decide) (by decide) (ls' := ls) (st' := st) (h' := h) (j := none) (by show some (ls, (st, (h, if decide (x9 = y9) = true then some a else none))) = _; rw [if_neg (by rw [decide_eq_true_eq]; exact q)]) (k2 q)
theorem mu_ic_ne {x9 y9 : Int} (hc : mm_code y i = some (pc, (32, (a, b)))) (k1 : (¬ x9 = y9) → mt y a ls st h Q) (k2 : ¬ (¬ x9 = y9) → mt y (i + 1) ls st h Q) : mt y i ls (mm_I y9 :: mm_I x9 :: st) h Q := by
  by_cases q : ¬ x9 = y9
  · exact mt_op hc (by decide) (by decide) (ls' := ls) (st' := st) (h' := h) (j := some a) (by show some (ls, (st, (h, if decide (¬ x9 = y9) = true then some a else none))) = _; rw [if_pos (decide_eq_true q)]) (k1 q)
  · exact mt_op hc (by decide) (by decide) (ls' := ls) (st' := st) (h' := h) (j := none) (by show some (ls, (st, (h, if decide (¬ x9 = y9) = true then some a else none))) = _; rw [if_neg (by rw [decide_eq_true_eq]; exact q)]) (k2 q)
theorem mu_ic_lt {x9 y9 : Int} (hc : mm_code y i = some (pc, (33, (a, b)))) (k1 : (x9 < y9) → mt y a ls st h Q) (k2 : ¬ (x9 < y9) → mt y (i + 1) ls st h Q) : mt y i ls (mm_I y9 :: mm_I x9 :: st) h Q := by
  by_cases q : x9 < y9
  · exact mt_op hc (by decide) (by decide) (ls' := ls) (st' := st) (h' := h) (j := some a) (by show some (ls, (st, (h, if decide (x9 < y9) = true then some a else none))) = _; rw [if_pos (decide_eq_true q)]) (k1 q)
  · exact mt_op hc (by decide) (by decide) (ls' := ls) (st' := st) (h' := h) (j := none) (by show some (ls, (st, (h, if decide (x9 < y9) = true then some a else none))) = _; rw [if_neg (by rw [decide_eq_true_eq]; exact q)]) (k2 q)
theorem mu_ic_ge {x9 y9 : Int} (hc : mm_code y i = some (pc, (34, (a, b)))) (k1 : (y9 ≤ x9) → mt y a ls st h Q) (k2 : ¬ (y9 ≤ x9) → mt y (i + 1) ls st h Q) : mt y i ls (mm_I y9 :: mm_I x9 :: st) h Q := by
  by_cases q : y9 ≤ x9
  · exact mt_op hc (by decide) (by decide) (ls' := ls) (st' := st) (h' := h) (j := some a) (by show some (ls, (st, (h, if decide (y9 ≤ x9) = true then some a else none))) = _; rw [if_pos (decide_eq_true q)]) (k1 q)
  · exact mt_op hc (by decide) (by decide) (ls' := ls) (st' := st) (h' := h) (j := none) (by show some (ls, (st, (h, if decide (y9 ≤ x9) = true then some a else none))) = _; rw [if_neg (by rw [decide_eq_true_eq]; exact q)]) (k2 q)
theorem mu_ic_gt {x9 y9 : Int} (hc : mm_code y i = some (pc, (35, (a, b)))) (k1 : (y9 < x9) → mt y a ls st h Q) (k2 : ¬ (y9 < x9) → mt y (i + 1) ls st h Q) : mt y i ls (mm_I y9 :: mm_I x9 :: st) h Q := by
  by_cases q : y9 < x9
  · exact mt_op hc (by decide) (by decide) (ls' := ls) (st' := st) (h' := h) (j := some a) (by show some (ls, (st, (h, if decide (y9 < x9) = true then some a else none))) = _; rw [if_pos (decide_eq_true q)]) (k1 q)
  · exact mt_op hc (by decide) (by decide) (ls' := ls) (st' := st) (h' := h) (j := none) (by show some (ls, (st, (h, if decide (y9 < x9) = true then some a else none))) = _; rw [if_neg (by rw [decide_eq_true_eq]; exact q)]) (k2 q)
theorem mu_ic_le {x9 y9 : Int} (hc : mm_code y i = some (pc, (36, (a, b)))) (k1 : (x9 ≤ y9) → mt y a ls st h Q) (k2 : ¬ (x9 ≤ y9) → mt y (i + 1) ls st h Q) : mt y i ls (mm_I y9 :: mm_I x9 :: st) h Q := by
  by_cases q : x9 ≤ y9
  · exact mt_op hc (by decide) (by decide) (ls' := ls) (st' := st) (h' := h) (j := some a) (by show some (ls, (st, (h, if decide (x9 ≤ y9) = true then some a else none))) = _; rw [if_pos (decide_eq_true q)]) (k1 q)
  · exact mt_op hc (by decide) (by decide) (ls' := ls) (st' := st) (h' := h) (j := none) (by show some (ls, (st, (h, if decide (x9 ≤ y9) = true then some a else none))) = _; rw [if_neg (by rw [decide_eq_true_eq]; exact q)]) (k2 q)
theorem mu_get {r : Nat} {v : mm_V} (hc : mm_code y i = some (pc, (40, (a, b)))) (hv : mm_fv (mm_fld a) r D = some v) (k : mt y (i + 1) ls (v :: st) (mm_mk D u x) Q) : mt y i ls (mm_P r :: st) (mm_mk D u x) Q := by
  refine mt_op hc (by decide) (by decide) (ls' := ls) (st' := v :: st) (h' := mm_mk D u x) (j := none) ?_ k
  show mm_o_get (mm_fld a).1 (mm_fld a).2 ls (mm_P r :: st) (mm_mk D u x) = _
  unfold mm_fv at hv
  split at hv
  · rename_i hh
    unfold mm_o_get
    dsimp only
    rw [mm_mk_at D u x hh.1]
    have e : mm_cell (D r) u r = mm_ob (D r) u r := by unfold mm_cell; rw [hh.2.2]
    have e2 : mm_ob (D r) u r = mm_ob (D r) 0 r := by
      by_cases h30 : r = 30
      · subst h30
        have := hh.2.1
        simp [mm_ob] at this
        omega
      · have h8 := mm_cell_u (D r) u 0 h30 hh.1
        unfold mm_cell at h8
        rw [hh.2.2] at h8
        exact h8
    rw [e, e2]
    dsimp only
    rw [if_pos hh.2.1, hv]
  · cases hv
theorem mu_put {r : Nat} {z : Int} (hc : mm_code y i = some (pc, (41, (a, b)))) (hp : (mm_fld a, r) ∈ mm_pvT) (hz : (mm_fk (mm_fld a).1)[(mm_fld a).2]? = some 0 ∨ (mm_fk (mm_fld a).1)[(mm_fld a).2]? = some 1 ∧ (z = 0 ∨ z = 1)) (k : mt y (i + 1) ls st (mm_mk (mm_wr D r (mm_fld a).2 z) u x) Q) : mt y i ls (mm_I z :: mm_P r :: st) (mm_mk D u x) Q := by
  obtain ⟨e1, e2, e3, e4⟩ := mm_mk_put D u x (v := z) hp
  refine mt_op hc (by decide) (by decide) (ls' := ls) (st' := st) (j := none) ?_ k
  show mm_o_put (mm_fld a).1 (mm_fld a).2 ls (mm_I z :: mm_P r :: st) (mm_mk D u x) = _
  unfold mm_o_put
  dsimp only
  rw [mm_mk_at D u x e4]
  dsimp only
  rw [if_pos ⟨e2, e3, hz⟩, ← e1]
  rfl
theorem mu_iald {r n : Nat} {i9 : Int} (hc : mm_code y i = some (pc, (43, (a, b)))) (ha : mm_al r = some n) (h0 : 0 ≤ i9) (hn : i9 < n) (k : mt y (i + 1) ls (mm_I (D r i9) :: st) (mm_mk D u x) Q) : mt y i ls (mm_I i9 :: mm_P r :: st) (mm_mk D u x) Q := by
  refine mt_op hc (by decide) (by decide) (ls' := ls) (st' := mm_I (D r i9) :: st) (h' := mm_mk D u x) (j := none) ?_ k
  show mm_o_iald ls (mm_I i9 :: mm_P r :: st) (mm_mk D u x) = _
  have hr := mm_al_lt ha
  unfold mm_o_iald
  dsimp only
  rw [if_neg (by omega), if_neg (by omega), mm_mk_at D u x (by omega), mm_cell_al _ _ ha]
  have hlt : i9.toNat < n := by omega
  have e2 : ((List.range n).map fun j : Nat => mm_I (D r (j : Int)))[i9.toNat]? = some (mm_I (D r i9)) := by
    rw [List.getElem?_map, List.getElem?_range hlt]
    show some (mm_I (D r (i9.toNat : Int))) = _
    rw [Int.toNat_of_nonneg h0]
  show (match ((List.range n).map fun j : Nat => mm_I (D r (j : Int)))[i9.toNat]? with | some (.inl z) => some (ls, (mm_I z :: st, (mm_mk D u x, none))) | _ => none) = _
  rw [e2]
theorem mu_scr {i9 z : Int} (hc : mm_code y i = some (pc, (43, (a, b)))) (h0 : 0 ≤ i9) (hz : x.2.2[i9.toNat]? = some z) (k : mt y (i + 1) ls (mm_I z :: st) (mm_mk D u x) Q) : mt y i ls (mm_I i9 :: mm_P 999 :: st) (mm_mk D u x) Q := by
  refine mt_op hc (by decide) (by decide) (ls' := ls) (st' := mm_I z :: st) (h' := mm_mk D u x) (j := none) ?_ k
  show mm_o_iald ls (mm_I i9 :: mm_P 999 :: st) (mm_mk D u x) = _
  unfold mm_o_iald
  dsimp only
  rw [if_neg (by omega), if_pos rfl]
  show (match x.2.2[i9.toNat]? with | some z => some (ls, (mm_I z :: st, (mm_mk D u x, none))) | none => none) = _
  rw [hz]
theorem mu_iast {r n : Nat} {i9 z : Int} (hc : mm_code y i = some (pc, (44, (a, b)))) (ha : mm_al r = some n) (h0 : 0 ≤ i9) (hn : i9 < n) (k : mt y (i + 1) ls st (mm_mk (mm_wr D r i9 z) u x) Q) : mt y i ls (mm_I z :: mm_I i9 :: mm_P r :: st) (mm_mk D u x) Q := by
  refine mt_op hc (by decide) (by decide) (ls' := ls) (st' := st) (j := none) ?_ k
  show mm_o_iast ls (mm_I z :: mm_I i9 :: mm_P r :: st) (mm_mk D u x) = _
  have hr := mm_al_lt ha
  have e1 := mm_mk_ast D u x (v := z) ha h0 hn
  unfold mm_o_iast
  dsimp only
  rw [if_neg (by omega), mm_mk_at D u x (by omega), mm_cell_al _ _ ha]
  rw [mm_cell_al _ _ ha] at e1
  show (if i9.toNat < ((List.range n).map fun j : Nat => mm_I (D r (j : Int))).length then some (ls, (st, (((mm_mk D u x).1.set r (0, ((List.range n).map fun j : Nat => mm_I (D r (j : Int))).set i9.toNat (mm_I z)), x), (none : Option Nat)))) else none) = _
  rw [if_pos (by rw [List.length_map, List.length_range]; omega), e1]
theorem mu_lald {i9 : Int} (hc : mm_code y i = some (pc, (45, (a, b)))) (h0 : i9 = 0) (k : mt y (i + 1) ls (mm_L u :: st) (mm_mk D u x) Q) : mt y i ls (mm_I i9 :: mm_P 30 :: st) (mm_mk D u x) Q := by
  subst h0
  exact mt_op hc (by decide) (by decide) (ls' := ls) (st' := mm_L u :: st) (h' := mm_mk D u x) (j := none) rfl k
theorem mu_last {i9 z : Int} (hc : mm_code y i = some (pc, (46, (a, b)))) (h0 : i9 = 0) (k : mt y (i + 1) ls st (mm_mk D z x) Q) : mt y i ls (mm_L z :: mm_I i9 :: mm_P 30 :: st) (mm_mk D u x) Q := by
  subst h0
  refine mt_op hc (by decide) (by decide) (ls' := ls) (st' := st) (h' := mm_mk D z x) (j := none) ?_ k
  have e : ((mm_mk D u x).1.set 30 (1, [mm_L z]), x) = mm_mk D z x := mm_mk_set D D u z x (by decide) rfl (fun r h1 h2 => mm_cell_u _ _ _ h2 h1)
  rw [← e]
  rfl
theorem mu_aald {i9 : Int} {q : Nat} (hc : mm_code y i = some (pc, (47, (a, b)))) (h0 : 0 ≤ i9 ∧ i9 < 4) (hq : q = 2 + 2 * i9.toNat) (k : mt y (i + 1) ls (mm_P q :: st) (mm_mk D u x) Q) : mt y i ls (mm_I i9 :: mm_P 1 :: st) (mm_mk D u x) Q := by
  have h9 : i9 = 0 ∨ i9 = 1 ∨ i9 = 2 ∨ i9 = 3 := by omega
  subst hq
  refine mt_op hc (by decide) (by decide) (ls' := ls) (st' := _ :: st) (h' := mm_mk D u x) (j := none) ?_ k
  rcases h9 with rfl | rfl | rfl | rfl <;> rfl
theorem mu_alen {r n : Nat} (hc : mm_code y i = some (pc, (49, (a, b)))) (ha : mm_al r = some n) (k : mt y (i + 1) ls (mm_I n :: st) (mm_mk D u x) Q) : mt y i ls (mm_P r :: st) (mm_mk D u x) Q := by
  refine mt_op hc (by decide) (by decide) (ls' := ls) (st' := mm_I n :: st) (h' := mm_mk D u x) (j := none) ?_ k
  show mm_o_alen ls (mm_P r :: st) (mm_mk D u x) = _
  have hr := mm_al_lt ha
  unfold mm_o_alen
  dsimp only
  rw [if_neg (by omega), mm_mk_at D u x (by omega), mm_cell_al _ _ ha]
  dsimp only
  have hn : n < 1000000 := by
    unfold mm_al at ha
    split at ha <;> first | (cases ha; decide) | cases ha
  rw [if_pos ⟨by decide, by rw [List.length_map, List.length_range]; exact hn⟩, List.length_map, List.length_range]
theorem mu_alenW (hc : mm_code y i = some (pc, (49, (a, b)))) (k : mt y (i + 1) ls (mm_I 4 :: st) (mm_mk D u x) Q) : mt y i ls (mm_P 1 :: st) (mm_mk D u x) Q :=
  mt_op hc (by decide) (by decide) (ls' := ls) (st' := mm_I 4 :: st) (h' := mm_mk D u x) (j := none) rfl k
theorem mu_alenS (hc : mm_code y i = some (pc, (49, (a, b)))) (k : mt y (i + 1) ls (mm_I x.2.2.length :: st) (mm_mk D u x) Q) : mt y i ls (mm_P 999 :: st) (mm_mk D u x) Q :=
  mt_op hc (by decide) (by decide) (ls' := ls) (st' := mm_I x.2.2.length :: st) (h' := mm_mk D u x) (j := none) rfl k
theorem mu_max {x9 y9 : Int} (hc : mm_code y i = some (pc, (58, (a, b)))) (hl : st.length ≤ 4) (k : mt y (i + 1) ls (mm_I (if x9 < y9 then y9 else x9) :: st) h Q) : mt y i ls (mm_I y9 :: mm_I x9 :: st) h Q :=
  mt_op hc (by decide) (by decide) (ls' := ls) (st' := mm_I (if x9 < y9 then y9 else x9) :: st) (h' := h) (j := none) (by show (if st.length ≤ 4 then _ else none) = _; rw [if_pos hl]) k
theorem mu_min {x9 y9 : Int} (hc : mm_code y i = some (pc, (59, (a, b)))) (hl : st.length ≤ 4) (k : mt y (i + 1) ls (mm_I (if y9 < x9 then y9 else x9) :: st) h Q) : mt y i ls (mm_I y9 :: mm_I x9 :: st) h Q :=
  mt_op hc (by decide) (by decide) (ls' := ls) (st' := mm_I (if y9 < x9 then y9 else x9) :: st) (h' := h) (j := none) (by show (if st.length ≤ 4 then _ else none) = _; rw [if_pos hl]) k
end MU
end
