def R_law : String := "SuffixWrightLaw"
def lw_P (b : Addr) (xs : List Int32) (args : Array Value) (s : State) : Prop := args = #[.ref b] ∧ s.IntsAt b xs ∧ xs.length ≤ 260 ∧ (Jvm.Cond.and given_1 narrow_1).before args s = true
def lw_Q (_ : Array Value) (s : State) (o : Outcome) (t : State) : Prop := o = .returned (some (.int 1)) ∧ Framed s o t [] 600130 7301079
def lw_Z (below : List Frame) (a : Array Value) (s : State) : State → Prop := fun t => ∃ o, t.status = .running ∧ Ended t below o ∧ lw_Q a s o t
/-- the law's own end, with 1 on the stack, nothing written that was there before, its room as the claim has it -/
theorem lw_ret {p : Program} {l : Launch} {e : Env} {s : State} {m : MethodId} {below : List Frame} {meth : Method} {c : Code} {b : Nat} (hx : p.tables.exec = Jvm.exec) (hb : c.code = code) (hr : meth.sig.returnType = ret) (hlocks : meth.locks = false) {pc : Nat} {H : Heap} {ls : Array Slot} (hdg : decode code pc = .ok (.ireturn, 1)) : W p l e room_1 s m #[Value.ref b] below meth c H [] 600130 7301079 (lw_Z below #[Value.ref b] s) (F0 m pc ls [.int 1]) := by
  intro T hT X
  obtain ⟨fs, hret, hrun, hended, hW, hframe⟩ := X.leave (v := some (.int 1)) (hlocks := hlocks) (fun h => by rw [hr] at h; cases h)
  have hmeth' : T.vm.method? m = some meth := X.method'
  refine ⟨T.setFrames fs, ?_, .returned (some (.int 1)), hrun, hended, rfl, ⟨_, rfl⟩, hW, hframe⟩
  jvm_step X.here [X.here.top, hx, hb, hdg, hmeth', hr, ret, narrow_b1]
  (try refine ⟨rfl, ?_⟩); (try refine ⟨rfl, ?_⟩)
  first | (intro acts; rw [hret _ acts rfl rfl rfl]) | rw [hret _ _ rfl rfl rfl]
  exact Steps.refl _
/-- what holds at the law's entry: the machine, the code, the tables' words (any of lw_tbl by 'hts w (by decide +kernel)'), the script of L ints xs at the cell b, what the Statement gives of the start (any of its parts by flat_of_before) -/
def lw_At (p : Program) (s : State) (m : MethodId) (meth : Method) (c : Code) (b L : Nat) (xs : Nat → Int32) : Prop :=
  p.tables.exec = Jvm.exec ∧ c.code = code ∧ meth.sig.returnType = ret ∧ c.maxLocals = 6 ∧ s.vm.findClass R_law = some m.cls ∧ (∀ w ∈ lw_tbl, w.before #[Value.ref b] s = true) ∧ va_X b L xs s s.heap ∧ b < s.heap.size ∧ meth.locks = false ∧ (Jvm.Cond.and given_1 narrow_1).before #[Value.ref b] s = true
theorem mm_insA : ∀ ci, ci < 5 → Cond.instantiable (mm_cl ci).1 (mm_cl ci).2.2 ∈ mm_w := lt_s (lt_s (lt_s (lt_s (lt_s lt_0 ((mm_NA (2, 50, 9, 0) (by decide)).1 rfl).2.2.1) ((mm_NA (0, 50, 9, 1) (by decide)).1 rfl).2.2.1) ((mm_NA (4, 50, 22, 2) (by decide)).1 rfl).2.2.1) ((mm_NA (4, 50, 9, 3) (by decide)).1 rfl).2.2.1) ((mm_NA (6, 50, 11, 4) (by decide)).1 rfl).2.2.1
/-- THE PURE CLAIM: the law's run, in MM -/
def mm_LAW : Prop := ∀ scr : List Int, scr.length ≤ 260 → (∀ z ∈ scr, mm_rng z) → ∃ (n : Nat) (h' : mm_H), mm_go n 84 0 ([mm_P 999].map some ++ List.replicate (6 - [mm_P 999].length) none) [] ([], (0, (0, 0 :: scr))) = some (.inl (some (mm_I 1)), h') ∧ h'.2.1 ≤ 600130 ∧ h'.2.2.1 ≤ 7301079
theorem mm_forget {s t : State} {Ls : List Loc} {mc ms k n : Nat} (h : s.sameButNew ({ t with vm := s.vm } : State) Ls mc ms) (hL : ∀ q ∈ Ls, s.heap.size ≤ q.base) (h1 : mc ≤ k) (h2 : ms ≤ n) : s.sameButNew ({ t with vm := s.vm } : State) [] k n := by
  obtain ⟨e1, e2, e3, e4, e5, e6⟩ := h
  refine ⟨e1, e2, by omega, e4, by omega, fun a c hc => ?_⟩
  obtain ⟨c', q1, q2, q3, q4⟩ := e6 a c hc
  refine ⟨c', q1, q2, q3, fun i _ => q4 i (fun hm => ?_)⟩
  have h3 := hL _ hm
  have h4 : a < s.heap.size := (Array.getElem?_eq_some_iff.mp hc).1
  have h5 : s.heap.size ≤ a := h3
  exact Nat.not_lt.mpr h5 h4
set_option maxHeartbeats 4000000 in
theorem whole_start (hLAW : mm_LAW) {p : Program} {e : Env} {s : State} {m : MethodId} {below : List Frame} {meth : Method} {c : Code} (l : Launch) (hflags : l.flags = flags0) {b L : Nat} {xs : Nat → Int32} (hL : L ≤ 260) (C0 : lw_At p s m meth c b L xs) (hname : meth.name = "law") (htab : c.exceptionTable.toList = []) : W p l e room_1 s m #[Value.ref b] below meth c s.heap [] 0 0 (lw_Z below #[Value.ref b] s) (entryFrame m ([Value.ref b] : List Value).toArray 6) := by
  obtain ⟨hx, hb, hr, hml, hown, hts, hX, hbl, hlocks, hgv⟩ := id C0
  have htr : l.stackTraces = false := by
    rw [Launch.stackTraces, hflags]
    decide +kernel
  have htw : ∀ w ∈ mm_w, w.before #[Value.ref b] s = true := fun w hw => hts w (List.mem_filter.mp hw).1
  have hfl := flat_of_before _ hgv
  have hC : ∀ ci, ∃ (cC : ClassId) (iS : Nat → Nat), ci < 5 → u_Kn s (mm_cl ci).1 (mm_cl ci).2.1 (mm_cl ci).2.2 cC iS := by
    intro ci
    by_cases h6 : ci < 5
    · obtain ⟨cC, iS, hK⟩ := u_known (C := (mm_cl ci).1) (T := (mm_cl ci).2.1) (N := (mm_cl ci).2.2) (n := (mm_cl ci).2.2) htw (mm_CA ci h6).2.1 (htw _ (mm_insA ci h6))
      exact ⟨cC, iS, fun _ => hK⟩
    · exact ⟨m.cls, fun _ => 0, fun h => absurd h h6⟩
  obtain ⟨D, hD⟩ : ∃ D : va_G, ∀ (k : Nat) (q : vw_C), vwCl[k]? = some q → u_Kn s q.1 q.2.1 q.2.2 (D.1 k) (D.2 k) := by
    refine ⟨(fun k => Classical.choose (hC k), fun k => Classical.choose (Classical.choose_spec (hC k))), fun k q hq => ?_⟩
    have h6 : k < 5 := (List.getElem?_eq_some_iff.mp hq).1
    have e1 := (mm_CA k h6).1
    have e2 : q = mm_cl k := Option.some.inj (hq.symm.trans e1)
    rw [e2]
    exact Classical.choose_spec (Classical.choose_spec (hC k)) h6
  obtain ⟨cI, kI, cpI, i1, i2, i3⟩ := Cond.arrayClass_spec (htw _ mm_wAr)
  obtain ⟨cL, kL, cpL, l1, l2, l3⟩ := Cond.arrayClass_spec (htw _ mm_wAr)
  obtain ⟨cpW, cW, kW, w1, w2, w3, w4, w5⟩ := Cond.arrayOver_spec (hts _ mm_aoW)
  have hKt : va_K D vwCl (mm_tys (b, (s.heap.size, (cI, (cL, cW))))) s := by
    refine ⟨hD, fun k q hq => ?_⟩
    match k, hq with
    | 0, hq => cases hq; exact ⟨fun n z => ⟨fun k h => (by cases h), kI, i2, cpI, i3⟩, i1⟩
    | 1, hq => cases hq; exact ⟨fun n z => ⟨fun k h => (by cases h), kL, l2, cpL, l3⟩, l1⟩
    | 2, hq => cases hq; exact ⟨fun n z => ⟨fun k h => (by cases h), kW, w3, cpW, w4⟩, kW, cpW, w3, w4, w1, w5⟩
    | k + 3, hq => simp [mm_tys] at hq
  have hnA : ∀ a : Nat, a < s.heap.size → ¬ mm_A (b, (s.heap.size, (cI, (cL, cW)))) a := fun a ha => Nat.not_le.mpr ha
  have hini : (Cond.initialized Bundle.tN).before #[Value.ref b] s = true := hts _ (List.mem_of_getElem? (i := 22) (by decide +kernel))
  have K : mm_K (b, (s.heap.size, (cI, (cL, cW)))) D L xs s := by
    refine ⟨hKt, vx_Zqof (hts _ (List.mem_of_getElem? (i := 245) (by decide +kernel))) hini (hfl _ (by decide +kernel)) hnA, vx_Zqof (hts _ (List.mem_of_getElem? (i := 247) (by decide +kernel))) hini (hfl _ (by decide +kernel)) hnA, fun a ha => ?_, fun E hE w hw => ?_, ?_, fun q hq => va_Nw.of rfl (hts _ (mm_nestW q hq)), va_AO.of (hts _ mm_aoW), hX, hbl, Nat.le_refl _, hL⟩
    · have h1 := hts _ (mm_strA ha)
      have h0 : ∃ cur, s.vm.findClass RX4 = some cur := ⟨_, (hD 4 _ rfl).2.1⟩
      obtain ⟨cur, hcur⟩ := h0
      obtain ⟨-, -, -, sa, -, -, -, -, -, hev⟩ := Cond.stringRef_spec hcur h1
      exact ⟨sa, vk_R.of h1 hev⟩
    · refine va_Nw.of (mm_badT w hw) (hts _ ?_)
      unfold mm_bad at hw
      rcases List.mem_cons.mp hw with rfl | hw
      · exact mm_castW E hE
      rcases List.mem_cons.mp hw with rfl | hw
      · exact mm_decW0
      rcases List.mem_cons.mp hw with rfl | hw
      · exact mm_decW1
      rcases List.mem_cons.mp hw with rfl | hw
      · exact mm_decW2
      cases hw
    · trivial
  obtain ⟨n, h', hrun, hc1, hc2⟩ := hLAW ((List.range L).map fun j => (xs j).toInt) (by rw [List.length_map, List.length_range]; exact hL) (fun z hz => by
    obtain ⟨j, -, rfl⟩ := List.mem_map.mp hz
    exact mm_rT _)
  have X : mm_X 84 l p room_1 s m #[Value.ref b] meth c := ⟨hx, hb, hml, hr, hlocks, hname, hown, htw, htab, by decide +kernel, by decide +kernel, htr⟩
  have hsr : ∀ z ∈ mm_scr L xs, mm_rng z := by
    intro z hz
    unfold mm_scr at hz
    rcases List.mem_cons.mp hz with rfl | hz
    · exact mm_rng0
    obtain ⟨j, -, rfl⟩ := List.mem_map.mp hz
    exact mm_rT _
  have hR0 : mm_Rl (b, (s.heap.size, (cI, (cL, cW)))) D ([], (0, (0, mm_scr L xs))) s.heap := ⟨fun k q hk => by simp [mm_ws] at hk, Nat.zero_le _, (fun c hc => absurd hc List.not_mem_nil), hsr⟩
  have hok0 : ∀ v ∈ [mm_P 999], mm_ok v := by
    intro v hv
    rcases List.mem_cons.mp hv with rfl | hv
    · trivial
    · cases hv
  have k := mm_all n 84 0 _ _ _ _ h' hrun p e room_1 s m #[Value.ref b] below meth c (b, (s.heap.size, (cI, (cL, cW)))) D 0 0 L xs h'.2.1 h'.2.2.1 X K (Nat.le_refl _) rfl rfl hc1 hc2 s.heap [] 0 0 _ va_S.rf hR0 (mm_entry (nL := 6) (av := [mm_P 999]) rfl hok0 (by decide)) (fun v hv => by cases hv) rfl rfl rfl
  rw [mm_nx0 84 (by decide)] at k
  rw [lg_entry_eq]
  intro T hT X9
  obtain ⟨t, a1, o, b1, b2, b3⟩ := k T hT X9
  refine ⟨t, a1, o, b1, b2, ?_⟩
  rcases b3 with ⟨⟨⟨v, hv, ho, -, -⟩, -⟩, Ls, ⟨f1, f2, f3⟩, hLs⟩ | ⟨q, -, E, ce, L9, ⟨⟨k9, hk9, -⟩, -⟩, -⟩
  · cases hv
    exact ⟨ho, f1, f2, mm_forget f3 (fun q hq => hLs q hq) hc1 hc2⟩
  · cases hk9
