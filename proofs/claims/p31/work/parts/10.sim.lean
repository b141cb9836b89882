section MMC
variable {p : Program} {l : Launch} {e : Env} {R : Room} {s : State} {m : MethodId} {args : Array Value} {below : List Frame} {meth : Method} {c : Code} {H : Heap} {locs : List Loc} {cells slots : Nat} {Q : State → Prop}
variable {g : mm_G} {D : va_G} {y i pc op a : Nat} {b : Int} {ls ls' : mm_F} {st st' : List mm_V} {h h' : mm_H} {j : Option Nat} {rls : Array Slot} {n0 s0 L : Nat} {xs : Nat → Int32}
/-- a method's start and ends -/
def mm_Pc (g : mm_G) (D : va_G) (L : Nat) (xs : Nat → Int32) (av : List mm_V) (h : mm_H) : Array Value → State → Prop := fun v U => v = (av.map (mm_up g.1 g.2.1)).toArray ∧ mm_Rl g D h U.heap ∧ mm_K g D L xs U ∧ U.heap.size ≤ g.2.1 + h.2.1
def mm_Qc (g : mm_G) (D : va_G) (o : mm_O) (h' : mm_H) : Array Value → State → Outcome → State → Prop := fun _ st oc t => (∃ v : Option mm_V, o = .inl v ∧ oc = .returned (v.map (mm_up g.1 g.2.1)) ∧ mm_Rl g D h' t.heap ∧ ∀ w ∈ v, mm_ok w) ∧ va_F (mm_A g) st t
def mm_XC (g : mm_G) (D : va_G) (o : mm_O) (h' : mm_H) : String → State → State → Prop := fun E st t => (∃ k : Nat, o = .inr k ∧ E = mm_en k ∧ k < 3 ∧ mm_Rl g D h' t.heap) ∧ va_F (mm_A g) st t
theorem mm_blind (g : mm_G) (D : va_G) (L : Nat) (xs : Nat → Int32) (av : List mm_V) (h : mm_H) : FrameBlind (mm_Pc g D L xs av h) := fun a U gg mk q =>
  ⟨q.1, q.2.1, mm_K.move (U := U.calling gg mk a) (State.WarmedH.refl U) (Nat.le_refl _) (fun _ _ _ => rfl) q.2.2.1, q.2.2.2⟩
/-- what the run at fuel n says, the machine does -/
def mm_B (l : Launch) (n : Nat) : Prop := ∀ (y i : Nat) (ls : mm_F) (st : List mm_V) (h : mm_H) (o : mm_O) (h' : mm_H), mm_go n y i ls st h = some (o, h') →
  ∀ (p : Program) (e : Env) (R : Room) (s : State) (m : MethodId) (args : Array Value) (below : List Frame) (meth : Method) (c : Code) (g : mm_G) (D : va_G) (n0 s0 L : Nat) (xs : Nat → Int32) (mc ms : Nat),
    mm_X y l p R s m args meth c → mm_K g D L xs s → s.heap.size ≤ g.2.1 + n0 → mc + n0 = h'.2.1 → ms + s0 = h'.2.2.1 → mc ≤ R.cells → ms ≤ R.slots →
    mm_KK p l e R s m args below meth c (vx_MQ below (mm_Qc g D o h') (mm_XC g D o h') args s mc ms (mm_A g)) g D y n0 s0 L xs (mm_nx y i) ls st h
theorem mm_largs : ∀ (vs : List Value) (k i : Nat) (v : Value), (∀ w ∈ vs, w.category = 1) → vs[i]? = some v → (k + i, v) ∈ lv_args k vs
  | [], k, i, v, _, h => by simp at h
  | w :: vs, k, i, v, hc, h => by
    have h1 : ¬ w.category = 2 := by rw [hc w List.mem_cons_self]; decide
    rw [lv_args, if_neg h1]
    cases i with
    | zero =>
      rw [List.getElem?_cons_zero] at h
      cases h
      exact List.mem_cons_self
    | succ i =>
      rw [List.getElem?_cons_succ] at h
      have := mm_largs vs (k + 1) i v (fun x hx => hc x (List.mem_cons_of_mem _ hx)) h
      rw [show k + (i + 1) = k + 1 + i by omega]
      exact List.mem_cons_of_mem _ this
theorem mm_lsl : ∀ (vs : List Value), (∀ w ∈ vs, w.category = 1) → (lg_sl vs).length = vs.length
  | [], _ => rfl
  | w :: vs, hc => by
    have h1 : ¬ w.category = 2 := by rw [hc w List.mem_cons_self]; decide
    have := mm_lsl vs (fun x hx => hc x (List.mem_cons_of_mem _ hx))
    unfold lg_sl at this ⊢
    rw [List.flatMap_cons, if_neg h1, List.length_append, this]
    simp [Nat.add_comm]
theorem mm_cat1 {av : List mm_V} (hv : av.all mm_no2 = true) : ∀ w ∈ av.map (mm_up g.1 g.2.1), w.category = 1 := by
  intro w hw
  obtain ⟨v, hv2, rfl⟩ := List.mem_map.mp hw
  exact mm_cat (List.all_eq_true.mp hv v hv2)
/-- the locals at a method's entry -/
theorem mm_entry {av : List mm_V} {nL : Nat} (hv : av.all mm_no2 = true) (hok : ∀ v ∈ av, mm_ok v) (hl : av.length ≤ nL) :
    mm_LR g nL (av.map some ++ List.replicate (nL - av.length) none) ((lg_sl (av.map (mm_up g.1 g.2.1)) ++ List.replicate (nL - (lg_sl (av.map (mm_up g.1 g.2.1))).length) Slot.unset).toArray) := by
  have hc := mm_cat1 (g := g) hv
  have e1 := mm_lsl _ hc
  have h9 := lv_entry (av.map (mm_up g.1 g.2.1)) (n := nL) (by rw [e1, List.length_map]; exact hl)
  refine ⟨by simp; omega, h9.1, h9.2.1, fun i v hi => ?_⟩
  have hlt : i < av.length := by
    by_cases q : i < av.length
    · exact q
    · rw [List.getElem?_append_right (by rw [List.length_map]; omega), List.getElem?_replicate] at hi
      split at hi <;> cases hi
  rw [List.getElem?_append_left (by rw [List.length_map]; exact hlt), List.getElem?_map] at hi
  obtain ⟨w, hw, e⟩ := Option.map_eq_some_iff.mp hi
  cases e
  have hm := List.mem_of_getElem? hw
  refine ⟨?_, List.all_eq_true.mp hv v hm, hok v hm⟩
  have h8 := mm_largs (av.map (mm_up g.1 g.2.1)) 0 i (mm_up g.1 g.2.1 v) hc (by rw [List.getElem?_map, hw]; rfl)
  rw [Nat.zero_add] at h8
  exact h9.2.2 _ h8
theorem mm_nx0 : ∀ y, y < 85 → mm_nx y 0 = 0 := by decide +kernel
def mm_cw (y : Nat) : Cond := if mm_hh y = [] then Cond.code (mm_yn y) (mm_by y) (mm_mL y) (mm_rt y) else Cond.codeWith (mm_yn y) (mm_by y) (mm_mL y) (mm_rt y) (mm_hh y)
abbrev mm_wy (y : Nat) : List Cond := mm_cw y :: mm_w
theorem mm_cw_in {y : Nat} (hy : y < 84) : mm_cw y ∈ mm_w := by
  unfold mm_cw
  split
  · rename_i q; exact (mm_MA hy).1 q
  · rename_i q; exact (mm_MA hy).2.1 q
theorem mm_wy_good {y : Nat} (hy : y < 84) : GoodIn mm_w (mm_wy y) := fun w hw => (List.mem_cons.mp hw).elim (fun q => mm_ww w (by rw [q]; exact mm_cw_in hy)) (fun q => mm_ww w q)
/-- a method's contract out of its body's run -/
theorem mm_meth {n : Nat} (hB : mm_B l n) (hst : l.stackTraces = false) {av : List mm_V} {o : mm_O} (hy : y < 84) (hrun : mm_go n y 0 (av.map some ++ List.replicate (mm_mL y - av.length) none) [] h = some (o, h')) (hv : av.all mm_no2 = true) (hok : ∀ v ∈ av, mm_ok v) (hl : av.length ≤ mm_mL y) (hsc : h.2.2.2 = mm_scr L xs) {mc ms : Nat} (hmc : mc + h.2.1 = h'.2.1) (hms : ms + h.2.2.1 = h'.2.2.1) :
    vx_Met l (mm_yn y) (mm_wy y) { frames := mm_nF y, cells := mc, slots := ms, locals := mm_nL y } (mm_Pc g D L xs av h) (mm_Qc g D o h') (mm_XC g D o h') mc ms (mm_A g) := by
  obtain ⟨m1, m2, m3, m4, m5, m6, m7, m8⟩ := mm_MA hy
  have main : ∀ (p : Program) (e : Env) (s : State) (m : MethodId) (args : Array Value) (below : List Frame) (meth : Method) (c : Code) (s₁ : State), BodyLoose p l (mm_yn y) (headSpec (mm_wy y) { frames := mm_nF y, cells := mc, slots := ms, locals := mm_nL y }) (mm_by y) (mm_mL y) (mm_rt y) e s m args below meth c s₁ → c.maxLocals = mm_mL y → c.exceptionTable.toList = tableOf (mm_hh y) → mm_Pc g D L xs av h args s →
      W p l e (headSpec (mm_wy y) { frames := mm_nF y, cells := mc, slots := ms, locals := mm_nL y }).room s m args below meth c s.heap [] 0 0 (vx_MQ below (mm_Qc g D o h') (mm_XC g D o h') args s mc ms (mm_A g)) (entryFrame m args (mm_mL y)) := by
    intro p e s m args below meth c s₁ B hml htab hP
    obtain ⟨rfl, hR, K, hz⟩ := hP
    have hts := atoms_spec (ws := mm_wy y) B.pre
    have X : mm_X y l p { frames := mm_nF y, cells := mc, slots := ms, locals := mm_nL y } s m (av.map (mm_up g.1 g.2.1)).toArray meth c :=
      ⟨B.exec, B.bytes, hml, B.returns, B.notSynchronized, (name_of_methodNamed B.named B.method).1, by rw [m5]; exact findClass_of_methodNamed B.named, fun w hw => hts w (List.mem_cons_of_mem _ hw), htab, Nat.le_refl _, Nat.le_refl _, hst⟩
    have k := hB y 0 _ _ h o h' hrun p e { frames := mm_nF y, cells := mc, slots := ms, locals := mm_nL y } s m _ below meth c g D h.2.1 h.2.2.1 L xs mc ms X K hz hmc hms (Nat.le_refl _) (Nat.le_refl _)
    rw [mm_nx0 y (by omega)] at k
    have k2 := k s.heap [] 0 0 _ va_S.rf hR (mm_entry hv hok hl) (fun v hv => by cases hv) (Nat.zero_add _) (Nat.zero_add _) hsc
    rw [lg_entry_eq]
    exact k2
  by_cases q : mm_hh y = []
  · have ecw : mm_cw y = Cond.code (mm_yn y) (mm_by y) (mm_mL y) (mm_rt y) := if_pos q
    refine vx_ofW (cc := mm_by y) (maxL := mm_mL y) (ret := mm_rt y) (ws' := mm_w) m3 (by rw [← ecw]) ?_
    intro p e s m args below meth c s₁ B hml ht hP
    refine main p e s m args below meth c s₁ B hml ?_ hP
    rw [q]
    cases hl9 : c.exceptionTable.toList with
    | nil => rfl
    | cons x t => exact (ht x (by rw [hl9]; exact List.mem_cons_self)).elim
  · have ecw : mm_cw y = Cond.codeWith (mm_yn y) (mm_by y) (mm_mL y) (mm_rt y) (mm_hh y) := if_neg q
    refine vx_ofWH (cc := mm_by y) (maxL := mm_mL y) (ret := mm_rt y) (hh := mm_hh y) (ws' := mm_w) m3 (by rw [← ecw]) ?_
    intro p e s m args below meth c s₁ B hml hP
    refine main p e s m args below meth c s₁ B hml ?_ hP
    refine vx_table (x := mm_yn y) (y := mm_yn y) (bytes := mm_by y) (maxL' := mm_mL y) (ret' := mm_rt y) (hh := mm_hh y) B ?_
    have hts := atoms_spec (ws := mm_wy y) B.pre
    rw [← ecw]
    exact hts _ List.mem_cons_self
/-- behind a call -/
theorem mm_call {o1 : mm_O} {h1 : mm_H} {mc1 ms1 : Nat} {rest st0 : List Value} {av : Array Value} (hr : vx_Run p l e R s m args below meth c H locs cells slots mc1 ms1 (F0 m pc rls st0) rest (mm_Qc g D o1 h1 av) (mm_XC g D o1 h1) (mm_A g)) (hS : va_S (mm_A g) s.heap H locs)
    (kx : ∀ (k q9 : Nat) (ce : Cell) (H1 : Heap) (locs1 : List Loc), o1 = .inr k → k < 3 → va_S (mm_A g) s.heap H1 locs1 → mm_Rl g D h1 H1 → H1[q9]? = some ce → ce.vm = .none → s.vm.findClass (mm_en k) = some ce.cls → vx_W p l e R s m args below meth c H1 locs1 (cells + mc1) (slots + ms1) Q (F0 m pc rls rest) q9)
    (kk : ∀ (v : Option mm_V) (H1 : Heap) (locs1 : List Loc), o1 = .inl v → va_S (mm_A g) s.heap H1 locs1 → mm_Rl g D h1 H1 → (∀ w ∈ v, mm_ok w) → W p l e R s m args below meth c H1 locs1 (cells + mc1) (slots + ms1) Q (F0 m (pc + 3) rls ((v.map (mm_up g.1 g.2.1)).toList ++ rest))) :
    W p l e R s m args below meth c H locs cells slots Q (F0 m pc rls st0) := by
  intro T hT X
  rcases hr T hT X with ⟨v, st₀, t, T', L9, h0, X', hL, e1, e2, ⟨⟨v1, hv1, hv2, hp, hb⟩, hF⟩, st⟩ | ⟨q, st₀, t, T', L9, E, ce, h0, X', hL, e1, e2, ⟨⟨k, hk1, hk2, hk3, hp⟩, hF⟩, hce, hcv, hcl, st⟩
  · cases hv2
    obtain ⟨k1, k2, k3⟩ := vx_keep h0 e1 hS (fun _ _ z => z) (fun _ z => z) hL hF
    obtain ⟨t2, a1, b1⟩ := kk v1 T'.heap (locs ++ L9) hv1 k3 (by rw [e1]; exact hp) hb T' rfl X'
    exact ⟨t2, st t2 a1, b1⟩
  · subst hk2
    obtain ⟨k1, k2, k3⟩ := vx_keep h0 e1 hS (fun _ _ z => z) (fun _ z => z) hL hF
    obtain ⟨t2, a1, b1⟩ := kx k q ce T'.heap (locs ++ L9) hk1 hk3 k3 (by rw [e1]; exact hp) (by rw [e1]; exact hce) hcv hcl T' rfl X'
    exact ⟨t2, st.trans a1, b1⟩
theorem mm_callM {v0 : Option mm_V} {h1 : mm_H} {mc1 ms1 : Nat} {rest st0 : List Value} {av : Array Value} (hr : va_Run p l e R s m args below meth c H locs cells slots mc1 ms1 (F0 m pc rls st0) rest (mm_Qc g D (.inl v0) h1 av) (mm_A g)) (hS : va_S (mm_A g) s.heap H locs)
    (kk : ∀ (H1 : Heap) (locs1 : List Loc), va_S (mm_A g) s.heap H1 locs1 → mm_Rl g D h1 H1 → (∀ w ∈ v0, mm_ok w) → W p l e R s m args below meth c H1 locs1 (cells + mc1) (slots + ms1) Q (F0 m (pc + 3) rls ((v0.map (mm_up g.1 g.2.1)).toList ++ rest))) :
    W p l e R s m args below meth c H locs cells slots Q (F0 m pc rls st0) := by
  intro T hT X
  obtain ⟨v, st₀, t, T', L9, h0, X', hL, e1, e2, ⟨⟨v1, hv1, hv2, hp, hb⟩, hF⟩, st⟩ := hr T hT X
  cases hv1
  cases hv2
  obtain ⟨k1, k2, k3⟩ := vx_keep h0 e1 hS (fun _ _ z => z) (fun _ z => z) hL hF
  obtain ⟨t2, a1, b1⟩ := kk T'.heap (locs ++ L9) k3 (by rw [e1]; exact hp) hb T' rfl X'
  exact ⟨t2, st t2 a1, b1⟩
theorem mm_toMet {ws : List Cond} {rm : Room} {Pc : Array Value → State → Prop} {v0 : Option mm_V} {h1 : mm_H} {mc ms : Nat} {yn : MethodName} (hM : vx_Met l yn ws rm Pc (mm_Qc g D (.inl v0) h1) (mm_XC g D (.inl v0) h1) mc ms (mm_A g)) : Met l yn ws rm Pc (mm_Qc g D (.inl v0) h1) mc ms (mm_A g) := by
  intro p e ha hc hk s m args below hf happ hP hT
  obtain ⟨k, o, z1, z2, z3, hQ⟩ := hM p e ha hc hk s m args below hf happ hP hT
  refine ⟨k, o, z1, z2, z3, ?_⟩
  rcases hQ with hQ | ⟨q, -, E, ce, L9, ⟨⟨k9, hk9, -⟩, -⟩, -⟩
  · exact hQ
  · cases hk9
end MMC
