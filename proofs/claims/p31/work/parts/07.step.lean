/-! what holds of the tables and of what nobody writes, at a method's entry -/
def mm_scr (L : Nat) (xs : Nat → Int32) : List Int := 0 :: (List.range L).map fun j => (xs j).toInt
def mm_K (g : mm_G) (D : va_G) (L : Nat) (xs : Nat → Int32) (s : State) : Prop :=
  va_K D vwCl (mm_tys g) s ∧ vx_Zq Bundle.tN "UNASSIGNED_STACK" Bundle.steD (mm_A g) s s.heap ∧ vx_Zq Bundle.tN "SUPPRESSED_SENTINEL" Bundle.listD (mm_A g) s s.heap ∧
  (∀ a, a < mm_thrT.length → ∃ sa, vk_R RX4 (mm_th a).2.1 (mm_th a).2.2.2.2 sa s) ∧ (∀ E, E < 3 → ∀ w ∈ mm_bad (mm_en E), va_Nw w s) ∧
  True ∧ (∀ q ∈ mm_nestT, va_Nw (Cond.methodLinkNest (mm_cn q.1) q.2 yX4_within RX4) s) ∧
  va_AO RX3 s ∧ va_X g.1 L xs s s.heap ∧ g.1 < g.2.1 ∧ g.2.1 ≤ s.heap.size ∧ L ≤ 260
theorem mm_K.move {g : mm_G} {D : va_G} {L : Nat} {xs : Nat → Int32} {s U : State} (hW : s.WarmedH U.vm) (hz : s.heap.size ≤ U.heap.size) (hq : ∀ q : Nat, q < s.heap.size → ¬ mm_A g q → U.heap[q]? = s.heap[q]?) (h : mm_K g D L xs s) : mm_K g D L xs U := by
  obtain ⟨h1, h2, h3, h4, h5, h6, h7, h8, h9, h10, h11, h12⟩ := h
  refine ⟨va_K.moved hW.alike h1, vx_Zq.moved hW.alike (h2.kept hq), vx_Zq.moved hW.alike (h3.kept hq), fun a ha => ?_, fun E hE w hw => ?_, h6, fun q hq => va_Nw.warmM hW (h7 q hq), va_AO.moved hW.alike h8, ?_, h10, Nat.le_trans h11 hz, h12⟩
  · obtain ⟨sa, h⟩ := h4 a ha
    exact ⟨sa, vk_R.warm hW h⟩
  · have hz := h5 E hE w hw
    unfold mm_bad at hw
    rcases List.mem_cons.mp hw with rfl | hw
    · exact va_Nw.warmC hW hz
    rcases List.mem_cons.mp hw with rfl | hw
    · exact va_Nw.warmD hW hz
    rcases List.mem_cons.mp hw with rfl | hw
    · exact va_Nw.warmD hW hz
    rcases List.mem_cons.mp hw with rfl | hw
    · exact va_Nw.warmD hW hz
    cases hw
  · exact va_X.moved hW.alike (h9.kept (hq _ (Nat.lt_of_lt_of_le h10 h11) (Nat.not_le.mpr h10)))
/-- what holds of the method that runs -/
def mm_X (y : Nat) (l : Launch) (p : Program) (R : Room) (s : State) (m : MethodId) (args : Array Value) (meth : Method) (c : Code) : Prop :=
  p.tables.exec = Jvm.exec ∧ c.code = mm_by y ∧ c.maxLocals = mm_mL y ∧ meth.sig.returnType = mm_rt y ∧ meth.locks = false ∧ meth.name = (mm_yn y).name ∧ s.vm.findClass (mm_cn (mm_own y)) = some m.cls ∧ (∀ w ∈ mm_w, w.before args s = true) ∧ c.exceptionTable.toList = tableOf (mm_hh y) ∧ mm_nF y ≤ R.frames ∧ mm_nL y ≤ R.locals ∧ l.stackTraces = false
theorem mm_okc {v : mm_V} {st : List mm_V} (hv : mm_ok v) (h : ∀ w ∈ st, mm_ok w) : ∀ w ∈ v :: st, mm_ok w := fun w hw => (List.mem_cons.mp hw).elim (fun e => e ▸ hv) (h w)
theorem mm_okt {v : mm_V} {st : List mm_V} (h : ∀ w ∈ v :: st, mm_ok w) : mm_ok v ∧ ∀ w ∈ st, mm_ok w := ⟨h v List.mem_cons_self, fun w hw => h w (List.mem_cons_of_mem _ hw)⟩
theorem mm_and_r (x y : Int) : mm_rng (mm_and x y) := mm_rT _
theorem mm_or_r (x y : Int) : mm_rng (mm_or x y) := mm_rT _
theorem mm_okB_dec {y i : Nat} {pc op a : Nat} {b : Int} (hc : mm_code y i = some (pc, (op, (a, b)))) (h : ¬ op = 111) : decode (mm_by y) pc = .ok (mm_ins op a b) ∧ (¬ (op = 24 ∨ op = 56 ∨ (100 ≤ op ∧ op ≤ 104)) → mm_nx y (i + 1) = pc + (mm_ins op a b).2) ∧ (24 ≤ op ∧ op ≤ 38 → (pc : Int) + b = (mm_nx y a : Int)) ∧ (op = 3 ∨ op = 5 ∨ op = 7 ∨ op = 9 → a < 4) ∧ (40 ≤ op ∧ op ≤ 42 → (mm_fd a).2.1 = mm_own y ∧ a < mm_fldT.length) ∧
    (105 ≤ op ∧ op ≤ 108 → (mm_sd a).2.1 = mm_own y ∧ (mm_sd a).2.2.2 = op ∧ a < mm_siteT.length ∧ mm_nF (mm_sd a).1.1 + 1 ≤ mm_nF y ∧ 8 + (mm_mL (mm_sd a).1.1 + 11) + mm_nL (mm_sd a).1.1 ≤ mm_nL y) ∧ (57 ≤ op ∧ op ≤ 59 → 1 ≤ mm_nF y ∧ 21 ≤ mm_nL y) ∧
    (op = 104 → 6 ≤ mm_nF y ∧ 82 ≤ mm_nL y ∧ a < mm_thrT.length ∧ mm_own y = 4 ∧ (mm_th a).2.2.2.1 = b.toNat ∧ mm_hh y = [] ∧ decode (mm_by y) (pc + 3) = .ok (.dup, 1) ∧ decode (mm_by y) (pc + 4) = .ok (.ldc (mm_th a).2.1, 2) ∧ decode (mm_by y) (pc + 6) = .ok (.invokespecial (mm_th a).2.2.1, 3) ∧ decode (mm_by y) (pc + 9) = .ok (.athrow, 1)) ∧
    (op = 100 → mm_rt y = some .int) ∧ (op = 101 → mm_rt y = some .boolean) ∧ (op = 102 → mm_rt y = some (.object RX3)) ∧ (op = 103 → mm_rt y = none) := by
  have hk := (mm_okA hc).1
  unfold mm_okB at hk
  dsimp only at hk
  rw [if_neg h] at hk
  simp only [Bool.and_eq_true] at hk
  obtain ⟨⟨⟨⟨⟨⟨⟨⟨⟨⟨⟨k1, k2⟩, k3⟩, k4⟩, k5⟩, k6⟩, k7⟩, k8⟩, k9⟩, k10⟩, k11⟩, k12⟩ := hk
  refine ⟨of_decide_eq_true k1, fun q => ?_, fun q => ?_, fun q => ?_, fun q => ?_, fun q => ?_, fun q => ?_, fun q => ?_, fun q => ?_, fun q => ?_, fun q => ?_, fun q => ?_⟩
  · rw [if_neg q] at k2; exact of_decide_eq_true k2
  · rw [if_pos q] at k3; exact of_decide_eq_true k3
  · rw [if_pos q] at k4; exact of_decide_eq_true k4
  · rw [if_pos q] at k5; exact of_decide_eq_true k5
  · rw [if_pos q] at k6; exact of_decide_eq_true k6
  · rw [if_pos q] at k7; exact of_decide_eq_true k7
  · rw [if_pos q] at k8; exact of_decide_eq_true k8
  · rw [if_pos q] at k9; exact of_decide_eq_true k9
  · rw [if_pos q] at k10; exact of_decide_eq_true k10
  · rw [if_pos q] at k11; exact of_decide_eq_true k11
  · rw [if_pos q] at k12; exact of_decide_eq_true k12
theorem mm_bA : mm_codeT.all (fun l => l.all (fun q => decide ((q.2.1 = 1 → (Int8.ofInt q.2.2.2).toInt32 = Int32.ofInt q.2.2.2) ∧ (q.2.1 = 2 → (Int16.ofInt q.2.2.2).toInt32 = Int32.ofInt q.2.2.2)))) = true := by decide +kernel
theorem mm_bB {y i : Nat} {q : mm_E} (h : mm_code y i = some q) : (q.2.1 = 1 → (Int8.ofInt q.2.2.2).toInt32 = Int32.ofInt q.2.2.2) ∧ (q.2.1 = 2 → (Int16.ofInt q.2.2.2).toInt32 = Int32.ofInt q.2.2.2) := by
  unfold mm_code at h
  cases hy : mm_codeT[y]? with
  | none => rw [hy] at h; cases h
  | some l =>
    rw [hy] at h
    have h1 := List.all_eq_true.mp mm_bA l (List.mem_of_getElem? hy)
    exact of_decide_eq_true (List.all_eq_true.mp h1 q (List.mem_of_getElem? h))
theorem mm_b8 {y i pc a : Nat} {b : Int} (h : mm_code y i = some (pc, (1, (a, b)))) : (Int8.ofInt b).toInt32 = Int32.ofInt b := (mm_bB h).1 rfl
theorem mm_b16 {y i pc a : Nat} {b : Int} (h : mm_code y i = some (pc, (2, (a, b)))) : (Int16.ofInt b).toInt32 = Int32.ofInt b := (mm_bB h).2 rfl
section MMS
variable {p : Program} {l : Launch} {e : Env} {R : Room} {s : State} {m : MethodId} {args : Array Value} {below : List Frame} {meth : Method} {c : Code} {H : Heap} {locs : List Loc} {cells slots : Nat} {Q : State → Prop}
variable {g : mm_G} {D : va_G} {y i pc op a : Nat} {b : Int} {ls ls' : mm_F} {st st' : List mm_V} {h h' : mm_H} {j : Option Nat} {rls : Array Slot} {n0 s0 L : Nat} {xs : Nat → Int32}
/-- what the rest of the run may take as given -/
def mm_KK (p : Program) (l : Launch) (e : Env) (R : Room) (s : State) (m : MethodId) (args : Array Value) (below : List Frame) (meth : Method) (c : Code) (Q : State → Prop) (g : mm_G) (D : va_G) (y n0 s0 L : Nat) (xs : Nat → Int32) (pc : Nat) (ls : mm_F) (st : List mm_V) (h : mm_H) : Prop :=
  ∀ (H : Heap) (locs : List Loc) (cells slots : Nat) (rls : Array Slot), va_S (mm_A g) s.heap H locs → mm_Rl g D h H → mm_LR g (mm_mL y) ls rls → (∀ v ∈ st, mm_ok v) → cells + n0 = h.2.1 → slots + s0 = h.2.2.1 → h.2.2.2 = mm_scr L xs →
    W p l e R s m args below meth c H locs cells slots Q (F0 m pc rls (st.map (mm_up g.1 g.2.1)))
theorem mm_step_iconst (hc : mm_code y i = some (pc, (0, (a, b)))) (hop : mm_op mm_fld 0 a b ls st h = some (ls', (st', (h', j)))) (X : mm_X y l p R s m args meth c) (K : mm_K g D L xs s) (hS : va_S (mm_A g) s.heap H locs) (hR : mm_Rl g D h H) (hL : mm_LR g (mm_mL y) ls rls) (hst : ∀ v ∈ st, mm_ok v) (hcc : cells + n0 = h.2.1) (hss : slots + s0 = h.2.2.1) (hsc : h.2.2.2 = mm_scr L xs) (hz0 : s.heap.size ≤ g.2.1 + n0) (rc : h'.2.1 ≤ R.cells + n0) (rs : h'.2.2.1 ≤ R.slots + s0)
    (kk : mm_KK p l e R s m args below meth c Q g D y n0 s0 L xs (mm_nx y (j.getD (i + 1))) ls' st' h') : W p l e R s m args below meth c H locs cells slots Q (F0 m pc rls (st.map (mm_up g.1 g.2.1))) := by
  obtain ⟨hx, hb, hml, -, -, hnm, hown, hts, -, hnF, hnL, -⟩ := X
  obtain ⟨hd, hn, hj, ha4, hfo, -, hroom, -⟩ := mm_okB_dec hc (by decide)
  have hn := hn (by decide)
  replace hop : (if mm_rng b then some (ls, (mm_I b :: st, (h, none))) else none) = some (ls', (st', (h', j))) := hop
  by_cases hr : mm_rng b
  · rw [if_pos hr] at hop
    cases hop
    have k := kk H locs cells slots rls hS hR hL (mm_okc hr hst) hcc hss hsc
    rw [show (none : Option Nat).getD (i + 1) = i + 1 from rfl, hn] at k
    exact lv_iconst hx hb hd rfl k
  · rw [if_neg hr] at hop
    cases hop

theorem mm_step_bipush (hc : mm_code y i = some (pc, (1, (a, b)))) (hop : mm_op mm_fld 1 a b ls st h = some (ls', (st', (h', j)))) (X : mm_X y l p R s m args meth c) (K : mm_K g D L xs s) (hS : va_S (mm_A g) s.heap H locs) (hR : mm_Rl g D h H) (hL : mm_LR g (mm_mL y) ls rls) (hst : ∀ v ∈ st, mm_ok v) (hcc : cells + n0 = h.2.1) (hss : slots + s0 = h.2.2.1) (hsc : h.2.2.2 = mm_scr L xs) (hz0 : s.heap.size ≤ g.2.1 + n0) (rc : h'.2.1 ≤ R.cells + n0) (rs : h'.2.2.1 ≤ R.slots + s0)
    (kk : mm_KK p l e R s m args below meth c Q g D y n0 s0 L xs (mm_nx y (j.getD (i + 1))) ls' st' h') : W p l e R s m args below meth c H locs cells slots Q (F0 m pc rls (st.map (mm_up g.1 g.2.1))) := by
  obtain ⟨hx, hb, hml, -, -, hnm, hown, hts, -, hnF, hnL, -⟩ := X
  obtain ⟨hd, hn, hj, ha4, hfo, -, hroom, -⟩ := mm_okB_dec hc (by decide)
  have hn := hn (by decide)
  replace hop : (if mm_rng b then some (ls, (mm_I b :: st, (h, none))) else none) = some (ls', (st', (h', j))) := hop
  by_cases hr : mm_rng b
  · rw [if_pos hr] at hop
    cases hop
    have k := kk H locs cells slots rls hS hR hL (mm_okc hr hst) hcc hss hsc
    rw [show (none : Option Nat).getD (i + 1) = i + 1 from rfl, hn] at k
    exact lv_bipush hx hb hd (mm_b8 hc) k
  · rw [if_neg hr] at hop
    cases hop

theorem mm_step_sipush (hc : mm_code y i = some (pc, (2, (a, b)))) (hop : mm_op mm_fld 2 a b ls st h = some (ls', (st', (h', j)))) (X : mm_X y l p R s m args meth c) (K : mm_K g D L xs s) (hS : va_S (mm_A g) s.heap H locs) (hR : mm_Rl g D h H) (hL : mm_LR g (mm_mL y) ls rls) (hst : ∀ v ∈ st, mm_ok v) (hcc : cells + n0 = h.2.1) (hss : slots + s0 = h.2.2.1) (hsc : h.2.2.2 = mm_scr L xs) (hz0 : s.heap.size ≤ g.2.1 + n0) (rc : h'.2.1 ≤ R.cells + n0) (rs : h'.2.2.1 ≤ R.slots + s0)
    (kk : mm_KK p l e R s m args below meth c Q g D y n0 s0 L xs (mm_nx y (j.getD (i + 1))) ls' st' h') : W p l e R s m args below meth c H locs cells slots Q (F0 m pc rls (st.map (mm_up g.1 g.2.1))) := by
  obtain ⟨hx, hb, hml, -, -, hnm, hown, hts, -, hnF, hnL, -⟩ := X
  obtain ⟨hd, hn, hj, ha4, hfo, -, hroom, -⟩ := mm_okB_dec hc (by decide)
  have hn := hn (by decide)
  replace hop : (if mm_rng b then some (ls, (mm_I b :: st, (h, none))) else none) = some (ls', (st', (h', j))) := hop
  by_cases hr : mm_rng b
  · rw [if_pos hr] at hop
    cases hop
    have k := kk H locs cells slots rls hS hR hL (mm_okc hr hst) hcc hss hsc
    rw [show (none : Option Nat).getD (i + 1) = i + 1 from rfl, hn] at k
    exact lv_sipush hx hb hd (mm_b16 hc) k
  · rw [if_neg hr] at hop
    cases hop

theorem mm_step_iload_n (hc : mm_code y i = some (pc, (3, (a, b)))) (hop : mm_op mm_fld 3 a b ls st h = some (ls', (st', (h', j)))) (X : mm_X y l p R s m args meth c) (K : mm_K g D L xs s) (hS : va_S (mm_A g) s.heap H locs) (hR : mm_Rl g D h H) (hL : mm_LR g (mm_mL y) ls rls) (hst : ∀ v ∈ st, mm_ok v) (hcc : cells + n0 = h.2.1) (hss : slots + s0 = h.2.2.1) (hsc : h.2.2.2 = mm_scr L xs) (hz0 : s.heap.size ≤ g.2.1 + n0) (rc : h'.2.1 ≤ R.cells + n0) (rs : h'.2.2.1 ≤ R.slots + s0)
    (kk : mm_KK p l e R s m args below meth c Q g D y n0 s0 L xs (mm_nx y (j.getD (i + 1))) ls' st' h') : W p l e R s m args below meth c H locs cells slots Q (F0 m pc rls (st.map (mm_up g.1 g.2.1))) := by
  obtain ⟨hx, hb, hml, -, -, hnm, hown, hts, -, hnF, hnL, -⟩ := X
  obtain ⟨hd, hn, hj, ha4, hfo, -, hroom, -⟩ := mm_okB_dec hc (by decide)
  have hn := hn (by decide)
  replace hop : mm_o_load a ls st h = some (ls', (st', (h', j))) := hop
  unfold mm_o_load at hop
  split at hop
  · rename_i z hz
    cases hop
    obtain ⟨h1, -, h3⟩ := hL.2.2.2 a _ hz
    have k := kk H locs cells slots rls hS hR hL (mm_okc h3 hst) hcc hss hsc
    rw [show (none : Option Nat).getD (i + 1) = i + 1 from rfl, hn] at k
    exact lv_iload_n hx hb hd (Nat.mod_eq_of_lt (ha4 (by decide))) h1 k
  · cases hop

theorem mm_step_iload (hc : mm_code y i = some (pc, (4, (a, b)))) (hop : mm_op mm_fld 4 a b ls st h = some (ls', (st', (h', j)))) (X : mm_X y l p R s m args meth c) (K : mm_K g D L xs s) (hS : va_S (mm_A g) s.heap H locs) (hR : mm_Rl g D h H) (hL : mm_LR g (mm_mL y) ls rls) (hst : ∀ v ∈ st, mm_ok v) (hcc : cells + n0 = h.2.1) (hss : slots + s0 = h.2.2.1) (hsc : h.2.2.2 = mm_scr L xs) (hz0 : s.heap.size ≤ g.2.1 + n0) (rc : h'.2.1 ≤ R.cells + n0) (rs : h'.2.2.1 ≤ R.slots + s0)
    (kk : mm_KK p l e R s m args below meth c Q g D y n0 s0 L xs (mm_nx y (j.getD (i + 1))) ls' st' h') : W p l e R s m args below meth c H locs cells slots Q (F0 m pc rls (st.map (mm_up g.1 g.2.1))) := by
  obtain ⟨hx, hb, hml, -, -, hnm, hown, hts, -, hnF, hnL, -⟩ := X
  obtain ⟨hd, hn, hj, ha4, hfo, -, hroom, -⟩ := mm_okB_dec hc (by decide)
  have hn := hn (by decide)
  replace hop : mm_o_load a ls st h = some (ls', (st', (h', j))) := hop
  unfold mm_o_load at hop
  split at hop
  · rename_i z hz
    cases hop
    obtain ⟨h1, -, h3⟩ := hL.2.2.2 a _ hz
    have k := kk H locs cells slots rls hS hR hL (mm_okc h3 hst) hcc hss hsc
    rw [show (none : Option Nat).getD (i + 1) = i + 1 from rfl, hn] at k
    exact lv_iload hx hb hd h1 k
  · cases hop

theorem mm_step_aload_n (hc : mm_code y i = some (pc, (5, (a, b)))) (hop : mm_op mm_fld 5 a b ls st h = some (ls', (st', (h', j)))) (X : mm_X y l p R s m args meth c) (K : mm_K g D L xs s) (hS : va_S (mm_A g) s.heap H locs) (hR : mm_Rl g D h H) (hL : mm_LR g (mm_mL y) ls rls) (hst : ∀ v ∈ st, mm_ok v) (hcc : cells + n0 = h.2.1) (hss : slots + s0 = h.2.2.1) (hsc : h.2.2.2 = mm_scr L xs) (hz0 : s.heap.size ≤ g.2.1 + n0) (rc : h'.2.1 ≤ R.cells + n0) (rs : h'.2.2.1 ≤ R.slots + s0)
    (kk : mm_KK p l e R s m args below meth c Q g D y n0 s0 L xs (mm_nx y (j.getD (i + 1))) ls' st' h') : W p l e R s m args below meth c H locs cells slots Q (F0 m pc rls (st.map (mm_up g.1 g.2.1))) := by
  obtain ⟨hx, hb, hml, -, -, hnm, hown, hts, -, hnF, hnL, -⟩ := X
  obtain ⟨hd, hn, hj, ha4, hfo, -, hroom, -⟩ := mm_okB_dec hc (by decide)
  have hn := hn (by decide)
  replace hop : mm_o_aload a ls st h = some (ls', (st', (h', j))) := hop
  unfold mm_o_aload at hop
  split at hop
  · rename_i r hz
    cases hop
    obtain ⟨h1, -, h3⟩ := hL.2.2.2 a _ hz
    have k := kk H locs cells slots rls hS hR hL (mm_okc h3 hst) hcc hss hsc
    rw [show (none : Option Nat).getD (i + 1) = i + 1 from rfl, hn] at k
    cases r with
    | none => exact lv_aload_nN hx hb hd (Nat.mod_eq_of_lt (ha4 (by decide))) h1 k
    | some r => exact lv_aload_n hx hb hd (Nat.mod_eq_of_lt (ha4 (by decide))) h1 k
  · cases hop

theorem mm_step_aload (hc : mm_code y i = some (pc, (6, (a, b)))) (hop : mm_op mm_fld 6 a b ls st h = some (ls', (st', (h', j)))) (X : mm_X y l p R s m args meth c) (K : mm_K g D L xs s) (hS : va_S (mm_A g) s.heap H locs) (hR : mm_Rl g D h H) (hL : mm_LR g (mm_mL y) ls rls) (hst : ∀ v ∈ st, mm_ok v) (hcc : cells + n0 = h.2.1) (hss : slots + s0 = h.2.2.1) (hsc : h.2.2.2 = mm_scr L xs) (hz0 : s.heap.size ≤ g.2.1 + n0) (rc : h'.2.1 ≤ R.cells + n0) (rs : h'.2.2.1 ≤ R.slots + s0)
    (kk : mm_KK p l e R s m args below meth c Q g D y n0 s0 L xs (mm_nx y (j.getD (i + 1))) ls' st' h') : W p l e R s m args below meth c H locs cells slots Q (F0 m pc rls (st.map (mm_up g.1 g.2.1))) := by
  obtain ⟨hx, hb, hml, -, -, hnm, hown, hts, -, hnF, hnL, -⟩ := X
  obtain ⟨hd, hn, hj, ha4, hfo, -, hroom, -⟩ := mm_okB_dec hc (by decide)
  have hn := hn (by decide)
  replace hop : mm_o_aload a ls st h = some (ls', (st', (h', j))) := hop
  unfold mm_o_aload at hop
  split at hop
  · rename_i r hz
    cases hop
    obtain ⟨h1, -, h3⟩ := hL.2.2.2 a _ hz
    have k := kk H locs cells slots rls hS hR hL (mm_okc h3 hst) hcc hss hsc
    rw [show (none : Option Nat).getD (i + 1) = i + 1 from rfl, hn] at k
    cases r with
    | none => exact lv_aloadN hx hb hd h1 k
    | some r => exact lv_aload hx hb hd h1 k
  · cases hop

theorem mm_step_istore_n (hc : mm_code y i = some (pc, (7, (a, b)))) (hop : mm_op mm_fld 7 a b ls st h = some (ls', (st', (h', j)))) (X : mm_X y l p R s m args meth c) (K : mm_K g D L xs s) (hS : va_S (mm_A g) s.heap H locs) (hR : mm_Rl g D h H) (hL : mm_LR g (mm_mL y) ls rls) (hst : ∀ v ∈ st, mm_ok v) (hcc : cells + n0 = h.2.1) (hss : slots + s0 = h.2.2.1) (hsc : h.2.2.2 = mm_scr L xs) (hz0 : s.heap.size ≤ g.2.1 + n0) (rc : h'.2.1 ≤ R.cells + n0) (rs : h'.2.2.1 ≤ R.slots + s0)
    (kk : mm_KK p l e R s m args below meth c Q g D y n0 s0 L xs (mm_nx y (j.getD (i + 1))) ls' st' h') : W p l e R s m args below meth c H locs cells slots Q (F0 m pc rls (st.map (mm_up g.1 g.2.1))) := by
  obtain ⟨hx, hb, hml, -, -, hnm, hown, hts, -, hnF, hnL, -⟩ := X
  obtain ⟨hd, hn, hj, ha4, hfo, -, hroom, -⟩ := mm_okB_dec hc (by decide)
  have hn := hn (by decide)
  replace hop : mm_o_store a ls st h = some (ls', (st', (h', j))) := hop
  unfold mm_o_store at hop
  split at hop
  · rename_i z st
    have hz := (mm_okt hst).1
    replace hst := (mm_okt hst).2
    by_cases hl : a < ls.length
    · rw [if_pos hl] at hop
      cases hop
      refine lv_istore_n hx hb hd (Nat.mod_eq_of_lt (ha4 (by decide))) hL.has (by rw [← hL.1]; exact hl) rfl (fun rls' h9 => ?_)
      have k := kk H locs cells slots rls' hS hR (hL.set (v := mm_I z) rfl hz h9) hst hcc hss hsc
      rw [show (none : Option Nat).getD (i + 1) = i + 1 from rfl, hn] at k
      exact k
    · rw [if_neg hl] at hop
      cases hop
  · cases hop

theorem mm_step_istore (hc : mm_code y i = some (pc, (8, (a, b)))) (hop : mm_op mm_fld 8 a b ls st h = some (ls', (st', (h', j)))) (X : mm_X y l p R s m args meth c) (K : mm_K g D L xs s) (hS : va_S (mm_A g) s.heap H locs) (hR : mm_Rl g D h H) (hL : mm_LR g (mm_mL y) ls rls) (hst : ∀ v ∈ st, mm_ok v) (hcc : cells + n0 = h.2.1) (hss : slots + s0 = h.2.2.1) (hsc : h.2.2.2 = mm_scr L xs) (hz0 : s.heap.size ≤ g.2.1 + n0) (rc : h'.2.1 ≤ R.cells + n0) (rs : h'.2.2.1 ≤ R.slots + s0)
    (kk : mm_KK p l e R s m args below meth c Q g D y n0 s0 L xs (mm_nx y (j.getD (i + 1))) ls' st' h') : W p l e R s m args below meth c H locs cells slots Q (F0 m pc rls (st.map (mm_up g.1 g.2.1))) := by
  obtain ⟨hx, hb, hml, -, -, hnm, hown, hts, -, hnF, hnL, -⟩ := X
  obtain ⟨hd, hn, hj, ha4, hfo, -, hroom, -⟩ := mm_okB_dec hc (by decide)
  have hn := hn (by decide)
  replace hop : mm_o_store a ls st h = some (ls', (st', (h', j))) := hop
  unfold mm_o_store at hop
  split at hop
  · rename_i z st
    have hz := (mm_okt hst).1
    replace hst := (mm_okt hst).2
    by_cases hl : a < ls.length
    · rw [if_pos hl] at hop
      cases hop
      refine lv_istore hx hb hd hL.has (by rw [← hL.1]; exact hl) rfl (fun rls' h9 => ?_)
      have k := kk H locs cells slots rls' hS hR (hL.set (v := mm_I z) rfl hz h9) hst hcc hss hsc
      rw [show (none : Option Nat).getD (i + 1) = i + 1 from rfl, hn] at k
      exact k
    · rw [if_neg hl] at hop
      cases hop
  · cases hop

theorem mm_step_astore_n (hc : mm_code y i = some (pc, (9, (a, b)))) (hop : mm_op mm_fld 9 a b ls st h = some (ls', (st', (h', j)))) (X : mm_X y l p R s m args meth c) (K : mm_K g D L xs s) (hS : va_S (mm_A g) s.heap H locs) (hR : mm_Rl g D h H) (hL : mm_LR g (mm_mL y) ls rls) (hst : ∀ v ∈ st, mm_ok v) (hcc : cells + n0 = h.2.1) (hss : slots + s0 = h.2.2.1) (hsc : h.2.2.2 = mm_scr L xs) (hz0 : s.heap.size ≤ g.2.1 + n0) (rc : h'.2.1 ≤ R.cells + n0) (rs : h'.2.2.1 ≤ R.slots + s0)
    (kk : mm_KK p l e R s m args below meth c Q g D y n0 s0 L xs (mm_nx y (j.getD (i + 1))) ls' st' h') : W p l e R s m args below meth c H locs cells slots Q (F0 m pc rls (st.map (mm_up g.1 g.2.1))) := by
  obtain ⟨hx, hb, hml, -, -, hnm, hown, hts, -, hnF, hnL, -⟩ := X
  obtain ⟨hd, hn, hj, ha4, hfo, -, hroom, -⟩ := mm_okB_dec hc (by decide)
  have hn := hn (by decide)
  replace hop : mm_o_astore a ls st h = some (ls', (st', (h', j))) := hop
  unfold mm_o_astore at hop
  split at hop
  · rename_i r st
    have hz := (mm_okt hst).1
    replace hst := (mm_okt hst).2
    by_cases hl : a < ls.length
    · rw [if_pos hl] at hop
      cases hop
      cases r with
      | none =>
        refine lv_astore_nN hx hb hd (Nat.mod_eq_of_lt (ha4 (by decide))) hL.has (by rw [← hL.1]; exact hl) rfl (fun rls' h9 => ?_)
        have k := kk H locs cells slots rls' hS hR (hL.set (v := mm_N) rfl hz h9) hst hcc hss hsc
        rw [show (none : Option Nat).getD (i + 1) = i + 1 from rfl, hn] at k
        exact k
      | some r =>
        refine lv_astore_n hx hb hd (Nat.mod_eq_of_lt (ha4 (by decide))) hL.has (by rw [← hL.1]; exact hl) rfl (fun rls' h9 => ?_)
        have k := kk H locs cells slots rls' hS hR (hL.set (v := mm_P r) rfl hz h9) hst hcc hss hsc
        rw [show (none : Option Nat).getD (i + 1) = i + 1 from rfl, hn] at k
        exact k
    · rw [if_neg hl] at hop
      cases hop
  · cases hop

theorem mm_step_astore (hc : mm_code y i = some (pc, (10, (a, b)))) (hop : mm_op mm_fld 10 a b ls st h = some (ls', (st', (h', j)))) (X : mm_X y l p R s m args meth c) (K : mm_K g D L xs s) (hS : va_S (mm_A g) s.heap H locs) (hR : mm_Rl g D h H) (hL : mm_LR g (mm_mL y) ls rls) (hst : ∀ v ∈ st, mm_ok v) (hcc : cells + n0 = h.2.1) (hss : slots + s0 = h.2.2.1) (hsc : h.2.2.2 = mm_scr L xs) (hz0 : s.heap.size ≤ g.2.1 + n0) (rc : h'.2.1 ≤ R.cells + n0) (rs : h'.2.2.1 ≤ R.slots + s0)
    (kk : mm_KK p l e R s m args below meth c Q g D y n0 s0 L xs (mm_nx y (j.getD (i + 1))) ls' st' h') : W p l e R s m args below meth c H locs cells slots Q (F0 m pc rls (st.map (mm_up g.1 g.2.1))) := by
  obtain ⟨hx, hb, hml, -, -, hnm, hown, hts, -, hnF, hnL, -⟩ := X
  obtain ⟨hd, hn, hj, ha4, hfo, -, hroom, -⟩ := mm_okB_dec hc (by decide)
  have hn := hn (by decide)
  replace hop : mm_o_astore a ls st h = some (ls', (st', (h', j))) := hop
  unfold mm_o_astore at hop
  split at hop
  · rename_i r st
    have hz := (mm_okt hst).1
    replace hst := (mm_okt hst).2
    by_cases hl : a < ls.length
    · rw [if_pos hl] at hop
      cases hop
      cases r with
      | none =>
        refine lv_astoreN hx hb hd hL.has (by rw [← hL.1]; exact hl) rfl (fun rls' h9 => ?_)
        have k := kk H locs cells slots rls' hS hR (hL.set (v := mm_N) rfl hz h9) hst hcc hss hsc
        rw [show (none : Option Nat).getD (i + 1) = i + 1 from rfl, hn] at k
        exact k
      | some r =>
        refine lv_astore hx hb hd hL.has (by rw [← hL.1]; exact hl) rfl (fun rls' h9 => ?_)
        have k := kk H locs cells slots rls' hS hR (hL.set (v := mm_P r) rfl hz h9) hst hcc hss hsc
        rw [show (none : Option Nat).getD (i + 1) = i + 1 from rfl, hn] at k
        exact k
    · rw [if_neg hl] at hop
      cases hop
  · cases hop

theorem mm_step_iadd (hc : mm_code y i = some (pc, (11, (a, b)))) (hop : mm_op mm_fld 11 a b ls st h = some (ls', (st', (h', j)))) (X : mm_X y l p R s m args meth c) (K : mm_K g D L xs s) (hS : va_S (mm_A g) s.heap H locs) (hR : mm_Rl g D h H) (hL : mm_LR g (mm_mL y) ls rls) (hst : ∀ v ∈ st, mm_ok v) (hcc : cells + n0 = h.2.1) (hss : slots + s0 = h.2.2.1) (hsc : h.2.2.2 = mm_scr L xs) (hz0 : s.heap.size ≤ g.2.1 + n0) (rc : h'.2.1 ≤ R.cells + n0) (rs : h'.2.2.1 ≤ R.slots + s0)
    (kk : mm_KK p l e R s m args below meth c Q g D y n0 s0 L xs (mm_nx y (j.getD (i + 1))) ls' st' h') : W p l e R s m args below meth c H locs cells slots Q (F0 m pc rls (st.map (mm_up g.1 g.2.1))) := by
  obtain ⟨hx, hb, hml, -, -, hnm, hown, hts, -, hnF, hnL, -⟩ := X
  obtain ⟨hd, hn, hj, ha4, hfo, -, hroom, -⟩ := mm_okB_dec hc (by decide)
  have hn := hn (by decide)
  replace hop : mm_o_bin (fun x y => some (x + y)) ls st h = some (ls', (st', (h', j))) := hop
  unfold mm_o_bin at hop
  split at hop
  · rename_i y9 x9 st
    have hy := (mm_okt hst).1
    replace hst := (mm_okt hst).2
    have hx9 := (mm_okt hst).1
    replace hst := (mm_okt hst).2
    have hy : mm_rng y9 := hy
    have hx9 : mm_rng x9 := hx9
    split at hop
    · rename_i z hz
      by_cases hr : mm_rng z
      · rw [if_pos hr] at hop
        cases hop
        cases hz
        have k := kk H locs cells slots rls hS hR hL (mm_okc hr hst) hcc hss hsc
        rw [show (none : Option Nat).getD (i + 1) = i + 1 from rfl, hn] at k
        have e9 : mm_up g.1 g.2.1 (mm_I (x9 + y9)) = .int _ := congrArg Value.int (Int32.ofInt_add x9 y9)
        rw [List.map_cons, e9] at k
        exact lv_iadd hx hb hd k
      · rw [if_neg hr] at hop
        cases hop
    · cases hop
  · cases hop

theorem mm_step_isub (hc : mm_code y i = some (pc, (12, (a, b)))) (hop : mm_op mm_fld 12 a b ls st h = some (ls', (st', (h', j)))) (X : mm_X y l p R s m args meth c) (K : mm_K g D L xs s) (hS : va_S (mm_A g) s.heap H locs) (hR : mm_Rl g D h H) (hL : mm_LR g (mm_mL y) ls rls) (hst : ∀ v ∈ st, mm_ok v) (hcc : cells + n0 = h.2.1) (hss : slots + s0 = h.2.2.1) (hsc : h.2.2.2 = mm_scr L xs) (hz0 : s.heap.size ≤ g.2.1 + n0) (rc : h'.2.1 ≤ R.cells + n0) (rs : h'.2.2.1 ≤ R.slots + s0)
    (kk : mm_KK p l e R s m args below meth c Q g D y n0 s0 L xs (mm_nx y (j.getD (i + 1))) ls' st' h') : W p l e R s m args below meth c H locs cells slots Q (F0 m pc rls (st.map (mm_up g.1 g.2.1))) := by
  obtain ⟨hx, hb, hml, -, -, hnm, hown, hts, -, hnF, hnL, -⟩ := X
  obtain ⟨hd, hn, hj, ha4, hfo, -, hroom, -⟩ := mm_okB_dec hc (by decide)
  have hn := hn (by decide)
  replace hop : mm_o_bin (fun x y => some (x - y)) ls st h = some (ls', (st', (h', j))) := hop
  unfold mm_o_bin at hop
  split at hop
  · rename_i y9 x9 st
    have hy := (mm_okt hst).1
    replace hst := (mm_okt hst).2
    have hx9 := (mm_okt hst).1
    replace hst := (mm_okt hst).2
    have hy : mm_rng y9 := hy
    have hx9 : mm_rng x9 := hx9
    split at hop
    · rename_i z hz
      by_cases hr : mm_rng z
      · rw [if_pos hr] at hop
        cases hop
        cases hz
        have k := kk H locs cells slots rls hS hR hL (mm_okc hr hst) hcc hss hsc
        rw [show (none : Option Nat).getD (i + 1) = i + 1 from rfl, hn] at k
        have e9 : mm_up g.1 g.2.1 (mm_I (x9 - y9)) = .int _ := congrArg Value.int (Int32.ofInt_sub x9 y9)
        rw [List.map_cons, e9] at k
        exact lv_isub hx hb hd k
      · rw [if_neg hr] at hop
        cases hop
    · cases hop
  · cases hop

theorem mm_step_imul (hc : mm_code y i = some (pc, (13, (a, b)))) (hop : mm_op mm_fld 13 a b ls st h = some (ls', (st', (h', j)))) (X : mm_X y l p R s m args meth c) (K : mm_K g D L xs s) (hS : va_S (mm_A g) s.heap H locs) (hR : mm_Rl g D h H) (hL : mm_LR g (mm_mL y) ls rls) (hst : ∀ v ∈ st, mm_ok v) (hcc : cells + n0 = h.2.1) (hss : slots + s0 = h.2.2.1) (hsc : h.2.2.2 = mm_scr L xs) (hz0 : s.heap.size ≤ g.2.1 + n0) (rc : h'.2.1 ≤ R.cells + n0) (rs : h'.2.2.1 ≤ R.slots + s0)
    (kk : mm_KK p l e R s m args below meth c Q g D y n0 s0 L xs (mm_nx y (j.getD (i + 1))) ls' st' h') : W p l e R s m args below meth c H locs cells slots Q (F0 m pc rls (st.map (mm_up g.1 g.2.1))) := by
  obtain ⟨hx, hb, hml, -, -, hnm, hown, hts, -, hnF, hnL, -⟩ := X
  obtain ⟨hd, hn, hj, ha4, hfo, -, hroom, -⟩ := mm_okB_dec hc (by decide)
  have hn := hn (by decide)
  replace hop : mm_o_bin (fun x y => some (x * y)) ls st h = some (ls', (st', (h', j))) := hop
  unfold mm_o_bin at hop
  split at hop
  · rename_i y9 x9 st
    have hy := (mm_okt hst).1
    replace hst := (mm_okt hst).2
    have hx9 := (mm_okt hst).1
    replace hst := (mm_okt hst).2
    have hy : mm_rng y9 := hy
    have hx9 : mm_rng x9 := hx9
    split at hop
    · rename_i z hz
      by_cases hr : mm_rng z
      · rw [if_pos hr] at hop
        cases hop
        cases hz
        have k := kk H locs cells slots rls hS hR hL (mm_okc hr hst) hcc hss hsc
        rw [show (none : Option Nat).getD (i + 1) = i + 1 from rfl, hn] at k
        have e9 : mm_up g.1 g.2.1 (mm_I (x9 * y9)) = .int _ := congrArg Value.int (Int32.ofInt_mul x9 y9)
        rw [List.map_cons, e9] at k
        exact lv_imul hx hb hd k
      · rw [if_neg hr] at hop
        cases hop
    · cases hop
  · cases hop

theorem mm_step_idiv (hc : mm_code y i = some (pc, (14, (a, b)))) (hop : mm_op mm_fld 14 a b ls st h = some (ls', (st', (h', j)))) (X : mm_X y l p R s m args meth c) (K : mm_K g D L xs s) (hS : va_S (mm_A g) s.heap H locs) (hR : mm_Rl g D h H) (hL : mm_LR g (mm_mL y) ls rls) (hst : ∀ v ∈ st, mm_ok v) (hcc : cells + n0 = h.2.1) (hss : slots + s0 = h.2.2.1) (hsc : h.2.2.2 = mm_scr L xs) (hz0 : s.heap.size ≤ g.2.1 + n0) (rc : h'.2.1 ≤ R.cells + n0) (rs : h'.2.2.1 ≤ R.slots + s0)
    (kk : mm_KK p l e R s m args below meth c Q g D y n0 s0 L xs (mm_nx y (j.getD (i + 1))) ls' st' h') : W p l e R s m args below meth c H locs cells slots Q (F0 m pc rls (st.map (mm_up g.1 g.2.1))) := by
  obtain ⟨hx, hb, hml, -, -, hnm, hown, hts, -, hnF, hnL, -⟩ := X
  obtain ⟨hd, hn, hj, ha4, hfo, -, hroom, -⟩ := mm_okB_dec hc (by decide)
  have hn := hn (by decide)
  replace hop : mm_o_bin (fun x y => if 0 ≤ x ∧ 0 < y then some (x / y) else none) ls st h = some (ls', (st', (h', j))) := hop
  unfold mm_o_bin at hop
  split at hop
  · rename_i y9 x9 st
    have hy := (mm_okt hst).1
    replace hst := (mm_okt hst).2
    have hx9 := (mm_okt hst).1
    replace hst := (mm_okt hst).2
    have hy : mm_rng y9 := hy
    have hx9 : mm_rng x9 := hx9
    split at hop
    · rename_i z hz
      by_cases hr : mm_rng z
      · rw [if_pos hr] at hop
        cases hop
        dsimp only at hz
        split at hz
        · rename_i hg
          cases hz
          have k := kk H locs cells slots rls hS hR hL (mm_okc hr hst) hcc hss hsc
          rw [show (none : Option Nat).getD (i + 1) = i + 1 from rfl, hn] at k
          have e9 : mm_up g.1 g.2.1 (mm_I _) = .int _ := congrArg Value.int (mm_div hx9 hy hg.1 hg.2).symm
          rw [List.map_cons, e9] at k
          exact lv_idiv hx hb hd (fun q => by have := (mm_eq0 hy).mp q; omega) k
        · cases hz
      · rw [if_neg hr] at hop
        cases hop
    · cases hop
  · cases hop

theorem mm_step_irem (hc : mm_code y i = some (pc, (15, (a, b)))) (hop : mm_op mm_fld 15 a b ls st h = some (ls', (st', (h', j)))) (X : mm_X y l p R s m args meth c) (K : mm_K g D L xs s) (hS : va_S (mm_A g) s.heap H locs) (hR : mm_Rl g D h H) (hL : mm_LR g (mm_mL y) ls rls) (hst : ∀ v ∈ st, mm_ok v) (hcc : cells + n0 = h.2.1) (hss : slots + s0 = h.2.2.1) (hsc : h.2.2.2 = mm_scr L xs) (hz0 : s.heap.size ≤ g.2.1 + n0) (rc : h'.2.1 ≤ R.cells + n0) (rs : h'.2.2.1 ≤ R.slots + s0)
    (kk : mm_KK p l e R s m args below meth c Q g D y n0 s0 L xs (mm_nx y (j.getD (i + 1))) ls' st' h') : W p l e R s m args below meth c H locs cells slots Q (F0 m pc rls (st.map (mm_up g.1 g.2.1))) := by
  obtain ⟨hx, hb, hml, -, -, hnm, hown, hts, -, hnF, hnL, -⟩ := X
  obtain ⟨hd, hn, hj, ha4, hfo, -, hroom, -⟩ := mm_okB_dec hc (by decide)
  have hn := hn (by decide)
  replace hop : mm_o_bin (fun x y => if 0 ≤ x ∧ 0 < y then some (x % y) else none) ls st h = some (ls', (st', (h', j))) := hop
  unfold mm_o_bin at hop
  split at hop
  · rename_i y9 x9 st
    have hy := (mm_okt hst).1
    replace hst := (mm_okt hst).2
    have hx9 := (mm_okt hst).1
    replace hst := (mm_okt hst).2
    have hy : mm_rng y9 := hy
    have hx9 : mm_rng x9 := hx9
    split at hop
    · rename_i z hz
      by_cases hr : mm_rng z
      · rw [if_pos hr] at hop
        cases hop
        dsimp only at hz
        split at hz
        · rename_i hg
          cases hz
          have k := kk H locs cells slots rls hS hR hL (mm_okc hr hst) hcc hss hsc
          rw [show (none : Option Nat).getD (i + 1) = i + 1 from rfl, hn] at k
          have e9 : mm_up g.1 g.2.1 (mm_I _) = .int _ := congrArg Value.int (mm_rem hx9 hy hg.1 hg.2).symm
          rw [List.map_cons, e9] at k
          exact lv_irem hx hb hd (fun q => by have := (mm_eq0 hy).mp q; omega) k
        · cases hz
      · rw [if_neg hr] at hop
        cases hop
    · cases hop
  · cases hop

theorem mm_step_ishl (hc : mm_code y i = some (pc, (16, (a, b)))) (hop : mm_op mm_fld 16 a b ls st h = some (ls', (st', (h', j)))) (X : mm_X y l p R s m args meth c) (K : mm_K g D L xs s) (hS : va_S (mm_A g) s.heap H locs) (hR : mm_Rl g D h H) (hL : mm_LR g (mm_mL y) ls rls) (hst : ∀ v ∈ st, mm_ok v) (hcc : cells + n0 = h.2.1) (hss : slots + s0 = h.2.2.1) (hsc : h.2.2.2 = mm_scr L xs) (hz0 : s.heap.size ≤ g.2.1 + n0) (rc : h'.2.1 ≤ R.cells + n0) (rs : h'.2.2.1 ≤ R.slots + s0)
    (kk : mm_KK p l e R s m args below meth c Q g D y n0 s0 L xs (mm_nx y (j.getD (i + 1))) ls' st' h') : W p l e R s m args below meth c H locs cells slots Q (F0 m pc rls (st.map (mm_up g.1 g.2.1))) := by
  obtain ⟨hx, hb, hml, -, -, hnm, hown, hts, -, hnF, hnL, -⟩ := X
  obtain ⟨hd, hn, hj, ha4, hfo, -, hroom, -⟩ := mm_okB_dec hc (by decide)
  have hn := hn (by decide)
  replace hop : mm_o_bin (fun x y => if 0 ≤ x ∧ 0 ≤ y ∧ y < 31 then some (x * 2 ^ y.toNat) else none) ls st h = some (ls', (st', (h', j))) := hop
  unfold mm_o_bin at hop
  split at hop
  · rename_i y9 x9 st
    have hy := (mm_okt hst).1
    replace hst := (mm_okt hst).2
    have hx9 := (mm_okt hst).1
    replace hst := (mm_okt hst).2
    have hy : mm_rng y9 := hy
    have hx9 : mm_rng x9 := hx9
    split at hop
    · rename_i z hz
      by_cases hr : mm_rng z
      · rw [if_pos hr] at hop
        cases hop
        dsimp only at hz
        split at hz
        · rename_i hg
          cases hz
          have k := kk H locs cells slots rls hS hR hL (mm_okc hr hst) hcc hss hsc
          rw [show (none : Option Nat).getD (i + 1) = i + 1 from rfl, hn] at k
          have e9 : mm_up g.1 g.2.1 (mm_I _) = .int _ := congrArg Value.int (mm_shl hx9 hg.1 hg.2.1 hg.2.2 hr).symm
          rw [List.map_cons, e9] at k
          exact lv_ishl hx hb hd k
        · cases hz
      · rw [if_neg hr] at hop
        cases hop
    · cases hop
  · cases hop

theorem mm_step_ishr (hc : mm_code y i = some (pc, (17, (a, b)))) (hop : mm_op mm_fld 17 a b ls st h = some (ls', (st', (h', j)))) (X : mm_X y l p R s m args meth c) (K : mm_K g D L xs s) (hS : va_S (mm_A g) s.heap H locs) (hR : mm_Rl g D h H) (hL : mm_LR g (mm_mL y) ls rls) (hst : ∀ v ∈ st, mm_ok v) (hcc : cells + n0 = h.2.1) (hss : slots + s0 = h.2.2.1) (hsc : h.2.2.2 = mm_scr L xs) (hz0 : s.heap.size ≤ g.2.1 + n0) (rc : h'.2.1 ≤ R.cells + n0) (rs : h'.2.2.1 ≤ R.slots + s0)
    (kk : mm_KK p l e R s m args below meth c Q g D y n0 s0 L xs (mm_nx y (j.getD (i + 1))) ls' st' h') : W p l e R s m args below meth c H locs cells slots Q (F0 m pc rls (st.map (mm_up g.1 g.2.1))) := by
  obtain ⟨hx, hb, hml, -, -, hnm, hown, hts, -, hnF, hnL, -⟩ := X
  obtain ⟨hd, hn, hj, ha4, hfo, -, hroom, -⟩ := mm_okB_dec hc (by decide)
  have hn := hn (by decide)
  replace hop : mm_o_bin (fun x y => if 0 ≤ x ∧ 0 ≤ y ∧ y < 31 then some (x / 2 ^ y.toNat) else none) ls st h = some (ls', (st', (h', j))) := hop
  unfold mm_o_bin at hop
  split at hop
  · rename_i y9 x9 st
    have hy := (mm_okt hst).1
    replace hst := (mm_okt hst).2
    have hx9 := (mm_okt hst).1
    replace hst := (mm_okt hst).2
    have hy : mm_rng y9 := hy
    have hx9 : mm_rng x9 := hx9
    split at hop
    · rename_i z hz
      by_cases hr : mm_rng z
      · rw [if_pos hr] at hop
        cases hop
        dsimp only at hz
        split at hz
        · rename_i hg
          cases hz
          have k := kk H locs cells slots rls hS hR hL (mm_okc hr hst) hcc hss hsc
          rw [show (none : Option Nat).getD (i + 1) = i + 1 from rfl, hn] at k
          have e9 : mm_up g.1 g.2.1 (mm_I _) = .int _ := congrArg Value.int (mm_shr hx9 hg.1 hg.2.1 hg.2.2).symm
          rw [List.map_cons, e9] at k
          exact lv_ishr hx hb hd k
        · cases hz
      · rw [if_neg hr] at hop
        cases hop
    · cases hop
  · cases hop

theorem mm_step_iand (hc : mm_code y i = some (pc, (18, (a, b)))) (hop : mm_op mm_fld 18 a b ls st h = some (ls', (st', (h', j)))) (X : mm_X y l p R s m args meth c) (K : mm_K g D L xs s) (hS : va_S (mm_A g) s.heap H locs) (hR : mm_Rl g D h H) (hL : mm_LR g (mm_mL y) ls rls) (hst : ∀ v ∈ st, mm_ok v) (hcc : cells + n0 = h.2.1) (hss : slots + s0 = h.2.2.1) (hsc : h.2.2.2 = mm_scr L xs) (hz0 : s.heap.size ≤ g.2.1 + n0) (rc : h'.2.1 ≤ R.cells + n0) (rs : h'.2.2.1 ≤ R.slots + s0)
    (kk : mm_KK p l e R s m args below meth c Q g D y n0 s0 L xs (mm_nx y (j.getD (i + 1))) ls' st' h') : W p l e R s m args below meth c H locs cells slots Q (F0 m pc rls (st.map (mm_up g.1 g.2.1))) := by
  obtain ⟨hx, hb, hml, -, -, hnm, hown, hts, -, hnF, hnL, -⟩ := X
  obtain ⟨hd, hn, hj, ha4, hfo, -, hroom, -⟩ := mm_okB_dec hc (by decide)
  have hn := hn (by decide)
  replace hop : mm_o_bin (fun x y => some (mm_and x y)) ls st h = some (ls', (st', (h', j))) := hop
  unfold mm_o_bin at hop
  split at hop
  · rename_i y9 x9 st
    have hy := (mm_okt hst).1
    replace hst := (mm_okt hst).2
    have hx9 := (mm_okt hst).1
    replace hst := (mm_okt hst).2
    have hy : mm_rng y9 := hy
    have hx9 : mm_rng x9 := hx9
    split at hop
    · rename_i z hz
      by_cases hr : mm_rng z
      · rw [if_pos hr] at hop
        cases hop
        cases hz
        have k := kk H locs cells slots rls hS hR hL (mm_okc hr hst) hcc hss hsc
        rw [show (none : Option Nat).getD (i + 1) = i + 1 from rfl, hn] at k
        have e9 : mm_up g.1 g.2.1 (mm_I (mm_and x9 y9)) = .int _ := congrArg Value.int (Int32.ofInt_toInt (Int32.ofInt x9 &&& Int32.ofInt y9))
        rw [List.map_cons, e9] at k
        exact lv_iand hx hb hd k
      · rw [if_neg hr] at hop
        cases hop
    · cases hop
  · cases hop

theorem mm_step_ior (hc : mm_code y i = some (pc, (19, (a, b)))) (hop : mm_op mm_fld 19 a b ls st h = some (ls', (st', (h', j)))) (X : mm_X y l p R s m args meth c) (K : mm_K g D L xs s) (hS : va_S (mm_A g) s.heap H locs) (hR : mm_Rl g D h H) (hL : mm_LR g (mm_mL y) ls rls) (hst : ∀ v ∈ st, mm_ok v) (hcc : cells + n0 = h.2.1) (hss : slots + s0 = h.2.2.1) (hsc : h.2.2.2 = mm_scr L xs) (hz0 : s.heap.size ≤ g.2.1 + n0) (rc : h'.2.1 ≤ R.cells + n0) (rs : h'.2.2.1 ≤ R.slots + s0)
    (kk : mm_KK p l e R s m args below meth c Q g D y n0 s0 L xs (mm_nx y (j.getD (i + 1))) ls' st' h') : W p l e R s m args below meth c H locs cells slots Q (F0 m pc rls (st.map (mm_up g.1 g.2.1))) := by
  obtain ⟨hx, hb, hml, -, -, hnm, hown, hts, -, hnF, hnL, -⟩ := X
  obtain ⟨hd, hn, hj, ha4, hfo, -, hroom, -⟩ := mm_okB_dec hc (by decide)
  have hn := hn (by decide)
  replace hop : mm_o_bin (fun x y => some (mm_or x y)) ls st h = some (ls', (st', (h', j))) := hop
  unfold mm_o_bin at hop
  split at hop
  · rename_i y9 x9 st
    have hy := (mm_okt hst).1
    replace hst := (mm_okt hst).2
    have hx9 := (mm_okt hst).1
    replace hst := (mm_okt hst).2
    have hy : mm_rng y9 := hy
    have hx9 : mm_rng x9 := hx9
    split at hop
    · rename_i z hz
      by_cases hr : mm_rng z
      · rw [if_pos hr] at hop
        cases hop
        cases hz
        have k := kk H locs cells slots rls hS hR hL (mm_okc hr hst) hcc hss hsc
        rw [show (none : Option Nat).getD (i + 1) = i + 1 from rfl, hn] at k
        have e9 : mm_up g.1 g.2.1 (mm_I (mm_or x9 y9)) = .int _ := congrArg Value.int (Int32.ofInt_toInt (Int32.ofInt x9 ||| Int32.ofInt y9))
        rw [List.map_cons, e9] at k
        exact lv_ior hx hb hd k
      · rw [if_neg hr] at hop
        cases hop
    · cases hop
  · cases hop

theorem mm_step_iinc (hc : mm_code y i = some (pc, (20, (a, b)))) (hop : mm_op mm_fld 20 a b ls st h = some (ls', (st', (h', j)))) (X : mm_X y l p R s m args meth c) (K : mm_K g D L xs s) (hS : va_S (mm_A g) s.heap H locs) (hR : mm_Rl g D h H) (hL : mm_LR g (mm_mL y) ls rls) (hst : ∀ v ∈ st, mm_ok v) (hcc : cells + n0 = h.2.1) (hss : slots + s0 = h.2.2.1) (hsc : h.2.2.2 = mm_scr L xs) (hz0 : s.heap.size ≤ g.2.1 + n0) (rc : h'.2.1 ≤ R.cells + n0) (rs : h'.2.2.1 ≤ R.slots + s0)
    (kk : mm_KK p l e R s m args below meth c Q g D y n0 s0 L xs (mm_nx y (j.getD (i + 1))) ls' st' h') : W p l e R s m args below meth c H locs cells slots Q (F0 m pc rls (st.map (mm_up g.1 g.2.1))) := by
  obtain ⟨hx, hb, hml, -, -, hnm, hown, hts, -, hnF, hnL, -⟩ := X
  obtain ⟨hd, hn, hj, ha4, hfo, -, hroom, -⟩ := mm_okB_dec hc (by decide)
  have hn := hn (by decide)
  replace hop : mm_o_iinc a b ls st h = some (ls', (st', (h', j))) := hop
  unfold mm_o_iinc at hop
  split at hop
  · rename_i z hz
    by_cases hr : mm_rng (z + b)
    · rw [if_pos hr] at hop
      cases hop
      obtain ⟨q, hq⟩ := List.getElem?_of_mem (mm_lv_in (g := g) (q := (a, mm_up g.1 g.2.1 (mm_I z))).mpr ⟨mm_I z, hz, rfl⟩)
      refine lv_iinc hx hb hd hL.has hq (by rw [← Int32.ofInt_add]) (by rw [← hL.1]; exact (List.getElem?_eq_some_iff.mp hz).1) rfl (fun rls' h9 => ?_)
      have k := kk H locs cells slots rls' hS hR (hL.set (v := mm_I (z + b)) rfl hr h9) hst hcc hss hsc
      rw [show (none : Option Nat).getD (i + 1) = i + 1 from rfl, hn] at k
      exact k
    · rw [if_neg hr] at hop
      cases hop
  · cases hop

theorem mm_step_dup (hc : mm_code y i = some (pc, (21, (a, b)))) (hop : mm_op mm_fld 21 a b ls st h = some (ls', (st', (h', j)))) (X : mm_X y l p R s m args meth c) (K : mm_K g D L xs s) (hS : va_S (mm_A g) s.heap H locs) (hR : mm_Rl g D h H) (hL : mm_LR g (mm_mL y) ls rls) (hst : ∀ v ∈ st, mm_ok v) (hcc : cells + n0 = h.2.1) (hss : slots + s0 = h.2.2.1) (hsc : h.2.2.2 = mm_scr L xs) (hz0 : s.heap.size ≤ g.2.1 + n0) (rc : h'.2.1 ≤ R.cells + n0) (rs : h'.2.2.1 ≤ R.slots + s0)
    (kk : mm_KK p l e R s m args below meth c Q g D y n0 s0 L xs (mm_nx y (j.getD (i + 1))) ls' st' h') : W p l e R s m args below meth c H locs cells slots Q (F0 m pc rls (st.map (mm_up g.1 g.2.1))) := by
  obtain ⟨hx, hb, hml, -, -, hnm, hown, hts, -, hnF, hnL, -⟩ := X
  obtain ⟨hd, hn, hj, ha4, hfo, -, hroom, -⟩ := mm_okB_dec hc (by decide)
  have hn := hn (by decide)
  match st, hst, hop with
  | .inl z :: st, hst, hop =>
    cases hop
    have k := kk H locs cells slots rls hS hR hL (mm_okc (mm_okt hst).1 hst) hcc hss hsc
    rw [show (none : Option Nat).getD (i + 1) = i + 1 from rfl, hn] at k
    exact lv_dup hx hb hd rfl k
  | .inr (.inr r) :: st, hst, hop =>
    cases hop
    have k := kk H locs cells slots rls hS hR hL (mm_okc (mm_okt hst).1 hst) hcc hss hsc
    rw [show (none : Option Nat).getD (i + 1) = i + 1 from rfl, hn] at k
    exact lv_dup hx hb hd (by cases r <;> rfl) k
  | .inr (.inl z) :: st, hst, hop => cases hop
  | [], hst, hop => cases hop

theorem mm_step_dup2 (hc : mm_code y i = some (pc, (22, (a, b)))) (hop : mm_op mm_fld 22 a b ls st h = some (ls', (st', (h', j)))) (X : mm_X y l p R s m args meth c) (K : mm_K g D L xs s) (hS : va_S (mm_A g) s.heap H locs) (hR : mm_Rl g D h H) (hL : mm_LR g (mm_mL y) ls rls) (hst : ∀ v ∈ st, mm_ok v) (hcc : cells + n0 = h.2.1) (hss : slots + s0 = h.2.2.1) (hsc : h.2.2.2 = mm_scr L xs) (hz0 : s.heap.size ≤ g.2.1 + n0) (rc : h'.2.1 ≤ R.cells + n0) (rs : h'.2.2.1 ≤ R.slots + s0)
    (kk : mm_KK p l e R s m args below meth c Q g D y n0 s0 L xs (mm_nx y (j.getD (i + 1))) ls' st' h') : W p l e R s m args below meth c H locs cells slots Q (F0 m pc rls (st.map (mm_up g.1 g.2.1))) := by
  obtain ⟨hx, hb, hml, -, -, hnm, hown, hts, -, hnF, hnL, -⟩ := X
  obtain ⟨hd, hn, hj, ha4, hfo, -, hroom, -⟩ := mm_okB_dec hc (by decide)
  have hn := hn (by decide)
  match st, hst, hop with
  | .inl z :: .inr (.inr r) :: st, hst, hop =>
    cases hop
    have k := kk H locs cells slots rls hS hR hL (mm_okc (mm_okt hst).1 (mm_okc (mm_okt (mm_okt hst).2).1 hst)) hcc hss hsc
    rw [show (none : Option Nat).getD (i + 1) = i + 1 from rfl, hn] at k
    exact lv_dup2_11 hx hb hd rfl (by cases r <;> rfl) k
  | .inl z :: .inr (.inl r) :: st, hst, hop => cases hop
  | .inl z :: .inl r :: st, hst, hop => cases hop
  | [.inl z], hst, hop => cases hop
  | .inr z :: st, hst, hop => cases hop
  | [], hst, hop => cases hop

theorem mm_step_pop (hc : mm_code y i = some (pc, (23, (a, b)))) (hop : mm_op mm_fld 23 a b ls st h = some (ls', (st', (h', j)))) (X : mm_X y l p R s m args meth c) (K : mm_K g D L xs s) (hS : va_S (mm_A g) s.heap H locs) (hR : mm_Rl g D h H) (hL : mm_LR g (mm_mL y) ls rls) (hst : ∀ v ∈ st, mm_ok v) (hcc : cells + n0 = h.2.1) (hss : slots + s0 = h.2.2.1) (hsc : h.2.2.2 = mm_scr L xs) (hz0 : s.heap.size ≤ g.2.1 + n0) (rc : h'.2.1 ≤ R.cells + n0) (rs : h'.2.2.1 ≤ R.slots + s0)
    (kk : mm_KK p l e R s m args below meth c Q g D y n0 s0 L xs (mm_nx y (j.getD (i + 1))) ls' st' h') : W p l e R s m args below meth c H locs cells slots Q (F0 m pc rls (st.map (mm_up g.1 g.2.1))) := by
  obtain ⟨hx, hb, hml, -, -, hnm, hown, hts, -, hnF, hnL, -⟩ := X
  obtain ⟨hd, hn, hj, ha4, hfo, -, hroom, -⟩ := mm_okB_dec hc (by decide)
  have hn := hn (by decide)
  match st, hst, hop with
  | .inl z :: st, hst, hop =>
    cases hop
    have k := kk H locs cells slots rls hS hR hL (mm_okt hst).2 hcc hss hsc
    rw [show (none : Option Nat).getD (i + 1) = i + 1 from rfl, hn] at k
    exact lv_pop hx hb hd rfl k
  | .inr (.inr r) :: st, hst, hop =>
    cases hop
    have k := kk H locs cells slots rls hS hR hL (mm_okt hst).2 hcc hss hsc
    rw [show (none : Option Nat).getD (i + 1) = i + 1 from rfl, hn] at k
    exact lv_pop hx hb hd (by cases r <;> rfl) k
  | .inr (.inl z) :: st, hst, hop => cases hop
  | [], hst, hop => cases hop

theorem mm_step_goto (hc : mm_code y i = some (pc, (24, (a, b)))) (hop : mm_op mm_fld 24 a b ls st h = some (ls', (st', (h', j)))) (X : mm_X y l p R s m args meth c) (K : mm_K g D L xs s) (hS : va_S (mm_A g) s.heap H locs) (hR : mm_Rl g D h H) (hL : mm_LR g (mm_mL y) ls rls) (hst : ∀ v ∈ st, mm_ok v) (hcc : cells + n0 = h.2.1) (hss : slots + s0 = h.2.2.1) (hsc : h.2.2.2 = mm_scr L xs) (hz0 : s.heap.size ≤ g.2.1 + n0) (rc : h'.2.1 ≤ R.cells + n0) (rs : h'.2.2.1 ≤ R.slots + s0)
    (kk : mm_KK p l e R s m args below meth c Q g D y n0 s0 L xs (mm_nx y (j.getD (i + 1))) ls' st' h') : W p l e R s m args below meth c H locs cells slots Q (F0 m pc rls (st.map (mm_up g.1 g.2.1))) := by
  obtain ⟨hx, hb, hml, -, -, hnm, hown, hts, -, hnF, hnL, -⟩ := X
  obtain ⟨hd, hn, hj, ha4, hfo, -, hroom, -⟩ := mm_okB_dec hc (by decide)
  have hj := hj (by decide)
  cases hop
  have k := kk H locs cells slots rls hS hR hL hst hcc hss hsc
  exact lv_goto hx hb hd hj k

theorem mm_step_if_eq (hc : mm_code y i = some (pc, (25, (a, b)))) (hop : mm_op mm_fld 25 a b ls st h = some (ls', (st', (h', j)))) (X : mm_X y l p R s m args meth c) (K : mm_K g D L xs s) (hS : va_S (mm_A g) s.heap H locs) (hR : mm_Rl g D h H) (hL : mm_LR g (mm_mL y) ls rls) (hst : ∀ v ∈ st, mm_ok v) (hcc : cells + n0 = h.2.1) (hss : slots + s0 = h.2.2.1) (hsc : h.2.2.2 = mm_scr L xs) (hz0 : s.heap.size ≤ g.2.1 + n0) (rc : h'.2.1 ≤ R.cells + n0) (rs : h'.2.2.1 ≤ R.slots + s0)
    (kk : mm_KK p l e R s m args below meth c Q g D y n0 s0 L xs (mm_nx y (j.getD (i + 1))) ls' st' h') : W p l e R s m args below meth c H locs cells slots Q (F0 m pc rls (st.map (mm_up g.1 g.2.1))) := by
  obtain ⟨hx, hb, hml, -, -, hnm, hown, hts, -, hnF, hnL, -⟩ := X
  obtain ⟨hd, hn, hj, ha4, hfo, -, hroom, -⟩ := mm_okB_dec hc (by decide)
  have hn := hn (by decide)
  have hj := hj (by decide)
  replace hop : mm_o_if (fun x => decide (x = 0)) a ls st h = some (ls', (st', (h', j))) := hop
  unfold mm_o_if at hop
  split at hop
  · rename_i x st
    have hy := (mm_okt hst).1
    replace hst := (mm_okt hst).2
    have hy : mm_rng x := hy
    cases hop
    refine lv_if_eq (tgt := mm_nx y a) hx hb hd hj (fun q => ?_) (fun q => ?_)
    · have k := kk H locs cells slots rls hS hR hL hst hcc hss hsc
      have q2 : (x = 0) := by exact (mm_eq0 hy).mp q
      rw [if_pos (decide_eq_true q2)] at k
      exact k
    · have k := kk H locs cells slots rls hS hR hL hst hcc hss hsc
      have q2 : ¬ (x = 0) := by exact fun z => q ((mm_eq0 hy).mpr z)
      rw [if_neg (by rw [decide_eq_true_eq]; exact q2)] at k
      rw [show (none : Option Nat).getD (i + 1) = i + 1 from rfl, hn] at k
      exact k
  · cases hop

theorem mm_step_if_ne (hc : mm_code y i = some (pc, (26, (a, b)))) (hop : mm_op mm_fld 26 a b ls st h = some (ls', (st', (h', j)))) (X : mm_X y l p R s m args meth c) (K : mm_K g D L xs s) (hS : va_S (mm_A g) s.heap H locs) (hR : mm_Rl g D h H) (hL : mm_LR g (mm_mL y) ls rls) (hst : ∀ v ∈ st, mm_ok v) (hcc : cells + n0 = h.2.1) (hss : slots + s0 = h.2.2.1) (hsc : h.2.2.2 = mm_scr L xs) (hz0 : s.heap.size ≤ g.2.1 + n0) (rc : h'.2.1 ≤ R.cells + n0) (rs : h'.2.2.1 ≤ R.slots + s0)
    (kk : mm_KK p l e R s m args below meth c Q g D y n0 s0 L xs (mm_nx y (j.getD (i + 1))) ls' st' h') : W p l e R s m args below meth c H locs cells slots Q (F0 m pc rls (st.map (mm_up g.1 g.2.1))) := by
  obtain ⟨hx, hb, hml, -, -, hnm, hown, hts, -, hnF, hnL, -⟩ := X
  obtain ⟨hd, hn, hj, ha4, hfo, -, hroom, -⟩ := mm_okB_dec hc (by decide)
  have hn := hn (by decide)
  have hj := hj (by decide)
  replace hop : mm_o_if (fun x => decide (¬ x = 0)) a ls st h = some (ls', (st', (h', j))) := hop
  unfold mm_o_if at hop
  split at hop
  · rename_i x st
    have hy := (mm_okt hst).1
    replace hst := (mm_okt hst).2
    have hy : mm_rng x := hy
    cases hop
    refine lv_if_ne (tgt := mm_nx y a) hx hb hd hj (fun q => ?_) (fun q => ?_)
    · have k := kk H locs cells slots rls hS hR hL hst hcc hss hsc
      have q2 : (¬ x = 0) := by exact (not_congr (mm_eq0 hy)).mp q
      rw [if_pos (decide_eq_true q2)] at k
      exact k
    · have k := kk H locs cells slots rls hS hR hL hst hcc hss hsc
      have q2 : ¬ (¬ x = 0) := by exact fun z => z ((mm_eq0 hy).mp q)
      rw [if_neg (by rw [decide_eq_true_eq]; exact q2)] at k
      rw [show (none : Option Nat).getD (i + 1) = i + 1 from rfl, hn] at k
      exact k
  · cases hop

theorem mm_step_if_lt (hc : mm_code y i = some (pc, (27, (a, b)))) (hop : mm_op mm_fld 27 a b ls st h = some (ls', (st', (h', j)))) (X : mm_X y l p R s m args meth c) (K : mm_K g D L xs s) (hS : va_S (mm_A g) s.heap H locs) (hR : mm_Rl g D h H) (hL : mm_LR g (mm_mL y) ls rls) (hst : ∀ v ∈ st, mm_ok v) (hcc : cells + n0 = h.2.1) (hss : slots + s0 = h.2.2.1) (hsc : h.2.2.2 = mm_scr L xs) (hz0 : s.heap.size ≤ g.2.1 + n0) (rc : h'.2.1 ≤ R.cells + n0) (rs : h'.2.2.1 ≤ R.slots + s0)
    (kk : mm_KK p l e R s m args below meth c Q g D y n0 s0 L xs (mm_nx y (j.getD (i + 1))) ls' st' h') : W p l e R s m args below meth c H locs cells slots Q (F0 m pc rls (st.map (mm_up g.1 g.2.1))) := by
  obtain ⟨hx, hb, hml, -, -, hnm, hown, hts, -, hnF, hnL, -⟩ := X
  obtain ⟨hd, hn, hj, ha4, hfo, -, hroom, -⟩ := mm_okB_dec hc (by decide)
  have hn := hn (by decide)
  have hj := hj (by decide)
  replace hop : mm_o_if (fun x => decide (x < 0)) a ls st h = some (ls', (st', (h', j))) := hop
  unfold mm_o_if at hop
  split at hop
  · rename_i x st
    have hy := (mm_okt hst).1
    replace hst := (mm_okt hst).2
    have hy : mm_rng x := hy
    cases hop
    refine lv_if_lt (tgt := mm_nx y a) hx hb hd hj (fun q => ?_) (fun q => ?_)
    · have k := kk H locs cells slots rls hS hR hL hst hcc hss hsc
      have q2 : (x < 0) := by exact (mm_lt0 hy).mp q
      rw [if_pos (decide_eq_true q2)] at k
      exact k
    · have k := kk H locs cells slots rls hS hR hL hst hcc hss hsc
      have q2 : ¬ (x < 0) := by exact fun z => q ((mm_lt0 hy).mpr z)
      rw [if_neg (by rw [decide_eq_true_eq]; exact q2)] at k
      rw [show (none : Option Nat).getD (i + 1) = i + 1 from rfl, hn] at k
      exact k
  · cases hop

theorem mm_step_if_ge (hc : mm_code y i = some (pc, (28, (a, b)))) (hop : mm_op mm_fld 28 a b ls st h = some (ls', (st', (h', j)))) (X : mm_X y l p R s m args meth c) (K : mm_K g D L xs s) (hS : va_S (mm_A g) s.heap H locs) (hR : mm_Rl g D h H) (hL : mm_LR g (mm_mL y) ls rls) (hst : ∀ v ∈ st, mm_ok v) (hcc : cells + n0 = h.2.1) (hss : slots + s0 = h.2.2.1) (hsc : h.2.2.2 = mm_scr L xs) (hz0 : s.heap.size ≤ g.2.1 + n0) (rc : h'.2.1 ≤ R.cells + n0) (rs : h'.2.2.1 ≤ R.slots + s0)
    (kk : mm_KK p l e R s m args below meth c Q g D y n0 s0 L xs (mm_nx y (j.getD (i + 1))) ls' st' h') : W p l e R s m args below meth c H locs cells slots Q (F0 m pc rls (st.map (mm_up g.1 g.2.1))) := by
  obtain ⟨hx, hb, hml, -, -, hnm, hown, hts, -, hnF, hnL, -⟩ := X
  obtain ⟨hd, hn, hj, ha4, hfo, -, hroom, -⟩ := mm_okB_dec hc (by decide)
  have hn := hn (by decide)
  have hj := hj (by decide)
  replace hop : mm_o_if (fun x => decide (0 ≤ x)) a ls st h = some (ls', (st', (h', j))) := hop
  unfold mm_o_if at hop
  split at hop
  · rename_i x st
    have hy := (mm_okt hst).1
    replace hst := (mm_okt hst).2
    have hy : mm_rng x := hy
    cases hop
    refine lv_if_ge (tgt := mm_nx y a) hx hb hd hj (fun q => ?_) (fun q => ?_)
    · have k := kk H locs cells slots rls hS hR hL hst hcc hss hsc
      have q2 : (0 ≤ x) := by exact (mm_0le hy).mp q
      rw [if_pos (decide_eq_true q2)] at k
      exact k
    · have k := kk H locs cells slots rls hS hR hL hst hcc hss hsc
      have q2 : ¬ (0 ≤ x) := by exact fun z => q ((mm_0le hy).mpr z)
      rw [if_neg (by rw [decide_eq_true_eq]; exact q2)] at k
      rw [show (none : Option Nat).getD (i + 1) = i + 1 from rfl, hn] at k
      exact k
  · cases hop

theorem mm_step_if_gt (hc : mm_code y i = some (pc, (29, (a, b)))) (hop : mm_op mm_fld 29 a b ls st h = some (ls', (st', (h', j)))) (X : mm_X y l p R s m args meth c) (K : mm_K g D L xs s) (hS : va_S (mm_A g) s.heap H locs) (hR : mm_Rl g D h H) (hL : mm_LR g (mm_mL y) ls rls) (hst : ∀ v ∈ st, mm_ok v) (hcc : cells + n0 = h.2.1) (hss : slots + s0 = h.2.2.1) (hsc : h.2.2.2 = mm_scr L xs) (hz0 : s.heap.size ≤ g.2.1 + n0) (rc : h'.2.1 ≤ R.cells + n0) (rs : h'.2.2.1 ≤ R.slots + s0)
    (kk : mm_KK p l e R s m args below meth c Q g D y n0 s0 L xs (mm_nx y (j.getD (i + 1))) ls' st' h') : W p l e R s m args below meth c H locs cells slots Q (F0 m pc rls (st.map (mm_up g.1 g.2.1))) := by
  obtain ⟨hx, hb, hml, -, -, hnm, hown, hts, -, hnF, hnL, -⟩ := X
  obtain ⟨hd, hn, hj, ha4, hfo, -, hroom, -⟩ := mm_okB_dec hc (by decide)
  have hn := hn (by decide)
  have hj := hj (by decide)
  replace hop : mm_o_if (fun x => decide (0 < x)) a ls st h = some (ls', (st', (h', j))) := hop
  unfold mm_o_if at hop
  split at hop
  · rename_i x st
    have hy := (mm_okt hst).1
    replace hst := (mm_okt hst).2
    have hy : mm_rng x := hy
    cases hop
    refine lv_if_gt (tgt := mm_nx y a) hx hb hd hj (fun q => ?_) (fun q => ?_)
    · have k := kk H locs cells slots rls hS hR hL hst hcc hss hsc
      have q2 : (0 < x) := by exact (mm_0lt hy).mp q
      rw [if_pos (decide_eq_true q2)] at k
      exact k
    · have k := kk H locs cells slots rls hS hR hL hst hcc hss hsc
      have q2 : ¬ (0 < x) := by exact fun z => q ((mm_0lt hy).mpr z)
      rw [if_neg (by rw [decide_eq_true_eq]; exact q2)] at k
      rw [show (none : Option Nat).getD (i + 1) = i + 1 from rfl, hn] at k
      exact k
  · cases hop

theorem mm_step_if_le (hc : mm_code y i = some (pc, (30, (a, b)))) (hop : mm_op mm_fld 30 a b ls st h = some (ls', (st', (h', j)))) (X : mm_X y l p R s m args meth c) (K : mm_K g D L xs s) (hS : va_S (mm_A g) s.heap H locs) (hR : mm_Rl g D h H) (hL : mm_LR g (mm_mL y) ls rls) (hst : ∀ v ∈ st, mm_ok v) (hcc : cells + n0 = h.2.1) (hss : slots + s0 = h.2.2.1) (hsc : h.2.2.2 = mm_scr L xs) (hz0 : s.heap.size ≤ g.2.1 + n0) (rc : h'.2.1 ≤ R.cells + n0) (rs : h'.2.2.1 ≤ R.slots + s0)
    (kk : mm_KK p l e R s m args below meth c Q g D y n0 s0 L xs (mm_nx y (j.getD (i + 1))) ls' st' h') : W p l e R s m args below meth c H locs cells slots Q (F0 m pc rls (st.map (mm_up g.1 g.2.1))) := by
  obtain ⟨hx, hb, hml, -, -, hnm, hown, hts, -, hnF, hnL, -⟩ := X
  obtain ⟨hd, hn, hj, ha4, hfo, -, hroom, -⟩ := mm_okB_dec hc (by decide)
  have hn := hn (by decide)
  have hj := hj (by decide)
  replace hop : mm_o_if (fun x => decide (x ≤ 0)) a ls st h = some (ls', (st', (h', j))) := hop
  unfold mm_o_if at hop
  split at hop
  · rename_i x st
    have hy := (mm_okt hst).1
    replace hst := (mm_okt hst).2
    have hy : mm_rng x := hy
    cases hop
    refine lv_if_le (tgt := mm_nx y a) hx hb hd hj (fun q => ?_) (fun q => ?_)
    · have k := kk H locs cells slots rls hS hR hL hst hcc hss hsc
      have q2 : (x ≤ 0) := by exact (mm_le0 hy).mp q
      rw [if_pos (decide_eq_true q2)] at k
      exact k
    · have k := kk H locs cells slots rls hS hR hL hst hcc hss hsc
      have q2 : ¬ (x ≤ 0) := by exact fun z => q ((mm_le0 hy).mpr z)
      rw [if_neg (by rw [decide_eq_true_eq]; exact q2)] at k
      rw [show (none : Option Nat).getD (i + 1) = i + 1 from rfl, hn] at k
      exact k
  · cases hop

theorem mm_step_icmp_eq (hc : mm_code y i = some (pc, (31, (a, b)))) (hop : mm_op mm_fld 31 a b ls st h = some (ls', (st', (h', j)))) (X : mm_X y l p R s m args meth c) (K : mm_K g D L xs s) (hS : va_S (mm_A g) s.heap H locs) (hR : mm_Rl g D h H) (hL : mm_LR g (mm_mL y) ls rls) (hst : ∀ v ∈ st, mm_ok v) (hcc : cells + n0 = h.2.1) (hss : slots + s0 = h.2.2.1) (hsc : h.2.2.2 = mm_scr L xs) (hz0 : s.heap.size ≤ g.2.1 + n0) (rc : h'.2.1 ≤ R.cells + n0) (rs : h'.2.2.1 ≤ R.slots + s0)
    (kk : mm_KK p l e R s m args below meth c Q g D y n0 s0 L xs (mm_nx y (j.getD (i + 1))) ls' st' h') : W p l e R s m args below meth c H locs cells slots Q (F0 m pc rls (st.map (mm_up g.1 g.2.1))) := by
  obtain ⟨hx, hb, hml, -, -, hnm, hown, hts, -, hnF, hnL, -⟩ := X
  obtain ⟨hd, hn, hj, ha4, hfo, -, hroom, -⟩ := mm_okB_dec hc (by decide)
  have hn := hn (by decide)
  have hj := hj (by decide)
  replace hop : mm_o_icmp (fun x y => decide (x = y)) a ls st h = some (ls', (st', (h', j))) := hop
  unfold mm_o_icmp at hop
  split at hop
  · rename_i y9 x9 st
    have hy := (mm_okt hst).1
    replace hst := (mm_okt hst).2
    have hx9 := (mm_okt hst).1
    replace hst := (mm_okt hst).2
    have hy : mm_rng y9 := hy
    have hx9 : mm_rng x9 := hx9
    cases hop
    refine lv_icmp_eq (tgt := mm_nx y a) hx hb hd hj (fun q => ?_) (fun q => ?_)
    · have k := kk H locs cells slots rls hS hR hL hst hcc hss hsc
      have q2 : (x9 = y9) := by exact (mm_eqI hx9 hy).mp q
      rw [if_pos (decide_eq_true q2)] at k
      exact k
    · have k := kk H locs cells slots rls hS hR hL hst hcc hss hsc
      have q2 : ¬ (x9 = y9) := by exact fun z => q ((mm_eqI hx9 hy).mpr z)
      rw [if_neg (by rw [decide_eq_true_eq]; exact q2)] at k
      rw [show (none : Option Nat).getD (i + 1) = i + 1 from rfl, hn] at k
      exact k
  · cases hop

theorem mm_step_icmp_ne (hc : mm_code y i = some (pc, (32, (a, b)))) (hop : mm_op mm_fld 32 a b ls st h = some (ls', (st', (h', j)))) (X : mm_X y l p R s m args meth c) (K : mm_K g D L xs s) (hS : va_S (mm_A g) s.heap H locs) (hR : mm_Rl g D h H) (hL : mm_LR g (mm_mL y) ls rls) (hst : ∀ v ∈ st, mm_ok v) (hcc : cells + n0 = h.2.1) (hss : slots + s0 = h.2.2.1) (hsc : h.2.2.2 = mm_scr L xs) (hz0 : s.heap.size ≤ g.2.1 + n0) (rc : h'.2.1 ≤ R.cells + n0) (rs : h'.2.2.1 ≤ R.slots + s0)
    (kk : mm_KK p l e R s m args below meth c Q g D y n0 s0 L xs (mm_nx y (j.getD (i + 1))) ls' st' h') : W p l e R s m args below meth c H locs cells slots Q (F0 m pc rls (st.map (mm_up g.1 g.2.1))) := by
  obtain ⟨hx, hb, hml, -, -, hnm, hown, hts, -, hnF, hnL, -⟩ := X
  obtain ⟨hd, hn, hj, ha4, hfo, -, hroom, -⟩ := mm_okB_dec hc (by decide)
  have hn := hn (by decide)
  have hj := hj (by decide)
  replace hop : mm_o_icmp (fun x y => decide (¬ x = y)) a ls st h = some (ls', (st', (h', j))) := hop
  unfold mm_o_icmp at hop
  split at hop
  · rename_i y9 x9 st
    have hy := (mm_okt hst).1
    replace hst := (mm_okt hst).2
    have hx9 := (mm_okt hst).1
    replace hst := (mm_okt hst).2
    have hy : mm_rng y9 := hy
    have hx9 : mm_rng x9 := hx9
    cases hop
    refine lv_icmp_ne (tgt := mm_nx y a) hx hb hd hj (fun q => ?_) (fun q => ?_)
    · have k := kk H locs cells slots rls hS hR hL hst hcc hss hsc
      have q2 : (¬ x9 = y9) := by exact (not_congr (mm_eqI hx9 hy)).mp q
      rw [if_pos (decide_eq_true q2)] at k
      exact k
    · have k := kk H locs cells slots rls hS hR hL hst hcc hss hsc
      have q2 : ¬ (¬ x9 = y9) := by exact fun z => z ((mm_eqI hx9 hy).mp q)
      rw [if_neg (by rw [decide_eq_true_eq]; exact q2)] at k
      rw [show (none : Option Nat).getD (i + 1) = i + 1 from rfl, hn] at k
      exact k
  · cases hop

theorem mm_step_icmp_lt (hc : mm_code y i = some (pc, (33, (a, b)))) (hop : mm_op mm_fld 33 a b ls st h = some (ls', (st', (h', j)))) (X : mm_X y l p R s m args meth c) (K : mm_K g D L xs s) (hS : va_S (mm_A g) s.heap H locs) (hR : mm_Rl g D h H) (hL : mm_LR g (mm_mL y) ls rls) (hst : ∀ v ∈ st, mm_ok v) (hcc : cells + n0 = h.2.1) (hss : slots + s0 = h.2.2.1) (hsc : h.2.2.2 = mm_scr L xs) (hz0 : s.heap.size ≤ g.2.1 + n0) (rc : h'.2.1 ≤ R.cells + n0) (rs : h'.2.2.1 ≤ R.slots + s0)
    (kk : mm_KK p l e R s m args below meth c Q g D y n0 s0 L xs (mm_nx y (j.getD (i + 1))) ls' st' h') : W p l e R s m args below meth c H locs cells slots Q (F0 m pc rls (st.map (mm_up g.1 g.2.1))) := by
  obtain ⟨hx, hb, hml, -, -, hnm, hown, hts, -, hnF, hnL, -⟩ := X
  obtain ⟨hd, hn, hj, ha4, hfo, -, hroom, -⟩ := mm_okB_dec hc (by decide)
  have hn := hn (by decide)
  have hj := hj (by decide)
  replace hop : mm_o_icmp (fun x y => decide (x < y)) a ls st h = some (ls', (st', (h', j))) := hop
  unfold mm_o_icmp at hop
  split at hop
  · rename_i y9 x9 st
    have hy := (mm_okt hst).1
    replace hst := (mm_okt hst).2
    have hx9 := (mm_okt hst).1
    replace hst := (mm_okt hst).2
    have hy : mm_rng y9 := hy
    have hx9 : mm_rng x9 := hx9
    cases hop
    refine lv_icmp_lt (tgt := mm_nx y a) hx hb hd hj (fun q => ?_) (fun q => ?_)
    · have k := kk H locs cells slots rls hS hR hL hst hcc hss hsc
      have q2 : (x9 < y9) := by exact (mm_ltI hx9 hy).mp q
      rw [if_pos (decide_eq_true q2)] at k
      exact k
    · have k := kk H locs cells slots rls hS hR hL hst hcc hss hsc
      have q2 : ¬ (x9 < y9) := by exact fun z => q ((mm_ltI hx9 hy).mpr z)
      rw [if_neg (by rw [decide_eq_true_eq]; exact q2)] at k
      rw [show (none : Option Nat).getD (i + 1) = i + 1 from rfl, hn] at k
      exact k
  · cases hop

theorem mm_step_icmp_ge (hc : mm_code y i = some (pc, (34, (a, b)))) (hop : mm_op mm_fld 34 a b ls st h = some (ls', (st', (h', j)))) (X : mm_X y l p R s m args meth c) (K : mm_K g D L xs s) (hS : va_S (mm_A g) s.heap H locs) (hR : mm_Rl g D h H) (hL : mm_LR g (mm_mL y) ls rls) (hst : ∀ v ∈ st, mm_ok v) (hcc : cells + n0 = h.2.1) (hss : slots + s0 = h.2.2.1) (hsc : h.2.2.2 = mm_scr L xs) (hz0 : s.heap.size ≤ g.2.1 + n0) (rc : h'.2.1 ≤ R.cells + n0) (rs : h'.2.2.1 ≤ R.slots + s0)
    (kk : mm_KK p l e R s m args below meth c Q g D y n0 s0 L xs (mm_nx y (j.getD (i + 1))) ls' st' h') : W p l e R s m args below meth c H locs cells slots Q (F0 m pc rls (st.map (mm_up g.1 g.2.1))) := by
  obtain ⟨hx, hb, hml, -, -, hnm, hown, hts, -, hnF, hnL, -⟩ := X
  obtain ⟨hd, hn, hj, ha4, hfo, -, hroom, -⟩ := mm_okB_dec hc (by decide)
  have hn := hn (by decide)
  have hj := hj (by decide)
  replace hop : mm_o_icmp (fun x y => decide (y ≤ x)) a ls st h = some (ls', (st', (h', j))) := hop
  unfold mm_o_icmp at hop
  split at hop
  · rename_i y9 x9 st
    have hy := (mm_okt hst).1
    replace hst := (mm_okt hst).2
    have hx9 := (mm_okt hst).1
    replace hst := (mm_okt hst).2
    have hy : mm_rng y9 := hy
    have hx9 : mm_rng x9 := hx9
    cases hop
    refine lv_icmp_ge (tgt := mm_nx y a) hx hb hd hj (fun q => ?_) (fun q => ?_)
    · have k := kk H locs cells slots rls hS hR hL hst hcc hss hsc
      have q2 : (y9 ≤ x9) := by exact (mm_leI hy hx9).mp q
      rw [if_pos (decide_eq_true q2)] at k
      exact k
    · have k := kk H locs cells slots rls hS hR hL hst hcc hss hsc
      have q2 : ¬ (y9 ≤ x9) := by exact fun z => q ((mm_leI hy hx9).mpr z)
      rw [if_neg (by rw [decide_eq_true_eq]; exact q2)] at k
      rw [show (none : Option Nat).getD (i + 1) = i + 1 from rfl, hn] at k
      exact k
  · cases hop

theorem mm_step_icmp_gt (hc : mm_code y i = some (pc, (35, (a, b)))) (hop : mm_op mm_fld 35 a b ls st h = some (ls', (st', (h', j)))) (X : mm_X y l p R s m args meth c) (K : mm_K g D L xs s) (hS : va_S (mm_A g) s.heap H locs) (hR : mm_Rl g D h H) (hL : mm_LR g (mm_mL y) ls rls) (hst : ∀ v ∈ st, mm_ok v) (hcc : cells + n0 = h.2.1) (hss : slots + s0 = h.2.2.1) (hsc : h.2.2.2 = mm_scr L xs) (hz0 : s.heap.size ≤ g.2.1 + n0) (rc : h'.2.1 ≤ R.cells + n0) (rs : h'.2.2.1 ≤ R.slots + s0)
    (kk : mm_KK p l e R s m args below meth c Q g D y n0 s0 L xs (mm_nx y (j.getD (i + 1))) ls' st' h') : W p l e R s m args below meth c H locs cells slots Q (F0 m pc rls (st.map (mm_up g.1 g.2.1))) := by
  obtain ⟨hx, hb, hml, -, -, hnm, hown, hts, -, hnF, hnL, -⟩ := X
  obtain ⟨hd, hn, hj, ha4, hfo, -, hroom, -⟩ := mm_okB_dec hc (by decide)
  have hn := hn (by decide)
  have hj := hj (by decide)
  replace hop : mm_o_icmp (fun x y => decide (y < x)) a ls st h = some (ls', (st', (h', j))) := hop
  unfold mm_o_icmp at hop
  split at hop
  · rename_i y9 x9 st
    have hy := (mm_okt hst).1
    replace hst := (mm_okt hst).2
    have hx9 := (mm_okt hst).1
    replace hst := (mm_okt hst).2
    have hy : mm_rng y9 := hy
    have hx9 : mm_rng x9 := hx9
    cases hop
    refine lv_icmp_gt (tgt := mm_nx y a) hx hb hd hj (fun q => ?_) (fun q => ?_)
    · have k := kk H locs cells slots rls hS hR hL hst hcc hss hsc
      have q2 : (y9 < x9) := by exact (mm_ltI hy hx9).mp q
      rw [if_pos (decide_eq_true q2)] at k
      exact k
    · have k := kk H locs cells slots rls hS hR hL hst hcc hss hsc
      have q2 : ¬ (y9 < x9) := by exact fun z => q ((mm_ltI hy hx9).mpr z)
      rw [if_neg (by rw [decide_eq_true_eq]; exact q2)] at k
      rw [show (none : Option Nat).getD (i + 1) = i + 1 from rfl, hn] at k
      exact k
  · cases hop

theorem mm_step_icmp_le (hc : mm_code y i = some (pc, (36, (a, b)))) (hop : mm_op mm_fld 36 a b ls st h = some (ls', (st', (h', j)))) (X : mm_X y l p R s m args meth c) (K : mm_K g D L xs s) (hS : va_S (mm_A g) s.heap H locs) (hR : mm_Rl g D h H) (hL : mm_LR g (mm_mL y) ls rls) (hst : ∀ v ∈ st, mm_ok v) (hcc : cells + n0 = h.2.1) (hss : slots + s0 = h.2.2.1) (hsc : h.2.2.2 = mm_scr L xs) (hz0 : s.heap.size ≤ g.2.1 + n0) (rc : h'.2.1 ≤ R.cells + n0) (rs : h'.2.2.1 ≤ R.slots + s0)
    (kk : mm_KK p l e R s m args below meth c Q g D y n0 s0 L xs (mm_nx y (j.getD (i + 1))) ls' st' h') : W p l e R s m args below meth c H locs cells slots Q (F0 m pc rls (st.map (mm_up g.1 g.2.1))) := by
  obtain ⟨hx, hb, hml, -, -, hnm, hown, hts, -, hnF, hnL, -⟩ := X
  obtain ⟨hd, hn, hj, ha4, hfo, -, hroom, -⟩ := mm_okB_dec hc (by decide)
  have hn := hn (by decide)
  have hj := hj (by decide)
  replace hop : mm_o_icmp (fun x y => decide (x ≤ y)) a ls st h = some (ls', (st', (h', j))) := hop
  unfold mm_o_icmp at hop
  split at hop
  · rename_i y9 x9 st
    have hy := (mm_okt hst).1
    replace hst := (mm_okt hst).2
    have hx9 := (mm_okt hst).1
    replace hst := (mm_okt hst).2
    have hy : mm_rng y9 := hy
    have hx9 : mm_rng x9 := hx9
    cases hop
    refine lv_icmp_le (tgt := mm_nx y a) hx hb hd hj (fun q => ?_) (fun q => ?_)
    · have k := kk H locs cells slots rls hS hR hL hst hcc hss hsc
      have q2 : (x9 ≤ y9) := by exact (mm_leI hx9 hy).mp q
      rw [if_pos (decide_eq_true q2)] at k
      exact k
    · have k := kk H locs cells slots rls hS hR hL hst hcc hss hsc
      have q2 : ¬ (x9 ≤ y9) := by exact fun z => q ((mm_leI hx9 hy).mpr z)
      rw [if_neg (by rw [decide_eq_true_eq]; exact q2)] at k
      rw [show (none : Option Nat).getD (i + 1) = i + 1 from rfl, hn] at k
      exact k
  · cases hop

theorem mm_step_ifnull (hc : mm_code y i = some (pc, (37, (a, b)))) (hop : mm_op mm_fld 37 a b ls st h = some (ls', (st', (h', j)))) (X : mm_X y l p R s m args meth c) (K : mm_K g D L xs s) (hS : va_S (mm_A g) s.heap H locs) (hR : mm_Rl g D h H) (hL : mm_LR g (mm_mL y) ls rls) (hst : ∀ v ∈ st, mm_ok v) (hcc : cells + n0 = h.2.1) (hss : slots + s0 = h.2.2.1) (hsc : h.2.2.2 = mm_scr L xs) (hz0 : s.heap.size ≤ g.2.1 + n0) (rc : h'.2.1 ≤ R.cells + n0) (rs : h'.2.2.1 ≤ R.slots + s0)
    (kk : mm_KK p l e R s m args below meth c Q g D y n0 s0 L xs (mm_nx y (j.getD (i + 1))) ls' st' h') : W p l e R s m args below meth c H locs cells slots Q (F0 m pc rls (st.map (mm_up g.1 g.2.1))) := by
  obtain ⟨hx, hb, hml, -, -, hnm, hown, hts, -, hnF, hnL, -⟩ := X
  obtain ⟨hd, hn, hj, ha4, hfo, -, hroom, -⟩ := mm_okB_dec hc (by decide)
  have hn := hn (by decide)
  have hj := hj (by decide)
  replace hop : mm_o_null true a ls st h = some (ls', (st', (h', j))) := hop
  unfold mm_o_null at hop
  split at hop
  · rename_i r st
    cases hop
    have k := kk H locs cells slots rls hS hR hL (mm_okt hst).2 hcc hss hsc
    cases r with
    | none => exact lv_ifnullN hx hb hd hj k
    | some r =>
      have k : W p l e R s m args below meth c H locs cells slots Q (F0 m (mm_nx y (i + 1)) rls (st'.map (mm_up g.1 g.2.1))) := k
      rw [hn] at k
      exact lv_ifnull hx hb hd k
  · cases hop

theorem mm_step_ifnonnull (hc : mm_code y i = some (pc, (38, (a, b)))) (hop : mm_op mm_fld 38 a b ls st h = some (ls', (st', (h', j)))) (X : mm_X y l p R s m args meth c) (K : mm_K g D L xs s) (hS : va_S (mm_A g) s.heap H locs) (hR : mm_Rl g D h H) (hL : mm_LR g (mm_mL y) ls rls) (hst : ∀ v ∈ st, mm_ok v) (hcc : cells + n0 = h.2.1) (hss : slots + s0 = h.2.2.1) (hsc : h.2.2.2 = mm_scr L xs) (hz0 : s.heap.size ≤ g.2.1 + n0) (rc : h'.2.1 ≤ R.cells + n0) (rs : h'.2.2.1 ≤ R.slots + s0)
    (kk : mm_KK p l e R s m args below meth c Q g D y n0 s0 L xs (mm_nx y (j.getD (i + 1))) ls' st' h') : W p l e R s m args below meth c H locs cells slots Q (F0 m pc rls (st.map (mm_up g.1 g.2.1))) := by
  obtain ⟨hx, hb, hml, -, -, hnm, hown, hts, -, hnF, hnL, -⟩ := X
  obtain ⟨hd, hn, hj, ha4, hfo, -, hroom, -⟩ := mm_okB_dec hc (by decide)
  have hn := hn (by decide)
  have hj := hj (by decide)
  replace hop : mm_o_null false a ls st h = some (ls', (st', (h', j))) := hop
  unfold mm_o_null at hop
  split at hop
  · rename_i r st
    cases hop
    have k := kk H locs cells slots rls hS hR hL (mm_okt hst).2 hcc hss hsc
    cases r with
    | none =>
      have k : W p l e R s m args below meth c H locs cells slots Q (F0 m (mm_nx y (i + 1)) rls (st'.map (mm_up g.1 g.2.1))) := k
      rw [hn] at k
      exact lv_ifnonnullN hx hb hd k
    | some r => exact lv_ifnonnull hx hb hd hj k
  · cases hop

theorem mm_step_aconst_null (hc : mm_code y i = some (pc, (39, (a, b)))) (hop : mm_op mm_fld 39 a b ls st h = some (ls', (st', (h', j)))) (X : mm_X y l p R s m args meth c) (K : mm_K g D L xs s) (hS : va_S (mm_A g) s.heap H locs) (hR : mm_Rl g D h H) (hL : mm_LR g (mm_mL y) ls rls) (hst : ∀ v ∈ st, mm_ok v) (hcc : cells + n0 = h.2.1) (hss : slots + s0 = h.2.2.1) (hsc : h.2.2.2 = mm_scr L xs) (hz0 : s.heap.size ≤ g.2.1 + n0) (rc : h'.2.1 ≤ R.cells + n0) (rs : h'.2.2.1 ≤ R.slots + s0)
    (kk : mm_KK p l e R s m args below meth c Q g D y n0 s0 L xs (mm_nx y (j.getD (i + 1))) ls' st' h') : W p l e R s m args below meth c H locs cells slots Q (F0 m pc rls (st.map (mm_up g.1 g.2.1))) := by
  obtain ⟨hx, hb, hml, -, -, hnm, hown, hts, -, hnF, hnL, -⟩ := X
  obtain ⟨hd, hn, hj, ha4, hfo, -, hroom, -⟩ := mm_okB_dec hc (by decide)
  have hn := hn (by decide)
  cases hop
  have k := kk H locs cells slots rls hS hR hL (mm_okc trivial hst) hcc hss hsc
  rw [show (none : Option Nat).getD (i + 1) = i + 1 from rfl, hn] at k
  exact lv_null hx hb hd k

theorem mm_step_ldc (hc : mm_code y i = some (pc, (55, (a, b)))) (hop : mm_op mm_fld 55 a b ls st h = some (ls', (st', (h', j)))) (X : mm_X y l p R s m args meth c) (K : mm_K g D L xs s) (hS : va_S (mm_A g) s.heap H locs) (hR : mm_Rl g D h H) (hL : mm_LR g (mm_mL y) ls rls) (hst : ∀ v ∈ st, mm_ok v) (hcc : cells + n0 = h.2.1) (hss : slots + s0 = h.2.2.1) (hsc : h.2.2.2 = mm_scr L xs) (hz0 : s.heap.size ≤ g.2.1 + n0) (rc : h'.2.1 ≤ R.cells + n0) (rs : h'.2.2.1 ≤ R.slots + s0)
    (kk : mm_KK p l e R s m args below meth c Q g D y n0 s0 L xs (mm_nx y (j.getD (i + 1))) ls' st' h') : W p l e R s m args below meth c H locs cells slots Q (F0 m pc rls (st.map (mm_up g.1 g.2.1))) := by
  obtain ⟨hx, hb, hml, -, -, hnm, hown, hts, -, hnF, hnL, -⟩ := X
  obtain ⟨hd, hn, hj, ha4, hfo, -, hroom, -⟩ := mm_okB_dec hc (by decide)
  have hn := hn (by decide)
  replace hop : (if mm_rng b then some (ls, (mm_I b :: st, (h, none))) else none) = some (ls', (st', (h', j))) := hop
  by_cases hr : mm_rng b
  · rw [if_pos hr] at hop
    cases hop
    have k := kk H locs cells slots rls hS hR hL (mm_okc hr hst) hcc hss hsc
    rw [show (none : Option Nat).getD (i + 1) = i + 1 from rfl, hn] at k
    exact lv_ldc hx hb hown (hts _ ((mm_NA _ (mm_nA hc rfl)).2.2.2.2.2 rfl)) hd k
  · rw [if_neg hr] at hop
    cases hop
end MMS
