theorem mm_badT {E : String} : ∀ w ∈ mm_bad E, w.onTables = true := by
  intro w hw
  unfold mm_bad at hw
  rcases List.mem_cons.mp hw with rfl | hw
  · rfl
  rcases List.mem_cons.mp hw with rfl | hw
  · rfl
  rcases List.mem_cons.mp hw with rfl | hw
  · rfl
  rcases List.mem_cons.mp hw with rfl | hw
  · rfl
  cases hw
theorem mm_siteH : ∀ a, a < mm_siteT.length → ((mm_sd a).2.2.2 ≠ 106 → mm_hh (mm_sd a).1.1 = []) ∧ ((mm_sd a).2.2.2 = 106 → mm_own (mm_sd a).1.1 = (mm_sd a).2.1) ∧ (mm_sd a).1.1 < 84 := by decide +kernel
theorem mm_handA : ∀ y E z, mm_hand y E = some z → ((y, E), z) ∈ mm_handT := by
  intro y E z h
  unfold mm_hand at h
  exact List.lookup_eq_some_iff.mp h |>.elim (fun l1 h2 => by obtain ⟨l2, h3, -⟩ := h2; rw [h3]; simp)
section MMM
variable {p : Program} {l : Launch} {e : Env} {R : Room} {s : State} {m : MethodId} {args : Array Value} {below : List Frame} {meth : Method} {c : Code} {H : Heap} {locs : List Loc} {cells slots : Nat} {Q : State → Prop}
variable {g : mm_G} {D : va_G} {y i pc op a : Nat} {b : Int} {ls ls' : mm_F} {st st' : List mm_V} {h h' : mm_H} {j : Option Nat} {rls : Array Slot} {n0 s0 L : Nat} {xs : Nat → Int32}
/-- the rows that end a method -/
theorem mm_end {mc ms : Nat} {o : mm_O} (hc : mm_code y i = some (pc, (op, (a, b)))) (X : mm_X y l p R s m args meth c) (K : mm_K g D L xs s) (hS : va_S (mm_A g) s.heap H locs) (hR : mm_Rl g D h H) (hL : mm_LR g (mm_mL y) ls rls) (hst : ∀ v ∈ st, mm_ok v) (hmc : cells = mc) (hms : slots = ms)
    (ho : (op = 100 ∧ ∃ z, st = [.inl z] ∧ o = .inl (some (mm_I z))) ∨ (op = 101 ∧ ∃ z, st = [.inl z] ∧ (z = 0 ∨ z = 1) ∧ o = .inl (some (mm_I z))) ∨ (op = 102 ∧ ∃ r, st = [.inr (.inr (some r))] ∧ o = .inl (some (mm_P r))) ∨ (op = 103 ∧ st = [] ∧ o = .inl none)) :
    W p l e R s m args below meth c H locs cells slots (vx_MQ below (mm_Qc g D o h) (mm_XC g D o h) args s mc ms (mm_A g)) (F0 m pc rls (st.map (mm_up g.1 g.2.1))) := by
  subst hmc; subst hms
  obtain ⟨hx, hb, hml, hr, hlk, hnm, hown, hts, htab, hnF, hnL, htr⟩ := X
  rcases ho with ⟨rfl, z, rfl, rfl⟩ | ⟨rfl, z, rfl, hz, rfl⟩ | ⟨rfl, r, rfl, rfl⟩ | ⟨rfl, rfl, rfl⟩
  · obtain ⟨hd, -, -, -, -, -, -, -, h100, -⟩ := mm_okB_dec hc (by decide)
    exact vx_ret (W.iret (v := Int32.ofInt z) hx hb (hr.trans (h100 rfl)) (fun t ht hW => ⟨⟨some (mm_I z), rfl, rfl, by rw [ht]; exact hR, fun w hw => by cases hw; exact hst _ List.mem_cons_self⟩, hS.F ht⟩) hS.2.2 hd hlk)
  · obtain ⟨hd, -, -, -, -, -, -, -, -, h101, -⟩ := mm_okB_dec hc (by decide)
    exact vx_ret (W.zret (v := Int32.ofInt z) hx hb (hr.trans (h101 rfl)) (by rcases hz with rfl | rfl <;> rfl) (fun t ht hW => ⟨⟨some (mm_I z), rfl, rfl, by rw [ht]; exact hR, fun w hw => by cases hw; exact hst _ List.mem_cons_self⟩, hS.F ht⟩) hS.2.2 hd hlk)
  · obtain ⟨hd, -, -, -, -, -, -, -, -, -, h102, -⟩ := mm_okB_dec hc (by decide)
    exact vx_ret (W.aret (v := .ref (mm_ad g.1 g.2.1 r)) hx hb (hr.trans (h102 rfl)) (Or.inl ⟨_, rfl⟩) (Or.inr ⟨_, rfl⟩) (fun t ht hW => ⟨⟨some (mm_P r), rfl, rfl, by rw [ht]; exact hR, fun w hw => by cases hw; trivial⟩, hS.F ht⟩) hS.2.2 hd hlk)
  · obtain ⟨hd, -, -, -, -, -, -, -, -, -, -, h103⟩ := mm_okB_dec hc (by decide)
    exact vx_ret (W.vret hx hb (hr.trans (h103 rfl)) (fun t ht hW => ⟨⟨none, rfl, rfl, by rw [ht]; exact hR, fun w hw => by cases hw⟩, hS.F ht⟩) hS.2.2 hd hlk)
theorem mm_thr {mc ms : Nat} (hc : mm_code y i = some (pc, (104, (a, b)))) (X : mm_X y l p R s m args meth c) (K : mm_K g D L xs s) (hS : va_S (mm_A g) s.heap H locs) (hR : mm_Rl g D h H) (hL : mm_LR g (mm_mL y) ls rls) (hmc : cells + 1 = mc) (hms : slots + 6 = ms) (rc : mc ≤ R.cells) (rs : ms ≤ R.slots) {t4 : Nat × (Nat × List Int)} (ht4 : t4.2.2 = h.2.2.2) :
    W p l e R s m args below meth c H locs cells slots (vx_MQ below (mm_Qc g D (.inr b.toNat) (h.1, t4)) (mm_XC g D (.inr b.toNat) (h.1, t4)) args s mc ms (mm_A g)) (F0 m pc rls []) := by
  subst hmc; subst hms
  obtain ⟨hx, hb, hml, hr, hlk, hnm, hown, hts, htab, hnF, hnL, htr⟩ := X
  obtain ⟨hd, -, -, -, -, -, -, h104, -⟩ := mm_okB_dec hc (by decide)
  obtain ⟨q1, q2, q3, q4, q5, q6, d3, d4, d6, d9⟩ := h104 rfl
  obtain ⟨t1, t2, t3, t5, t6, t7, t8⟩ := mm_TA q3
  obtain ⟨K1, K2, K3, K4, K5, K6, K7, K8, K9, K10, K11, K12⟩ := K
  obtain ⟨sa, hsa⟩ := K4 a q3
  rw [q4] at hown
  refine vx_throwS (A := mm_A g) (own := RX4) (cls := mm_en (mm_th a).2.2.2.1) (text := (mm_th a).2.2.2.2) (names := mm_nms) (ik := (mm_th a).1) (is := (mm_th a).2.1) (ic := (mm_th a).2.2.1) (sa := sa) hx hb htr hown t8 mm_fitN (hts _ t2) (hts _ t3) hsa (vx_hat (fun w hw => hts w (t5 w hw)) t6 (fun w hw => va_Nw.use (mm_badT w hw) (K5 _ t1 w hw))) t7 K2 K3 hS (by rw [hL.2.1, hml]) hd d3 d4 d6 d9 ?_ (by show 2 + 3 < R.frames; omega) (by show 0 + (13 * (2 + 1) + 43) ≤ R.locals; omega) rc rs hlk ?_ hS.2.2 (Nat.le_refl _) (Nat.le_refl _)
  · intro x hx9
    rw [htab, q6] at hx9
    cases hx9
  · intro t ha hz hq
    refine ⟨⟨b.toNat, rfl, by rw [q5], by rw [← q5]; exact t1, ?_⟩, ?_⟩
    · refine ⟨hR.1.kept (fun k q hk => hq _ (hR.1 k q hk).lt), hR.2.1, hR.2.2.1, by show ∀ z ∈ t4.2.2, mm_rng z; rw [ht4]; exact hR.2.2.2⟩
    · exact ⟨Nat.le_trans hS.1 hz, fun q h1 h2 => (hq q (Nat.lt_of_lt_of_le h1 hS.1)).trans (hS.2.1 q h1 h2)⟩
theorem mm_catR {b b0 : Nat} {rest : List mm_V} (h : mm_rOK rest) : ((rest.map (mm_up b b0)).map fun v => v.category).sum ≤ 8 := by
  rcases h with h | ⟨h1, h2⟩
  · have := mm_catS (b := b) (b0 := b0) rest
    omega
  · have key : ∀ r : List mm_V, r.all mm_no2 = true → ((r.map (mm_up b b0)).map fun v => v.category).sum = r.length := by
      intro r
      induction r with
      | nil => intro _; rfl
      | cons v r ih =>
        intro hr
        rw [List.all_cons, Bool.and_eq_true] at hr
        rw [List.map_cons, List.map_cons, List.sum_cons, List.length_cons, ih hr.2, mm_cat hr.1]
        omega
    rw [key rest h2]
    exact h1
/-- a call, whatever the callee does -/
theorem mm_callA {n : Nat} (hB : mm_B l n) {o1 : mm_O} {h1 : mm_H} (h105 : 105 ≤ op ∧ op ≤ 108) (hc : mm_code y i = some (pc, (op, (a, b)))) (X : mm_X y l p R s m args meth c) (K : mm_K g D L xs s) (hz0 : s.heap.size ≤ g.2.1 + n0) (hS : va_S (mm_A g) s.heap H locs) (hR : mm_Rl g D h H) (hL : mm_LR g (mm_mL y) ls rls) (hst : ∀ v ∈ st, mm_ok v) (hcc : cells + n0 = h.2.1) (hss : slots + s0 = h.2.2.1) (hsc : h.2.2.2 = mm_scr L xs)
    (hg : (mm_site a).2.1 ≤ st.length ∧ mm_rOK (st.drop (mm_site a).2.1) ∧ ((st.take (mm_site a).2.1).reverse).all mm_no2 = true ∧ (mm_site a).2.1 ≤ (mm_site a).2.2.1 ∧ mm_rcv (mm_site a).2.2.2 (st.take (mm_site a).2.1).reverse h = true)
    (hrun : mm_go n (mm_site a).1 0 ((st.take (mm_site a).2.1).reverse.map some ++ List.replicate ((mm_site a).2.2.1 - (mm_site a).2.1) none) [] h = some (o1, h1)) (h107 : op = 107 ∨ op = 108 → ∃ v, o1 = .inl v) (rc : h1.2.1 ≤ R.cells + n0) (rs : h1.2.2.1 ≤ R.slots + s0)
    (kx : ∀ (k q9 : Nat) (ce : Cell) (H1 : Heap) (locs1 : List Loc) (cells1 slots1 : Nat), o1 = .inr k → k < 3 → cells1 + n0 = h1.2.1 → slots1 + s0 = h1.2.2.1 → va_S (mm_A g) s.heap H1 locs1 → mm_Rl g D h1 H1 → H1[q9]? = some ce → ce.vm = .none → s.vm.findClass (mm_en k) = some ce.cls → vx_W p l e R s m args below meth c H1 locs1 cells1 slots1 Q (F0 m pc rls ((st.drop (mm_site a).2.1).map (mm_up g.1 g.2.1))) q9)
    (kk : ∀ v : Option mm_V, o1 = .inl v → mm_KK p l e R s m args below meth c Q g D y n0 s0 L xs (mm_nx y (i + 1)) ls (v.toList ++ st.drop (mm_site a).2.1) h1) :
    W p l e R s m args below meth c H locs cells slots Q (F0 m pc rls (st.map (mm_up g.1 g.2.1))) := by
  obtain ⟨hx, hb, hml, hr, hlk, hnm, hown, hts, htab, hnF, hnL, htr⟩ := id X
  obtain ⟨hd, hn, -, -, -, hsite, -⟩ := mm_okB_dec hc (by omega)
  have hn := hn (by omega)
  obtain ⟨s1, s2, s3, s4, s5⟩ := hsite h105
  obtain ⟨t1, t2, t3, t4, t5, t6, t7, t8, t9⟩ := mm_SA s3
  obtain ⟨u1, u2, u3⟩ := mm_siteH a s3
  obtain ⟨m1, m2, m3, m4, m5, m6, m7, m8⟩ := mm_MA u3
  obtain ⟨g1, g2, g3, g4, g5⟩ := hg
  obtain ⟨mo1, mo2, mo3⟩ := mm_mono _ _ _ _ _ _ _ _ hrun
  obtain ⟨mc1, hmc1⟩ : ∃ z, z + h.2.1 = h1.2.1 := ⟨h1.2.1 - h.2.1, by omega⟩
  obtain ⟨ms1, hms1⟩ : ∃ z, z + h.2.2.1 = h1.2.2.1 := ⟨h1.2.2.1 - h.2.2.1, by omega⟩
  obtain ⟨av, hav⟩ : ∃ z, z = (st.take (mm_site a).2.1).reverse := ⟨_, rfl⟩
  obtain ⟨rest, hrest⟩ : ∃ z, z = st.drop (mm_site a).2.1 := ⟨_, rfl⟩
  rw [← hav] at g3 g5 hrun
  rw [← hrest] at g2 kk kx
  have est : st = av.reverse ++ rest := by rw [hav, hrest, List.reverse_reverse, List.take_append_drop]
  have hlen : av.length = (mm_site a).2.1 := by rw [hav, List.length_reverse, List.length_take]; omega
  have hoka : ∀ v ∈ av, mm_ok v := fun v hv => hst v (by rw [est]; exact List.mem_append_left _ (List.mem_reverse.mpr hv))
  have hokr : ∀ v ∈ rest, mm_ok v := fun v hv => hst v (by rw [est]; exact List.mem_append_right _ hv)
  rw [← hlen, show (mm_site a).2.2.1 = mm_mL (mm_sd a).1.1 from t2] at hrun
  have hM := mm_meth (g := g) (D := D) (L := L) (xs := xs) hB htr u3 hrun g3 hoka (by rw [hlen]; rw [show (mm_site a).2.2.1 = mm_mL (mm_sd a).1.1 from t2] at g4; exact g4) hsc hmc1 hms1
  have hcat : 2 * (F0 m pc rls (st.map (mm_up g.1 g.2.1))).monitorRoom + ((rest.map (mm_up g.1 g.2.1)).map fun v => v.category).sum ≤ 8 := lv_room (mm_catR g2)
  have hRm : mm_nF (mm_sd a).1.1 + 1 ≤ R.frames ∧ 8 + (mm_mL (mm_sd a).1.1 + 11) + mm_nL (mm_sd a).1.1 ≤ R.locals := ⟨by omega, by omega⟩
  have hsz9 : rls.size = mm_mL y := hL.2.1
  have hGw := mm_wy_good u3
  rw [s1] at t4
  have hcode : mm_hh (mm_sd a).1.1 = [] → mm_cw (mm_sd a).1.1 = Cond.code (mm_yn (mm_sd a).1.1) (mm_by (mm_sd a).1.1) (mm_mL (mm_sd a).1.1) (mm_rt (mm_sd a).1.1) := fun q => if_pos q
  have hkk2 : ∀ (v : Option mm_V) (H1 : Heap) (locs1 : List Loc), o1 = .inl v → va_S (mm_A g) s.heap H1 locs1 → mm_Rl g D h1 H1 → (∀ w ∈ v, mm_ok w) → W p l e R s m args below meth c H1 locs1 (cells + mc1) (slots + ms1) Q (F0 m (pc + 3) rls ((v.map (mm_up g.1 g.2.1)).toList ++ rest.map (mm_up g.1 g.2.1))) := by
    intro v H1 locs1 ho hS1 hR1 hv
    have k := kk v ho H1 locs1 (cells + mc1) (slots + ms1) rls hS1 hR1 hL (fun w hw => (List.mem_append.mp hw).elim (fun q => hv w (Option.mem_toList.mp q)) (hokr w)) (by omega) (by omega) (mo3.trans hsc)
    have e3 : (mm_ins op a b).2 = 3 := by
      rcases (show op = 105 ∨ op = 106 ∨ op = 107 ∨ op = 108 by omega) with rfl | rfl | rfl | rfl <;> rfl
    rw [hn, e3, List.map_append] at k
    have e4 : v.toList.map (mm_up g.1 g.2.1) = (v.map (mm_up g.1 g.2.1)).toList := by cases v <;> rfl
    rw [e4] at k
    exact k
  have hkx2 : ∀ (k q9 : Nat) (ce : Cell) (H1 : Heap) (locs1 : List Loc), o1 = .inr k → k < 3 → va_S (mm_A g) s.heap H1 locs1 → mm_Rl g D h1 H1 → H1[q9]? = some ce → ce.vm = .none → s.vm.findClass (mm_en k) = some ce.cls → vx_W p l e R s m args below meth c H1 locs1 (cells + mc1) (slots + ms1) Q (F0 m pc rls (rest.map (mm_up g.1 g.2.1))) q9 :=
    fun k q9 ce H1 locs1 z1 z2 z3 z4 z5 z6 z7 => kx k q9 ce H1 locs1 _ _ z1 z2 (by omega) (by omega) z3 z4 z5 z6 z7
  have hfit : cells + mc1 ≤ R.cells ∧ slots + ms1 ≤ R.slots := ⟨by omega, by omega⟩
  refine mm_size (fun hsz => ?_)
  have hPc : ∀ U : State, U.heap = H → s.WarmedH U.vm → mm_Pc g D L xs av h (av.map (mm_up g.1 g.2.1)).toArray U := fun U hU hW =>
    ⟨rfl, by rw [hU]; exact hR, mm_K.move hW (by rw [hU]; exact hS.1) (fun q h1 h2 => by rw [hU]; exact hS.2.1 q h1 h2) K, by rw [hU]; omega⟩
  have hdesc := t3
  rcases (show op = 105 ∨ op = 106 ∨ op = 107 ∨ op = 108 by omega) with rfl | rfl | rfl | rfl
  · -- invokevirtual
    obtain ⟨v1, v2, v3, v4⟩ := t5 (Or.inl s2)
    have hnil := u1 (by rw [s2]; decide)
    rw [s2, if_pos (Or.inl rfl)] at hdesc
    have hlk := t4 (by rw [s2]; decide)
    have hsel := t7 s2
    cases av with
    | nil => rw [← hlen] at v2; cases v2
    | cons rv As =>
      rw [show (mm_site a).2.2.2 = 10 + mm_own (mm_sd a).1.1 from v3] at g5
      unfold mm_rcv at g5
      rw [if_neg (by omega)] at g5
      split at g5
      · rename_i r As2 heq
        cases heq
        replace g5 := of_decide_eq_true g5
        obtain ⟨c9, hc9, e9⟩ := Option.map_eq_some_iff.mp g5
        obtain ⟨kd9, lv9⟩ := c9
        have e9 : kd9 = 10 + mm_own (mm_sd a).1.1 := e9
        subst e9
        have he := mm_ws_at g hc9
        rw [mm_ent_o] at he
        have hr9 := (hR.okl hc9).1
        obtain ⟨cc1, cc2, cc3, cc4, cc5, cc6, cc7⟩ := mm_CA _ v4
        have hrec := va_recv K.1 hR.1 cc1 he
        rw [cc7, m5] at hrec
        have eadr : mm_ad g.1 g.2.1 r = g.2.1 + r := mm_ad_lt (by omega)
        have hstk : st.map (mm_up g.1 g.2.1) = (As.map (mm_up g.1 g.2.1)).reverse ++ .ref (g.2.1 + r) :: rest.map (mm_up g.1 g.2.1) := by
          rw [est, List.map_append, List.reverse_cons, List.map_append, List.map_reverse, List.append_assoc, ← eadr]
          rfl
        have earr : ((.inr (.inr (some r)) :: As).map (mm_up g.1 g.2.1)).toArray = (Value.ref (g.2.1 + r) :: As.map (mm_up g.1 g.2.1)).toArray := by
          rw [List.map_cons, ← eadr]; rfl
        refine mm_call (st0 := st.map (mm_up g.1 g.2.1)) (rest := rest.map (mm_up g.1 g.2.1)) (vx_runV (C := (mm_yn (mm_sd a).1.1).cls) (n := As.length) (As := As.map (mm_up g.1 g.2.1)) (b := g.2.1 + r) (Ts := mm_w) (own := mm_cn (mm_own y)) (nL := mm_mL y) (bytes := mm_by (mm_sd a).1.1) (maxL := mm_mL (mm_sd a).1.1) (ret := mm_rt (mm_sd a).1.1) ⟨hx, hb, hml, hown, hts⟩ hM (cwV As.length hts ?_ (congrArg (fun x => x :: mm_w) (hcode hnil)) rfl rfl ⟨rfl, m6, m7, ?_⟩ hRm) ⟨mm_blind g D L xs _ h, hrec, ?_⟩ rfl (List.length_map _) hsz9 hstk hcat hd hfit) hS hkx2 hkk2
        · intro w hw
          unfold wsV at hw
          rcases List.mem_append.mp hw with hw | hw
          · simp only [List.mem_cons, List.not_mem_nil, or_false] at hw
            rcases hw with rfl | rfl | rfl | rfl
            · exact mm_ww _ hlk
            · exact mm_ww _ v1
            · exact mm_ww _ hsel
            · exact mm_ww _ m4
          · exact hGw w hw
        · rw [hdesc]; congr 1; rw [← hlen]; rfl
        · rw [← earr]; exact hPc
      · cases g5
  · -- invokestatic
    have hst9 := t6 (Or.inl s2)
    have hlk := t4 (by rw [s2]; decide)
    rw [s2, if_neg (by decide), Nat.sub_zero] at hdesc
    have hown9 := u2 s2
    have hstk : st.map (mm_up g.1 g.2.1) = (av.map (mm_up g.1 g.2.1)).reverse ++ rest.map (mm_up g.1 g.2.1) := by
      rw [est, List.map_append, List.map_reverse]
    have ecls : (mm_yn (mm_sd a).1.1).cls = mm_cn (mm_own y) := by rw [← m5, hown9, s1]
    by_cases hnil : mm_hh (mm_sd a).1.1 = []
    · refine mm_call (st0 := st.map (mm_up g.1 g.2.1)) (rest := rest.map (mm_up g.1 g.2.1)) (vx_runS (n := av.length) (As := av.map (mm_up g.1 g.2.1)) (Ts := mm_w) (own := mm_cn (mm_own y)) (nL := mm_mL y) (bytes := mm_by (mm_sd a).1.1) (maxL := mm_mL (mm_sd a).1.1) (ret := mm_rt (mm_sd a).1.1) ⟨hx, hb, hml, hown, hts⟩ hM (cwS av.length hts ?_ (congrArg (fun x => x :: mm_w) (hcode hnil)) rfl rfl ⟨ecls, m6, m7, ?_⟩ hRm) ⟨mm_blind g D L xs _ h, hPc⟩ rfl (List.length_map _) hsz9 hstk hcat hd hfit) hS hkx2 hkk2
      · intro w hw
        unfold wsS at hw
        rcases List.mem_append.mp hw with hw | hw
        · simp only [List.mem_cons, List.not_mem_nil, or_false] at hw
          rcases hw with rfl | rfl | rfl
          · exact mm_ww _ hlk
          · exact mm_ww _ hst9
          · rw [← ecls]; exact mm_ww _ m4
        · exact hGw w hw
      · rw [hdesc, hlen]
    · have ecw : mm_cw (mm_sd a).1.1 = Cond.codeWith (mm_yn (mm_sd a).1.1) (mm_by (mm_sd a).1.1) (mm_mL (mm_sd a).1.1) (mm_rt (mm_sd a).1.1) (mm_hh (mm_sd a).1.1) := if_neg hnil
      refine mm_call (st0 := st.map (mm_up g.1 g.2.1)) (rest := rest.map (mm_up g.1 g.2.1)) (vx_runSX (n := av.length) (As := av.map (mm_up g.1 g.2.1)) (Ts := mm_w) (own := mm_cn (mm_own y)) (nL := mm_mL y) (bytes := mm_by (mm_sd a).1.1) (maxL := mm_mL (mm_sd a).1.1) (ret := mm_rt (mm_sd a).1.1) (hh := mm_hh (mm_sd a).1.1) ⟨hx, hb, hml, hown, hts⟩ hM (vx_cwSW av.length hts ?_ (congrArg (fun x => x :: mm_w) ecw) rfl rfl ⟨m6, m7, ?_⟩ hRm) ⟨mm_blind g D L xs _ h, hPc⟩ rfl (List.length_map _) hsz9 hstk hcat hd hfit) hS hkx2 hkk2
      · intro w hw
        unfold va_wsS at hw
        rcases List.mem_append.mp hw with hw | hw
        · simp only [List.mem_cons, List.not_mem_nil, or_false] at hw
          rcases hw with rfl | rfl | rfl
          · exact mm_ww _ hlk
          · exact mm_ww _ hst9
          · exact mm_ww _ m4
        · exact hGw w hw
      · rw [hdesc, hlen]
  · -- invokestatic, a nest mate's
    have hst9 := t6 (Or.inr s2)
    rw [s2, if_neg (by decide), Nat.sub_zero] at hdesc
    have hnil := (t9 s2).1
    have hyn := (t9 s2).2
    have hstk : st.map (mm_up g.1 g.2.1) = (av.map (mm_up g.1 g.2.1)).reverse ++ rest.map (mm_up g.1 g.2.1) := by
      rw [est, List.map_append, List.map_reverse]
    obtain ⟨v0, rfl⟩ := h107 (Or.inl rfl)
    have hnw := K.2.2.2.2.2.2.1 _ (mm_nestA a s3 s2)
    dsimp only at hnw
    rw [← hyn, s1] at hnw
    exact mm_callM (st0 := st.map (mm_up g.1 g.2.1)) (rest := rest.map (mm_up g.1 g.2.1)) (va_runSN (n := av.length) (As := av.map (mm_up g.1 g.2.1)) (Ts := mm_w) (own := mm_cn (mm_own y)) (host := RX4) (nL := mm_mL y) (bytes := mm_by (mm_sd a).1.1) (maxL := mm_mL (mm_sd a).1.1) (ret := mm_rt (mm_sd a).1.1) ⟨hx, hb, hml, hown, hts⟩ (mm_toMet hM) ⟨va_cnB av.length hts hGw (congrArg (fun x => x :: mm_w) (hcode hnil)) rfl rfl hnw (hts _ m4) ⟨m6, m7, by rw [hdesc, hlen]⟩ hRm, hts _ hst9, trivial⟩ ⟨mm_blind g D L xs _ h, hPc⟩ rfl (List.length_map _) hsz9 hstk hcat hd hfit) hS (fun H1 locs1 => hkk2 v0 H1 locs1 rfl)
  · -- invokespecial
    obtain ⟨v1, v2, v3, v4⟩ := t5 (Or.inr s2)
    obtain ⟨w1, w2, hnil⟩ := t8 s2
    rw [s2, if_pos (Or.inr rfl)] at hdesc
    have hlk := t4 (by rw [s2]; decide)
    obtain ⟨v0, rfl⟩ := h107 (Or.inr rfl)
    cases av with
    | nil => rw [← hlen] at v2; cases v2
    | cons rv As =>
      rw [show (mm_site a).2.2.2 = 10 + mm_own (mm_sd a).1.1 from v3] at g5
      unfold mm_rcv at g5
      rw [if_neg (by omega)] at g5
      split at g5
      · rename_i r As2 heq
        cases heq
        replace g5 := of_decide_eq_true g5
        obtain ⟨c9, hc9, e9⟩ := Option.map_eq_some_iff.mp g5
        have hr9 := (hR.okl hc9).1
        have eadr : mm_ad g.1 g.2.1 r = g.2.1 + r := mm_ad_lt (by omega)
        have hstk : st.map (mm_up g.1 g.2.1) = (As.map (mm_up g.1 g.2.1)).reverse ++ .ref (g.2.1 + r) :: rest.map (mm_up g.1 g.2.1) := by
          rw [est, List.map_append, List.reverse_cons, List.map_append, List.map_reverse, List.append_assoc, ← eadr]
          rfl
        have earr : ((.inr (.inr (some r)) :: As).map (mm_up g.1 g.2.1)).toArray = (Value.ref (g.2.1 + r) :: As.map (mm_up g.1 g.2.1)).toArray := by
          rw [List.map_cons, ← eadr]; rfl
        exact mm_callM (st0 := st.map (mm_up g.1 g.2.1)) (rest := rest.map (mm_up g.1 g.2.1)) (va_runI (n := As.length) (As := As.map (mm_up g.1 g.2.1)) (b := g.2.1 + r) (Ts := mm_w) (own := mm_cn (mm_own y)) (nL := mm_mL y) (bytes := mm_by (mm_sd a).1.1) (maxL := mm_mL (mm_sd a).1.1) ⟨hx, hb, hml, hown, hts⟩ (mm_toMet hM) (cwI As.length hts hGw (congrArg (fun x => x :: mm_w) ((hcode hnil).trans (by rw [w2]))) rfl rfl (hts _ m4) (hts _ hlk) (hts _ v1) w1 ⟨m6, m7, by rw [hdesc]; congr 1; rw [← hlen]; rfl⟩ hRm) ⟨mm_blind g D L xs _ h, by rw [← earr]; exact hPc⟩ rfl (List.length_map _) hsz9 hstk hcat hd hfit) hS (fun H1 locs1 => hkk2 v0 H1 locs1 rfl)
      · cases g5
end MMM
