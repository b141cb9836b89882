section MMH
variable {p : Program} {l : Launch} {e : Env} {R : Room} {s : State} {m : MethodId} {args : Array Value} {below : List Frame} {meth : Method} {c : Code} {H : Heap} {locs : List Loc} {cells slots : Nat} {Q : State → Prop}
variable {g : mm_G} {D : va_G} {y i pc op a : Nat} {b : Int} {ls ls' : mm_F} {st st' : List mm_V} {h h' : mm_H} {j : Option Nat} {rls : Array Slot} {n0 s0 L : Nat} {xs : Nat → Int32}
theorem mm_ent_o (g : mm_G) (ci : Nat) (l : List mm_V) : mm_ent g (10 + ci, l) = .inr (ci, l.map (mm_up g.1 g.2.1)) := by
  have e : (10 + ci) = (ci + 7) + 3 := by omega
  rw [e]
  show Sum.inr (ci + 7 + 3 - 10, _) = _
  rw [show ci + 7 + 3 - 10 = ci by omega]
theorem mm_ad_lt {b b0 r : Nat} (h : r < 999) : mm_ad b b0 r = b0 + r := if_neg (by omega)
theorem mm_Rl.set {g : mm_G} {D : va_G} {h : mm_H} {H H1 : Heap} {r : Nat} {c : Nat × List mm_V} (hR : mm_Rl g D h H) (hok : ∀ v ∈ c.2, mm_ok v) (hP : va_P D vwCl (mm_ws g (h.1.set r c)) H1) : mm_Rl g D (h.1.set r c, h.2) H1 := by
  obtain ⟨-, h2, h3, h4⟩ := hR
  refine ⟨hP, by rw [List.length_set]; exact h2, fun c1 hc1 v hv => ?_, h4⟩
  rcases List.mem_or_eq_of_mem_set hc1 with q | q
  · exact h3 c1 q v hv
  · rw [q] at hv; exact hok v hv
theorem mm_oks {l : List mm_V} {k : Nat} {v : mm_V} (h : ∀ w ∈ l, mm_ok w) (hv : mm_ok v) : ∀ w ∈ l.set k v, mm_ok w := by
  intro w hw
  rcases List.mem_or_eq_of_mem_set hw with q | q
  · exact h w q
  · rw [q]; exact hv
theorem mm_Rl.okl {g : mm_G} {D : va_G} {h : mm_H} {H : Heap} (hR : mm_Rl g D h H) {r : Nat} {c : Nat × List mm_V} (hr : h.1[r]? = some c) : r < 900 ∧ ∀ v ∈ c.2, mm_ok v := by
  have h1 := (List.getElem?_eq_some_iff.mp hr).1
  have h2 := hR.2.1
  exact ⟨by omega, hR.2.2.1 c (List.mem_of_getElem? hr)⟩
theorem mm_size {fr : JFrame} (k : H.size ≤ s.heap.size + cells → W p l e R s m args below meth c H locs cells slots Q fr) : W p l e R s m args below meth c H locs cells slots Q fr := by
  intro T hT X
  have h1 := X.same.2.2.1
  exact k (by rw [← hT]; exact h1) T hT X
/-- a new cell's address -/
theorem mm_adr {ws : va_W} {H1 : Heap} {q n : Nat} {x : va_E} (hD : va_D (mm_A g) (ws ++ [(q, x)])) (hP : va_P D vwCl (ws ++ [(q, x)]) H1) (hl : ws.length = n) (ha : ∀ (k : Nat) (z : Nat × va_E), ws[k]? = some z → z.1 = g.2.1 + k) (hz : H1.size ≤ g.2.1 + n + 1) : q = g.2.1 + n := by
  have e1 : (ws ++ [(q, x)])[n]? = some (q, x) := by rw [List.getElem?_append_right (by omega), hl]; simp
  have h1 : q < H1.size := (hP n _ e1).lt
  have h2 : g.2.1 ≤ q := hD.2 n _ e1
  by_cases hq : q = g.2.1 + n
  · exact hq
  · exfalso
    have hk : q - g.2.1 < ws.length := by omega
    have e2 : (ws ++ [(q, x)])[q - g.2.1]? = some ws[q - g.2.1] := by rw [List.getElem?_append_left hk, List.getElem?_eq_getElem hk]
    have e3 := ha (q - g.2.1) _ (List.getElem?_eq_getElem hk)
    have e4 := hD.1 (q - g.2.1) n _ _ e2 e1 (by rw [e3]; show g.2.1 + (q - g.2.1) = q; omega)
    omega
theorem mm_ws_ad {cs : List (Nat × List mm_V)} (k : Nat) (z : Nat × va_E) (hk : (mm_ws g cs)[k]? = some z) : z.1 = g.2.1 + k := by
  unfold mm_ws at hk
  rw [List.getElem?_mapIdx] at hk
  cases hc : cs[k]? with
  | none => rw [hc] at hk; cases hk
  | some c => rw [hc] at hk; cases hk; rfl
theorem mm_Rl.push {H1 : Heap} {kd : Nat} {lv : List mm_V} {q : Nat} {t : Nat × (Nat × List Int)} (hR : mm_Rl g D h H) (hlt : h.1.length < 900) (hok : ∀ v ∈ lv, mm_ok v) (ht : t.2.2 = h.2.2.2) (hD : va_D (mm_A g) (mm_ws g h.1 ++ [(q, mm_ent g (kd, lv))])) (hP : va_P D vwCl (mm_ws g h.1 ++ [(q, mm_ent g (kd, lv))]) H1) (hz : H1.size ≤ g.2.1 + h.1.length + 1) :
    q = g.2.1 + h.1.length ∧ mm_Rl g D (h.1 ++ [(kd, lv)], t) H1 := by
  have e := mm_adr hD hP (mm_ws_len g h.1) (fun k z hk => mm_ws_ad k z hk) hz
  refine ⟨e, ?_, by rw [List.length_append]; show h.1.length + 1 ≤ 900; omega, fun c1 hc1 v hv => ?_, by show ∀ z ∈ t.2.2, mm_rng z; rw [ht]; exact hR.2.2.2⟩
  · show va_P D vwCl (mm_ws g (h.1 ++ [(kd, lv)])) H1
    rw [← mm_ws_push, ← e]
    exact hP
  · rcases List.mem_append.mp hc1 with w | w
    · exact hR.2.2.1 c1 w v hv
    · rw [List.mem_singleton.mp w] at hv; exact hok v hv
theorem mm_kk1 {D : va_G} (hR : mm_Rl g D h H) {r : Nat} {c : Nat × List mm_V} (hr : h.1[r]? = some c) : (mm_ws g h.1)[r]? = some (g.2.1 + r, mm_ent g c) := mm_ws_at g hr
theorem mm_catS {b b0 : Nat} (st : List mm_V) : ((st.map (mm_up b b0)).map fun v => v.category).sum ≤ 2 * st.length := by
  induction st with
  | nil => exact Nat.le_refl 0
  | cons v st ih =>
    have h1 : (mm_up b b0 v).category ≤ 2 := by rcases lv_cat (mm_up b b0 v) with h | h <;> omega
    rw [List.map_cons, List.map_cons, List.sum_cons, List.length_cons]
    omega
theorem mm_pF0 : ((List.range mm_codeT.length).all fun y => (mm_codeT.getD y []).all fun q => decide (q.2.1 = 42 → (mm_yn y).name = "<init>" ∧ (mm_fd q.2.2.1).1.1 = mm_own y)) = true := by decide +kernel
theorem mm_pF {y i pc a : Nat} {b : Int} (h : mm_code y i = some (pc, (42, (a, b)))) : (mm_yn y).name = "<init>" ∧ (mm_fd a).1.1 = mm_own y := by
  unfold mm_code at h
  cases hy : mm_codeT[y]? with
  | none => rw [hy] at h; cases h
  | some l =>
    rw [hy] at h
    have e : mm_codeT.getD y [] = l := by rw [List.getD_eq_getElem?_getD, hy]; rfl
    have h1 := List.all_eq_true.mp mm_pF0 y (List.mem_range.mpr (List.getElem?_eq_some_iff.mp hy).1)
    rw [e] at h1
    exact of_decide_eq_true (List.all_eq_true.mp h1 _ (List.mem_of_getElem? h)) rfl
theorem mm_step_getfield (hc : mm_code y i = some (pc, (40, (a, b)))) (hop : mm_op mm_fld 40 a b ls st h = some (ls', (st', (h', j)))) (X : mm_X y l p R s m args meth c) (K : mm_K g D L xs s) (hS : va_S (mm_A g) s.heap H locs) (hR : mm_Rl g D h H) (hL : mm_LR g (mm_mL y) ls rls) (hst : ∀ v ∈ st, mm_ok v) (hcc : cells + n0 = h.2.1) (hss : slots + s0 = h.2.2.1) (hsc : h.2.2.2 = mm_scr L xs) (hz0 : s.heap.size ≤ g.2.1 + n0) (rc : h'.2.1 ≤ R.cells + n0) (rs : h'.2.2.1 ≤ R.slots + s0)
    (kk : mm_KK p l e R s m args below meth c Q g D y n0 s0 L xs (mm_nx y (j.getD (i + 1))) ls' st' h') : W p l e R s m args below meth c H locs cells slots Q (F0 m pc rls (st.map (mm_up g.1 g.2.1))) := by
  obtain ⟨hx, hb, hml, -, -, hnm, hown, hts, -, hnF, hnL, -⟩ := X
  obtain ⟨hd, hn, hj, ha4, hfo, -, hroom, -⟩ := mm_okB_dec hc (by decide)
  have hn := hn (by decide)
  obtain ⟨hf1, hf2⟩ := hfo (by decide)
  obtain ⟨f1, f2, f3⟩ := mm_FA hf2
  obtain ⟨c1, c2, c3, c4, c5, c6, c7⟩ := mm_CA _ f1
  replace hop : mm_o_get (mm_fld a).1 (mm_fld a).2 ls st h = some (ls', (st', (h', j))) := hop
  unfold mm_o_get at hop
  split at hop
  · rename_i r st
    split at hop
    · rename_i kd lv hr
      split at hop
      · rename_i hk
        subst hk
        split at hop
        · rename_i v hv
          cases hop
          obtain ⟨r9, hok⟩ := hR.okl hr
          have he := mm_ws_at g hr
          rw [mm_ent_o] at he
          have k := kk H locs cells slots rls hS hR hL (mm_okc (hok v (List.mem_of_getElem? hv)) (mm_okt hst).2) hcc hss hsc
          rw [show (none : Option Nat).getD (i + 1) = i + 1 from rfl, hn] at k
          show W p l e R s m args below meth c H locs cells slots Q (F0 m pc rls (.ref (mm_ad g.1 g.2.1 r) :: st.map (mm_up g.1 g.2.1)))
          rw [mm_ad_lt (by omega)]
          rw [hf1] at f3
          exact va_get (D := D) (ci := (mm_fd a).1.1) (v := mm_up g.1 g.2.1 v) (C := (mm_cl (mm_fd a).1.1).1) (T := (mm_cl (mm_fd a).1.1).2.1) (N := (mm_cl (mm_fd a).1.1).2.2) hx hb hts c2 hown K.1 hR.1 r he c1 (mm_fd a).1.2 f2 (hts _ f3) (fun x hx => by rw [(c6 _ f2).2] at hx; exact hx) (by rw [List.getElem?_map, hv]; rfl) hd k
        · cases hop
      · cases hop
    · cases hop
  · cases hop
theorem mm_step_putfield (hc : mm_code y i = some (pc, (41, (a, b)))) (hop : mm_op mm_fld 41 a b ls st h = some (ls', (st', (h', j)))) (X : mm_X y l p R s m args meth c) (K : mm_K g D L xs s) (hS : va_S (mm_A g) s.heap H locs) (hR : mm_Rl g D h H) (hL : mm_LR g (mm_mL y) ls rls) (hst : ∀ v ∈ st, mm_ok v) (hcc : cells + n0 = h.2.1) (hss : slots + s0 = h.2.2.1) (hsc : h.2.2.2 = mm_scr L xs) (hz0 : s.heap.size ≤ g.2.1 + n0) (rc : h'.2.1 ≤ R.cells + n0) (rs : h'.2.2.1 ≤ R.slots + s0)
    (kk : mm_KK p l e R s m args below meth c Q g D y n0 s0 L xs (mm_nx y (j.getD (i + 1))) ls' st' h') : W p l e R s m args below meth c H locs cells slots Q (F0 m pc rls (st.map (mm_up g.1 g.2.1))) := by
  obtain ⟨hx, hb, hml, -, -, hnm, hown, hts, -, hnF, hnL, -⟩ := X
  obtain ⟨hd, hn, hj, ha4, hfo, -, hroom, -⟩ := mm_okB_dec hc (by decide)
  have hn := hn (by decide)
  obtain ⟨hf1, hf2⟩ := hfo (by decide)
  obtain ⟨f1, f2, f3⟩ := mm_FA hf2
  obtain ⟨c1, c2, c3, c4, c5, c6, c7⟩ := mm_CA _ f1
  replace hop : mm_o_put (mm_fld a).1 (mm_fld a).2 ls st h = some (ls', (st', (h', j))) := hop
  unfold mm_o_put at hop
  split at hop
  · rename_i z r st
    split at hop
    · rename_i kd lv hr
      split at hop
      · rename_i hk
        obtain ⟨hk, hlt, hkd⟩ := hk
        subst hk
        cases hop
        obtain ⟨r9, hok⟩ := hR.okl hr
        have he := mm_ws_at g hr
        rw [mm_ent_o] at he
        have hzr := (mm_okt hst).1
        replace hst := (mm_okt hst).2
        replace hst := (mm_okt hst).2
        show W p l e R s m args below meth c H locs cells slots Q (F0 m pc rls (.int (Int32.ofInt z) :: .ref (mm_ad g.1 g.2.1 r) :: st'.map (mm_up g.1 g.2.1)))
        rw [mm_ad_lt (by omega)]
        rw [hf1] at f3
        have c6a := (c6 _ f2).1
        have h9 : mm_ty (mm_fd a).1.1 (mm_fd a).1.2 = .int ∧ ((mm_cl (mm_fd a).1.1).2.1 (mm_fd a).1.2).2.2.2 = false ∨ mm_ty (mm_fd a).1.1 (mm_fd a).1.2 = .boolean ∧ ((mm_cl (mm_fd a).1.1).2.1 (mm_fd a).1.2).2.2.2 = false ∧ (z = 0 ∨ z = 1) := by
          unfold mm_kOK at c6a
          rcases hkd with e9 | ⟨e9, hz⟩
          · rw [show (mm_fk (mm_fd a).1.1)[(mm_fd a).1.2]? = some 0 from e9] at c6a
            simp only [Bool.and_eq_true, decide_eq_true_eq, Bool.not_eq_true'] at c6a
            exact Or.inl c6a
          · rw [show (mm_fk (mm_fd a).1.1)[(mm_fd a).1.2]? = some 1 from e9] at c6a
            simp only [Bool.and_eq_true, decide_eq_true_eq, Bool.not_eq_true'] at c6a
            exact Or.inr ⟨c6a.1, c6a.2, hz⟩
        have hfin : ((mm_cl (mm_fd a).1.1).2.1 (mm_fd a).1.2).2.2.2 = false := h9.elim (·.2) (·.2.1)
        have hnf : narrow (mm_ty (mm_fd a).1.1 (mm_fd a).1.2) (.int (Int32.ofInt z)) = .int (Int32.ofInt z) ∧ fits (mm_ty (mm_fd a).1.1 (mm_fd a).1.2) (.int (Int32.ofInt z)) = true := by
          rcases h9 with ⟨e9, -⟩ | ⟨e9, -, hz⟩
          · rw [e9]; exact ⟨rfl, rfl⟩
          · rw [e9]
            rcases hz with rfl | rfl
            · exact ⟨rfl, rfl⟩
            · exact ⟨rfl, rfl⟩
        refine va_put (D := D) (ci := (mm_fd a).1.1) (v := .int (Int32.ofInt z)) (C := (mm_cl (mm_fd a).1.1).1) (T := (mm_cl (mm_fd a).1.1).2.1) (N := (mm_cl (mm_fd a).1.1).2.2) hx hb hts c2 (mm_ty (mm_fd a).1.1) c3 c4 hown K.1 hR.1 (mm_ws_D g h.1) hS r he c1 (mm_fd a).1.2 f2 (hts _ f3) (fun x hx => by rw [(c6 _ f2).2] at hx; exact hx) hfin (c3 _ f2) hnf.1 hnf.2 (by rw [List.length_map]; exact hlt) hd (fun H1 locs1 hP1 hD1 hS1 => ?_)
        rw [show (lv.map (mm_up g.1 g.2.1)).set (mm_fd a).1.2 (.int (Int32.ofInt z)) = (lv.set (mm_fd a).1.2 (mm_I z)).map (mm_up g.1 g.2.1) from by rw [List.map_set]; rfl, ← mm_ent_o, mm_ws_set] at hP1
        have k := kk H1 locs1 cells slots rls hS1 (hR.set (mm_oks hok hzr) hP1) hL hst hcc hss hsc
        rw [show (none : Option Nat).getD (i + 1) = i + 1 from rfl, hn] at k
        exact k
      · cases hop
    · cases hop
  · cases hop
theorem mm_step_putfieldF (hc : mm_code y i = some (pc, (42, (a, b)))) (hop : mm_op mm_fld 42 a b ls st h = some (ls', (st', (h', j)))) (X : mm_X y l p R s m args meth c) (K : mm_K g D L xs s) (hS : va_S (mm_A g) s.heap H locs) (hR : mm_Rl g D h H) (hL : mm_LR g (mm_mL y) ls rls) (hst : ∀ v ∈ st, mm_ok v) (hcc : cells + n0 = h.2.1) (hss : slots + s0 = h.2.2.1) (hsc : h.2.2.2 = mm_scr L xs) (hz0 : s.heap.size ≤ g.2.1 + n0) (rc : h'.2.1 ≤ R.cells + n0) (rs : h'.2.2.1 ≤ R.slots + s0)
    (kk : mm_KK p l e R s m args below meth c Q g D y n0 s0 L xs (mm_nx y (j.getD (i + 1))) ls' st' h') : W p l e R s m args below meth c H locs cells slots Q (F0 m pc rls (st.map (mm_up g.1 g.2.1))) := by
  obtain ⟨hx, hb, hml, -, -, hnm, hown, hts, -, hnF, hnL, -⟩ := X
  obtain ⟨hd, hn, hj, ha4, hfo, -, hroom, -⟩ := mm_okB_dec hc (by decide)
  have hn := hn (by decide)
  obtain ⟨hf1, hf2⟩ := hfo (by decide)
  obtain ⟨f1, f2, f3⟩ := mm_FA hf2
  obtain ⟨c1, c2, c3, c4, c5, c6, c7⟩ := mm_CA _ f1
  obtain ⟨hin, hdc⟩ := mm_pF hc
  replace hop : mm_o_putF (mm_fld a).1 (mm_fld a).2 ls st h = some (ls', (st', (h', j))) := hop
  unfold mm_o_putF at hop
  split at hop
  · rename_i v r st
    split at hop
    · rename_i kd lv hr
      split at hop
      · rename_i hk
        obtain ⟨hk, hlt, hkd⟩ := hk
        subst hk
        cases hop
        obtain ⟨r9, hok⟩ := hR.okl hr
        have he := mm_ws_at g hr
        rw [mm_ent_o] at he
        have hzr := (mm_okt hst).1
        replace hst := (mm_okt hst).2
        replace hst := (mm_okt hst).2
        show W p l e R s m args below meth c H locs cells slots Q (F0 m pc rls (.ref (mm_ad g.1 g.2.1 v) :: .ref (mm_ad g.1 g.2.1 r) :: st'.map (mm_up g.1 g.2.1)))
        rw [mm_ad_lt (r := r) (by omega)]
        rw [hf1] at f3
        have c6a := (c6 _ f2).1
        have h9 : ((mm_cl (mm_fd a).1.1).2.1 (mm_fd a).1.2).2.2.2 = true ∧ narrow (mm_ty (mm_fd a).1.1 (mm_fd a).1.2) (.ref (mm_ad g.1 g.2.1 v)) = .ref (mm_ad g.1 g.2.1 v) ∧ fits (mm_ty (mm_fd a).1.1 (mm_fd a).1.2) (.ref (mm_ad g.1 g.2.1 v)) = true := by
          unfold mm_kOK at c6a
          rw [show (mm_fk (mm_fd a).1.1)[(mm_fd a).1.2]? = some 2 from hkd] at c6a
          simp only [Bool.and_eq_true] at c6a
          refine ⟨c6a.2, ?_⟩
          have c6b := c6a.1
          generalize mm_ty (mm_fd a).1.1 (mm_fd a).1.2 = t9 at c6b
          cases t9 <;> first | exact ⟨rfl, rfl⟩ | cases c6b
        have hdc : ((mm_cl (mm_fd a).1.1).2.1 (mm_fd a).1.2).1 = mm_cn (mm_own y) := by rw [(c6 _ f2).2, c7]; rw [hdc]
        refine va_putF (D := D) (ci := (mm_fd a).1.1) (v := .ref (mm_ad g.1 g.2.1 v)) (C := (mm_cl (mm_fd a).1.1).1) (T := (mm_cl (mm_fd a).1.1).2.1) (N := (mm_cl (mm_fd a).1.1).2.2) hx hb hts c2 (mm_ty (mm_fd a).1.1) c3 c4 hown K.1 hR.1 (mm_ws_D g h.1) hS r he c1 (mm_fd a).1.2 f2 (hts _ f3) (fun x hx => by rw [(c6 _ f2).2] at hx; exact hx) h9.1 (by rw [hnm]; exact hin) hdc (c3 _ f2) h9.2.1 h9.2.2 (by rw [List.length_map]; exact hlt) hd (fun H1 locs1 hP1 hD1 hS1 => ?_)
        rw [show (lv.map (mm_up g.1 g.2.1)).set (mm_fd a).1.2 (.ref (mm_ad g.1 g.2.1 v)) = (lv.set (mm_fd a).1.2 (mm_P v)).map (mm_up g.1 g.2.1) from by rw [List.map_set]; rfl, ← mm_ent_o, mm_ws_set] at hP1
        have k := kk H1 locs1 cells slots rls hS1 (hR.set (mm_oks hok hzr) hP1) hL hst hcc hss hsc
        rw [show (none : Option Nat).getD (i + 1) = i + 1 from rfl, hn] at k
        exact k
      · cases hop
    · cases hop
  · cases hop
theorem mm_step_iaload (hc : mm_code y i = some (pc, (43, (a, b)))) (hop : mm_op mm_fld 43 a b ls st h = some (ls', (st', (h', j)))) (X : mm_X y l p R s m args meth c) (K : mm_K g D L xs s) (hS : va_S (mm_A g) s.heap H locs) (hR : mm_Rl g D h H) (hL : mm_LR g (mm_mL y) ls rls) (hst : ∀ v ∈ st, mm_ok v) (hcc : cells + n0 = h.2.1) (hss : slots + s0 = h.2.2.1) (hsc : h.2.2.2 = mm_scr L xs) (hz0 : s.heap.size ≤ g.2.1 + n0) (rc : h'.2.1 ≤ R.cells + n0) (rs : h'.2.2.1 ≤ R.slots + s0)
    (kk : mm_KK p l e R s m args below meth c Q g D y n0 s0 L xs (mm_nx y (j.getD (i + 1))) ls' st' h') : W p l e R s m args below meth c H locs cells slots Q (F0 m pc rls (st.map (mm_up g.1 g.2.1))) := by
  obtain ⟨hx, hb, hml, -, -, hnm, hown, hts, -, hnF, hnL, -⟩ := X
  obtain ⟨hd, hn, hj, ha4, hfo, -, hroom, -⟩ := mm_okB_dec hc (by decide)
  have hn := hn (by decide)
  replace hop : mm_o_iald ls st h = some (ls', (st', (h', j))) := hop
  unfold mm_o_iald at hop
  split at hop
  · rename_i i9 r st
    have hi := (mm_okt hst).1
    replace hst := (mm_okt hst).2
    have hi : mm_rng i9 := hi
    replace hst := (mm_okt hst).2
    by_cases h0 : i9 < 0
    · rw [if_pos h0] at hop
      cases hop
    rw [if_neg h0] at hop
    by_cases hr9 : r = 999
    · rw [if_pos hr9] at hop
      subst hr9
      split at hop
      · rename_i z hz
        cases hop
        rw [hsc] at hz
        unfold mm_scr at hz
        rw [List.getElem?_cons_succ, List.getElem?_map] at hz
        obtain ⟨n9, hn9, e9⟩ := Option.map_eq_some_iff.mp hz
        obtain ⟨hlt, hge⟩ := List.getElem?_eq_some_iff.mp hn9
        rw [List.length_range] at hlt
        rw [List.getElem_range] at hge
        subst hge
        obtain ⟨-, -, -, -, -, -, -, -, hX, hbl, hbz, -⟩ := K
        have k := kk H locs cells slots rls hS hR hL (mm_okc (by rw [← e9]; exact mm_rT _) hst) hcc hss hsc
        rw [show (none : Option Nat).getD (i + 1) = i + 1 from rfl, hn] at k
        have e8 : mm_up g.1 g.2.1 (mm_I z) = .int (xs (Int32.ofInt i9).toNatClampNeg) := by
          rw [mm_clamp hi, ← e9]
          exact congrArg Value.int (Int32.ofInt_toInt _)
        rw [List.map_cons, e8] at k
        exact va_sld hx hb hX (Nat.lt_of_lt_of_le hbl hbz) (Nat.not_le.mpr hbl) hS (mm_vin hi (by omega) hlt) hd k
      · cases hop
    rw [if_neg hr9] at hop
    split at hop
    · rename_i lv hr
      split at hop
      · rename_i z hz
        cases hop
        obtain ⟨r9, hok⟩ := hR.okl hr
        have he := mm_ws_at g hr
        have k := kk H locs cells slots rls hS hR hL (mm_okc (hok _ (List.mem_of_getElem? hz)) hst) hcc hss hsc
        rw [show (none : Option Nat).getD (i + 1) = i + 1 from rfl, hn] at k
        have e8 : mm_up g.1 g.2.1 (mm_I z) = .int (mm_gI lv[(Int32.ofInt i9).toNatClampNeg]?) := by
          rw [mm_clamp hi, hz]
          rfl
        rw [List.map_cons, e8] at k
        show W p l e R s m args below meth c H locs cells slots Q (F0 m pc rls (.int (Int32.ofInt i9) :: .ref (mm_ad g.1 g.2.1 r) :: st.map (mm_up g.1 g.2.1)))
        rw [mm_ad_lt (by omega)]
        exact va_iald hx hb K.1 hR.1 r 0 he rfl (mm_vin hi (by omega) (List.getElem?_eq_some_iff.mp hz).1) hd k
      · cases hop
    · cases hop
  · cases hop
theorem mm_step_aaload (hc : mm_code y i = some (pc, (47, (a, b)))) (hop : mm_op mm_fld 47 a b ls st h = some (ls', (st', (h', j)))) (X : mm_X y l p R s m args meth c) (K : mm_K g D L xs s) (hS : va_S (mm_A g) s.heap H locs) (hR : mm_Rl g D h H) (hL : mm_LR g (mm_mL y) ls rls) (hst : ∀ v ∈ st, mm_ok v) (hcc : cells + n0 = h.2.1) (hss : slots + s0 = h.2.2.1) (hsc : h.2.2.2 = mm_scr L xs) (hz0 : s.heap.size ≤ g.2.1 + n0) (rc : h'.2.1 ≤ R.cells + n0) (rs : h'.2.2.1 ≤ R.slots + s0)
    (kk : mm_KK p l e R s m args below meth c Q g D y n0 s0 L xs (mm_nx y (j.getD (i + 1))) ls' st' h') : W p l e R s m args below meth c H locs cells slots Q (F0 m pc rls (st.map (mm_up g.1 g.2.1))) := by
  obtain ⟨hx, hb, hml, -, -, hnm, hown, hts, -, hnF, hnL, -⟩ := X
  obtain ⟨hd, hn, hj, ha4, hfo, -, hroom, -⟩ := mm_okB_dec hc (by decide)
  have hn := hn (by decide)
  replace hop : mm_o_aald ls st h = some (ls', (st', (h', j))) := hop
  unfold mm_o_aald at hop
  split at hop
  · rename_i i9 r st
    have hi := (mm_okt hst).1
    replace hst := (mm_okt hst).2
    have hi : mm_rng i9 := hi
    replace hst := (mm_okt hst).2
    by_cases h0 : i9 < 0
    · rw [if_pos h0] at hop
      cases hop
    rw [if_neg h0] at hop
    split at hop
    · rename_i lv hr
      split at hop
      · rename_i z hz
        cases hop
        obtain ⟨r9, hok⟩ := hR.okl hr
        have he := mm_ws_at g hr
        have k := kk H locs cells slots rls hS hR hL (mm_okc (hok _ (List.mem_of_getElem? hz)) hst) hcc hss hsc
        rw [show (none : Option Nat).getD (i + 1) = i + 1 from rfl, hn] at k
        have e8 : mm_up g.1 g.2.1 (.inr (.inr z)) = va_rf (mm_gR g.1 g.2.1 lv[(Int32.ofInt i9).toNatClampNeg]?) := by
          rw [mm_clamp hi, hz]
          cases z <;> rfl
        rw [List.map_cons, e8] at k
        show W p l e R s m args below meth c H locs cells slots Q (F0 m pc rls (.int (Int32.ofInt i9) :: .ref (mm_ad g.1 g.2.1 r) :: st.map (mm_up g.1 g.2.1)))
        rw [mm_ad_lt (by omega)]
        exact va_aldq (C := RX3) hx hb K.1 hR.1 r 2 he rfl (mm_vin hi (by omega) (List.getElem?_eq_some_iff.mp hz).1) hd k
      · cases hop
    · cases hop
  · cases hop
theorem mm_step_iastore (hc : mm_code y i = some (pc, (44, (a, b)))) (hop : mm_op mm_fld 44 a b ls st h = some (ls', (st', (h', j)))) (X : mm_X y l p R s m args meth c) (K : mm_K g D L xs s) (hS : va_S (mm_A g) s.heap H locs) (hR : mm_Rl g D h H) (hL : mm_LR g (mm_mL y) ls rls) (hst : ∀ v ∈ st, mm_ok v) (hcc : cells + n0 = h.2.1) (hss : slots + s0 = h.2.2.1) (hsc : h.2.2.2 = mm_scr L xs) (hz0 : s.heap.size ≤ g.2.1 + n0) (rc : h'.2.1 ≤ R.cells + n0) (rs : h'.2.2.1 ≤ R.slots + s0)
    (kk : mm_KK p l e R s m args below meth c Q g D y n0 s0 L xs (mm_nx y (j.getD (i + 1))) ls' st' h') : W p l e R s m args below meth c H locs cells slots Q (F0 m pc rls (st.map (mm_up g.1 g.2.1))) := by
  obtain ⟨hx, hb, hml, -, -, hnm, hown, hts, -, hnF, hnL, -⟩ := X
  obtain ⟨hd, hn, hj, ha4, hfo, -, hroom, -⟩ := mm_okB_dec hc (by decide)
  have hn := hn (by decide)
  replace hop : mm_o_iast ls st h = some (ls', (st', (h', j))) := hop
  unfold mm_o_iast at hop
  split at hop
  · rename_i z i9 r st
    have hzr := (mm_okt hst).1
    replace hst := (mm_okt hst).2
    have hi := (mm_okt hst).1
    replace hst := (mm_okt hst).2
    have hi : mm_rng i9 := hi
    replace hst := (mm_okt hst).2
    by_cases h0 : i9 < 0
    · rw [if_pos h0] at hop
      cases hop
    rw [if_neg h0] at hop
    split at hop
    · rename_i lv hr
      split at hop
      · rename_i hlt
        cases hop
        obtain ⟨r9, hok⟩ := hR.okl hr
        have he := mm_ws_at g hr
        show W p l e R s m args below meth c H locs cells slots Q (F0 m pc rls (.int (Int32.ofInt z) :: .int (Int32.ofInt i9) :: .ref (mm_ad g.1 g.2.1 r) :: st'.map (mm_up g.1 g.2.1)))
        rw [mm_ad_lt (r := r) (by omega)]
        refine va_iast hx hb K.1 hR.1 (mm_ws_D g h.1) hS r 0 he rfl (mm_vin hi (by omega) hlt) hd (fun H1 locs1 hP1 hD1 hS1 => ?_)
        have e8 : ((.inl (g.2.2.1, (lv.length, .inl (upd (fun j => mm_gI lv[j]?) (Int32.ofInt i9).toNatClampNeg (Int32.ofInt z)))) : va_E)) = mm_ent g (0, lv.set i9.toNat (mm_I z)) := by
          show (_ : va_E) = Sum.inl (_, ((lv.set i9.toNat (mm_I z)).length, .inl (fun j => mm_gI (lv.set i9.toNat (mm_I z))[j]?)))
          rw [List.length_set]
          congr 4
          funext q
          rw [mm_clamp hi]
          unfold upd
          rw [List.getElem?_set]
          by_cases hq : q = i9.toNat
          · subst hq
            rw [if_pos rfl, if_pos rfl, if_pos (by exact hlt)]
            rfl
          · rw [if_neg hq, if_neg (fun z => hq z.symm)]
        rw [e8, mm_ws_set] at hP1
        have k := kk H1 locs1 cells slots rls hS1 (hR.set (mm_oks hok hzr) hP1) hL hst hcc hss hsc
        rw [show (none : Option Nat).getD (i + 1) = i + 1 from rfl, hn] at k
        exact k
      · cases hop
    · cases hop
  · cases hop
theorem mm_step_aastore (hc : mm_code y i = some (pc, (48, (a, b)))) (hop : mm_op mm_fld 48 a b ls st h = some (ls', (st', (h', j)))) (X : mm_X y l p R s m args meth c) (K : mm_K g D L xs s) (hS : va_S (mm_A g) s.heap H locs) (hR : mm_Rl g D h H) (hL : mm_LR g (mm_mL y) ls rls) (hst : ∀ v ∈ st, mm_ok v) (hcc : cells + n0 = h.2.1) (hss : slots + s0 = h.2.2.1) (hsc : h.2.2.2 = mm_scr L xs) (hz0 : s.heap.size ≤ g.2.1 + n0) (rc : h'.2.1 ≤ R.cells + n0) (rs : h'.2.2.1 ≤ R.slots + s0)
    (kk : mm_KK p l e R s m args below meth c Q g D y n0 s0 L xs (mm_nx y (j.getD (i + 1))) ls' st' h') : W p l e R s m args below meth c H locs cells slots Q (F0 m pc rls (st.map (mm_up g.1 g.2.1))) := by
  obtain ⟨hx, hb, hml, -, -, hnm, hown, hts, -, hnF, hnL, -⟩ := X
  obtain ⟨hd, hn, hj, ha4, hfo, -, hroom, -⟩ := mm_okB_dec hc (by decide)
  have hn := hn (by decide)
  replace hop : mm_o_aast ls st h = some (ls', (st', (h', j))) := hop
  unfold mm_o_aast at hop
  split at hop
  · rename_i v i9 r st
    have hzr := (mm_okt hst).1
    replace hst := (mm_okt hst).2
    have hi := (mm_okt hst).1
    replace hst := (mm_okt hst).2
    have hi : mm_rng i9 := hi
    replace hst := (mm_okt hst).2
    by_cases h0 : i9 < 0
    · rw [if_pos h0] at hop
      cases hop
    rw [if_neg h0] at hop
    split at hop
    · rename_i lv hr
      split at hop
      · rename_i hlt
        obtain ⟨hlt, hv⟩ := hlt
        cases hop
        obtain ⟨r9, hok⟩ := hR.okl hr
        have he := mm_ws_at g hr
        obtain ⟨cv, hcv, ecv⟩ := Option.map_eq_some_iff.mp hv
        obtain ⟨kv, lvv⟩ := cv
        have ecv : kv = 13 := ecv
        subst ecv
        obtain ⟨v9, -⟩ := hR.okl hcv
        have hev := mm_ws_at g hcv
        rw [mm_ent_o g 3] at hev
        show W p l e R s m args below meth c H locs cells slots Q (F0 m pc rls (.ref (mm_ad g.1 g.2.1 v) :: .int (Int32.ofInt i9) :: .ref (mm_ad g.1 g.2.1 r) :: st'.map (mm_up g.1 g.2.1)))
        rw [mm_ad_lt (r := r) (by omega), mm_ad_lt (r := v) (by omega)]
        refine va_astq (r := (RX3, TX3, 2)) hx hb K.1 hR.1 (mm_ws_D g h.1) hS r 2 v 3 he rfl hev rfl (mm_vin hi (by omega) hlt) hd (fun H1 locs1 hP1 hD1 hS1 => ?_)
        have e8 : ((.inl (g.2.2.2.2, (lv.length, .inr (.inr (.inr (.inr (va_up (fun j => mm_gR g.1 g.2.1 lv[j]?) (Int32.ofInt i9).toNatClampNeg (some (g.2.1 + v)))))))) : va_E)) = mm_ent g (2, lv.set i9.toNat (mm_P v)) := by
          show (_ : va_E) = Sum.inl (_, ((lv.set i9.toNat (mm_P v)).length, .inr (.inr (.inr (.inr (fun j => mm_gR g.1 g.2.1 (lv.set i9.toNat (mm_P v))[j]?))))))
          rw [List.length_set]
          congr 7
          funext q
          rw [mm_clamp hi]
          unfold va_up
          rw [List.getElem?_set]
          by_cases hq : q = i9.toNat
          · subst hq
            rw [if_pos rfl, if_pos rfl, if_pos hlt]
            show some (g.2.1 + v) = some (mm_ad g.1 g.2.1 v)
            rw [mm_ad_lt (by omega)]
          · rw [if_neg hq, if_neg (fun z => hq z.symm)]
        rw [e8, mm_ws_set] at hP1
        have k := kk H1 locs1 cells slots rls hS1 (hR.set (mm_oks hok hzr) hP1) hL hst hcc hss hsc
        rw [show (none : Option Nat).getD (i + 1) = i + 1 from rfl, hn] at k
        exact k
      · cases hop
    · cases hop
  · cases hop
theorem mm_step_arraylength (hc : mm_code y i = some (pc, (49, (a, b)))) (hop : mm_op mm_fld 49 a b ls st h = some (ls', (st', (h', j)))) (X : mm_X y l p R s m args meth c) (K : mm_K g D L xs s) (hS : va_S (mm_A g) s.heap H locs) (hR : mm_Rl g D h H) (hL : mm_LR g (mm_mL y) ls rls) (hst : ∀ v ∈ st, mm_ok v) (hcc : cells + n0 = h.2.1) (hss : slots + s0 = h.2.2.1) (hsc : h.2.2.2 = mm_scr L xs) (hz0 : s.heap.size ≤ g.2.1 + n0) (rc : h'.2.1 ≤ R.cells + n0) (rs : h'.2.2.1 ≤ R.slots + s0)
    (kk : mm_KK p l e R s m args below meth c Q g D y n0 s0 L xs (mm_nx y (j.getD (i + 1))) ls' st' h') : W p l e R s m args below meth c H locs cells slots Q (F0 m pc rls (st.map (mm_up g.1 g.2.1))) := by
  obtain ⟨hx, hb, hml, -, -, hnm, hown, hts, -, hnF, hnL, -⟩ := X
  obtain ⟨hd, hn, hj, ha4, hfo, -, hroom, -⟩ := mm_okB_dec hc (by decide)
  have hn := hn (by decide)
  replace hop : mm_o_alen ls st h = some (ls', (st', (h', j))) := hop
  unfold mm_o_alen at hop
  split at hop
  · rename_i r st
    replace hst := (mm_okt hst).2
    by_cases hr9 : r = 999
    · rw [if_pos hr9] at hop
      subst hr9
      rw [hsc] at hop
      unfold mm_scr at hop
      dsimp only at hop
      rw [List.length_map, List.length_range] at hop
      cases hop
      obtain ⟨-, -, -, -, -, -, -, -, hX, hbl, hbz, hL9⟩ := K
      have k := kk H locs cells slots rls hS hR hL (mm_okc (v := mm_I (L : Int)) ⟨by omega, by omega⟩ hst) hcc hss hsc
      rw [show (none : Option Nat).getD (i + 1) = i + 1 from rfl, hn] at k
      have e8 : mm_up g.1 g.2.1 (mm_I (L : Int)) = .int (Int32.ofNat L) := congrArg Value.int (mm_nI L)
      rw [List.map_cons, e8] at k
      exact va_slen hx hb hX (Nat.lt_of_lt_of_le hbl hbz) (Nat.not_le.mpr hbl) hS hd k
    rw [if_neg hr9] at hop
    split at hop
    · rename_i kd lv hr
      split at hop
      · rename_i hk
        obtain ⟨hk, hlen⟩ := hk
        cases hop
        obtain ⟨r9, hok⟩ := hR.okl hr
        have he := mm_ws_at g hr
        have k := kk H locs cells slots rls hS hR hL (mm_okc (v := mm_I (lv.length : Int)) ⟨by omega, by omega⟩ hst) hcc hss hsc
        rw [show (none : Option Nat).getD (i + 1) = i + 1 from rfl, hn] at k
        have e8 : mm_up g.1 g.2.1 (mm_I (lv.length : Int)) = .int (Int32.ofNat lv.length) := congrArg Value.int (mm_nI lv.length)
        rw [List.map_cons, e8] at k
        show W p l e R s m args below meth c H locs cells slots Q (F0 m pc rls (.ref (mm_ad g.1 g.2.1 r) :: st.map (mm_up g.1 g.2.1)))
        rw [mm_ad_lt (r := r) (by omega)]
        have hk3 : kd = 0 ∨ kd = 1 ∨ kd = 2 := by omega
        rcases hk3 with rfl | rfl | rfl
        · exact va_alen (ty := .int) hx hb K.1 hR.1 r 0 he rfl rfl hd k
        · exact va_alen (ty := .int) hx hb K.1 hR.1 r 1 he rfl rfl hd k
        · exact va_alen (ty := .object RX3) hx hb K.1 hR.1 r 2 he rfl rfl hd k
      · cases hop
    · cases hop
  · cases hop
theorem mm_step_new (hc : mm_code y i = some (pc, (50, (a, b)))) (hop : mm_op mm_fld 50 a b ls st h = some (ls', (st', (h', j)))) (X : mm_X y l p R s m args meth c) (K : mm_K g D L xs s) (hS : va_S (mm_A g) s.heap H locs) (hR : mm_Rl g D h H) (hL : mm_LR g (mm_mL y) ls rls) (hst : ∀ v ∈ st, mm_ok v) (hcc : cells + n0 = h.2.1) (hss : slots + s0 = h.2.2.1) (hsc : h.2.2.2 = mm_scr L xs) (hz0 : s.heap.size ≤ g.2.1 + n0) (rc : h'.2.1 ≤ R.cells + n0) (rs : h'.2.2.1 ≤ R.slots + s0)
    (kk : mm_KK p l e R s m args below meth c Q g D y n0 s0 L xs (mm_nx y (j.getD (i + 1))) ls' st' h') : W p l e R s m args below meth c H locs cells slots Q (F0 m pc rls (st.map (mm_up g.1 g.2.1))) := by
  obtain ⟨hx, hb, hml, -, -, hnm, hown, hts, -, hnF, hnL, -⟩ := X
  obtain ⟨hd, hn, hj, ha4, hfo, -, hroom, -⟩ := mm_okB_dec hc (by decide)
  have hn := hn (by decide)
  have hN := mm_NA _ (mm_nA hc rfl)
  obtain ⟨n1, n2, n3, n4⟩ := hN.1 rfl
  replace n1 : b.toNat < 5 := n1
  obtain ⟨c1, c2, c3, c4, c5, c6, c7⟩ := mm_CA _ n1
  replace hop : mm_push (10 + b.toNat) ((mm_fk b.toNat).map mm_df) ls st h = some (ls', (st', (h', j))) := hop
  unfold mm_push at hop
  split at hop
  · rename_i hp
    obtain ⟨hp1, hp2⟩ := hp
    cases hop
    have hlen : ((mm_fk b.toNat).map mm_df).length = (mm_cl b.toNat).2.2 := by rw [List.length_map]; exact c5
    dsimp only at rc rs
    rw [hlen] at rs
    refine va_new (ci := b.toNat) (fs := ((mm_fk b.toNat).map mm_df).map (mm_up g.1 g.2.1)) (C := (mm_cl b.toNat).1) (T := (mm_cl b.toNat).2.1) (N := (mm_cl b.toNat).2.2) hx hb hts c2 (mm_ty b.toNat) c3 hown (hts _ n2) (hts _ n3) (hts _ n4) K.1 hR.1 (mm_ws_D g h.1) hS (fun q hq => Nat.le_trans K.2.2.2.2.2.2.2.2.2.2.1 hq) c1 (fun k hk => ?_) (by omega) (by omega) hd (fun q H1 hP1 hD1 hS1 => mm_size (fun hsz => ?_))
    · have c6a := (c6 _ hk).1
      have hk5 : k < (mm_fk b.toNat).length := by rw [c5]; exact hk
      have e5 : (mm_fk b.toNat)[k]? = some (mm_fk b.toNat)[k] := List.getElem?_eq_getElem hk5
      unfold vp_V
      rw [List.getD_eq_getElem?_getD, List.getElem?_map, List.getElem?_map, e5]
      unfold mm_kOK at c6a
      rw [e5] at c6a
      generalize (mm_fk b.toNat)[k] = t9 at c6a
      match t9, c6a with
      | 0, c6a =>
        simp only [Bool.and_eq_true, decide_eq_true_eq] at c6a
        rw [c6a.1]
        rfl
      | 1, c6a =>
        simp only [Bool.and_eq_true, decide_eq_true_eq] at c6a
        rw [c6a.1]
        rfl
      | 2, c6a =>
        simp only [Bool.and_eq_true] at c6a
        have c6b := c6a.1
        generalize mm_ty b.toNat k = t8 at c6b
        cases t8 <;> first | rfl | cases c6b
      | t + 3, c6a => cases c6a
    · rw [← mm_ent_o] at hP1 hD1
      have hok0 : ∀ v ∈ (mm_fk b.toNat).map mm_df, mm_ok v := by
        intro v hv
        obtain ⟨t, -, rfl⟩ := List.mem_map.mp hv
        unfold mm_df
        split
        · trivial
        · exact mm_rng0
      obtain ⟨e9, hR9⟩ := mm_Rl.push (t := (h.2.1 + 1, (h.2.2.1 + ((mm_fk b.toNat).map mm_df).length, h.2.2.2))) hR hp2 hok0 rfl hD1 hP1 (by omega)
      have k := kk H1 locs (cells + 1) (slots + (mm_cl b.toNat).2.2) rls hS1 hR9 hL (mm_okc (v := mm_P h.1.length) trivial hst) (by show cells + 1 + n0 = h.2.1 + 1; omega) (by show slots + (mm_cl b.toNat).2.2 + s0 = h.2.2.1 + ((mm_fk b.toNat).map mm_df).length; omega) hsc
      rw [show (none : Option Nat).getD (i + 1) = i + 1 from rfl, hn] at k
      rw [e9, ← mm_ad_lt (b := g.1) (b0 := g.2.1) (r := h.1.length) (by omega)]
      exact k
  · cases hop
theorem mm_step_newarray (hc : mm_code y i = some (pc, (51, (a, b)))) (hop : mm_op mm_fld 51 a b ls st h = some (ls', (st', (h', j)))) (X : mm_X y l p R s m args meth c) (K : mm_K g D L xs s) (hS : va_S (mm_A g) s.heap H locs) (hR : mm_Rl g D h H) (hL : mm_LR g (mm_mL y) ls rls) (hst : ∀ v ∈ st, mm_ok v) (hcc : cells + n0 = h.2.1) (hss : slots + s0 = h.2.2.1) (hsc : h.2.2.2 = mm_scr L xs) (hz0 : s.heap.size ≤ g.2.1 + n0) (rc : h'.2.1 ≤ R.cells + n0) (rs : h'.2.2.1 ≤ R.slots + s0)
    (kk : mm_KK p l e R s m args below meth c Q g D y n0 s0 L xs (mm_nx y (j.getD (i + 1))) ls' st' h') : W p l e R s m args below meth c H locs cells slots Q (F0 m pc rls (st.map (mm_up g.1 g.2.1))) := by
  obtain ⟨hx, hb, hml, -, -, hnm, hown, hts, -, hnF, hnL, -⟩ := X
  obtain ⟨hd, hn, hj, ha4, hfo, -, hroom, -⟩ := mm_okB_dec hc (by decide)
  have hn := hn (by decide)
  replace hop : mm_o_newa 0 (mm_I 0) ls st h = some (ls', (st', (h', j))) := hop
  unfold mm_o_newa at hop
  split at hop
  · rename_i n st
    have hnr := (mm_okt hst).1
    replace hst := (mm_okt hst).2
    have hnr : mm_rng n := hnr
    by_cases hn9 : 0 ≤ n ∧ n < 100000
    · rw [if_pos hn9] at hop
      unfold mm_push at hop
      split at hop
      · rename_i hp
        obtain ⟨hp1, hp2⟩ := hp
        cases hop
        have hlen : (List.replicate n.toNat (mm_I 0 : mm_V)).length = n.toNat := List.length_replicate
        dsimp only at rc rs
        rw [hlen] at rs
        refine va_newa (atype := .int) hx hb (hts _ mm_wAr) rfl K.1 hR.1 (mm_ws_D g h.1) hS (fun q hq => Nat.le_trans K.2.2.2.2.2.2.2.2.2.2.1 hq) (a0 := (n.toNat, .inl (fun _ => 0))) (fun _ => rfl) (by rw [mm_lt0 hnr]; omega) (mm_clamp hnr) (by show n.toNat * 4 ≤ _; omega) (by omega) (by omega) hd (fun q cA H1 hK1 hP1 hD1 hS1 => mm_size (fun hsz => ?_))
        have hcA : cA = g.2.2.1 := by
          have z1 := (hK1.2 3 (cA, .int) rfl).2
          have z2 := (K.1.2 0 (g.2.2.1, .int) rfl).2
          exact Option.some.inj (z1.symm.trans z2)
        rw [hcA] at hP1 hD1
        have e8 : ((.inl (g.2.2.1, (n.toNat, .inl (fun _ => 0))) : va_E)) = mm_ent g (0, List.replicate n.toNat (mm_I 0)) := by
          show (_ : va_E) = Sum.inl (_, ((List.replicate n.toNat (mm_I 0 : mm_V)).length, .inl (fun j => mm_gI (List.replicate n.toNat (mm_I 0))[j]?)))
          rw [List.length_replicate]
          congr 4
          funext q
          rw [List.getElem?_replicate]
          split <;> rfl
        rw [e8] at hP1 hD1
        obtain ⟨e9, hR9⟩ := mm_Rl.push (t := (h.2.1 + 1, (h.2.2.1 + (List.replicate n.toNat (mm_I 0 : mm_V)).length, h.2.2.2))) hR hp2 (fun v hv => by rw [(List.mem_replicate.mp hv).2]; exact mm_rng0) rfl hD1 hP1 (by omega)
        have k := kk H1 locs (cells + 1) (slots + n.toNat) rls hS1 hR9 hL (mm_okc (v := mm_P h.1.length) trivial hst) (by show cells + 1 + n0 = h.2.1 + 1; omega) (by show slots + n.toNat + s0 = h.2.2.1 + (List.replicate n.toNat (mm_I 0 : mm_V)).length; omega) hsc
        rw [show (none : Option Nat).getD (i + 1) = i + 1 from rfl, hn] at k
        rw [e9, ← mm_ad_lt (b := g.1) (b0 := g.2.1) (r := h.1.length) (by omega)]
        exact k
      · cases hop
    · rw [if_neg hn9] at hop
      cases hop
  · cases hop
theorem mm_step_anewarray (hc : mm_code y i = some (pc, (53, (a, b)))) (hop : mm_op mm_fld 53 a b ls st h = some (ls', (st', (h', j)))) (X : mm_X y l p R s m args meth c) (K : mm_K g D L xs s) (hS : va_S (mm_A g) s.heap H locs) (hR : mm_Rl g D h H) (hL : mm_LR g (mm_mL y) ls rls) (hst : ∀ v ∈ st, mm_ok v) (hcc : cells + n0 = h.2.1) (hss : slots + s0 = h.2.2.1) (hsc : h.2.2.2 = mm_scr L xs) (hz0 : s.heap.size ≤ g.2.1 + n0) (rc : h'.2.1 ≤ R.cells + n0) (rs : h'.2.2.1 ≤ R.slots + s0)
    (kk : mm_KK p l e R s m args below meth c Q g D y n0 s0 L xs (mm_nx y (j.getD (i + 1))) ls' st' h') : W p l e R s m args below meth c H locs cells slots Q (F0 m pc rls (st.map (mm_up g.1 g.2.1))) := by
  obtain ⟨hx, hb, hml, -, -, hnm, hown, hts, -, hnF, hnL, -⟩ := X
  obtain ⟨hd, hn, hj, ha4, hfo, -, hroom, -⟩ := mm_okB_dec hc (by decide)
  have hn := hn (by decide)
  replace hop : mm_o_newa 2 (mm_N) ls st h = some (ls', (st', (h', j))) := hop
  unfold mm_o_newa at hop
  split at hop
  · rename_i n st
    have hnr := (mm_okt hst).1
    replace hst := (mm_okt hst).2
    have hnr : mm_rng n := hnr
    by_cases hn9 : 0 ≤ n ∧ n < 100000
    · rw [if_pos hn9] at hop
      unfold mm_push at hop
      split at hop
      · rename_i hp
        obtain ⟨hp1, hp2⟩ := hp
        cases hop
        have hlen : (List.replicate n.toNat (mm_N : mm_V)).length = n.toNat := List.length_replicate
        dsimp only at rc rs
        rw [hlen] at rs
        refine va_newq hx hb hown (hts _ ((mm_NA _ (mm_nA hc rfl)).2.1 rfl)) K.2.2.2.2.2.2.2.1 K.1 hR.1 (mm_ws_D g h.1) hS (fun q hq => Nat.le_trans K.2.2.2.2.2.2.2.2.2.2.1 hq) (by rw [mm_lt0 hnr]; omega) (mm_clamp hnr) (by omega) (by omega) (by omega) hd (fun q cA H1 hK1 hP1 hD1 hS1 => mm_size (fun hsz => ?_))
        have hcA : cA = g.2.2.2.2 := by
          have z1 := (hK1.2 3 (cA, .object RX3) rfl).2
          have z2 := (K.1.2 2 (g.2.2.2.2, .object RX3) rfl).2
          obtain ⟨_, _, _, _, _, z1⟩ := z1
          obtain ⟨_, _, _, _, _, z2⟩ := z2
          exact Option.some.inj (z1.symm.trans z2)
        rw [hcA] at hP1 hD1
        have e8 : ((.inl (g.2.2.2.2, (n.toNat, .inr (.inr (.inr (.inr (fun _ => none)))))) : va_E)) = mm_ent g (2, List.replicate n.toNat (mm_N)) := by
          show (_ : va_E) = Sum.inl (_, ((List.replicate n.toNat (mm_N : mm_V)).length, .inr (.inr (.inr (.inr (fun j => mm_gR g.1 g.2.1 (List.replicate n.toNat mm_N)[j]?))))))
          rw [List.length_replicate]
          congr 7
          funext q
          rw [List.getElem?_replicate]
          split <;> rfl
        rw [e8] at hP1 hD1
        obtain ⟨e9, hR9⟩ := mm_Rl.push (t := (h.2.1 + 1, (h.2.2.1 + (List.replicate n.toNat (mm_N : mm_V)).length, h.2.2.2))) hR hp2 (fun v hv => by rw [(List.mem_replicate.mp hv).2]; trivial) rfl hD1 hP1 (by omega)
        have k := kk H1 locs (cells + 1) (slots + n.toNat) rls hS1 hR9 hL (mm_okc (v := mm_P h.1.length) trivial hst) (by show cells + 1 + n0 = h.2.1 + 1; omega) (by show slots + n.toNat + s0 = h.2.2.1 + (List.replicate n.toNat (mm_N : mm_V)).length; omega) hsc
        rw [show (none : Option Nat).getD (i + 1) = i + 1 from rfl, hn] at k
        rw [e9, ← mm_ad_lt (b := g.1) (b0 := g.2.1) (r := h.1.length) (by omega)]
        exact k
      · cases hop
    · rw [if_neg hn9] at hop
      cases hop
  · cases hop
theorem mm_step_objInit (hc : mm_code y i = some (pc, (57, (a, b)))) (hop : mm_op mm_fld 57 a b ls st h = some (ls', (st', (h', j)))) (X : mm_X y l p R s m args meth c) (K : mm_K g D L xs s) (hS : va_S (mm_A g) s.heap H locs) (hR : mm_Rl g D h H) (hL : mm_LR g (mm_mL y) ls rls) (hst : ∀ v ∈ st, mm_ok v) (hcc : cells + n0 = h.2.1) (hss : slots + s0 = h.2.2.1) (hsc : h.2.2.2 = mm_scr L xs) (hz0 : s.heap.size ≤ g.2.1 + n0) (rc : h'.2.1 ≤ R.cells + n0) (rs : h'.2.2.1 ≤ R.slots + s0)
    (kk : mm_KK p l e R s m args below meth c Q g D y n0 s0 L xs (mm_nx y (j.getD (i + 1))) ls' st' h') : W p l e R s m args below meth c H locs cells slots Q (F0 m pc rls (st.map (mm_up g.1 g.2.1))) := by
  obtain ⟨hx, hb, hml, -, -, hnm, hown, hts, -, hnF, hnL, -⟩ := X
  obtain ⟨hd, hn, hj, ha4, hfo, -, hroom, -⟩ := mm_okB_dec hc (by decide)
  have hn := hn (by decide)
  obtain ⟨hr1, hr2⟩ := hroom (by decide)
  have hN := (mm_NA _ (mm_nA hc rfl)).2.2.1 rfl
  match st, hst, hop with
  | .inr (.inr (some r)) :: st, hst, hop =>
    replace hop : (if st.length ≤ 4 then some (ls, (st, (h, (none : Option Nat)))) else none) = some (ls', (st', (h', j))) := hop
    by_cases hl : st.length ≤ 4
    · rw [if_pos hl] at hop
      cases hop
      have k := kk H locs cells slots rls hS hR hL (mm_okt hst).2 hcc hss hsc
      rw [show (none : Option Nat).getD (i + 1) = i + 1 from rfl, hn] at k
      exact W.objInit hx hb hown (hts _ hN) (hts _ mm_wOI.1) (hts _ mm_wOI.2) rfl (by show rls.size = _; rw [hL.2.1, hml]) rfl hd (by omega) (by have := mm_catS (b := g.1) (b0 := g.2.1) st'; show 2 * 0 + _ + 12 ≤ _; omega) k
    · rw [if_neg hl] at hop
      cases hop
  | .inr (.inr none) :: st, hst, hop => cases hop
  | .inr (.inl z) :: st, hst, hop => cases hop
  | .inl z :: st, hst, hop => cases hop
  | [], hst, hop => cases hop
theorem mm_step_mmax (hc : mm_code y i = some (pc, (58, (a, b)))) (hop : mm_op mm_fld 58 a b ls st h = some (ls', (st', (h', j)))) (X : mm_X y l p R s m args meth c) (K : mm_K g D L xs s) (hS : va_S (mm_A g) s.heap H locs) (hR : mm_Rl g D h H) (hL : mm_LR g (mm_mL y) ls rls) (hst : ∀ v ∈ st, mm_ok v) (hcc : cells + n0 = h.2.1) (hss : slots + s0 = h.2.2.1) (hsc : h.2.2.2 = mm_scr L xs) (hz0 : s.heap.size ≤ g.2.1 + n0) (rc : h'.2.1 ≤ R.cells + n0) (rs : h'.2.2.1 ≤ R.slots + s0)
    (kk : mm_KK p l e R s m args below meth c Q g D y n0 s0 L xs (mm_nx y (j.getD (i + 1))) ls' st' h') : W p l e R s m args below meth c H locs cells slots Q (F0 m pc rls (st.map (mm_up g.1 g.2.1))) := by
  obtain ⟨hx, hb, hml, -, -, hnm, hown, hts, -, hnF, hnL, -⟩ := X
  obtain ⟨hd, hn, hj, ha4, hfo, -, hroom, -⟩ := mm_okB_dec hc (by decide)
  have hn := hn (by decide)
  obtain ⟨hr1, hr2⟩ := hroom (by decide)
  have hN := (mm_NA _ (mm_nA hc rfl)).2.2.2.1 rfl
  replace hop : mm_o_max (fun x y => if x < y then y else x) ls st h = some (ls', (st', (h', j))) := hop
  unfold mm_o_max at hop
  split at hop
  · rename_i y9 x9 st
    have hy := (mm_okt hst).1
    replace hst := (mm_okt hst).2
    have hx9 := (mm_okt hst).1
    replace hst := (mm_okt hst).2
    have hy : mm_rng y9 := hy
    have hx9 : mm_rng x9 := hx9
    by_cases hl : st.length ≤ 4
    · rw [if_pos hl] at hop
      cases hop
      have hr : mm_rng (if x9 < y9 then y9 else x9) := by split <;> assumption
      have k := kk H locs cells slots rls hS hR hL (mm_okc hr hst) hcc hss hsc
      rw [show (none : Option Nat).getD (i + 1) = i + 1 from rfl, hn] at k
      have e8 : mm_up g.1 g.2.1 (mm_I (if x9 < y9 then y9 else x9)) = .int (if Int32.ofInt x9 < Int32.ofInt y9 then Int32.ofInt y9 else Int32.ofInt x9) := by
        by_cases q : x9 < y9
        · rw [if_pos q, if_pos ((mm_ltI hx9 hy).mpr q)]; rfl
        · rw [if_neg q, if_neg (fun z => q ((mm_ltI hx9 hy).mp z))]; rfl
      rw [List.map_cons, e8] at k
      exact va_mmax hx hb (by rw [hL.2.1, hml]) hown (hts _ hN) (hts _ mm_w_max.1) (hts _ mm_wMath) (hts _ mm_w_max.2) (by omega) (by have := mm_catS (b := g.1) (b0 := g.2.1) st; omega) (by omega) (by omega) hd k
    · rw [if_neg hl] at hop
      cases hop
  · cases hop
theorem mm_step_mmin (hc : mm_code y i = some (pc, (59, (a, b)))) (hop : mm_op mm_fld 59 a b ls st h = some (ls', (st', (h', j)))) (X : mm_X y l p R s m args meth c) (K : mm_K g D L xs s) (hS : va_S (mm_A g) s.heap H locs) (hR : mm_Rl g D h H) (hL : mm_LR g (mm_mL y) ls rls) (hst : ∀ v ∈ st, mm_ok v) (hcc : cells + n0 = h.2.1) (hss : slots + s0 = h.2.2.1) (hsc : h.2.2.2 = mm_scr L xs) (hz0 : s.heap.size ≤ g.2.1 + n0) (rc : h'.2.1 ≤ R.cells + n0) (rs : h'.2.2.1 ≤ R.slots + s0)
    (kk : mm_KK p l e R s m args below meth c Q g D y n0 s0 L xs (mm_nx y (j.getD (i + 1))) ls' st' h') : W p l e R s m args below meth c H locs cells slots Q (F0 m pc rls (st.map (mm_up g.1 g.2.1))) := by
  obtain ⟨hx, hb, hml, -, -, hnm, hown, hts, -, hnF, hnL, -⟩ := X
  obtain ⟨hd, hn, hj, ha4, hfo, -, hroom, -⟩ := mm_okB_dec hc (by decide)
  have hn := hn (by decide)
  obtain ⟨hr1, hr2⟩ := hroom (by decide)
  have hN := (mm_NA _ (mm_nA hc rfl)).2.2.2.2.1 rfl
  replace hop : mm_o_max (fun x y => if y < x then y else x) ls st h = some (ls', (st', (h', j))) := hop
  unfold mm_o_max at hop
  split at hop
  · rename_i y9 x9 st
    have hy := (mm_okt hst).1
    replace hst := (mm_okt hst).2
    have hx9 := (mm_okt hst).1
    replace hst := (mm_okt hst).2
    have hy : mm_rng y9 := hy
    have hx9 : mm_rng x9 := hx9
    by_cases hl : st.length ≤ 4
    · rw [if_pos hl] at hop
      cases hop
      have hr : mm_rng (if y9 < x9 then y9 else x9) := by split <;> assumption
      have k := kk H locs cells slots rls hS hR hL (mm_okc hr hst) hcc hss hsc
      rw [show (none : Option Nat).getD (i + 1) = i + 1 from rfl, hn] at k
      have e8 : mm_up g.1 g.2.1 (mm_I (if y9 < x9 then y9 else x9)) = .int (if Int32.ofInt y9 < Int32.ofInt x9 then Int32.ofInt y9 else Int32.ofInt x9) := by
        by_cases q : y9 < x9
        · rw [if_pos q, if_pos ((mm_ltI hy hx9).mpr q)]; rfl
        · rw [if_neg q, if_neg (fun z => q ((mm_ltI hy hx9).mp z))]; rfl
      rw [List.map_cons, e8] at k
      exact va_mmin hx hb (by rw [hL.2.1, hml]) hown (hts _ hN) (hts _ mm_w_min.1) (hts _ mm_wMath) (hts _ mm_w_min.2) (by omega) (by have := mm_catS (b := g.1) (b0 := g.2.1) st; omega) (by omega) (by omega) hd k
    · rw [if_neg hl] at hop
      cases hop
  · cases hop
end MMH
