/-! the class: rank and toPart -/
theorem sz_del {S : wd → Prop} {m : Int} (h : sz S m) {v : wd} (hv : S v) : sz (fun w => S w ∧ w ≠ v) (m - 1) := by
  obtain ⟨L, a1, a2, a3⟩ := h
  have hm := (a2 v).mpr hv
  refine ⟨L.erase v, a1.erase v, fun w => ?_, ?_⟩
  · rw [a1.mem_erase_iff, a2]
    exact ⟨fun q => ⟨q.2, q.1⟩, fun q => ⟨q.2, q.1⟩⟩
  · rw [List.length_erase_of_mem hm]
    have := List.length_pos_of_mem hm
    omega
def sv_S (tx : Nat → wd) (w : wd) : Prop := w ≠ [] ∧ fac tx w
section SI
variable {D : mm_D} {u : Int} {x : mm_Xt} {Q : mm_O → mm_H → Prop} {tx : Nat → wd} {k : Int} {P : wd} {n : Int} {rep : Int → wd}
theorem sp_rank13 (C : sv_C D tx k P) (J : au_J D n (-1) rep [] (en_of tx)) (T : tM tx (au_M n (-1) rep)) (hV : ∀ w v, sv_st n rep w v → sv_V1 tx w (sd_aot D v)) (H : ∀ r, sz (fun w => sv_S tx w ∧ lx w P) r → Q (.inl (some (mm_I r))) (mm_mk D u x)) : ∀ (m i : Nat) (v2 v3 : Int) (o6 o7 : Option mm_V), i + m = P.length → sv_st n rep (P.take i) v3 → ((v3 = -1 ∨ m = 0) → sz (fun w => sv_S tx w ∧ lx w P) v2) → (v3 ≠ -1 → m ≠ 0 → sz (fun w => sv_S tx w ∧ ¬ lx (P.take i) w) v2) → mt 29 13 [some (mm_P 12), some (mm_P 10), some (mm_I v2), some (mm_I v3), some (mm_I (P.length : Int)), some (mm_I (i : Int)), o6, o7] [] (mm_mk D u x) Q := by
  have w10 : mm_isW 10 := by unfold mm_isW; omega
  have hlen := C.1.2.2.1
  intro m
  induction m with
  | zero =>
    intro i v2 v3 o6 o7 hi hs hA hB
    apply q_X2_partsAheadOf_13
    exact ⟨fun _ => H v2 (hA (Or.inr rfl)), fun q => absurd q (by omega)⟩
  | succ m ih =>
    intro i v2 v3 o6 o7 hi hs hA hB
    apply q_X2_partsAheadOf_13
    refine ⟨fun q => absurd q (by omega), fun _ => ⟨fun q => H v2 (hA (Or.inl q)), fun q3 => ?_⟩⟩
    apply sp_letter _ w10 (by omega) (by rw [C.2.2.2.1.1]; omega) (by show _ < (120 : Int); omega)
    apply mm_pIi
    have e1 := C.2.2.2.1.2 i (by omega)
    rw [Int.zero_add] at e1
    rw [e1]
    have hc := C.1.2.2.2.2.1 _ (wg_mem (w := P) (i := i) (by omega))
    have et : P.take (i + 1) = P.take i ++ [wg P i] := wd_take (by omega)
    have ep : P.take (i + 1) ++ P.drop (i + 1) = P := List.take_append_drop (i + 1) P
    generalize hcE : wg P i = c at *
    generalize hqE : P.take i = q at *
    have inn : ∀ (z b : Nat) (v2 : Int), b + z = c.toNat → sz (fun w => sv_S tx w ∧ (¬ lx q w ∨ ∃ b' : Int, b' < (b : Int) ∧ q ++ [b'] <+: w)) v2 → mt 29 25 [some (mm_P 12), some (mm_P 10), some (mm_I v2), some (mm_I v3), some (mm_I (P.length : Int)), some (mm_I (i : Int)), some (mm_I c), some (mm_I (b : Int))] [] (mm_mk D u x) Q := by
      intro z
      induction z with
      | zero =>
        intro b v2 hb hz
        have hbc : (b : Int) = c := by omega
        rw [hbc] at hz ⊢
        have hz2 : sz (fun w => sv_S tx w ∧ lx w (q ++ [c])) v2 := sz_c hz (fun w => ⟨fun y => ⟨y.1, lx_snoc.mpr y.2⟩, fun y => ⟨y.1, lx_snoc.mp y.2⟩⟩)
        have hn := sz_nn hz2
        have hf := sv_fin C.1 hz2 (fun w y => y.1.2)
        apply q_X2_partsAheadOf_25
        refine ⟨fun _ => ?_, fun y => absurd y (by omega)⟩
        apply sp_step
        apply mm_pIi
        have hst := sv_step J hs hc
        have hF := (sv_stF hst).trans (tM_F T)
        rw [← et] at hst hF hz2
        refine ⟨fun y => ⟨by constructor <;> omega, ih (i + 1) _ _ _ _ (by omega) hst (fun _ => sz_c hz2 (fun w => ⟨fun t => ⟨t.1, ?_⟩, fun t => ⟨t.1, ?_⟩⟩)) (fun t => absurd y t)⟩, fun y => ⟨by constructor <;> omega, fun y2 => ⟨by constructor <;> omega, ih (i + 1) _ _ _ _ (by omega) hst (fun _ => ?_) (fun _ t => absurd (show m = 0 by omega) t)⟩, fun y2 => ⟨by constructor <;> omega, by constructor <;> omega, ih (i + 1) _ _ _ _ (by omega) hst (fun t => ?_) (fun _ _ => ?_)⟩⟩⟩
        · rw [← ep]
          refine (lx_cut (fun pr => ?_)).mpr t.2
          obtain ⟨s, e⟩ := pr
          have := t.1.2
          rw [← e] at this
          exact hF.mpr (fac_preL _ _ this) y
        · rw [← ep] at t
          refine (lx_cut (fun pr => ?_)).mp t.2
          obtain ⟨s, e⟩ := pr
          have := t.1.2
          rw [← e] at this
          exact hF.mpr (fac_preL _ _ this) y
        · rw [List.take_of_length_le (by omega)] at hz2
          exact hz2
        · rcases t with t | t
          · exact absurd t y
          · omega
        · have hne : P.take (i + 1) ≠ [] := by
            rw [et]
            simp
          refine sz_c (sz_1 hz2 (v := P.take (i + 1)) (fun t => lx_irr _ t.2)) (fun w => ⟨fun t => ?_, fun t => ?_⟩)
          · rcases t with t | t
            · rw [t]
              exact ⟨⟨hne, hF.mp y⟩, lx_irr _⟩
            · exact ⟨t.1, lx_asy t.2⟩
          · rcases lx_tri w (P.take (i + 1)) with y3 | y3 | y3
            · exact Or.inr ⟨t.1, y3⟩
            · exact Or.inl y3
            · exact absurd y3 t.2
      | succ z ih2 =>
        intro b v2 hb hz
        have hn := sz_nn hz
        have hf := sv_fin C.1 hz (fun w y => y.1.2)
        apply q_X2_partsAheadOf_25
        refine ⟨fun y => absurd y (by omega), fun _ => ?_⟩
        apply sp_step
        apply mm_pIi
        apply sp_aheadOf
        apply mm_pIi
        have hv := hV _ _ (sv_step J hs (a := (b : Int)) (by omega))
        have hb := sv_V1n C.1 hv
        refine ⟨by constructor <;> omega, by constructor <;> omega, ih2 (b + 1) _ (by omega) (sz_c (sz_add hz (sz_app hv (q ++ [(b : Int)])) (fun w h1 h2 => ?_)) (fun w => ⟨fun y => ?_, fun y => ?_⟩))⟩
        · obtain ⟨s, e, _⟩ := h2
          have hp : q ++ [(b : Int)] <+: w := by rw [e]; exact List.prefix_append _ _
          rcases h1.2 with h1 | ⟨b', h1, h3⟩
          · refine h1 (lx_pre2 ((List.prefix_append q _).trans hp) (fun y => ?_))
            have := hp.length_le
            rw [← y, List.length_append, List.length_singleton] at this
            omega
          · have := (List.prefix_of_prefix_length_le h3 hp (by simp)).eq_of_length (by simp)
            have := List.append_cancel_left this
            have := (List.cons.inj this).1
            omega
        · rcases y with y | ⟨s, e, y⟩
          · refine ⟨y.1, y.2.imp id (fun t => ?_)⟩
            obtain ⟨b', t1, t2⟩ := t
            exact ⟨b', by omega, t2⟩
          · rw [e]
            exact ⟨⟨by simp, y⟩, Or.inr ⟨b, by omega, List.prefix_append _ _⟩⟩
        · rcases y.2 with t | ⟨b', t1, t2⟩
          · exact Or.inl ⟨y.1, Or.inl t⟩
          · by_cases e : b' = (b : Int)
            · obtain ⟨s, e2⟩ := t2
              rw [e] at e2
              refine Or.inr ⟨s, e2.symm, ?_⟩
              rw [e2]
              exact y.1.2
            · exact Or.inl ⟨y.1, Or.inr ⟨b', by omega, t2⟩⟩
    refine inn c.toNat 0 v2 (by omega) (sz_c (hB q3 (by omega)) (fun w => ⟨fun y => ⟨y.1, Or.inl y.2⟩, fun y => ⟨y.1, ?_⟩⟩))
    rcases y.2 with t | ⟨b', t1, t2⟩
    · exact t
    · have := fac_let C.1 y.1.2 (a := b') (t2.subset (by simp))
      omega
theorem cs_rank (C : sv_C D tx k P) (H : ∀ r D', sv_F D D' → sv_C D' tx k P → sz (fun w => sv_S tx w ∧ lx w P) r → Q (.inl (some (mm_I r))) (mm_mk D' u x)) : mt 65 0 [some (mm_P 0)] [] (mm_mk D u x) Q := by
  have w10 : mm_isW 10 := by unfold mm_isW; omega
  obtain ⟨n, rep, J, O, T, N, W⟩ := C.2.2.2.2
  apply q_X4_rank_0
  refine sp_countWords C J O T (fun D1 r1 h12 inv => ?_)
  apply mm_pVi
  have C1 : sv_C D1 tx k P := sv_C_row (fun r _ h1 h2 => r1 r h1 h2) C
  have J1 : au_J D1 n (-1) rep [] (en_of tx) := au_J_row (fun r h => r1 r (by omega) (by omega)) J
  apply q_X2_partsAheadOf_0
  apply sp_size w10
  apply mm_pIi
  rw [C1.2.2.2.1.1]
  have hV : ∀ w v, sv_st n rep w v → sv_V1 tx w (sd_aot D1 v) := fun w v h => sv_ahF J O T h12 sv_V1a (sv_V1b T) inv h
  refine sp_rank13 C1 J1 T hV (fun r h => ?_) P.length 0 0 0 _ _ (by omega) (by rw [List.take_zero]; exact sv_root J1) (fun h => ?_) (fun _ _ => ?_)
  · apply mm_pIi
    exact H r D1 (fun r h => r1 r (by omega) (by omega)) C1 h
  · rcases h with h | h
    · exact absurd h (by decide)
    · refine sz_0 (fun w y => ?_)
      rw [List.length_eq_zero_iff.mp h] at y
      exact lx_pre List.nil_prefix y.2
  · refine sz_0 (fun w y => ?_)
    rw [List.take_zero] at y
    exact y.2 (lx_pre2 List.nil_prefix (fun e => y.1.1 e.symm))
theorem sp_spell11 {num : Int} (J : au_J D n (-1) rep [] (en_of tx)) (T : tM tx (au_M n (-1) rep)) (hV : ∀ w v, sv_st n rep w v → sv_V1 tx w (sd_aot D v)) (H : ∀ D' W, (∀ r, r ≠ 10 → r ≠ 11 → D' r = D r) → sv_C D' tx k W → sv_S tx W → sz (fun w => sv_S tx w ∧ lx w W) num → Q (.inl none) (mm_mk D' u x)) : ∀ (m : Nat) (D2 : mm_D) (W : wd) (v3 v4 : Int) (o6 o7 : Option mm_V), v4 + 1 ≤ m → -1 ≤ v4 → v4 ≤ 40804 → (∀ r, r ≠ 10 → r ≠ 11 → D2 r = D r) → sv_C D2 tx k W → sv_st n rep W v3 → v3 ≠ -1 → sz (fun w => sv_S tx w ∧ ¬ lx W w) (num - v4) → (v4 = -1 → W ≠ []) → (∀ E, sv_V1 tx W E → 0 ≤ v4 → v4 + 1 < E) → mt 30 11 [some (mm_P 12), some (mm_I num), some (mm_P 10), some (mm_I v3), some (mm_I v4), some (mm_I (W.length : Int)), o6, o7] [] (mm_mk D2 u x) Q := by
  have done : ∀ (D2 : mm_D) (W : wd) (v3 v4 : Int), v4 = -1 → (∀ r, r ≠ 10 → r ≠ 11 → D2 r = D r) → sv_C D2 tx k W → sv_st n rep W v3 → v3 ≠ -1 → sz (fun w => sv_S tx w ∧ ¬ lx W w) (num - v4) → (v4 = -1 → W ≠ []) → Q (.inl none) (mm_mk D2 u x) := by
    intro D2 W v3 v4 e hr C hs h3 hz hW
    have hSW : sv_S tx W := ⟨hW e, ((sv_stF hs).trans (tM_F T)).mp h3⟩
    refine H D2 W hr C hSW ?_
    have := sz_del hz (v := W) ⟨hSW, lx_irr W⟩
    rw [show num - v4 - 1 = num by omega] at this
    refine sz_c this (fun w => ⟨fun y => ⟨y.1.1, ?_⟩, fun y => ⟨⟨y.1, lx_asy y.2⟩, fun e => ?_⟩⟩)
    · rcases lx_tri w W with t | t | t
      · exact t
      · exact absurd t y.2
      · exact absurd t y.1.2
    · have := y.2
      rw [e] at this
      exact lx_irr W this
  intro m
  induction m with
  | zero =>
    intro D2 W v3 v4 o6 o7 h4 h40 h4b hr C hs h3 hz hW hE
    apply q_X2_spellPart_11
    exact ⟨fun _ => done D2 W v3 v4 (by omega) hr C hs h3 hz hW, fun _ => ⟨fun _ => done D2 W v3 v4 (by omega) hr C hs h3 hz hW, fun q => absurd q (by omega)⟩⟩
  | succ m ih =>
    intro D2 W v3 v4 o6 o7 h4 h40 h4b hr C hs h3 hz hW hE
    apply q_X2_spellPart_11
    have full : (100 : Int) ≤ (W.length : Int) → v4 = -1 := fun q5 => by
      by_cases q6 : 0 ≤ v4
      · have g1 := hE _ (hV W v3 hs) q6
        have g2 := sz_le (hV W v3 hs) (sz_1 (sz_0 (S := fun _ => False) (fun _ q => q)) (v := []) (fun q => q)) (fun z q => by
          have g3 := fac_len C.1 q
          rw [List.length_append] at g3
          exact Or.inl (List.length_eq_zero_iff.mp (by omega)))
        omega
      · omega
    refine ⟨fun q5 => done D2 W v3 v4 (full q5) hr C hs h3 hz hW, fun q5 => ⟨fun _ => done D2 W v3 v4 (by omega) hr C hs h3 hz hW, fun q4 => ⟨fun q => absurd q h3, fun _ => ?_⟩⟩⟩
    have J2 : au_J D2 n (-1) rep [] (en_of tx) := au_J_row (fun r h => hr r (by omega) (by omega)) J
    have eaot : ∀ s, sd_aot D2 s = sd_aot D s := fun s => by unfold sd_aot; rw [hr 23 (by decide) (by decide), hr 12 (by decide) (by decide)]
    have fW := ((sv_stF hs).trans (tM_F T)).mp h3
    have lW := fac_len C.1 fW
    have hv0 := hV W v3 hs
    have hE0 := hE _ hv0 (by omega)
    have inn : ∀ (z a : Nat) (left : Int), a + z = 26 → sz (fun w => sv_S tx w ∧ (¬ lx W w ∨ ∃ b : Int, b < (a : Int) ∧ W ++ [b] <+: w)) (num - left) → 0 ≤ left → left ≤ v4 → mt 30 29 [some (mm_P 12), some (mm_I num), some (mm_P 10), some (mm_I v3), some (mm_I left), some (mm_I (W.length : Int)), some (mm_I (a : Int)), some (mm_I (sd_aot D2 (sd_step D2 v3 (a : Int))))] [] (mm_mk D2 u x) Q := by
      intro z
      induction z with
      | zero =>
        intro a left ha hz2 h0 hl
        exfalso
        have e1 := sz_app (sz_del hv0 (v := []) (by rw [List.append_nil]; exact fW)) W
        have e2 := sz_add hz e1 (fun w y1 y2 => ?_)
        · have e3 := sz_uniq e2 hz2 (fun w => ⟨fun y => ?_, fun y => ?_⟩)
          · omega
          · rcases y with y | ⟨s, e, y1, y2⟩
            · exact ⟨y.1, Or.inl y.2⟩
            · cases s with
              | nil => exact absurd rfl y2
              | cons b s =>
                have hp : W ++ [b] <+: w := by
                  rw [e]
                  exact ⟨s, by rw [List.append_assoc]; rfl⟩
                have hb := fac_let C.1 y1 (a := b) (by simp)
                refine ⟨⟨?_, by rw [e]; exact y1⟩, Or.inr ⟨b, by omega, hp⟩⟩
                rw [e]
                simp
          · rcases y.2 with t | ⟨b, t1, t2⟩
            · exact Or.inl ⟨y.1, t⟩
            · obtain ⟨s, e⟩ := t2
              refine Or.inr ⟨b :: s, by rw [← e, List.append_assoc]; rfl, ?_, by simp⟩
              have := y.1.2
              rw [← e, List.append_assoc] at this
              exact this
        · obtain ⟨s, e, y3, y4⟩ := y2
          refine y1.2 (lx_pre2 (by rw [e]; exact List.prefix_append _ _) (fun t => ?_))
          rw [e] at t
          exact y4 (List.self_eq_append_right.mp t)
      | succ z ih2 =>
        intro a left ha hz2 h0 hl
        have hst := sv_step J2 hs (a := (a : Int)) (by omega)
        have hv := hV _ _ hst
        have hb := sv_V1n C.1 hv
        rw [eaot]
        apply q_X2_spellPart_29
        refine ⟨fun q => absurd q (by omega), fun _ => ⟨fun q => ?_, fun q => ?_⟩⟩
        · have fWa : fac tx (W ++ [(a : Int)]) := by
            by_cases f : fac tx (W ++ [(a : Int)])
            · exact f
            · have := sz_uniq hv (sv_V1a _ f) (fun _ => Iff.rfl)
              omega
          refine sp_padd C ⟨by omega, by omega⟩ (by omega) (fun D3 r3 C3 => ?_)
          apply mm_pVi
          apply sp_step
          apply mm_pIi
          rw [sd_step_row (r3 18 (by decide) (by decide))]
          refine ⟨by constructor <;> omega, by constructor <;> omega, ?_⟩
          rw [show (W.length : Int) + 1 = ((W ++ [(a : Int)]).length : Int) by rw [List.length_append, List.length_singleton]; rfl]
          refine ih D3 (W ++ [(a : Int)]) _ _ _ _ (by omega) (by omega) (by omega) (fun r h1 h2 => by rw [r3 r h1 h2]; exact hr r h1 h2) C3 hst (((sv_stF hst).trans (tM_F T)).mpr fWa) ?_ (fun _ => by simp) (fun E hEE _ => ?_)
          · have e1 := sz_1 hz2 (v := W ++ [(a : Int)]) (fun y => lx_irr _ (lx_snoc.mpr y.2))
            rw [show num - left + 1 = num - (left + -1) by omega] at e1
            refine sz_c e1 (fun w => ⟨fun y => ?_, fun y => ?_⟩)
            · rcases y with y | y
              · rw [y]
                exact ⟨⟨by simp, fWa⟩, lx_irr _⟩
              · exact ⟨y.1, lx_asy (lx_snoc.mpr y.2)⟩
            · rcases lx_tri w (W ++ [(a : Int)]) with t | t | t
              · exact Or.inr ⟨y.1, lx_snoc.mp t⟩
              · exact Or.inl t
              · exact absurd t y.2
          · have := sz_uniq hEE hv (fun _ => Iff.rfl)
            omega
        · refine ⟨by constructor <;> omega, by constructor <;> omega, ?_⟩
          apply sp_step
          apply mm_pIi
          apply sp_aheadOf
          apply mm_pIi
          refine ih2 (a + 1) _ (by omega) ?_ (by omega) (by omega)
          have e1 := sz_add hz2 (sz_app hv (W ++ [(a : Int)])) (fun w h1 h2 => ?_)
          · rw [show num - (left - sd_aot D (sd_step D2 v3 (a : Int))) = num - left + sd_aot D (sd_step D2 v3 (a : Int)) by omega]
            refine sz_c e1 (fun w => ⟨fun y => ?_, fun y => ?_⟩)
            · rcases y with y | ⟨s, e, y⟩
              · refine ⟨y.1, y.2.imp id (fun t => ?_)⟩
                obtain ⟨b', t1, t2⟩ := t
                exact ⟨b', by omega, t2⟩
              · rw [e]
                exact ⟨⟨by simp, y⟩, Or.inr ⟨a, by omega, List.prefix_append _ _⟩⟩
            · rcases y.2 with t | ⟨b', t1, t2⟩
              · exact Or.inl ⟨y.1, Or.inl t⟩
              · by_cases e : b' = (a : Int)
                · obtain ⟨s, e2⟩ := t2
                  rw [e] at e2
                  refine Or.inr ⟨s, e2.symm, ?_⟩
                  rw [e2]
                  exact y.1.2
                · exact Or.inl ⟨y.1, Or.inr ⟨b', by omega, t2⟩⟩
          · obtain ⟨s, e, _⟩ := h2
            have hp : W ++ [(a : Int)] <+: w := by rw [e]; exact List.prefix_append _ _
            rcases h1.2 with h1 | ⟨b', h1, h3⟩
            · refine h1 (lx_pre2 ((List.prefix_append W _).trans hp) (fun y => ?_))
              have := hp.length_le
              rw [← y, List.length_append, List.length_singleton] at this
              omega
            · have := (List.prefix_of_prefix_length_le h3 hp (by simp)).eq_of_length (by simp)
              have := List.append_cancel_left this
              have := (List.cons.inj this).1
              omega
    apply sp_step
    apply mm_pIi
    apply sp_aheadOf
    apply mm_pIi
    refine inn 26 0 v4 (by omega) (sz_c hz (fun w => ⟨fun y => ⟨y.1, Or.inl y.2⟩, fun y => ⟨y.1, ?_⟩⟩)) (by omega) (Int.le_refl _)
    rcases y.2 with t | ⟨b', t1, t2⟩
    · exact t
    · have := fac_let C.1 y.1.2 (a := b') (t2.subset (by simp))
      omega
theorem cs_toPart {i : Int} (C : sv_C D tx k P) (H1 : ∀ m, sz (sv_S tx) m → 0 ≤ i → i < m → ∀ D' W, sv_F D D' → sv_C D' tx k W → sv_S tx W → sz (fun w => sv_S tx w ∧ lx w W) i → Q (.inl (some (mm_I (W.length : Int)))) (mm_mk D' u x)) (H2 : ∀ m, sz (sv_S tx) m → ¬ (0 ≤ i ∧ i < m) → Q (.inr 0) (mm_mk D u (sv_thr x))) : mt 66 0 [some (mm_P 0), some (mm_I i)] [] (mm_mk D u x) Q := by
  have w10 : mm_isW 10 := by unfold mm_isW; omega
  apply q_X4_toPart_0
  refine sp_parts C (fun m hm hz => ?_)
  apply mm_pIi
  apply sp_within
  apply mm_pIi
  have hz1 : sz (sv_S tx) m := hz
  by_cases q : 0 ≤ i ∧ i < m
  · rw [sd_b1 q]
    refine ⟨fun _ => ?_, fun e => absurd (by decide) e⟩
    obtain ⟨n, rep, J, O, T, N, W⟩ := C.2.2.2.2
    refine sp_countWords C J O T (fun D1 r1 h12 inv => ?_)
    apply mm_pVi
    have C1 : sv_C D1 tx k P := sv_C_row (fun r _ h1 h2 => r1 r h1 h2) C
    have J1 : au_J D1 n (-1) rep [] (en_of tx) := au_J_row (fun r h => r1 r (by omega) (by omega)) J
    have hV : ∀ w v, sv_st n rep w v → sv_V1 tx w (sd_aot D1 v) := fun w v h => sv_ahF J O T h12 sv_V1a (sv_V1b T) inv h
    apply q_X2_spellPart_0
    refine sp_pempty C1 (fun D2 r2 C2 => ?_)
    apply mm_pVi
    have J2 : au_J D2 n (-1) rep [] (en_of tx) := au_J_row (fun r h => r2 r (by omega)) J1
    have hV2 : ∀ w v, sv_st n rep w v → sv_V1 tx w (sd_aot D2 v) := fun w v h => by
      have : sd_aot D2 v = sd_aot D1 v := by unfold sd_aot; rw [r2 23 (by decide), r2 12 (by decide)]
      rw [this]
      exact hV w v h
    refine sp_spell11 (num := i) J2 T hV2 (fun D3 W r3 C3 h1 h2 => ?_) (i + 1).toNat D2 [] 0 i _ _ (by omega) (by omega) (by omega) (fun _ _ _ => rfl) C2 (sv_root J2) (by decide) ?_ (fun e => by omega) (fun E hE _ => ?_)
    · apply mm_pVi
      apply sp_size w10
      apply mm_pIi
      rw [C3.2.2.2.1.1]
      exact H1 m hz1 q.1 q.2 D3 W (fun r h => by rw [r3 r (by omega) (by omega), r2 r (by omega), r1 r (by omega) (by omega)]) C3 h1 h2
    · rw [Int.sub_self]
      exact sz_0 (fun w y => y.2 (lx_pre2 List.nil_prefix (fun e => y.1.1 e.symm)))
    · have e1 := sz_1 hz1 (v := []) (fun y => y.1 rfl)
      have := sz_uniq hE e1 (fun w => ⟨fun y => ?_, fun y => ?_⟩)
      · omega
      · rw [List.nil_append] at y
        by_cases e : w = []
        · exact Or.inl e
        · exact Or.inr ⟨e, y⟩
      · rw [List.nil_append]
        rcases y with y | y
        · rw [y]
          exact fac_nil tx
        · exact y.2
  · rw [sd_b0 q]
    exact ⟨fun e => absurd rfl e, fun _ => H2 m hz1 q⟩
end SI
