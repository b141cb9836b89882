/-! the law: areParts -/
/-- so many parts come ahead of a word -/
abbrev rkW (tx : Nat → wd) (W : wd) (r : Int) : Prop := sz (fun w => sv_S tx w ∧ lx w W) r
/-- the parts with fewer than i parts ahead -/
def pb (tx : Nat → wd) (i : Int) (w : wd) : Prop := sv_S tx w ∧ ∃ r, r < i ∧ rkW tx w r
theorem sz_sub {S : wd → Prop} {m : Int} (h : sz S m) (p : wd → Prop) : ∃ r, sz (fun w => S w ∧ p w) r := by
  obtain ⟨L, h1, h2, h3⟩ := h
  have : DecidablePred p := fun w => Classical.propDecidable (p w)
  refine ⟨((L.filter (fun w => decide (p w))).length : Int), L.filter (fun w => decide (p w)), h1.filter _, fun w => ?_, rfl⟩
  rw [List.mem_filter, h2, decide_eq_true_iff]
theorem sz_0e {S : wd → Prop} (h : sz S 0) (w : wd) : ¬ S w := fun q => by
  have h1 := sz_del h q
  have := sz_nn h1
  omega
theorem sz_same {S S' : wd → Prop} {m : Int} (h : sz S m) (h' : sz S' m) (e : ∀ w, S w → S' w) (w : wd) (hw : S' w) : S w := by
  by_cases q : S w
  · exact q
  · have h1 := sz_1 h (v := w) q
    have := sz_le h1 h' (fun v z => by
      rcases z with z | z
      · rw [z]; exact hw
      · exact e v z)
    omega
theorem sz_ex : ∀ (L : List wd) {S : wd → Prop}, (∀ w, S w → w ∈ L) → ∃ m, sz S m
  | [], S, h => ⟨0, sz_0 (fun w q => absurd (h w q) List.not_mem_nil)⟩
  | a :: L, S, h => by
    by_cases q : S a
    · obtain ⟨m, hm⟩ := sz_ex L (S := fun w => S w ∧ w ≠ a) (fun w z => by
        rcases List.mem_cons.mp (h w z.1) with e | e
        · exact absurd e z.2
        · exact e)
      refine ⟨m + 1, sz_c (sz_1 hm (v := a) (fun z => z.2 rfl)) (fun w => ⟨fun z => ?_, fun z => ?_⟩)⟩
      · rcases z with z | z
        · rw [z]; exact q
        · exact z.1
      · by_cases e : w = a
        · exact Or.inl e
        · exact Or.inr ⟨z, e⟩
    · exact sz_ex L (S := S) (fun w z => by
        rcases List.mem_cons.mp (h w z) with e | e
        · rw [e] at z; exact absurd z q
        · exact e)
theorem sv_ex {tx : Nat → wd} {k : Int} {P : wd} (T : sv_T tx k P) : ∃ m, sz (sv_S tx) m := by
  refine sz_ex ((List.range 40804).map (fun c => ((tx (c / 10201)).take (c % 10201 / 101)).drop (c % 101))) (fun w hw => ?_)
  rw [List.mem_map]
  obtain ⟨j, e, e1, e2⟩ := fac_ix hw.2 hw.1
  have l1 := sv_len (T := T) j
  have hj : j < 4 := by
    by_cases q : j < 4
    · exact q
    · rw [T.2.2.2.2.2 j (by have := T.1; omega)] at e1
      simp at e1
  have l2 : ((tx j).take (e + 1)).length = e + 1 := by
    rw [List.length_take]
    omega
  have l3 := List.length_pos_iff.mpr hw.1
  have l4 := e2.length_le
  refine ⟨j * 10201 + (e + 1) * 101 + (e + 1 - w.length), List.mem_range.mpr (by omega), ?_⟩
  obtain ⟨g1, g2, g3⟩ := sv_dig (j := j) (e := e + 1) (i := e + 1 - w.length) (by omega) (by omega)
  rw [g1, g2, g3]
  rw [List.suffix_iff_eq_drop, l2] at e2
  exact e2.symm
section LPA
variable {D : mm_D} {u : Int} {x : mm_Xt} {Q : mm_O → mm_H → Prop} {tx : Nat → wd} {k : Int} {P : wd} {K : Int → mm_D → Int → mm_Xt → Prop} {KX : Nat → mm_D → Int → mm_Xt → Prop}
theorem pb_0 (w : wd) : ¬ pb tx 0 w := fun ⟨_, r, h1, h2⟩ => by
  have := sz_nn h2
  omega
theorem pb_s {i : Int} {W : wd} (hW : sv_S tx W) (hr : rkW tx W i) (w : wd) : pb tx (i + 1) w ↔ w = W ∨ pb tx i w := by
  constructor
  · rintro ⟨h, r, h1, h2⟩
    by_cases e : r = i
    · rw [e] at h2
      exact Or.inl (sz_rank h hW h2 hr)
    · exact Or.inr ⟨h, r, by omega, h2⟩
  · rintro (h | ⟨h, r, h1, h2⟩)
    · rw [h]
      exact ⟨hW, i, by omega, hr⟩
    · exact ⟨h, r, by omega, h2⟩
theorem pb_no {i : Int} {W : wd} (hr : rkW tx W i) : ¬ pb tx i W := fun ⟨_, r, h1, h2⟩ => by
  have := sz_uniq h2 hr (fun _ => Iff.rfl)
  omega
theorem pb_all {m : Int} (hm : sz (sv_S tx) m) (w : wd) : pb tx m w ↔ sv_S tx w := by
  refine ⟨fun h => h.1, fun h => ?_⟩
  obtain ⟨r, hr⟩ := sz_sub hm (fun v => lx v w)
  exact ⟨h, r, rk_lt hr hm h, hr⟩
/-- a part is at most one letter longer than the one ahead of it -/
theorem rk_had {W : wd} {i v : Int} (hW : sv_S tx W) (hr : rkW tx W i) (hv : (i = 0 ∧ v = 0) ∨ ∃ W', sv_S tx W' ∧ rkW tx W' (i - 1) ∧ (W'.length : Int) = v) (h0 : 0 ≤ v) : (W.length : Int) ≤ v + 1 := by
  by_cases q : W.length ≤ 1
  · omega
  obtain ⟨V, a, hVa⟩ : ∃ V a, W = V ++ [a] := ⟨W.dropLast, W.getLast hW.1, (List.dropLast_concat_getLast hW.1).symm⟩
  have hl : W.length = V.length + 1 := by rw [hVa, List.length_append, List.length_singleton]
  have hV0 : V ≠ [] := fun e => by rw [e] at hl; simp at hl; omega
  have hVS : sv_S tx V := ⟨hV0, fac_pre (a := a) (by rw [← hVa]; exact hW.2)⟩
  have hlx : lx V W := lx_pre2 (by rw [hVa]; exact List.prefix_append _ _) (fun e => by rw [e] at hl; omega)
  rcases hv with ⟨h1, h2⟩ | ⟨W', g1, g2, g3⟩
  · rw [h1] at hr
    exact absurd ⟨hVS, hlx⟩ (sz_0e hr V)
  · have hWW : lx W' W := by
      rcases lx_tri W' W with h | h | h
      · exact h
      · rw [h] at g2
        have := sz_uniq g2 hr (fun _ => Iff.rfl)
        omega
      · have := sz_le hr g2 (fun w z => ⟨z.1, lx_tr z.2 h⟩)
        omega
    have g4 := sz_1 g2 (v := W') (fun z => lx_irr W' z.2)
    rw [show i - 1 + 1 = i by omega] at g4
    have g5 := sz_same g4 hr (fun w z => by
      rcases z with z | z
      · rw [z]; exact ⟨g1, hWW⟩
      · exact ⟨z.1, lx_tr z.2 hWW⟩) V ⟨hVS, hlx⟩
    rcases g5 with g5 | g5
    · rw [← g3, ← g5]
      omega
    · rw [hVa] at hWW
      rcases lx_snoc.mp hWW with z | ⟨b, _, z⟩
      · exact absurd g5.2 z
      · have := z.length_le
        rw [List.length_append, List.length_singleton] at this
        omega
theorem gd_1 (T : sv_T tx k P) {w : wd} (h : sv_S tx w) : sv_gd tx 0 1 w := by
  refine Or.inr ⟨h.2, fun t _ hb => ?_, ?_⟩
  · simp at hb
  · have := (en_all_pos T (w := w)).mpr h
    show 1 ≤ en_all tx w
    omega
theorem lw_parts (C : sv_C D tx k P) (H : ∀ D' P', sv_C D' tx k P' → K 1 D' u x) : mt 81 0 [some (mm_P 0), none, none, none, none, none, none] [] (mm_mk D u x) (mm_pIx K KX) := by
  have k4 := C.1.1
  have t100 := C.1.2.1
  have tot0 := sv_tot_0 tx
  obtain ⟨m, hm⟩ : ∃ m, sz (sv_S tx) m := sv_ex C.1
  have hm2 : 0 ≤ m ∧ m ≤ 40804 := ⟨sz_nn hm, sv_fin C.1 hm (fun w q => q.2)⟩
  have s90 : ∀ (D : mm_D) (P : wd) (v1 v2 v4 v5 : Int) (o6 : Option mm_V), sv_C D tx k P → (∀ w, sv_S tx w → (w.length : Int) ≤ v2) → (v2 = 0 ∨ ∃ w, sv_S tx w ∧ (w.length : Int) = v2) → mt 81 90 [some (mm_P 0), some (mm_I v1), some (mm_I v2), some (mm_I 1), some (mm_I v4), some (mm_I v5), o6] [] (mm_mk D u x) (mm_pIx K KX) := by
    intro D P v1 v2 v4 v5 o6 C h1 h2
    apply q_L_areParts_90
    refine ⟨fun q => absurd q (by decide), fun _ => ?_⟩
    refine l_repeated C (by decide) (fun D' W C' hf => ?_)
    obtain ⟨f1, f2, f3⟩ := hf
    have e : (W.length : Int) = v2 := by
      have a1 : (W.length : Int) ≤ v2 ∨ W = [] := by
        by_cases q : W = []
        · exact Or.inr q
        · rcases f1 with f1 | f1
          · exact absurd f1 q
          · exact Or.inl (h1 W ⟨q, f1.1⟩)
      rcases h2 with h2 | ⟨w, w1, w2⟩
      · rcases a1 with a1 | a1
        · omega
        · rw [a1, h2]
          rfl
      · have a2 := f2 w (gd_1 C'.1 w1)
        rcases a1 with a1 | a1
        · omega
        · rw [a1] at a2
          have := List.length_pos_iff.mpr w1.1
          simp at a2
          exact absurd a2 w1.1
    refine ⟨fun q => absurd e q, fun _ => ?_⟩
    apply l_plen C'
    exact ⟨fun q => absurd e q, fun _ => mm_pIxi (H _ _ C')⟩
  have lp : ∀ (z : Nat) (i : Int) (D : mm_D) (P : wd) (v1 v2 v4 : Int) (o6 : Option mm_V), i + (z : Int) = m → 0 ≤ i → sv_C D tx k P → sz (fun w => pb tx i w ∧ lmx tx w) v1 → (∀ w, pb tx i w → (w.length : Int) ≤ v2) → (v2 = 0 ∨ ∃ w, pb tx i w ∧ (w.length : Int) = v2) → 0 ≤ v4 ∧ v4 ≤ 100 → ((i = 0 ∧ v4 = 0) ∨ ∃ W', sv_S tx W' ∧ rkW tx W' (i - 1) ∧ (W'.length : Int) = v4) →
      mt 81 10 [some (mm_P 0), some (mm_I v1), some (mm_I v2), some (mm_I 1), some (mm_I v4), some (mm_I i), o6] [] (mm_mk D u x) (mm_pIx K KX) := by
    intro z
    induction z with
    | zero =>
      intro i D P v1 v2 v4 o6 hi i0 C h1 h2 h3 h4 h5
      have ei : i = m := by omega
      subst ei
      apply q_L_areParts_10
      refine l_parts C (fun m' hm' => ?_)
      rw [sz_uniq hm' hm (fun _ => Iff.rfl)]
      refine ⟨fun _ => ?_, fun q => absurd (Int.le_refl _) q⟩
      apply q_L_areParts_73
      refine ⟨fun q => absurd q (by decide), fun _ => ?_⟩
      refine l_classes C (fun c hc _ => ?_)
      refine ⟨fun q => absurd (sz_uniq hc h1 (fun w => by rw [pb_all hm])) q, fun _ => ?_⟩
      refine l_classes C (fun c2 _ hc2 => ?_)
      apply lw_letters C
      refine ⟨by constructor <;> omega, fun q => absurd q (by omega), fun _ => ?_⟩
      refine s90 _ _ _ _ _ _ _ C (fun w hw => h2 w ((pb_all hm w).mpr hw)) ?_
      rcases h3 with h3 | ⟨w, w1, w2⟩
      · exact Or.inl h3
      · exact Or.inr ⟨w, w1.1, w2⟩
    | succ z ih =>
      intro i D P v1 v2 v4 o6 hi i0 C h1 h2 h3 h4 h5
      apply q_L_areParts_10
      refine l_parts C (fun m' hm' => ?_)
      rw [sz_uniq hm' hm (fun _ => Iff.rfl)]
      refine ⟨fun q => absurd q (by omega), fun _ => ⟨fun q => absurd q (by decide), fun _ => ?_⟩⟩
      refine l_toPart C hm ⟨i0, by omega⟩ (fun D1 W C1 hS hr => ?_)
      have hWp := List.length_pos_iff.mpr hS.1
      have hW100 : W.length ≤ 100 := fac_len C1.1 hS.2
      refine ⟨fun q => absurd q (by omega), fun _ => ?_⟩
      apply l_plen C1
      refine ⟨fun q => absurd rfl q, fun _ => ?_⟩
      apply l_isPart C1
      rw [cI_1 (p := W ≠ [] ∧ fac tx W) hS]
      refine ⟨fun q => absurd q (by decide), fun _ => ?_⟩
      refine l_rank C1 (fun r D2 C2 hr2 => ?_)
      refine ⟨fun q => absurd (sz_uniq hr2 hr (fun _ => Iff.rfl)) q, fun _ => ?_⟩
      refine l_follow C2 (fun fz hfz => ⟨fun q => absurd q (by have := hfz.1.1; omega), fun _ => ?_⟩)
      apply q_L_areParts_41
      have hh := rk_had hS hr h5 h4.1
      refine ⟨fun q => absurd q (by decide), fun _ => ⟨by constructor <;> omega, fun q => absurd q (by omega), fun _ => ?_⟩⟩
      apply q_L_areParts_52
      have v1b : 0 ≤ v1 ∧ v1 ≤ 40804 := ⟨sz_nn h1, sv_fin C.1 h1 (fun w q => q.1.1.2)⟩
      have s69 : ∀ (w1 w2 : Int), sz (fun w => pb tx (i + 1) w ∧ lmx tx w) w1 → w2 = (if (W.length : Int) ≤ v2 then v2 else (W.length : Int)) → mt 81 69 [some (mm_P 0), some (mm_I w1), some (mm_I w2), some (mm_I 1), some (mm_I v4), some (mm_I i), some (mm_I (W.length : Int))] [] (mm_mk D2 u x) (mm_pIx K KX) := by
        intro w1 w2 g1 g2
        apply q_L_areParts_69
        refine ⟨by constructor <;> omega, ih (i + 1) D2 W w1 w2 _ _ (by omega) (by omega) C2 g1 (fun w hw => ?_) ?_ ⟨by omega, by omega⟩ (Or.inr ⟨W, hS, by rw [show i + 1 - 1 = i by omega]; exact hr, rfl⟩)⟩
        · rcases (pb_s hS hr w).mp hw with e | e
          · rw [e, g2]
            split <;> omega
          · have := h2 w e
            rw [g2]
            split <;> omega
        · by_cases c : (W.length : Int) ≤ v2
          · rw [if_pos c] at g2
            rcases h3 with h3 | ⟨w, q1, q2⟩
            · omega
            · exact Or.inr ⟨w, (pb_s hS hr w).mpr (Or.inr q1), by omega⟩
          · rw [if_neg c] at g2
            exact Or.inr ⟨W, (pb_s hS hr W).mpr (Or.inl rfl), g2.symm⟩
      refine cs_longest C2 (fun h => absurd hS h) (fun d _ _ hs ho hx => mm_pIi ?_)
      refine ⟨fun q => ⟨by constructor <;> omega, ?_⟩, fun q => ⟨by constructor <;> omega, ?_⟩⟩
      · have nl : ¬ lmx tx W := fun h => q (by rw [← lmx_d C2.1 hS.1 hs ho h])
        have g1 : sz (fun w => pb tx (i + 1) w ∧ lmx tx w) (v1 + 0) := by
          rw [Int.add_zero]
          refine sz_c h1 (fun w => ⟨fun z => ⟨(pb_s hS hr w).mpr (Or.inr z.1), z.2⟩, fun z => ?_⟩)
          rcases (pb_s hS hr w).mp z.1 with e | e
          · exact absurd (e ▸ z.2) nl
          · exact ⟨e, z.2⟩
        exact ⟨fun c => s69 _ _ g1 (by rw [if_pos c]), fun c => s69 _ _ g1 (by rw [if_neg c])⟩
      · have el : W = d := hs.eq_of_length (by omega)
        have yl : lmx tx W := by rw [el]; exact hx
        have g1 : sz (fun w => pb tx (i + 1) w ∧ lmx tx w) (v1 + 1) := by
          refine sz_c (sz_1 h1 (v := W) (fun z => pb_no hr z.1)) (fun w => ⟨fun z => ?_, fun z => ?_⟩)
          · rcases z with z | z
            · rw [z]
              exact ⟨(pb_s hS hr W).mpr (Or.inl rfl), yl⟩
            · exact ⟨(pb_s hS hr w).mpr (Or.inr z.1), z.2⟩
          · rcases (pb_s hS hr w).mp z.1 with e | e
            · exact Or.inl e
            · exact Or.inr ⟨e, z.2⟩
        exact ⟨fun c => s69 _ _ g1 (by rw [if_pos c]), fun c => s69 _ _ g1 (by rw [if_neg c])⟩
  apply q_L_areParts_0
  exact lp m.toNat 0 D P 0 0 0 none (by omega) (Int.le_refl _) C (sz_0 (fun w q => pb_0 w q.1)) (fun w q => absurd q (pb_0 w)) (Or.inl rfl) ⟨by decide, by decide⟩ (Or.inl ⟨rfl, rfl⟩)
end LPA
