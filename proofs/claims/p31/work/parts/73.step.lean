/-! the law: copies, step -/
section LT
variable {D : mm_D} {u : Int} {x : mm_Xt} {Q : mm_O → mm_H → Prop} {tx : Nat → wd} {k : Int} {P : wd} {K : Int → mm_D → Int → mm_Xt → Prop} {KX : Nat → mm_D → Int → mm_Xt → Prop}
theorem rk_lt {W : wd} {r m : Int} (h : sz (fun w => sv_S tx w ∧ lx w W) r) (hm : sz (sv_S tx) m) (hW : sv_S tx W) : r < m := by
  have h1 := sz_1 h (v := W) (fun q => lx_irr W q.2)
  have := sz_le h1 hm (fun w q => by
    rcases q with q | q
    · rw [q]; exact hW
    · exact q.1)
  omega
theorem rk_0 {r : Int} (h : sz (fun w => sv_S tx w ∧ lx w []) r) : r = 0 := sz_uniq h (sz_0 (S := fun w => sv_S tx w ∧ lx w []) (fun w q => lx_pre (List.nil_prefix (l := w)) q.2)) (fun _ => Iff.rfl)
theorem lw_copies {t f : Nat} {v : Int} (C : sv_C D tx k P) (ht : (t : Int) < k) (hf : f ≤ (tx t).length) (hv : 0 ≤ v) (H : ∀ D' P', sv_C D' tx k P' → K 1 D' u x) : mt 78 0 [some (mm_P 0), some (mm_I (t : Int)), some (mm_I (f : Int)), some (mm_I v), none, none, none] [] (mm_mk D u x) (mm_pIx K KX) := by
  have hl := sv_len (T := C.1) t
  apply q_L_copies_0
  refine l_len C ht ?_
  have e0 : 0 ≤ v % (((tx t).length : Int) - (f : Int) + 1) := Int.emod_nonneg _ (by omega)
  have e1 : v % (((tx t).length : Int) - (f : Int) + 1) < ((tx t).length : Int) - (f : Int) + 1 := Int.emod_lt_of_pos _ (by omega)
  generalize v % (((tx t).length : Int) - (f : Int) + 1) = m9 at e0 e1 ⊢
  obtain ⟨m, rfl⟩ := Int.eq_ofNat_of_zero_le e0
  refine ⟨by constructor <;> omega, by constructor <;> omega, ⟨hv, by omega⟩, by constructor <;> omega, ?_⟩
  refine cs_copy (t := (t : Int)) (f := (f : Int)) (m := (m : Int)) (by constructor <;> omega) C (fun _ _ _ _ _ D' _ C' => ?_) (fun h => absurd ⟨by omega, ht⟩ h) (fun _ _ h => absurd ⟨by omega, by omega, show (m : Int) ≤ ((tx t).length : Int) - (f : Int) by omega⟩ h)
  apply mm_pVxi
  obtain ⟨W, hW⟩ : ∃ W, W = ((tx t).drop f).take m := ⟨_, rfl⟩
  have C2 : sv_C D' tx k W := by rw [hW]; exact C'
  have hWl : W.length = m := by
    rw [hW, List.length_take, List.length_drop]
    omega
  have hWg : ∀ j, j < m → wg W j = wg (tx t) (f + j) := fun j hj => by rw [hW, wg_take hj, wg_drop]
  apply l_plen C2
  rw [hWl]
  refine ⟨fun q => absurd rfl q, fun _ => ?_⟩
  apply q_L_copies_23
  have lp : ∀ z i : Nat, i + z = m → mt 78 25 [some (mm_P 0), some (mm_I (t : Int)), some (mm_I (f : Int)), some (mm_I v), some (mm_I (m : Int)), some (mm_I 1), some (mm_I (i : Int))] [] (mm_mk D' u x) (mm_pIx K KX) := by
    intro z
    induction z with
    | zero =>
      intro i hi
      apply q_L_copies_25
      refine ⟨fun _ => ⟨fun q => absurd q (by decide), fun _ => ⟨fun q => ?_, fun q => ?_⟩⟩, fun q => absurd (by omega) q⟩
      · have h0 : W ≠ [] := fun e => by rw [e] at hWl; exact q (by rw [← hWl]; rfl)
        have hst : stn (tx t) W f := ⟨h0, by rw [hW]; exact List.take_prefix _ _⟩
        have hlt := stn_len hst
        have hp := List.length_pos_iff.mpr h0
        have hfac : fac tx W := (fac_st h0).mpr ⟨t, f, hst⟩
        apply l_isPart C2
        rw [cI_1 ⟨h0, hfac⟩]
        refine ⟨fun q => absurd q (by decide), fun _ => ?_⟩
        apply l_first C2 ht
        have ef : sv_bg W (en_of tx 16 W (t : Int)) = fN (stn (tx t) W) (tx t).length := (fN_starts (tx t) W).symm
        have el : sv_bg W (en_of tx 17 W (t : Int)) = laN (stn (tx t) W) (tx t).length := (laN_starts (tx t) W).symm
        rw [ef]
        refine ⟨fun q => ?_, fun _ => ?_⟩
        · exfalso
          rcases fN_sp (stn (tx t) W) (tx t).length with ⟨a, b⟩ | ⟨e, a, b, c, d⟩
          · exact b f (by omega) hst
          · exact d f (by omega) hst
        apply l_last C2 ht
        rw [el]
        refine ⟨fun q => ?_, fun _ => ?_⟩
        · exfalso
          rcases laN_sp (stn (tx t) W) (tx t).length with ⟨a, b⟩ | ⟨e, a, b, c, d⟩
          · exact b f (by omega) hst
          · exact d f (by omega) (by omega) hst
        apply l_occIn C2 ht
        refine ⟨fun q => ?_, fun _ => ?_⟩
        · exfalso
          have h1 := (en_b tx W (t : Int)).1
          have h2 : en_of tx 15 W (t : Int) ≠ 0 := en_ne0.mpr ⟨f, hst⟩
          omega
        refine l_rank C2 (fun r D3 C3 hr => ?_)
        refine l_parts C3 (fun mm hm => ?_)
        have := rk_lt hr hm ⟨h0, hfac⟩
        refine ⟨fun q => absurd q (by omega), fun _ => ?_⟩
        apply q_L_copies_80
        exact mm_pIxi (H _ _ C3)
      · have hm0 : m = 0 := by omega
        have h0 : W = [] := List.length_eq_zero_iff.mp (hWl.trans hm0)
        apply l_isPart C2
        rw [cI_0 (fun q => q.1 h0)]
        refine ⟨fun q => absurd rfl q, fun _ => ?_⟩
        refine l_rank C2 (fun r D3 C3 hr => ?_)
        rw [h0] at hr
        refine ⟨fun q => absurd (rk_0 hr) q, fun _ => ?_⟩
        apply q_L_copies_80
        exact mm_pIxi (H _ _ C3)
    | succ z ih =>
      intro i hi
      apply q_L_copies_25
      refine ⟨fun q => absurd q (by omega), fun _ => ⟨fun q => absurd q (by decide), fun _ => ?_⟩⟩
      refine l_pat C2 (by omega) ⟨by constructor <;> omega, ?_⟩
      refine l_let (i := f + i) C2 ht (by omega) ⟨fun q => absurd (hWg i (by omega)) q, fun _ => ?_⟩
      apply q_L_copies_44
      exact ⟨by constructor <;> omega, ih (i + 1) (by omega)⟩
  exact lp m 0 (by omega)
theorem lw_step {w9 a b : Int} (C : sv_C D tx k P) (hw : 0 ≤ w9) (ha : 0 ≤ a) (hb : 0 ≤ b ∧ b < 2147483648) (H : ∀ D' tx' k' P', sv_C D' tx' k' P' → 1 ≤ k' → K 1 D' u x) : mt 77 0 [some (mm_P 0), some (mm_I w9), some (mm_I a), some (mm_I b), none, none, none, none] [] (mm_mk D u x) (mm_pIx K KX) := by
  have k4 := C.1.1
  have hP := C.1.2.2.1
  have hlen : ∀ t, (tx t).length ≤ 100 := fun t => sv_len (T := C.1) t
  obtain ⟨kn, rfl⟩ := Int.eq_ofNat_of_zero_le k4.1
  have s12 : (kn : Int) < 4 → mt 77 12 [some (mm_P 0), some (mm_I w9), some (mm_I a), some (mm_I b), some (mm_I (kn : Int)), none, none, none] [] (mm_mk D u x) (mm_pIx K KX) := by
    intro hk
    apply q_L_step_12
    refine l_begin C hk (fun D1 C1 => ?_)
    refine ⟨fun q => absurd rfl q, fun _ => ?_⟩
    apply l_texts C1
    refine ⟨by constructor <;> omega, fun q => absurd rfl q, fun _ => ?_⟩
    refine l_len (t := kn) C1 (by omega) ?_
    rw [C.1.2.2.2.2.2 kn (Int.le_refl _)]
    exact ⟨fun q => absurd rfl q, fun _ => mm_pIxi (H _ _ _ _ C1 (by omega))⟩
  have s30 : 1 ≤ kn → mt 77 30 [some (mm_P 0), some (mm_I w9), some (mm_I a), some (mm_I b), some (mm_I (kn : Int)), none, none, none] [] (mm_mk D u x) (mm_pIx K KX) := by
    intro hk
    have hk1 : (1 : Int) ≤ (kn : Int) := by omega
    apply q_L_step_30
    have e0 : 0 ≤ a % (kn : Int) := Int.emod_nonneg _ (by omega)
    have e1 : a % (kn : Int) < (kn : Int) := Int.emod_lt_of_pos _ (by omega)
    generalize a % (kn : Int) = t9 at e0 e1 ⊢
    obtain ⟨t, rfl⟩ := Int.eq_ofNat_of_zero_le e0
    have s140 : ∀ v6 : Int, mt 77 140 [some (mm_P 0), some (mm_I w9), some (mm_I a), some (mm_I b), some (mm_I (kn : Int)), some (mm_I (t : Int)), some (mm_I v6), none] [] (mm_mk D u x) (mm_pIx K KX) := by
      intro v6
      apply q_L_step_140
      refine l_len C e1 ⟨fun q => ?_, fun q => ?_⟩
      · refine l_len C e1 ?_
        have f0 : 0 ≤ b % ((tx t).length : Int) := Int.emod_nonneg _ q
        have f1 : b % ((tx t).length : Int) < ((tx t).length : Int) := Int.emod_lt_of_pos _ (by omega)
        generalize b % ((tx t).length : Int) = f9 at f0 f1 ⊢
        obtain ⟨f, rfl⟩ := Int.eq_ofNat_of_zero_le f0
        have := hlen t
        refine ⟨⟨hb.1, by omega⟩, by constructor <;> omega, ⟨hb.1, by decide⟩, by constructor <;> omega, ?_⟩
        exact lw_copies (f := f) C e1 (by omega) (by omega) (fun D' P' C' => ⟨Or.inr rfl, mm_pIxi (H _ _ _ _ C' hk1)⟩)
      · refine ⟨⟨hb.1, by decide⟩, by constructor <;> omega, ?_⟩
        exact lw_copies (f := 0) C e1 (Nat.zero_le _) (by omega) (fun D' P' C' => ⟨Or.inr rfl, mm_pIxi (H _ _ _ _ C' hk1)⟩)
    have s113 : mt 77 113 [some (mm_P 0), some (mm_I w9), some (mm_I a), some (mm_I b), some (mm_I (kn : Int)), some (mm_I (t : Int)), some (mm_I (P.length : Int)), none] [] (mm_mk D u x) (mm_pIx K KX) := by
      apply q_L_step_113
      refine ⟨⟨hw, by decide⟩, by constructor <;> omega, fun _ => s140 _, fun _ => ⟨fun _ => s140 _, fun q => ?_⟩⟩
      have h0 : P ≠ [] := fun e => by rw [e] at q; exact q (by decide)
      have eP : (P.length : Int) - 1 = ((P.length - 1 : Nat) : Int) := by omega
      rw [eP]
      refine ⟨by constructor <;> omega, ?_⟩
      refine l_pat C (by omega) ?_
      refine l_erase C h0 (fun D' C' => ?_)
      refine ⟨fun q => absurd rfl q, fun _ => ?_⟩
      apply l_plen C'
      refine ⟨by constructor <;> omega, fun q => absurd ?_ q, fun _ => mm_pIxi (H _ _ _ _ C' hk1)⟩
      rw [List.length_take]
      omega
    have s82 : mt 77 82 [some (mm_P 0), some (mm_I w9), some (mm_I a), some (mm_I b), some (mm_I (kn : Int)), some (mm_I (t : Int)), none, none] [] (mm_mk D u x) (mm_pIx K KX) := by
      apply q_L_step_82
      apply l_plen C
      refine ⟨⟨hw, by decide⟩, by constructor <;> omega, fun _ => s113, fun _ => ⟨fun _ => s113, fun q => ?_⟩⟩
      have c0 : 0 ≤ b % 4 := by omega
      have c1 : b % 4 < 26 := by omega
      refine ⟨⟨hb.1, by decide⟩, by constructor <;> omega, ?_⟩
      refine l_type C ⟨c0, c1⟩ (by omega) (fun D' C' => ?_)
      refine ⟨by constructor <;> omega, fun q => absurd rfl q, fun _ => ?_⟩
      refine l_pat (i := P.length) C' (by rw [List.length_append, List.length_singleton]; omega) ?_
      exact ⟨⟨hb.1, by decide⟩, by constructor <;> omega, fun q => absurd (wg_r P (b % 4)) q, fun _ => mm_pIxi (H _ _ _ _ C' hk1)⟩
    refine ⟨⟨ha, by omega⟩, by constructor <;> omega, ⟨hw, by decide⟩, by constructor <;> omega, fun _ => s82, fun _ => ?_⟩
    apply lw_letters C
    refine ⟨fun _ => s82, fun qt => ?_⟩
    refine l_len C e1 ?_
    have hl := hlen t
    refine ⟨⟨hb.1, by decide⟩, by constructor <;> omega, fun _ => ⟨⟨hb.1, by decide⟩, by constructor <;> omega, ?_⟩, fun _ => ⟨⟨hb.1, by decide⟩, by constructor <;> omega, ?_⟩⟩
    · have c0 : 0 ≤ b % 3 := by omega
      have c1 : b % 3 < 26 := by omega
      generalize b % 3 = c at c0 c1 ⊢
      refine cs_append (t := (t : Int)) (a := c) C (fun _ _ _ _ _ D' _ C' => ?_) (fun h => absurd ⟨by omega, e1⟩ h) (fun _ _ h => absurd ⟨c0, c1⟩ h) (fun _ _ _ _ h => absurd (by omega) h)
      apply mm_pIxi
      have C2 : sv_C D' (txa tx t c) (kn : Int) P := C'
      have e2 : txa tx t c t = tx t ++ [c] := txa_t tx t c
      have l2 : (txa tx t c t).length = (tx t).length + 1 := by rw [e2, List.length_append, List.length_singleton]
      refine ⟨by constructor <;> omega, fun q => absurd rfl q, fun _ => ?_⟩
      refine l_len (t := t) C2 e1 ⟨by constructor <;> omega, fun q => absurd (by omega) q, fun _ => ?_⟩
      refine l_let (t := t) (i := (tx t).length) C2 e1 (by omega) ?_
      have g : wg (txa tx t c t) (tx t).length = c := by rw [e2, wg_r]
      exact ⟨fun q => absurd g q, fun _ => mm_pIxi (H _ _ _ _ C2 hk1)⟩
    · have c0 : 0 ≤ b % 26 := by omega
      have c1 : b % 26 < 26 := by omega
      generalize b % 26 = c at c0 c1 ⊢
      refine cs_append (t := (t : Int)) (a := c) C (fun _ _ _ _ _ D' _ C' => ?_) (fun h => absurd ⟨by omega, e1⟩ h) (fun _ _ h => absurd ⟨c0, c1⟩ h) (fun _ _ _ _ h => absurd (by omega) h)
      apply mm_pIxi
      have C2 : sv_C D' (txa tx t c) (kn : Int) P := C'
      have e2 : txa tx t c t = tx t ++ [c] := txa_t tx t c
      have l2 : (txa tx t c t).length = (tx t).length + 1 := by rw [e2, List.length_append, List.length_singleton]
      refine ⟨by constructor <;> omega, fun q => absurd rfl q, fun _ => ?_⟩
      refine l_len (t := t) C2 e1 ⟨by constructor <;> omega, fun q => absurd (by omega) q, fun _ => ?_⟩
      refine l_let (t := t) (i := (tx t).length) C2 e1 (by omega) ?_
      have g : wg (txa tx t c t) (tx t).length = c := by rw [e2, wg_r]
      exact ⟨fun q => absurd g q, fun _ => mm_pIxi (H _ _ _ _ C2 hk1)⟩
  apply q_L_step_0
  apply l_texts C
  refine ⟨fun q => s12 (by omega), fun q => ⟨⟨hw, by decide⟩, by constructor <;> omega, fun _ => s30 (by omega), fun _ => ⟨fun _ => s30 (by omega), fun q2 => s12 (by omega)⟩⟩⟩
end LT
