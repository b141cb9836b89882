/-! the law: isMissing -/
section LM
variable {D : mm_D} {u : Int} {x : mm_Xt} {Q : mm_O → mm_H → Prop} {tx : Nat → wd} {k : Int} {P : wd} {K : Int → mm_D → Int → mm_Xt → Prop} {KX : Nat → mm_D → Int → mm_Xt → Prop}
theorem lw_missing {a : Int} (C : sv_C D tx k P) (h : 1 ≤ a ∧ a ≤ 26) (H : ∀ D' P', sv_C D' tx k P' → K 1 D' u x) : mt 83 0 [some (mm_P 0), some (mm_I a), none, none, none, none] [] (mm_mk D u x) (mm_pIx K KX) := by
  apply q_L_isMissing_0
  refine l_missing C h (fun D1 W C1 hW => ?_)
  obtain ⟨w1, w2, w3, w4⟩ := hW
  have h0 : W ≠ [] := fun e => w2 (by rw [e]; exact fac_nil tx)
  have hp := List.length_pos_iff.mpr h0
  have hP := C1.1.2.2.1
  apply l_plen C1
  refine ⟨fun q => absurd rfl q, fun _ => ?_⟩
  apply l_isPart C1
  rw [cI_0 (p := W ≠ [] ∧ fac tx W) (fun q => w2 q.2)]
  refine ⟨fun q => absurd rfl q, fun _ => ⟨fun q => absurd q (by omega), fun _ => ?_⟩⟩
  apply q_L_isMissing_18
  obtain ⟨V, c, hVc⟩ : ∃ V c, W = V ++ [c] := ⟨W.dropLast, W.getLast h0, (List.dropLast_concat_getLast h0).symm⟩
  have hl : W.length = V.length + 1 := by rw [hVc, List.length_append, List.length_singleton]
  have hc : 0 ≤ c ∧ c < a := w1 c (by rw [hVc]; simp)
  have hV : ∀ b, b ∈ V → 0 ≤ b ∧ b < a := fun b hb => w1 b (by rw [hVc]; exact List.mem_append_left _ hb)
  have eV : W.take (W.length - 1) = V := by rw [hl, hVc, Nat.add_sub_cancel, List.take_left]
  have eg : wg W (W.length - 1) = c := by rw [hl, hVc, Nat.add_sub_cancel, wg_r]
  have fV : fac tx V := by
    by_cases q : fac tx V
    · exact q
    · have := w3 V hV q
      omega
  have s61 : ∀ (D : mm_D) (P : wd) (v4 v5 : Int), sv_C D tx k P → (v4 = 0 ∨ (P ≠ [] ∧ fac tx P)) → mt 83 61 [some (mm_P 0), some (mm_I a), some (mm_I (W.length : Int)), some (mm_I 1), some (mm_I v4), some (mm_I v5)] [] (mm_mk D u x) (mm_pIx K KX) := by
    intro D P v4 v5 C hv
    apply q_L_isMissing_61
    refine ⟨fun q => absurd q (by decide), fun _ => ⟨fun q => ?_, fun q => ?_⟩⟩
    · apply q_L_isMissing_68
      exact mm_pIxi (H _ _ C)
    · rcases hv with hv | hv
      · exact absurd hv q
      · apply l_isPart C
        rw [cI_1 hv]
        refine ⟨fun q => absurd q (by decide), fun _ => ?_⟩
        apply q_L_isMissing_68
        exact mm_pIxi (H _ _ C)
  have s47 : ∀ D : mm_D, sv_C D tx k V → mt 83 47 [some (mm_P 0), some (mm_I a), some (mm_I (W.length : Int)), some (mm_I 1), some (mm_I c), none] [] (mm_mk D u x) (mm_pIx K KX) := by
    intro D2 C2
    apply q_L_isMissing_47
    apply q_L_isMissing_51
    refine ⟨fun q => s61 _ _ _ _ C2 (Or.inl (by omega)), fun q => ⟨by constructor <;> omega, ?_⟩⟩
    refine l_type C2 (by omega) (by omega) (fun D3 C3 => s61 _ _ _ _ C3 (Or.inr ⟨by simp, ?_⟩))
    by_cases y : fac tx (V ++ [c - 1])
    · exact y
    · have hab : sv_ab a (V ++ [c - 1]) := fun b hb => by
        rcases List.mem_append.mp hb with hb | hb
        · exact hV b hb
        · rw [List.mem_singleton.mp hb]
          omega
      have hlt : lx (V ++ [c - 1]) W := by
        rw [hVc, lx_app]
        exact Or.inl (by omega)
      rcases w4 _ hab y (by rw [List.length_append, List.length_singleton, hl]) with e | e
      · rw [← e] at hlt
        exact absurd hlt (lx_irr _)
      · exact absurd e (lx_asy hlt)
  have lp : ∀ z i : Nat, i + z = W.length → mt 83 20 [some (mm_P 0), some (mm_I a), some (mm_I (W.length : Int)), some (mm_I 1), some (mm_I (i : Int)), none] [] (mm_mk D1 u x) (mm_pIx K KX) := by
    intro z
    induction z with
    | zero =>
      intro i hi
      apply q_L_isMissing_20
      refine ⟨fun _ => ?_, fun q => absurd (by omega) q⟩
      refine l_erase C1 h0 (fun D2 C2 => ?_)
      rw [eV] at C2
      rw [eg]
      refine ⟨fun q => absurd q (by decide), fun _ => ⟨fun _ => s47 D2 C2, fun q => ?_⟩⟩
      apply l_isPart C2
      have hV0 : V ≠ [] := fun e => q (by rw [hl, e]; rfl)
      rw [cI_1 (p := V ≠ [] ∧ fac tx V) ⟨hV0, fV⟩]
      exact ⟨fun q => absurd q (by decide), fun _ => s47 D2 C2⟩
    | succ z ih =>
      intro i hi
      apply q_L_isMissing_20
      refine ⟨fun q => absurd q (by omega), fun _ => ⟨fun q => absurd q (by decide), fun _ => ?_⟩⟩
      refine l_pat C1 (by omega) ⟨fun q => ?_, fun _ => ?_⟩
      · have := w1 _ (wg_mem (w := W) (i := i) (by omega))
        exact absurd q (by omega)
      · apply q_L_isMissing_34
        exact ⟨by constructor <;> omega, ih (i + 1) (by omega)⟩
  exact lp W.length 0 (by omega)
end LM
