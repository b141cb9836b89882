/-! printed by wip/whole/gen22.py -/
theorem q_L_open_0 {D : mm_D} {u : Int} {x : Nat × (Nat × List Int)} {Q : mm_O → mm_H → Prop} (H : mt 43 0 [some (mm_P 0)] [] (mm_mk D u x) (mm_pIx (fun r4 D1 u2 x3 => Q (.inl (some (mm_I ((0 : Int))))) (mm_mk D1 (r4) x3)) (fun E8 D5 u6 x7 => ∃ z, mm_hand 124 E8 = some z ∧ Q (.inl (some (mm_I z))) (mm_mk D5 u6 x7)))) : mt 124 0 [some (mm_P 0), some (mm_P 30), none] [] (mm_mk D u x) Q := by
  refine mu_aload (r := some (30)) mc_124_0 (by decide) rfl ?_
  refine mu_const mc_124_1 (by decide) (by decide) ?_
  refine mu_aload (r := some (0)) mc_124_2 (by decide) rfl ?_
  refine mt_call (args := [mm_P 0]) (rest := [mm_I ((0 : Int)), mm_P 30]) mc_124_3 (by decide) rfl rfl rfl ⟨by simp, rfl, by decide⟩ (mu_rcv (by decide) rfl (by decide)) H ?_
  rintro _ _ (⟨r4, D1, u2, x3, rfl, rfl, H⟩ | ⟨E8, D5, u6, x7, rfl, rfl, H⟩)
  · refine Or.inl ⟨_, rfl, ?_⟩
    refine mu_rfl mc_124_4 (by decide) rfl rfl ?_
    refine mu_last mc_124_5 rfl ?_
    refine mu_rfl (n := 10) mc_124_6 (by decide) rfl rfl ?_
    refine mu_const mc_124_10 (by decide) (by decide) ?_
    exact mt_ret mc_124_11 H
  · exact Or.inr ⟨_, rfl, by decide, Or.inl H⟩

theorem q_L_append_0 {D : mm_D} {u : Int} {x : Nat × (Nat × List Int)} {Q : mm_O → mm_H → Prop} (v1 v2 : Int) (H : mt 44 0 [some (mm_P 0), some (mm_I (v1)), some (mm_I (v2)), none] [] (mm_mk D u x) (mm_pIx (fun r4 D1 u2 x3 => Q (.inl (some (mm_I ((0 : Int))))) (mm_mk D1 (r4) x3)) (fun E8 D5 u6 x7 => ∃ z, mm_hand 125 E8 = some z ∧ Q (.inl (some (mm_I z))) (mm_mk D5 u6 x7)))) : mt 125 0 [some (mm_P 0), some (mm_I (v1)), some (mm_I (v2)), some (mm_P 30), none] [] (mm_mk D u x) Q := by
  refine mu_aload (r := some (30)) mc_125_0 (by decide) rfl ?_
  refine mu_const mc_125_1 (by decide) (by decide) ?_
  refine mu_aload (r := some (0)) mc_125_2 (by decide) rfl ?_
  refine mu_load mc_125_3 (by decide) rfl ?_
  refine mu_load mc_125_4 (by decide) rfl ?_
  refine mt_call (args := [mm_P 0, mm_I (v1), mm_I (v2)]) (rest := [mm_I ((0 : Int)), mm_P 30]) mc_125_5 (by decide) rfl rfl rfl ⟨by simp, rfl, by decide⟩ (mu_rcv (by decide) rfl (by decide)) H ?_
  rintro _ _ (⟨r4, D1, u2, x3, rfl, rfl, H⟩ | ⟨E8, D5, u6, x7, rfl, rfl, H⟩)
  · refine Or.inl ⟨_, rfl, ?_⟩
    refine mu_rfl mc_125_6 (by decide) rfl rfl ?_
    refine mu_last mc_125_7 rfl ?_
    refine mu_rfl (n := 18) mc_125_8 (by decide) rfl rfl ?_
    refine mu_const mc_125_18 (by decide) (by decide) ?_
    exact mt_ret mc_125_19 H
  · exact Or.inr ⟨_, rfl, by decide, Or.inl H⟩

theorem q_L_length_0 {D : mm_D} {u : Int} {x : Nat × (Nat × List Int)} {Q : mm_O → mm_H → Prop} (v1 : Int) (H : mt 46 0 [some (mm_P 0), some (mm_I (v1))] [] (mm_mk D u x) (mm_pIx (fun r4 D1 u2 x3 => Q (.inl (some (mm_I ((0 : Int))))) (mm_mk D1 (r4) x3)) (fun E8 D5 u6 x7 => ∃ z, mm_hand 126 E8 = some z ∧ Q (.inl (some (mm_I z))) (mm_mk D5 u6 x7)))) : mt 126 0 [some (mm_P 0), some (mm_I (v1)), some (mm_P 30), none] [] (mm_mk D u x) Q := by
  refine mu_aload (r := some (30)) mc_126_0 (by decide) rfl ?_
  refine mu_const mc_126_1 (by decide) (by decide) ?_
  refine mu_aload (r := some (0)) mc_126_2 (by decide) rfl ?_
  refine mu_load mc_126_3 (by decide) rfl ?_
  refine mt_call (args := [mm_P 0, mm_I (v1)]) (rest := [mm_I ((0 : Int)), mm_P 30]) mc_126_4 (by decide) rfl rfl rfl ⟨by simp, rfl, by decide⟩ (mu_rcv (by decide) rfl (by decide)) H ?_
  rintro _ _ (⟨r4, D1, u2, x3, rfl, rfl, H⟩ | ⟨E8, D5, u6, x7, rfl, rfl, H⟩)
  · refine Or.inl ⟨_, rfl, ?_⟩
    refine mu_rfl mc_126_5 (by decide) rfl rfl ?_
    refine mu_last mc_126_6 rfl ?_
    refine mu_rfl (n := 11) mc_126_7 (by decide) rfl rfl ?_
    refine mu_const mc_126_11 (by decide) (by decide) ?_
    exact mt_ret mc_126_12 H
  · exact Or.inr ⟨_, rfl, by decide, Or.inl H⟩

theorem q_L_letterAt_0 {D : mm_D} {u : Int} {x : Nat × (Nat × List Int)} {Q : mm_O → mm_H → Prop} (v1 v2 : Int) (H : mt 47 0 [some (mm_P 0), some (mm_I (v1)), some (mm_I (v2)), none] [] (mm_mk D u x) (mm_pIx (fun r4 D1 u2 x3 => Q (.inl (some (mm_I ((0 : Int))))) (mm_mk D1 (r4) x3)) (fun E8 D5 u6 x7 => ∃ z, mm_hand 127 E8 = some z ∧ Q (.inl (some (mm_I z))) (mm_mk D5 u6 x7)))) : mt 127 0 [some (mm_P 0), some (mm_I (v1)), some (mm_I (v2)), some (mm_P 30), none] [] (mm_mk D u x) Q := by
  refine mu_aload (r := some (30)) mc_127_0 (by decide) rfl ?_
  refine mu_const mc_127_1 (by decide) (by decide) ?_
  refine mu_aload (r := some (0)) mc_127_2 (by decide) rfl ?_
  refine mu_load mc_127_3 (by decide) rfl ?_
  refine mu_load mc_127_4 (by decide) rfl ?_
  refine mt_call (args := [mm_P 0, mm_I (v1), mm_I (v2)]) (rest := [mm_I ((0 : Int)), mm_P 30]) mc_127_5 (by decide) rfl rfl rfl ⟨by simp, rfl, by decide⟩ (mu_rcv (by decide) rfl (by decide)) H ?_
  rintro _ _ (⟨r4, D1, u2, x3, rfl, rfl, H⟩ | ⟨E8, D5, u6, x7, rfl, rfl, H⟩)
  · refine Or.inl ⟨_, rfl, ?_⟩
    refine mu_rfl mc_127_6 (by decide) rfl rfl ?_
    refine mu_last mc_127_7 rfl ?_
    refine mu_rfl (n := 12) mc_127_8 (by decide) rfl rfl ?_
    refine mu_const mc_127_12 (by decide) (by decide) ?_
    exact mt_ret mc_127_13 H
  · exact Or.inr ⟨_, rfl, by decide, Or.inl H⟩

theorem q_L_type_0 {D : mm_D} {u : Int} {x : Nat × (Nat × List Int)} {Q : mm_O → mm_H → Prop} (v1 : Int) (H : mt 48 0 [some (mm_P 0), some (mm_I (v1))] [] (mm_mk D u x) (mm_pIx (fun r4 D1 u2 x3 => Q (.inl (some (mm_I ((0 : Int))))) (mm_mk D1 (r4) x3)) (fun E8 D5 u6 x7 => ∃ z, mm_hand 128 E8 = some z ∧ Q (.inl (some (mm_I z))) (mm_mk D5 u6 x7)))) : mt 128 0 [some (mm_P 0), some (mm_I (v1)), some (mm_P 30), none] [] (mm_mk D u x) Q := by
  refine mu_aload (r := some (30)) mc_128_0 (by decide) rfl ?_
  refine mu_const mc_128_1 (by decide) (by decide) ?_
  refine mu_aload (r := some (0)) mc_128_2 (by decide) rfl ?_
  refine mu_load mc_128_3 (by decide) rfl ?_
  refine mt_call (args := [mm_P 0, mm_I (v1)]) (rest := [mm_I ((0 : Int)), mm_P 30]) mc_128_4 (by decide) rfl rfl rfl ⟨by simp, rfl, by decide⟩ (mu_rcv (by decide) rfl (by decide)) H ?_
  rintro _ _ (⟨r4, D1, u2, x3, rfl, rfl, H⟩ | ⟨E8, D5, u6, x7, rfl, rfl, H⟩)
  · refine Or.inl ⟨_, rfl, ?_⟩
    refine mu_rfl mc_128_5 (by decide) rfl rfl ?_
    refine mu_last mc_128_6 rfl ?_
    refine mu_rfl (n := 14) mc_128_7 (by decide) rfl rfl ?_
    refine mu_const mc_128_14 (by decide) (by decide) ?_
    exact mt_ret mc_128_15 H
  · exact Or.inr ⟨_, rfl, by decide, Or.inl H⟩

theorem q_L_erase_0 {D : mm_D} {u : Int} {x : Nat × (Nat × List Int)} {Q : mm_O → mm_H → Prop} (H : mt 49 0 [some (mm_P 0), none] [] (mm_mk D u x) (mm_pIx (fun r4 D1 u2 x3 => Q (.inl (some (mm_I ((0 : Int))))) (mm_mk D1 (r4) x3)) (fun E8 D5 u6 x7 => ∃ z, mm_hand 129 E8 = some z ∧ Q (.inl (some (mm_I z))) (mm_mk D5 u6 x7)))) : mt 129 0 [some (mm_P 0), some (mm_P 30), none] [] (mm_mk D u x) Q := by
  refine mu_aload (r := some (30)) mc_129_0 (by decide) rfl ?_
  refine mu_const mc_129_1 (by decide) (by decide) ?_
  refine mu_aload (r := some (0)) mc_129_2 (by decide) rfl ?_
  refine mt_call (args := [mm_P 0]) (rest := [mm_I ((0 : Int)), mm_P 30]) mc_129_3 (by decide) rfl rfl rfl ⟨by simp, rfl, by decide⟩ (mu_rcv (by decide) rfl (by decide)) H ?_
  rintro _ _ (⟨r4, D1, u2, x3, rfl, rfl, H⟩ | ⟨E8, D5, u6, x7, rfl, rfl, H⟩)
  · refine Or.inl ⟨_, rfl, ?_⟩
    refine mu_rfl mc_129_4 (by decide) rfl rfl ?_
    refine mu_last mc_129_5 rfl ?_
    refine mu_rfl (n := 10) mc_129_6 (by decide) rfl rfl ?_
    refine mu_const mc_129_10 (by decide) (by decide) ?_
    exact mt_ret mc_129_11 H
  · exact Or.inr ⟨_, rfl, by decide, Or.inl H⟩

theorem q_L_copy_0 {D : mm_D} {u : Int} {x : Nat × (Nat × List Int)} {Q : mm_O → mm_H → Prop} (v1 v2 v3 : Int) (H : mt 51 0 [some (mm_P 0), some (mm_I (v1)), some (mm_I (v2)), some (mm_I (v3)), none, none] [] (mm_mk D u x) (mm_pVx (fun D1 u2 x3 => Q (.inl (some (mm_I ((0 : Int))))) (mm_mk D1 u2 x3)) (fun E8 D5 u6 x7 => ∃ z, mm_hand 130 E8 = some z ∧ Q (.inl (some (mm_I z))) (mm_mk D5 u6 x7)))) : mt 130 0 [some (mm_P 0), some (mm_I (v1)), some (mm_I (v2)), some (mm_I (v3)), none] [] (mm_mk D u x) Q := by
  refine mu_aload (r := some (0)) mc_130_0 (by decide) rfl ?_
  refine mu_load mc_130_1 (by decide) rfl ?_
  refine mu_load mc_130_2 (by decide) rfl ?_
  refine mu_load mc_130_3 (by decide) rfl ?_
  refine mt_call (args := [mm_P 0, mm_I (v1), mm_I (v2), mm_I (v3)]) (rest := []) mc_130_4 (by decide) rfl rfl rfl ⟨by simp, rfl, by decide⟩ (mu_rcv (by decide) rfl (by decide)) H ?_
  rintro _ _ (⟨D1, u2, x3, rfl, rfl, H⟩ | ⟨E8, D5, u6, x7, rfl, rfl, H⟩)
  · refine Or.inl ⟨_, rfl, ?_⟩
    refine mu_rfl (n := 12) mc_130_5 (by decide) rfl rfl ?_
    refine mu_const mc_130_12 (by decide) (by decide) ?_
    exact mt_ret mc_130_13 H
  · exact Or.inr ⟨_, rfl, by decide, Or.inl H⟩

theorem q_L_patternAt_0 {D : mm_D} {u : Int} {x : Nat × (Nat × List Int)} {Q : mm_O → mm_H → Prop} (v1 : Int) (H : mt 53 0 [some (mm_P 0), some (mm_I (v1))] [] (mm_mk D u x) (mm_pIx (fun r4 D1 u2 x3 => Q (.inl (some (mm_I ((0 : Int))))) (mm_mk D1 (r4) x3)) (fun E8 D5 u6 x7 => ∃ z, mm_hand 131 E8 = some z ∧ Q (.inl (some (mm_I z))) (mm_mk D5 u6 x7)))) : mt 131 0 [some (mm_P 0), some (mm_I (v1)), some (mm_P 30), none] [] (mm_mk D u x) Q := by
  refine mu_aload (r := some (30)) mc_131_0 (by decide) rfl ?_
  refine mu_const mc_131_1 (by decide) (by decide) ?_
  refine mu_aload (r := some (0)) mc_131_2 (by decide) rfl ?_
  refine mu_load mc_131_3 (by decide) rfl ?_
  refine mt_call (args := [mm_P 0, mm_I (v1)]) (rest := [mm_I ((0 : Int)), mm_P 30]) mc_131_4 (by decide) rfl rfl rfl ⟨by simp, rfl, by decide⟩ (mu_rcv (by decide) rfl (by decide)) H ?_
  rintro _ _ (⟨r4, D1, u2, x3, rfl, rfl, H⟩ | ⟨E8, D5, u6, x7, rfl, rfl, H⟩)
  · refine Or.inl ⟨_, rfl, ?_⟩
    refine mu_rfl mc_131_5 (by decide) rfl rfl ?_
    refine mu_last mc_131_6 rfl ?_
    refine mu_rfl (n := 11) mc_131_7 (by decide) rfl rfl ?_
    refine mu_const mc_131_11 (by decide) (by decide) ?_
    exact mt_ret mc_131_12 H
  · exact Or.inr ⟨_, rfl, by decide, Or.inl H⟩

theorem q_L_occurrencesIn_0 {D : mm_D} {u : Int} {x : Nat × (Nat × List Int)} {Q : mm_O → mm_H → Prop} (v1 : Int) (H : mt 56 0 [some (mm_P 0), some (mm_I (v1))] [] (mm_mk D u x) (mm_pIx (fun r4 D1 u2 x3 => Q (.inl (some (mm_I ((0 : Int))))) (mm_mk D1 (r4) x3)) (fun E8 D5 u6 x7 => ∃ z, mm_hand 132 E8 = some z ∧ Q (.inl (some (mm_I z))) (mm_mk D5 u6 x7)))) : mt 132 0 [some (mm_P 0), some (mm_I (v1)), some (mm_P 30), none] [] (mm_mk D u x) Q := by
  refine mu_aload (r := some (30)) mc_132_0 (by decide) rfl ?_
  refine mu_const mc_132_1 (by decide) (by decide) ?_
  refine mu_aload (r := some (0)) mc_132_2 (by decide) rfl ?_
  refine mu_load mc_132_3 (by decide) rfl ?_
  refine mt_call (args := [mm_P 0, mm_I (v1)]) (rest := [mm_I ((0 : Int)), mm_P 30]) mc_132_4 (by decide) rfl rfl rfl ⟨by simp, rfl, by decide⟩ (mu_rcv (by decide) rfl (by decide)) H ?_
  rintro _ _ (⟨r4, D1, u2, x3, rfl, rfl, H⟩ | ⟨E8, D5, u6, x7, rfl, rfl, H⟩)
  · refine Or.inl ⟨_, rfl, ?_⟩
    refine mu_rfl mc_132_5 (by decide) rfl rfl ?_
    refine mu_last mc_132_6 rfl ?_
    refine mu_rfl (n := 11) mc_132_7 (by decide) rfl rfl ?_
    refine mu_const mc_132_11 (by decide) (by decide) ?_
    exact mt_ret mc_132_12 H
  · exact Or.inr ⟨_, rfl, by decide, Or.inl H⟩

theorem q_L_first_0 {D : mm_D} {u : Int} {x : Nat × (Nat × List Int)} {Q : mm_O → mm_H → Prop} (v1 : Int) (H : mt 57 0 [some (mm_P 0), some (mm_I (v1))] [] (mm_mk D u x) (mm_pIx (fun r4 D1 u2 x3 => Q (.inl (some (mm_I ((0 : Int))))) (mm_mk D1 (r4) x3)) (fun E8 D5 u6 x7 => ∃ z, mm_hand 133 E8 = some z ∧ Q (.inl (some (mm_I z))) (mm_mk D5 u6 x7)))) : mt 133 0 [some (mm_P 0), some (mm_I (v1)), some (mm_P 30), none] [] (mm_mk D u x) Q := by
  refine mu_aload (r := some (30)) mc_133_0 (by decide) rfl ?_
  refine mu_const mc_133_1 (by decide) (by decide) ?_
  refine mu_aload (r := some (0)) mc_133_2 (by decide) rfl ?_
  refine mu_load mc_133_3 (by decide) rfl ?_
  refine mt_call (args := [mm_P 0, mm_I (v1)]) (rest := [mm_I ((0 : Int)), mm_P 30]) mc_133_4 (by decide) rfl rfl rfl ⟨by simp, rfl, by decide⟩ (mu_rcv (by decide) rfl (by decide)) H ?_
  rintro _ _ (⟨r4, D1, u2, x3, rfl, rfl, H⟩ | ⟨E8, D5, u6, x7, rfl, rfl, H⟩)
  · refine Or.inl ⟨_, rfl, ?_⟩
    refine mu_rfl mc_133_5 (by decide) rfl rfl ?_
    refine mu_last mc_133_6 rfl ?_
    refine mu_rfl (n := 11) mc_133_7 (by decide) rfl rfl ?_
    refine mu_const mc_133_11 (by decide) (by decide) ?_
    exact mt_ret mc_133_12 H
  · exact Or.inr ⟨_, rfl, by decide, Or.inl H⟩

theorem q_L_last_0 {D : mm_D} {u : Int} {x : Nat × (Nat × List Int)} {Q : mm_O → mm_H → Prop} (v1 : Int) (H : mt 58 0 [some (mm_P 0), some (mm_I (v1))] [] (mm_mk D u x) (mm_pIx (fun r4 D1 u2 x3 => Q (.inl (some (mm_I ((0 : Int))))) (mm_mk D1 (r4) x3)) (fun E8 D5 u6 x7 => ∃ z, mm_hand 134 E8 = some z ∧ Q (.inl (some (mm_I z))) (mm_mk D5 u6 x7)))) : mt 134 0 [some (mm_P 0), some (mm_I (v1)), some (mm_P 30), none] [] (mm_mk D u x) Q := by
  refine mu_aload (r := some (30)) mc_134_0 (by decide) rfl ?_
  refine mu_const mc_134_1 (by decide) (by decide) ?_
  refine mu_aload (r := some (0)) mc_134_2 (by decide) rfl ?_
  refine mu_load mc_134_3 (by decide) rfl ?_
  refine mt_call (args := [mm_P 0, mm_I (v1)]) (rest := [mm_I ((0 : Int)), mm_P 30]) mc_134_4 (by decide) rfl rfl rfl ⟨by simp, rfl, by decide⟩ (mu_rcv (by decide) rfl (by decide)) H ?_
  rintro _ _ (⟨r4, D1, u2, x3, rfl, rfl, H⟩ | ⟨E8, D5, u6, x7, rfl, rfl, H⟩)
  · refine Or.inl ⟨_, rfl, ?_⟩
    refine mu_rfl mc_134_5 (by decide) rfl rfl ?_
    refine mu_last mc_134_6 rfl ?_
    refine mu_rfl (n := 11) mc_134_7 (by decide) rfl rfl ?_
    refine mu_const mc_134_11 (by decide) (by decide) ?_
    exact mt_ret mc_134_12 H
  · exact Or.inr ⟨_, rfl, by decide, Or.inl H⟩

theorem q_L_toPart_0 {D : mm_D} {u : Int} {x : Nat × (Nat × List Int)} {Q : mm_O → mm_H → Prop} (v1 : Int) (H : mt 66 0 [some (mm_P 0), some (mm_I (v1))] [] (mm_mk D u x) (mm_pIx (fun r4 D1 u2 x3 => Q (.inl (some (mm_I ((0 : Int))))) (mm_mk D1 (r4) x3)) (fun E8 D5 u6 x7 => ∃ z, mm_hand 135 E8 = some z ∧ Q (.inl (some (mm_I z))) (mm_mk D5 u6 x7)))) : mt 135 0 [some (mm_P 0), some (mm_I (v1)), some (mm_P 30), none] [] (mm_mk D u x) Q := by
  refine mu_aload (r := some (30)) mc_135_0 (by decide) rfl ?_
  refine mu_const mc_135_1 (by decide) (by decide) ?_
  refine mu_aload (r := some (0)) mc_135_2 (by decide) rfl ?_
  refine mu_load mc_135_3 (by decide) rfl ?_
  refine mt_call (args := [mm_P 0, mm_I (v1)]) (rest := [mm_I ((0 : Int)), mm_P 30]) mc_135_4 (by decide) rfl rfl rfl ⟨by simp, rfl, by decide⟩ (mu_rcv (by decide) rfl (by decide)) H ?_
  rintro _ _ (⟨r4, D1, u2, x3, rfl, rfl, H⟩ | ⟨E8, D5, u6, x7, rfl, rfl, H⟩)
  · refine Or.inl ⟨_, rfl, ?_⟩
    refine mu_rfl mc_135_5 (by decide) rfl rfl ?_
    refine mu_last mc_135_6 rfl ?_
    refine mu_rfl (n := 11) mc_135_7 (by decide) rfl rfl ?_
    refine mu_const mc_135_11 (by decide) (by decide) ?_
    exact mt_ret mc_135_12 H
  · exact Or.inr ⟨_, rfl, by decide, Or.inl H⟩

theorem q_L_common_0 {D : mm_D} {u : Int} {x : Nat × (Nat × List Int)} {Q : mm_O → mm_H → Prop} (v1 : Int) (H : mt 67 0 [some (mm_P 0), some (mm_I (v1))] [] (mm_mk D u x) (mm_pIx (fun r4 D1 u2 x3 => Q (.inl (some (mm_I ((0 : Int))))) (mm_mk D1 (r4) x3)) (fun E8 D5 u6 x7 => ∃ z, mm_hand 136 E8 = some z ∧ Q (.inl (some (mm_I z))) (mm_mk D5 u6 x7)))) : mt 136 0 [some (mm_P 0), some (mm_I (v1)), some (mm_P 30), none] [] (mm_mk D u x) Q := by
  refine mu_aload (r := some (30)) mc_136_0 (by decide) rfl ?_
  refine mu_const mc_136_1 (by decide) (by decide) ?_
  refine mu_aload (r := some (0)) mc_136_2 (by decide) rfl ?_
  refine mu_load mc_136_3 (by decide) rfl ?_
  refine mt_call (args := [mm_P 0, mm_I (v1)]) (rest := [mm_I ((0 : Int)), mm_P 30]) mc_136_4 (by decide) rfl rfl rfl ⟨by simp, rfl, by decide⟩ (mu_rcv (by decide) rfl (by decide)) H ?_
  rintro _ _ (⟨r4, D1, u2, x3, rfl, rfl, H⟩ | ⟨E8, D5, u6, x7, rfl, rfl, H⟩)
  · refine Or.inl ⟨_, rfl, ?_⟩
    refine mu_rfl mc_136_5 (by decide) rfl rfl ?_
    refine mu_last mc_136_6 rfl ?_
    refine mu_rfl (n := 11) mc_136_7 (by decide) rfl rfl ?_
    refine mu_const mc_136_11 (by decide) (by decide) ?_
    exact mt_ret mc_136_12 H
  · exact Or.inr ⟨_, rfl, by decide, Or.inl H⟩

theorem q_L_repeated_0 {D : mm_D} {u : Int} {x : Nat × (Nat × List Int)} {Q : mm_O → mm_H → Prop} (v1 : Int) (H : mt 68 0 [some (mm_P 0), some (mm_I (v1))] [] (mm_mk D u x) (mm_pIx (fun r4 D1 u2 x3 => Q (.inl (some (mm_I ((0 : Int))))) (mm_mk D1 (r4) x3)) (fun E8 D5 u6 x7 => ∃ z, mm_hand 137 E8 = some z ∧ Q (.inl (some (mm_I z))) (mm_mk D5 u6 x7)))) : mt 137 0 [some (mm_P 0), some (mm_I (v1)), some (mm_P 30), none] [] (mm_mk D u x) Q := by
  refine mu_aload (r := some (30)) mc_137_0 (by decide) rfl ?_
  refine mu_const mc_137_1 (by decide) (by decide) ?_
  refine mu_aload (r := some (0)) mc_137_2 (by decide) rfl ?_
  refine mu_load mc_137_3 (by decide) rfl ?_
  refine mt_call (args := [mm_P 0, mm_I (v1)]) (rest := [mm_I ((0 : Int)), mm_P 30]) mc_137_4 (by decide) rfl rfl rfl ⟨by simp, rfl, by decide⟩ (mu_rcv (by decide) rfl (by decide)) H ?_
  rintro _ _ (⟨r4, D1, u2, x3, rfl, rfl, H⟩ | ⟨E8, D5, u6, x7, rfl, rfl, H⟩)
  · refine Or.inl ⟨_, rfl, ?_⟩
    refine mu_rfl mc_137_5 (by decide) rfl rfl ?_
    refine mu_last mc_137_6 rfl ?_
    refine mu_rfl (n := 11) mc_137_7 (by decide) rfl rfl ?_
    refine mu_const mc_137_11 (by decide) (by decide) ?_
    exact mt_ret mc_137_12 H
  · exact Or.inr ⟨_, rfl, by decide, Or.inl H⟩

theorem q_L_missing_0 {D : mm_D} {u : Int} {x : Nat × (Nat × List Int)} {Q : mm_O → mm_H → Prop} (v1 : Int) (H : mt 69 0 [some (mm_P 0), some (mm_I (v1))] [] (mm_mk D u x) (mm_pIx (fun r4 D1 u2 x3 => Q (.inl (some (mm_I ((0 : Int))))) (mm_mk D1 (r4) x3)) (fun E8 D5 u6 x7 => ∃ z, mm_hand 138 E8 = some z ∧ Q (.inl (some (mm_I z))) (mm_mk D5 u6 x7)))) : mt 138 0 [some (mm_P 0), some (mm_I (v1)), some (mm_P 30), none] [] (mm_mk D u x) Q := by
  refine mu_aload (r := some (30)) mc_138_0 (by decide) rfl ?_
  refine mu_const mc_138_1 (by decide) (by decide) ?_
  refine mu_aload (r := some (0)) mc_138_2 (by decide) rfl ?_
  refine mu_load mc_138_3 (by decide) rfl ?_
  refine mt_call (args := [mm_P 0, mm_I (v1)]) (rest := [mm_I ((0 : Int)), mm_P 30]) mc_138_4 (by decide) rfl rfl rfl ⟨by simp, rfl, by decide⟩ (mu_rcv (by decide) rfl (by decide)) H ?_
  rintro _ _ (⟨r4, D1, u2, x3, rfl, rfl, H⟩ | ⟨E8, D5, u6, x7, rfl, rfl, H⟩)
  · refine Or.inl ⟨_, rfl, ?_⟩
    refine mu_rfl mc_138_5 (by decide) rfl rfl ?_
    refine mu_last mc_138_6 rfl ?_
    refine mu_rfl (n := 11) mc_138_7 (by decide) rfl rfl ?_
    refine mu_const mc_138_11 (by decide) (by decide) ?_
    exact mt_ret mc_138_12 H
  · exact Or.inr ⟨_, rfl, by decide, Or.inl H⟩
