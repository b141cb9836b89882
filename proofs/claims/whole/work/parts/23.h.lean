/-! printed by wip/whole/gen22.py -/
theorem q_L_law_13 {D : mm_D} {u : Int} {x : Nat × (Nat × List Int)} {Q : mm_O → mm_H → Prop} (v4 : Int) (o5 o6 : Option mm_V) (H : ∃ (z1 : Int) (t2 : List Int), x.2.2 = z1 :: t2 ∧ ((mm_rng (((t2.length : Int)) - ((4 : Int)))) ∧ ((((((t2.length : Int)) - ((4 : Int))) < (v4)) → Q (.inl (some (mm_I ((1 : Int))))) (mm_mk D u x)) ∧ (¬ ((((t2.length : Int)) - ((4 : Int))) < (v4)) → (0 ≤ (v4)) ∧ (∃ z5, x.2.2[(v4).toNat + 1]? = some z5 ∧ (mt 139 (mm_sw (mm_and (z5) ((31 : Int)))) [some (mm_P 999), some (mm_P 0), some (mm_P 24), some (mm_P 30), some (mm_I (v4)), o5, o6] [] (mm_mk D u x) Q)))))) : mt 139 13 [some (mm_P 999), some (mm_P 0), some (mm_P 24), some (mm_P 30), some (mm_I (v4)), o5, o6] [] (mm_mk D u x) Q := by
  refine mu_load mc_139_13 (by decide) rfl ?_
  refine mu_aload (r := some (999)) mc_139_14 (by decide) rfl ?_
  obtain ⟨z1, t2, h3, H⟩ := H
  refine mu_alenS mc_139_15 h3 ?_
  refine mu_const mc_139_16 (by decide) (by decide) ?_
  have h4 := H.1
  replace H := H.2
  refine mu_isub mc_139_17 h4 ?_
  refine mu_ic_gt mc_139_18 (fun c => ?_) (fun c => ?_)
  · replace H := H.1 c
    refine mu_const mc_139_648 (by decide) (by decide) ?_
    exact mt_retB mc_139_649 (by decide) H
  · replace H := H.2 c
    refine mu_aload (r := some (999)) mc_139_19 (by decide) rfl ?_
    refine mu_load mc_139_20 (by decide) rfl ?_
    have h6 := H.1
    replace H := H.2
    obtain ⟨z5, h7, H⟩ := H
    refine mu_scr mc_139_21 h6 h7 ?_
    refine mu_const mc_139_22 (by decide) (by decide) ?_
    refine mu_iand mc_139_23 ?_
    refine mt_sw mc_139_24 ?_
    exact H

theorem q_L_law_25 {D : mm_D} {u : Int} {x : Nat × (Nat × List Int)} {Q : mm_O → mm_H → Prop} (v4 : Int) (o5 o6 : Option mm_V) (H : mt 42 0 [some (mm_P 0), none, none] [] (mm_mk D u x) (mm_pV fun D1 u2 x3 => mt 80 0 [some (mm_P 24)] [] (mm_mk D1 u2 x3) (mm_pV fun D5 u6 x7 => mt 139 646 [some (mm_P 999), some (mm_P 0), some (mm_P 24), some (mm_P 30), some (mm_I (v4)), o5, o6] [] (mm_mk D5 u6 x7) Q))) : mt 139 25 [some (mm_P 999), some (mm_P 0), some (mm_P 24), some (mm_P 30), some (mm_I (v4)), o5, o6] [] (mm_mk D u x) Q := by
  refine mu_aload (r := some (0)) mc_139_25 (by decide) rfl ?_
  refine mt_call (args := [mm_P 0]) (rest := []) mc_139_26 (by decide) rfl rfl rfl ⟨by simp, rfl, by decide⟩ (mu_rcv (by decide) rfl (by decide)) H ?_
  rintro _ _ ⟨D1, u2, x3, rfl, rfl, H⟩
  refine Or.inl ⟨_, rfl, ?_⟩
  refine mu_aload (r := some (24)) mc_139_27 (by decide) rfl ?_
  refine mt_call (args := [mm_P 24]) (rest := []) mc_139_28 (by decide) rfl rfl rfl ⟨by simp, rfl, by decide⟩ (mu_rcv (by decide) rfl (by decide)) H ?_
  rintro _ _ ⟨D5, u6, x7, rfl, rfl, H⟩
  refine Or.inl ⟨_, rfl, ?_⟩
  refine mu_rfl (n := 646) mc_139_29 (by decide) rfl rfl ?_
  exact H

theorem q_L_law_30 {D : mm_D} {u : Int} {x : Nat × (Nat × List Int)} {Q : mm_O → mm_H → Prop} (v4 : Int) (o5 o6 : Option mm_V) (H : mt 124 0 [some (mm_P 0), some (mm_P 30), none] [] (mm_mk D u x) (mm_pI fun r4 D1 u2 x3 => mt 81 0 [some (mm_P 24)] [] (mm_mk D1 u2 x3) (mm_pI fun r8 D5 u6 x7 => mt 77 0 [some (mm_P 24)] [] (mm_mk D5 u6 x7) (mm_pI fun r12 D9 u10 x11 => (((r12) = (r4)) → ((¬ (r4) = 0) → mt 139 646 [some (mm_P 999), some (mm_P 0), some (mm_P 24), some (mm_P 30), some (mm_I (v4)), some (mm_I (r4)), some (mm_I (r8))] [] (mm_mk D9 u10 x11) Q) ∧ (¬ (¬ (r4) = 0) → (((mm_cmp (u10) (r8)) = 0) → mt 139 646 [some (mm_P 999), some (mm_P 0), some (mm_P 24), some (mm_P 30), some (mm_I (v4)), some (mm_I (r4)), some (mm_I (r8))] [] (mm_mk D9 u10 x11) Q) ∧ (¬ ((mm_cmp (u10) (r8)) = 0) → Q (.inl (some (mm_I ((0 : Int))))) (mm_mk D9 u10 x11)))) ∧ (¬ ((r12) = (r4)) → Q (.inl (some (mm_I ((0 : Int))))) (mm_mk D9 u10 x11)))))) : mt 139 30 [some (mm_P 999), some (mm_P 0), some (mm_P 24), some (mm_P 30), some (mm_I (v4)), o5, o6] [] (mm_mk D u x) Q := by
  refine mu_aload (r := some (0)) mc_139_30 (by decide) rfl ?_
  refine mu_aload (r := some (30)) mc_139_31 (by decide) rfl ?_
  refine mt_call (args := [mm_P 0, mm_P 30]) (rest := []) mc_139_32 (by decide) rfl rfl rfl ⟨by simp, rfl, by decide⟩ rfl H ?_
  rintro _ _ ⟨r4, D1, u2, x3, rfl, rfl, H⟩
  refine Or.inl ⟨_, rfl, ?_⟩
  refine mu_store mc_139_33 (by decide) (by simp) (ls' := [some (mm_P 999), some (mm_P 0), some (mm_P 24), some (mm_P 30), some (mm_I (v4)), some (mm_I (r4)), o6]) rfl ?_
  refine mu_aload (r := some (24)) mc_139_34 (by decide) rfl ?_
  refine mt_call (args := [mm_P 24]) (rest := []) mc_139_35 (by decide) rfl rfl rfl ⟨by simp, rfl, by decide⟩ (mu_rcv (by decide) rfl (by decide)) H ?_
  rintro _ _ ⟨r8, D5, u6, x7, rfl, rfl, H⟩
  refine Or.inl ⟨_, rfl, ?_⟩
  refine mu_store mc_139_36 (by decide) (by simp) (ls' := [some (mm_P 999), some (mm_P 0), some (mm_P 24), some (mm_P 30), some (mm_I (v4)), some (mm_I (r4)), some (mm_I (r8))]) rfl ?_
  refine mu_aload (r := some (24)) mc_139_37 (by decide) rfl ?_
  refine mt_call (args := [mm_P 24]) (rest := []) mc_139_38 (by decide) rfl rfl rfl ⟨by simp, rfl, by decide⟩ (mu_rcv (by decide) rfl (by decide)) H ?_
  rintro _ _ ⟨r12, D9, u10, x11, rfl, rfl, H⟩
  refine Or.inl ⟨_, rfl, ?_⟩
  refine mu_load mc_139_39 (by decide) rfl ?_
  refine mu_ic_eq mc_139_40 (fun c => ?_) (fun c => ?_)
  · replace H := H.1 c
    refine mu_load mc_139_43 (by decide) rfl ?_
    refine mu_if_ne mc_139_44 (fun c => ?_) (fun c => ?_)
    · replace H := H.1 c
      refine mu_rfl (n := 646) mc_139_54 (by decide) rfl rfl ?_
      exact H
    · replace H := H.2 c
      refine mu_aload (r := some (30)) mc_139_45 (by decide) rfl ?_
      refine mu_const mc_139_46 (by decide) (by decide) ?_
      refine mu_lald mc_139_47 rfl ?_
      refine mu_load mc_139_48 (by decide) rfl ?_
      refine mu_rfl mc_139_49 (by decide) rfl rfl ?_
      refine mu_rfl mc_139_50 (by decide) rfl rfl ?_
      refine mu_if_eq mc_139_51 (fun c => ?_) (fun c => ?_)
      · replace H := H.1 c
        refine mu_rfl (n := 646) mc_139_54 (by decide) rfl rfl ?_
        exact H
      · replace H := H.2 c
        refine mu_const mc_139_52 (by decide) (by decide) ?_
        exact mt_retB mc_139_53 (by decide) H
  · replace H := H.2 c
    refine mu_const mc_139_41 (by decide) (by decide) ?_
    exact mt_retB mc_139_42 (by decide) H

theorem q_L_law_55 {D : mm_D} {u : Int} {x : Nat × (Nat × List Int)} {Q : mm_O → mm_H → Prop} (v4 : Int) (o5 o6 : Option mm_V) (H : (mm_rng ((v4) + ((1 : Int)))) ∧ ((0 ≤ ((v4) + ((1 : Int)))) ∧ (∃ z2, x.2.2[((v4) + ((1 : Int))).toNat + 1]? = some z2 ∧ ((mm_rng ((v4) + ((2 : Int)))) ∧ ((0 ≤ ((v4) + ((2 : Int)))) ∧ (∃ z6, x.2.2[((v4) + ((2 : Int))).toNat + 1]? = some z6 ∧ (mt 125 0 [some (mm_P 0), some (mm_I (z2)), some (mm_I (z6)), some (mm_P 30), none] [] (mm_mk D u x) (mm_pI fun r12 D9 u10 x11 => (mm_rng ((v4) + ((1 : Int)))) ∧ ((0 ≤ ((v4) + ((1 : Int)))) ∧ (∃ z14, x11.2.2[((v4) + ((1 : Int))).toNat + 1]? = some z14 ∧ ((mm_rng ((v4) + ((2 : Int)))) ∧ ((0 ≤ ((v4) + ((2 : Int)))) ∧ (∃ z18, x11.2.2[((v4) + ((2 : Int))).toNat + 1]? = some z18 ∧ (mt 83 0 [some (mm_P 24), some (mm_I (z14)), some (mm_I (z18))] [] (mm_mk D9 u10 x11) (mm_pI fun r24 D21 u22 x23 => mt 77 0 [some (mm_P 24)] [] (mm_mk D21 u22 x23) (mm_pI fun r28 D25 u26 x27 => (((r28) = (r12)) → ((¬ (r12) = 0) → mt 139 646 [some (mm_P 999), some (mm_P 0), some (mm_P 24), some (mm_P 30), some (mm_I (v4)), some (mm_I (r12)), some (mm_I (r24))] [] (mm_mk D25 u26 x27) Q) ∧ (¬ (¬ (r12) = 0) → (((mm_cmp (u26) (r24)) = 0) → mt 139 646 [some (mm_P 999), some (mm_P 0), some (mm_P 24), some (mm_P 30), some (mm_I (v4)), some (mm_I (r12)), some (mm_I (r24))] [] (mm_mk D25 u26 x27) Q) ∧ (¬ ((mm_cmp (u26) (r24)) = 0) → Q (.inl (some (mm_I ((0 : Int))))) (mm_mk D25 u26 x27)))) ∧ (¬ ((r28) = (r12)) → Q (.inl (some (mm_I ((0 : Int))))) (mm_mk D25 u26 x27)))))))))))))))))) : mt 139 55 [some (mm_P 999), some (mm_P 0), some (mm_P 24), some (mm_P 30), some (mm_I (v4)), o5, o6] [] (mm_mk D u x) Q := by
  refine mu_aload (r := some (0)) mc_139_55 (by decide) rfl ?_
  refine mu_aload (r := some (999)) mc_139_56 (by decide) rfl ?_
  refine mu_load mc_139_57 (by decide) rfl ?_
  refine mu_const mc_139_58 (by decide) (by decide) ?_
  have h1 := H.1
  replace H := H.2
  refine mu_iadd mc_139_59 h1 ?_
  have h3 := H.1
  replace H := H.2
  obtain ⟨z2, h4, H⟩ := H
  refine mu_scr mc_139_60 h3 h4 ?_
  refine mu_aload (r := some (999)) mc_139_61 (by decide) rfl ?_
  refine mu_load mc_139_62 (by decide) rfl ?_
  refine mu_const mc_139_63 (by decide) (by decide) ?_
  have h5 := H.1
  replace H := H.2
  refine mu_iadd mc_139_64 h5 ?_
  have h7 := H.1
  replace H := H.2
  obtain ⟨z6, h8, H⟩ := H
  refine mu_scr mc_139_65 h7 h8 ?_
  refine mu_aload (r := some (30)) mc_139_66 (by decide) rfl ?_
  refine mt_call (args := [mm_P 0, mm_I (z2), mm_I (z6), mm_P 30]) (rest := []) mc_139_67 (by decide) rfl rfl rfl ⟨by simp, rfl, by decide⟩ rfl H ?_
  rintro _ _ ⟨r12, D9, u10, x11, rfl, rfl, H⟩
  refine Or.inl ⟨_, rfl, ?_⟩
  refine mu_store mc_139_68 (by decide) (by simp) (ls' := [some (mm_P 999), some (mm_P 0), some (mm_P 24), some (mm_P 30), some (mm_I (v4)), some (mm_I (r12)), o6]) rfl ?_
  refine mu_aload (r := some (24)) mc_139_69 (by decide) rfl ?_
  refine mu_aload (r := some (999)) mc_139_70 (by decide) rfl ?_
  refine mu_load mc_139_71 (by decide) rfl ?_
  refine mu_const mc_139_72 (by decide) (by decide) ?_
  have h13 := H.1
  replace H := H.2
  refine mu_iadd mc_139_73 h13 ?_
  have h15 := H.1
  replace H := H.2
  obtain ⟨z14, h16, H⟩ := H
  refine mu_scr mc_139_74 h15 h16 ?_
  refine mu_aload (r := some (999)) mc_139_75 (by decide) rfl ?_
  refine mu_load mc_139_76 (by decide) rfl ?_
  refine mu_const mc_139_77 (by decide) (by decide) ?_
  have h17 := H.1
  replace H := H.2
  refine mu_iadd mc_139_78 h17 ?_
  have h19 := H.1
  replace H := H.2
  obtain ⟨z18, h20, H⟩ := H
  refine mu_scr mc_139_79 h19 h20 ?_
  refine mt_call (args := [mm_P 24, mm_I (z14), mm_I (z18)]) (rest := []) mc_139_80 (by decide) rfl rfl rfl ⟨by simp, rfl, by decide⟩ (mu_rcv (by decide) rfl (by decide)) H ?_
  rintro _ _ ⟨r24, D21, u22, x23, rfl, rfl, H⟩
  refine Or.inl ⟨_, rfl, ?_⟩
  refine mu_store mc_139_81 (by decide) (by simp) (ls' := [some (mm_P 999), some (mm_P 0), some (mm_P 24), some (mm_P 30), some (mm_I (v4)), some (mm_I (r12)), some (mm_I (r24))]) rfl ?_
  refine mu_aload (r := some (24)) mc_139_82 (by decide) rfl ?_
  refine mt_call (args := [mm_P 24]) (rest := []) mc_139_83 (by decide) rfl rfl rfl ⟨by simp, rfl, by decide⟩ (mu_rcv (by decide) rfl (by decide)) H ?_
  rintro _ _ ⟨r28, D25, u26, x27, rfl, rfl, H⟩
  refine Or.inl ⟨_, rfl, ?_⟩
  refine mu_load mc_139_84 (by decide) rfl ?_
  refine mu_ic_eq mc_139_85 (fun c => ?_) (fun c => ?_)
  · replace H := H.1 c
    refine mu_load mc_139_88 (by decide) rfl ?_
    refine mu_if_ne mc_139_89 (fun c => ?_) (fun c => ?_)
    · replace H := H.1 c
      refine mu_rfl (n := 646) mc_139_99 (by decide) rfl rfl ?_
      exact H
    · replace H := H.2 c
      refine mu_aload (r := some (30)) mc_139_90 (by decide) rfl ?_
      refine mu_const mc_139_91 (by decide) (by decide) ?_
      refine mu_lald mc_139_92 rfl ?_
      refine mu_load mc_139_93 (by decide) rfl ?_
      refine mu_rfl mc_139_94 (by decide) rfl rfl ?_
      refine mu_rfl mc_139_95 (by decide) rfl rfl ?_
      refine mu_if_eq mc_139_96 (fun c => ?_) (fun c => ?_)
      · replace H := H.1 c
        refine mu_rfl (n := 646) mc_139_99 (by decide) rfl rfl ?_
        exact H
      · replace H := H.2 c
        refine mu_const mc_139_97 (by decide) (by decide) ?_
        exact mt_retB mc_139_98 (by decide) H
  · replace H := H.2 c
    refine mu_const mc_139_86 (by decide) (by decide) ?_
    exact mt_retB mc_139_87 (by decide) H

theorem q_L_law_100 {D : mm_D} {u : Int} {x : Nat × (Nat × List Int)} {Q : mm_O → mm_H → Prop} (v4 : Int) (o5 o6 : Option mm_V) (H : mt 45 0 [some (mm_P 0)] [] (mm_mk D u x) (mm_pI fun r4 D1 u2 x3 => mt 84 0 [some (mm_P 24)] [] (mm_mk D1 u2 x3) (mm_pI fun r8 D5 u6 x7 => (((r4) = (r8)) → mt 139 646 [some (mm_P 999), some (mm_P 0), some (mm_P 24), some (mm_P 30), some (mm_I (v4)), o5, o6] [] (mm_mk D5 u6 x7) Q) ∧ (¬ ((r4) = (r8)) → Q (.inl (some (mm_I ((0 : Int))))) (mm_mk D5 u6 x7))))) : mt 139 100 [some (mm_P 999), some (mm_P 0), some (mm_P 24), some (mm_P 30), some (mm_I (v4)), o5, o6] [] (mm_mk D u x) Q := by
  refine mu_aload (r := some (0)) mc_139_100 (by decide) rfl ?_
  refine mt_call (args := [mm_P 0]) (rest := []) mc_139_101 (by decide) rfl rfl rfl ⟨by simp, rfl, by decide⟩ (mu_rcv (by decide) rfl (by decide)) H ?_
  rintro _ _ ⟨r4, D1, u2, x3, rfl, rfl, H⟩
  refine Or.inl ⟨_, rfl, ?_⟩
  refine mu_aload (r := some (24)) mc_139_102 (by decide) rfl ?_
  refine mt_call (args := [mm_P 24]) (rest := [mm_I (r4)]) mc_139_103 (by decide) rfl rfl rfl ⟨by simp, rfl, by decide⟩ (mu_rcv (by decide) rfl (by decide)) H ?_
  rintro _ _ ⟨r8, D5, u6, x7, rfl, rfl, H⟩
  refine Or.inl ⟨_, rfl, ?_⟩
  refine mu_ic_eq mc_139_104 (fun c => ?_) (fun c => ?_)
  · replace H := H.1 c
    exact H
  · replace H := H.2 c
    refine mu_const mc_139_105 (by decide) (by decide) ?_
    exact mt_retB mc_139_106 (by decide) H

theorem q_L_law_107 {D : mm_D} {u : Int} {x : Nat × (Nat × List Int)} {Q : mm_O → mm_H → Prop} (v4 : Int) (o5 o6 : Option mm_V) (H : (mm_rng ((v4) + ((1 : Int)))) ∧ ((0 ≤ ((v4) + ((1 : Int)))) ∧ (∃ z2, x.2.2[((v4) + ((1 : Int))).toNat + 1]? = some z2 ∧ (mt 126 0 [some (mm_P 0), some (mm_I (z2)), some (mm_P 30), none] [] (mm_mk D u x) (mm_pI fun r8 D5 u6 x7 => (mm_rng ((v4) + ((1 : Int)))) ∧ ((0 ≤ ((v4) + ((1 : Int)))) ∧ (∃ z10, x7.2.2[((v4) + ((1 : Int))).toNat + 1]? = some z10 ∧ (mt 85 0 [some (mm_P 24), some (mm_I (z10))] [] (mm_mk D5 u6 x7) (mm_pI fun r16 D13 u14 x15 => mt 77 0 [some (mm_P 24)] [] (mm_mk D13 u14 x15) (mm_pI fun r20 D17 u18 x19 => (((r20) = (r8)) → ((¬ (r8) = 0) → mt 139 646 [some (mm_P 999), some (mm_P 0), some (mm_P 24), some (mm_P 30), some (mm_I (v4)), some (mm_I (r8)), some (mm_I (r16))] [] (mm_mk D17 u18 x19) Q) ∧ (¬ (¬ (r8) = 0) → (((mm_cmp (u18) (r16)) = 0) → mt 139 646 [some (mm_P 999), some (mm_P 0), some (mm_P 24), some (mm_P 30), some (mm_I (v4)), some (mm_I (r8)), some (mm_I (r16))] [] (mm_mk D17 u18 x19) Q) ∧ (¬ ((mm_cmp (u18) (r16)) = 0) → Q (.inl (some (mm_I ((0 : Int))))) (mm_mk D17 u18 x19)))) ∧ (¬ ((r20) = (r8)) → Q (.inl (some (mm_I ((0 : Int))))) (mm_mk D17 u18 x19)))))))))))) : mt 139 107 [some (mm_P 999), some (mm_P 0), some (mm_P 24), some (mm_P 30), some (mm_I (v4)), o5, o6] [] (mm_mk D u x) Q := by
  refine mu_aload (r := some (0)) mc_139_107 (by decide) rfl ?_
  refine mu_aload (r := some (999)) mc_139_108 (by decide) rfl ?_
  refine mu_load mc_139_109 (by decide) rfl ?_
  refine mu_const mc_139_110 (by decide) (by decide) ?_
  have h1 := H.1
  replace H := H.2
  refine mu_iadd mc_139_111 h1 ?_
  have h3 := H.1
  replace H := H.2
  obtain ⟨z2, h4, H⟩ := H
  refine mu_scr mc_139_112 h3 h4 ?_
  refine mu_aload (r := some (30)) mc_139_113 (by decide) rfl ?_
  refine mt_call (args := [mm_P 0, mm_I (z2), mm_P 30]) (rest := []) mc_139_114 (by decide) rfl rfl rfl ⟨by simp, rfl, by decide⟩ rfl H ?_
  rintro _ _ ⟨r8, D5, u6, x7, rfl, rfl, H⟩
  refine Or.inl ⟨_, rfl, ?_⟩
  refine mu_store mc_139_115 (by decide) (by simp) (ls' := [some (mm_P 999), some (mm_P 0), some (mm_P 24), some (mm_P 30), some (mm_I (v4)), some (mm_I (r8)), o6]) rfl ?_
  refine mu_aload (r := some (24)) mc_139_116 (by decide) rfl ?_
  refine mu_aload (r := some (999)) mc_139_117 (by decide) rfl ?_
  refine mu_load mc_139_118 (by decide) rfl ?_
  refine mu_const mc_139_119 (by decide) (by decide) ?_
  have h9 := H.1
  replace H := H.2
  refine mu_iadd mc_139_120 h9 ?_
  have h11 := H.1
  replace H := H.2
  obtain ⟨z10, h12, H⟩ := H
  refine mu_scr mc_139_121 h11 h12 ?_
  refine mt_call (args := [mm_P 24, mm_I (z10)]) (rest := []) mc_139_122 (by decide) rfl rfl rfl ⟨by simp, rfl, by decide⟩ (mu_rcv (by decide) rfl (by decide)) H ?_
  rintro _ _ ⟨r16, D13, u14, x15, rfl, rfl, H⟩
  refine Or.inl ⟨_, rfl, ?_⟩
  refine mu_store mc_139_123 (by decide) (by simp) (ls' := [some (mm_P 999), some (mm_P 0), some (mm_P 24), some (mm_P 30), some (mm_I (v4)), some (mm_I (r8)), some (mm_I (r16))]) rfl ?_
  refine mu_aload (r := some (24)) mc_139_124 (by decide) rfl ?_
  refine mt_call (args := [mm_P 24]) (rest := []) mc_139_125 (by decide) rfl rfl rfl ⟨by simp, rfl, by decide⟩ (mu_rcv (by decide) rfl (by decide)) H ?_
  rintro _ _ ⟨r20, D17, u18, x19, rfl, rfl, H⟩
  refine Or.inl ⟨_, rfl, ?_⟩
  refine mu_load mc_139_126 (by decide) rfl ?_
  refine mu_ic_eq mc_139_127 (fun c => ?_) (fun c => ?_)
  · replace H := H.1 c
    refine mu_load mc_139_130 (by decide) rfl ?_
    refine mu_if_ne mc_139_131 (fun c => ?_) (fun c => ?_)
    · replace H := H.1 c
      refine mu_rfl (n := 646) mc_139_141 (by decide) rfl rfl ?_
      exact H
    · replace H := H.2 c
      refine mu_aload (r := some (30)) mc_139_132 (by decide) rfl ?_
      refine mu_const mc_139_133 (by decide) (by decide) ?_
      refine mu_lald mc_139_134 rfl ?_
      refine mu_load mc_139_135 (by decide) rfl ?_
      refine mu_rfl mc_139_136 (by decide) rfl rfl ?_
      refine mu_rfl mc_139_137 (by decide) rfl rfl ?_
      refine mu_if_eq mc_139_138 (fun c => ?_) (fun c => ?_)
      · replace H := H.1 c
        refine mu_rfl (n := 646) mc_139_141 (by decide) rfl rfl ?_
        exact H
      · replace H := H.2 c
        refine mu_const mc_139_139 (by decide) (by decide) ?_
        exact mt_retB mc_139_140 (by decide) H
  · replace H := H.2 c
    refine mu_const mc_139_128 (by decide) (by decide) ?_
    exact mt_retB mc_139_129 (by decide) H

theorem q_L_law_142 {D : mm_D} {u : Int} {x : Nat × (Nat × List Int)} {Q : mm_O → mm_H → Prop} (v4 : Int) (o5 o6 : Option mm_V) (H : (mm_rng ((v4) + ((1 : Int)))) ∧ ((0 ≤ ((v4) + ((1 : Int)))) ∧ (∃ z2, x.2.2[((v4) + ((1 : Int))).toNat + 1]? = some z2 ∧ ((mm_rng ((v4) + ((2 : Int)))) ∧ ((0 ≤ ((v4) + ((2 : Int)))) ∧ (∃ z6, x.2.2[((v4) + ((2 : Int))).toNat + 1]? = some z6 ∧ (mt 127 0 [some (mm_P 0), some (mm_I (z2)), some (mm_I (z6)), some (mm_P 30), none] [] (mm_mk D u x) (mm_pI fun r12 D9 u10 x11 => (mm_rng ((v4) + ((1 : Int)))) ∧ ((0 ≤ ((v4) + ((1 : Int)))) ∧ (∃ z14, x11.2.2[((v4) + ((1 : Int))).toNat + 1]? = some z14 ∧ ((mm_rng ((v4) + ((2 : Int)))) ∧ ((0 ≤ ((v4) + ((2 : Int)))) ∧ (∃ z18, x11.2.2[((v4) + ((2 : Int))).toNat + 1]? = some z18 ∧ (mt 86 0 [some (mm_P 24), some (mm_I (z14)), some (mm_I (z18)), none] [] (mm_mk D9 u10 x11) (mm_pI fun r24 D21 u22 x23 => mt 77 0 [some (mm_P 24)] [] (mm_mk D21 u22 x23) (mm_pI fun r28 D25 u26 x27 => (((r28) = (r12)) → ((¬ (r12) = 0) → mt 139 646 [some (mm_P 999), some (mm_P 0), some (mm_P 24), some (mm_P 30), some (mm_I (v4)), some (mm_I (r12)), some (mm_I (r24))] [] (mm_mk D25 u26 x27) Q) ∧ (¬ (¬ (r12) = 0) → (((mm_cmp (u26) (r24)) = 0) → mt 139 646 [some (mm_P 999), some (mm_P 0), some (mm_P 24), some (mm_P 30), some (mm_I (v4)), some (mm_I (r12)), some (mm_I (r24))] [] (mm_mk D25 u26 x27) Q) ∧ (¬ ((mm_cmp (u26) (r24)) = 0) → Q (.inl (some (mm_I ((0 : Int))))) (mm_mk D25 u26 x27)))) ∧ (¬ ((r28) = (r12)) → Q (.inl (some (mm_I ((0 : Int))))) (mm_mk D25 u26 x27)))))))))))))))))) : mt 139 142 [some (mm_P 999), some (mm_P 0), some (mm_P 24), some (mm_P 30), some (mm_I (v4)), o5, o6] [] (mm_mk D u x) Q := by
  refine mu_aload (r := some (0)) mc_139_142 (by decide) rfl ?_
  refine mu_aload (r := some (999)) mc_139_143 (by decide) rfl ?_
  refine mu_load mc_139_144 (by decide) rfl ?_
  refine mu_const mc_139_145 (by decide) (by decide) ?_
  have h1 := H.1
  replace H := H.2
  refine mu_iadd mc_139_146 h1 ?_
  have h3 := H.1
  replace H := H.2
  obtain ⟨z2, h4, H⟩ := H
  refine mu_scr mc_139_147 h3 h4 ?_
  refine mu_aload (r := some (999)) mc_139_148 (by decide) rfl ?_
  refine mu_load mc_139_149 (by decide) rfl ?_
  refine mu_const mc_139_150 (by decide) (by decide) ?_
  have h5 := H.1
  replace H := H.2
  refine mu_iadd mc_139_151 h5 ?_
  have h7 := H.1
  replace H := H.2
  obtain ⟨z6, h8, H⟩ := H
  refine mu_scr mc_139_152 h7 h8 ?_
  refine mu_aload (r := some (30)) mc_139_153 (by decide) rfl ?_
  refine mt_call (args := [mm_P 0, mm_I (z2), mm_I (z6), mm_P 30]) (rest := []) mc_139_154 (by decide) rfl rfl rfl ⟨by simp, rfl, by decide⟩ rfl H ?_
  rintro _ _ ⟨r12, D9, u10, x11, rfl, rfl, H⟩
  refine Or.inl ⟨_, rfl, ?_⟩
  refine mu_store mc_139_155 (by decide) (by simp) (ls' := [some (mm_P 999), some (mm_P 0), some (mm_P 24), some (mm_P 30), some (mm_I (v4)), some (mm_I (r12)), o6]) rfl ?_
  refine mu_aload (r := some (24)) mc_139_156 (by decide) rfl ?_
  refine mu_aload (r := some (999)) mc_139_157 (by decide) rfl ?_
  refine mu_load mc_139_158 (by decide) rfl ?_
  refine mu_const mc_139_159 (by decide) (by decide) ?_
  have h13 := H.1
  replace H := H.2
  refine mu_iadd mc_139_160 h13 ?_
  have h15 := H.1
  replace H := H.2
  obtain ⟨z14, h16, H⟩ := H
  refine mu_scr mc_139_161 h15 h16 ?_
  refine mu_aload (r := some (999)) mc_139_162 (by decide) rfl ?_
  refine mu_load mc_139_163 (by decide) rfl ?_
  refine mu_const mc_139_164 (by decide) (by decide) ?_
  have h17 := H.1
  replace H := H.2
  refine mu_iadd mc_139_165 h17 ?_
  have h19 := H.1
  replace H := H.2
  obtain ⟨z18, h20, H⟩ := H
  refine mu_scr mc_139_166 h19 h20 ?_
  refine mt_call (args := [mm_P 24, mm_I (z14), mm_I (z18)]) (rest := []) mc_139_167 (by decide) rfl rfl rfl ⟨by simp, rfl, by decide⟩ (mu_rcv (by decide) rfl (by decide)) H ?_
  rintro _ _ ⟨r24, D21, u22, x23, rfl, rfl, H⟩
  refine Or.inl ⟨_, rfl, ?_⟩
  refine mu_store mc_139_168 (by decide) (by simp) (ls' := [some (mm_P 999), some (mm_P 0), some (mm_P 24), some (mm_P 30), some (mm_I (v4)), some (mm_I (r12)), some (mm_I (r24))]) rfl ?_
  refine mu_aload (r := some (24)) mc_139_169 (by decide) rfl ?_
  refine mt_call (args := [mm_P 24]) (rest := []) mc_139_170 (by decide) rfl rfl rfl ⟨by simp, rfl, by decide⟩ (mu_rcv (by decide) rfl (by decide)) H ?_
  rintro _ _ ⟨r28, D25, u26, x27, rfl, rfl, H⟩
  refine Or.inl ⟨_, rfl, ?_⟩
  refine mu_load mc_139_171 (by decide) rfl ?_
  refine mu_ic_eq mc_139_172 (fun c => ?_) (fun c => ?_)
  · replace H := H.1 c
    refine mu_load mc_139_175 (by decide) rfl ?_
    refine mu_if_ne mc_139_176 (fun c => ?_) (fun c => ?_)
    · replace H := H.1 c
      refine mu_rfl (n := 646) mc_139_186 (by decide) rfl rfl ?_
      exact H
    · replace H := H.2 c
      refine mu_aload (r := some (30)) mc_139_177 (by decide) rfl ?_
      refine mu_const mc_139_178 (by decide) (by decide) ?_
      refine mu_lald mc_139_179 rfl ?_
      refine mu_load mc_139_180 (by decide) rfl ?_
      refine mu_rfl mc_139_181 (by decide) rfl rfl ?_
      refine mu_rfl mc_139_182 (by decide) rfl rfl ?_
      refine mu_if_eq mc_139_183 (fun c => ?_) (fun c => ?_)
      · replace H := H.1 c
        refine mu_rfl (n := 646) mc_139_186 (by decide) rfl rfl ?_
        exact H
      · replace H := H.2 c
        refine mu_const mc_139_184 (by decide) (by decide) ?_
        exact mt_retB mc_139_185 (by decide) H
  · replace H := H.2 c
    refine mu_const mc_139_173 (by decide) (by decide) ?_
    exact mt_retB mc_139_174 (by decide) H

theorem q_L_law_187 {D : mm_D} {u : Int} {x : Nat × (Nat × List Int)} {Q : mm_O → mm_H → Prop} (v4 : Int) (o5 o6 : Option mm_V) (H : (mm_rng ((v4) + ((1 : Int)))) ∧ ((0 ≤ ((v4) + ((1 : Int)))) ∧ (∃ z2, x.2.2[((v4) + ((1 : Int))).toNat + 1]? = some z2 ∧ (mt 128 0 [some (mm_P 0), some (mm_I (z2)), some (mm_P 30), none] [] (mm_mk D u x) (mm_pI fun r8 D5 u6 x7 => (mm_rng ((v4) + ((1 : Int)))) ∧ ((0 ≤ ((v4) + ((1 : Int)))) ∧ (∃ z10, x7.2.2[((v4) + ((1 : Int))).toNat + 1]? = some z10 ∧ (mt 87 0 [some (mm_P 24), some (mm_I (z10))] [] (mm_mk D5 u6 x7) (mm_pI fun r16 D13 u14 x15 => mt 77 0 [some (mm_P 24)] [] (mm_mk D13 u14 x15) (mm_pI fun r20 D17 u18 x19 => (((r20) = (r8)) → ((¬ (r8) = 0) → mt 139 646 [some (mm_P 999), some (mm_P 0), some (mm_P 24), some (mm_P 30), some (mm_I (v4)), some (mm_I (r8)), some (mm_I (r16))] [] (mm_mk D17 u18 x19) Q) ∧ (¬ (¬ (r8) = 0) → (((mm_cmp (u18) (r16)) = 0) → mt 139 646 [some (mm_P 999), some (mm_P 0), some (mm_P 24), some (mm_P 30), some (mm_I (v4)), some (mm_I (r8)), some (mm_I (r16))] [] (mm_mk D17 u18 x19) Q) ∧ (¬ ((mm_cmp (u18) (r16)) = 0) → Q (.inl (some (mm_I ((0 : Int))))) (mm_mk D17 u18 x19)))) ∧ (¬ ((r20) = (r8)) → Q (.inl (some (mm_I ((0 : Int))))) (mm_mk D17 u18 x19)))))))))))) : mt 139 187 [some (mm_P 999), some (mm_P 0), some (mm_P 24), some (mm_P 30), some (mm_I (v4)), o5, o6] [] (mm_mk D u x) Q := by
  refine mu_aload (r := some (0)) mc_139_187 (by decide) rfl ?_
  refine mu_aload (r := some (999)) mc_139_188 (by decide) rfl ?_
  refine mu_load mc_139_189 (by decide) rfl ?_
  refine mu_const mc_139_190 (by decide) (by decide) ?_
  have h1 := H.1
  replace H := H.2
  refine mu_iadd mc_139_191 h1 ?_
  have h3 := H.1
  replace H := H.2
  obtain ⟨z2, h4, H⟩ := H
  refine mu_scr mc_139_192 h3 h4 ?_
  refine mu_aload (r := some (30)) mc_139_193 (by decide) rfl ?_
  refine mt_call (args := [mm_P 0, mm_I (z2), mm_P 30]) (rest := []) mc_139_194 (by decide) rfl rfl rfl ⟨by simp, rfl, by decide⟩ rfl H ?_
  rintro _ _ ⟨r8, D5, u6, x7, rfl, rfl, H⟩
  refine Or.inl ⟨_, rfl, ?_⟩
  refine mu_store mc_139_195 (by decide) (by simp) (ls' := [some (mm_P 999), some (mm_P 0), some (mm_P 24), some (mm_P 30), some (mm_I (v4)), some (mm_I (r8)), o6]) rfl ?_
  refine mu_aload (r := some (24)) mc_139_196 (by decide) rfl ?_
  refine mu_aload (r := some (999)) mc_139_197 (by decide) rfl ?_
  refine mu_load mc_139_198 (by decide) rfl ?_
  refine mu_const mc_139_199 (by decide) (by decide) ?_
  have h9 := H.1
  replace H := H.2
  refine mu_iadd mc_139_200 h9 ?_
  have h11 := H.1
  replace H := H.2
  obtain ⟨z10, h12, H⟩ := H
  refine mu_scr mc_139_201 h11 h12 ?_
  refine mt_call (args := [mm_P 24, mm_I (z10)]) (rest := []) mc_139_202 (by decide) rfl rfl rfl ⟨by simp, rfl, by decide⟩ (mu_rcv (by decide) rfl (by decide)) H ?_
  rintro _ _ ⟨r16, D13, u14, x15, rfl, rfl, H⟩
  refine Or.inl ⟨_, rfl, ?_⟩
  refine mu_store mc_139_203 (by decide) (by simp) (ls' := [some (mm_P 999), some (mm_P 0), some (mm_P 24), some (mm_P 30), some (mm_I (v4)), some (mm_I (r8)), some (mm_I (r16))]) rfl ?_
  refine mu_aload (r := some (24)) mc_139_204 (by decide) rfl ?_
  refine mt_call (args := [mm_P 24]) (rest := []) mc_139_205 (by decide) rfl rfl rfl ⟨by simp, rfl, by decide⟩ (mu_rcv (by decide) rfl (by decide)) H ?_
  rintro _ _ ⟨r20, D17, u18, x19, rfl, rfl, H⟩
  refine Or.inl ⟨_, rfl, ?_⟩
  refine mu_load mc_139_206 (by decide) rfl ?_
  refine mu_ic_eq mc_139_207 (fun c => ?_) (fun c => ?_)
  · replace H := H.1 c
    refine mu_load mc_139_210 (by decide) rfl ?_
    refine mu_if_ne mc_139_211 (fun c => ?_) (fun c => ?_)
    · replace H := H.1 c
      refine mu_rfl (n := 646) mc_139_221 (by decide) rfl rfl ?_
      exact H
    · replace H := H.2 c
      refine mu_aload (r := some (30)) mc_139_212 (by decide) rfl ?_
      refine mu_const mc_139_213 (by decide) (by decide) ?_
      refine mu_lald mc_139_214 rfl ?_
      refine mu_load mc_139_215 (by decide) rfl ?_
      refine mu_rfl mc_139_216 (by decide) rfl rfl ?_
      refine mu_rfl mc_139_217 (by decide) rfl rfl ?_
      refine mu_if_eq mc_139_218 (fun c => ?_) (fun c => ?_)
      · replace H := H.1 c
        refine mu_rfl (n := 646) mc_139_221 (by decide) rfl rfl ?_
        exact H
      · replace H := H.2 c
        refine mu_const mc_139_219 (by decide) (by decide) ?_
        exact mt_retB mc_139_220 (by decide) H
  · replace H := H.2 c
    refine mu_const mc_139_208 (by decide) (by decide) ?_
    exact mt_retB mc_139_209 (by decide) H

theorem q_L_law_222 {D : mm_D} {u : Int} {x : Nat × (Nat × List Int)} {Q : mm_O → mm_H → Prop} (v4 : Int) (o5 o6 : Option mm_V) (H : mt 129 0 [some (mm_P 0), some (mm_P 30), none] [] (mm_mk D u x) (mm_pI fun r4 D1 u2 x3 => mt 88 0 [some (mm_P 24)] [] (mm_mk D1 u2 x3) (mm_pI fun r8 D5 u6 x7 => mt 77 0 [some (mm_P 24)] [] (mm_mk D5 u6 x7) (mm_pI fun r12 D9 u10 x11 => (((r12) = (r4)) → ((¬ (r4) = 0) → mt 139 646 [some (mm_P 999), some (mm_P 0), some (mm_P 24), some (mm_P 30), some (mm_I (v4)), some (mm_I (r4)), some (mm_I (r8))] [] (mm_mk D9 u10 x11) Q) ∧ (¬ (¬ (r4) = 0) → (((mm_cmp (u10) (r8)) = 0) → mt 139 646 [some (mm_P 999), some (mm_P 0), some (mm_P 24), some (mm_P 30), some (mm_I (v4)), some (mm_I (r4)), some (mm_I (r8))] [] (mm_mk D9 u10 x11) Q) ∧ (¬ ((mm_cmp (u10) (r8)) = 0) → Q (.inl (some (mm_I ((0 : Int))))) (mm_mk D9 u10 x11)))) ∧ (¬ ((r12) = (r4)) → Q (.inl (some (mm_I ((0 : Int))))) (mm_mk D9 u10 x11)))))) : mt 139 222 [some (mm_P 999), some (mm_P 0), some (mm_P 24), some (mm_P 30), some (mm_I (v4)), o5, o6] [] (mm_mk D u x) Q := by
  refine mu_aload (r := some (0)) mc_139_222 (by decide) rfl ?_
  refine mu_aload (r := some (30)) mc_139_223 (by decide) rfl ?_
  refine mt_call (args := [mm_P 0, mm_P 30]) (rest := []) mc_139_224 (by decide) rfl rfl rfl ⟨by simp, rfl, by decide⟩ rfl H ?_
  rintro _ _ ⟨r4, D1, u2, x3, rfl, rfl, H⟩
  refine Or.inl ⟨_, rfl, ?_⟩
  refine mu_store mc_139_225 (by decide) (by simp) (ls' := [some (mm_P 999), some (mm_P 0), some (mm_P 24), some (mm_P 30), some (mm_I (v4)), some (mm_I (r4)), o6]) rfl ?_
  refine mu_aload (r := some (24)) mc_139_226 (by decide) rfl ?_
  refine mt_call (args := [mm_P 24]) (rest := []) mc_139_227 (by decide) rfl rfl rfl ⟨by simp, rfl, by decide⟩ (mu_rcv (by decide) rfl (by decide)) H ?_
  rintro _ _ ⟨r8, D5, u6, x7, rfl, rfl, H⟩
  refine Or.inl ⟨_, rfl, ?_⟩
  refine mu_store mc_139_228 (by decide) (by simp) (ls' := [some (mm_P 999), some (mm_P 0), some (mm_P 24), some (mm_P 30), some (mm_I (v4)), some (mm_I (r4)), some (mm_I (r8))]) rfl ?_
  refine mu_aload (r := some (24)) mc_139_229 (by decide) rfl ?_
  refine mt_call (args := [mm_P 24]) (rest := []) mc_139_230 (by decide) rfl rfl rfl ⟨by simp, rfl, by decide⟩ (mu_rcv (by decide) rfl (by decide)) H ?_
  rintro _ _ ⟨r12, D9, u10, x11, rfl, rfl, H⟩
  refine Or.inl ⟨_, rfl, ?_⟩
  refine mu_load mc_139_231 (by decide) rfl ?_
  refine mu_ic_eq mc_139_232 (fun c => ?_) (fun c => ?_)
  · replace H := H.1 c
    refine mu_load mc_139_235 (by decide) rfl ?_
    refine mu_if_ne mc_139_236 (fun c => ?_) (fun c => ?_)
    · replace H := H.1 c
      refine mu_rfl (n := 646) mc_139_246 (by decide) rfl rfl ?_
      exact H
    · replace H := H.2 c
      refine mu_aload (r := some (30)) mc_139_237 (by decide) rfl ?_
      refine mu_const mc_139_238 (by decide) (by decide) ?_
      refine mu_lald mc_139_239 rfl ?_
      refine mu_load mc_139_240 (by decide) rfl ?_
      refine mu_rfl mc_139_241 (by decide) rfl rfl ?_
      refine mu_rfl mc_139_242 (by decide) rfl rfl ?_
      refine mu_if_eq mc_139_243 (fun c => ?_) (fun c => ?_)
      · replace H := H.1 c
        refine mu_rfl (n := 646) mc_139_246 (by decide) rfl rfl ?_
        exact H
      · replace H := H.2 c
        refine mu_const mc_139_244 (by decide) (by decide) ?_
        exact mt_retB mc_139_245 (by decide) H
  · replace H := H.2 c
    refine mu_const mc_139_233 (by decide) (by decide) ?_
    exact mt_retB mc_139_234 (by decide) H

theorem q_L_law_247 {D : mm_D} {u : Int} {x : Nat × (Nat × List Int)} {Q : mm_O → mm_H → Prop} (v4 : Int) (o5 o6 : Option mm_V) (H : mt 50 0 [some (mm_P 0), none] [] (mm_mk D u x) (mm_pI fun r4 D1 u2 x3 => mt 89 0 [some (mm_P 24), none] [] (mm_mk D1 u2 x3) (mm_pI fun r8 D5 u6 x7 => (((r4) = (r8)) → mt 139 646 [some (mm_P 999), some (mm_P 0), some (mm_P 24), some (mm_P 30), some (mm_I (v4)), o5, o6] [] (mm_mk D5 u6 x7) Q) ∧ (¬ ((r4) = (r8)) → Q (.inl (some (mm_I ((0 : Int))))) (mm_mk D5 u6 x7))))) : mt 139 247 [some (mm_P 999), some (mm_P 0), some (mm_P 24), some (mm_P 30), some (mm_I (v4)), o5, o6] [] (mm_mk D u x) Q := by
  refine mu_aload (r := some (0)) mc_139_247 (by decide) rfl ?_
  refine mt_call (args := [mm_P 0]) (rest := []) mc_139_248 (by decide) rfl rfl rfl ⟨by simp, rfl, by decide⟩ (mu_rcv (by decide) rfl (by decide)) H ?_
  rintro _ _ ⟨r4, D1, u2, x3, rfl, rfl, H⟩
  refine Or.inl ⟨_, rfl, ?_⟩
  refine mu_aload (r := some (24)) mc_139_249 (by decide) rfl ?_
  refine mt_call (args := [mm_P 24]) (rest := [mm_I (r4)]) mc_139_250 (by decide) rfl rfl rfl ⟨by simp, rfl, by decide⟩ (mu_rcv (by decide) rfl (by decide)) H ?_
  rintro _ _ ⟨r8, D5, u6, x7, rfl, rfl, H⟩
  refine Or.inl ⟨_, rfl, ?_⟩
  refine mu_ic_eq mc_139_251 (fun c => ?_) (fun c => ?_)
  · replace H := H.1 c
    exact H
  · replace H := H.2 c
    refine mu_const mc_139_252 (by decide) (by decide) ?_
    exact mt_retB mc_139_253 (by decide) H

theorem q_L_law_254 {D : mm_D} {u : Int} {x : Nat × (Nat × List Int)} {Q : mm_O → mm_H → Prop} (v4 : Int) (o5 o6 : Option mm_V) (H : (mm_rng ((v4) + ((1 : Int)))) ∧ ((0 ≤ ((v4) + ((1 : Int)))) ∧ (∃ z2, x.2.2[((v4) + ((1 : Int))).toNat + 1]? = some z2 ∧ ((mm_rng ((v4) + ((2 : Int)))) ∧ ((0 ≤ ((v4) + ((2 : Int)))) ∧ (∃ z6, x.2.2[((v4) + ((2 : Int))).toNat + 1]? = some z6 ∧ ((mm_rng ((v4) + ((3 : Int)))) ∧ ((0 ≤ ((v4) + ((3 : Int)))) ∧ (∃ z10, x.2.2[((v4) + ((3 : Int))).toNat + 1]? = some z10 ∧ (mt 130 0 [some (mm_P 0), some (mm_I (z2)), some (mm_I (z6)), some (mm_I (z10)), none] [] (mm_mk D u x) (mm_pI fun r16 D13 u14 x15 => (mm_rng ((v4) + ((1 : Int)))) ∧ ((0 ≤ ((v4) + ((1 : Int)))) ∧ (∃ z18, x15.2.2[((v4) + ((1 : Int))).toNat + 1]? = some z18 ∧ ((mm_rng ((v4) + ((2 : Int)))) ∧ ((0 ≤ ((v4) + ((2 : Int)))) ∧ (∃ z22, x15.2.2[((v4) + ((2 : Int))).toNat + 1]? = some z22 ∧ ((mm_rng ((v4) + ((3 : Int)))) ∧ ((0 ≤ ((v4) + ((3 : Int)))) ∧ (∃ z26, x15.2.2[((v4) + ((3 : Int))).toNat + 1]? = some z26 ∧ (mt 91 0 [some (mm_P 24), some (mm_I (z18)), some (mm_I (z22)), some (mm_I (z26)), none] [] (mm_mk D13 u14 x15) (mm_pV fun D29 u30 x31 => mt 77 0 [some (mm_P 24)] [] (mm_mk D29 u30 x31) (mm_pI fun r36 D33 u34 x35 => (((r36) = (r16)) → mt 139 646 [some (mm_P 999), some (mm_P 0), some (mm_P 24), some (mm_P 30), some (mm_I (v4)), some (mm_I (r16)), o6] [] (mm_mk D33 u34 x35) Q) ∧ (¬ ((r36) = (r16)) → Q (.inl (some (mm_I ((0 : Int))))) (mm_mk D33 u34 x35)))))))))))))))))))))))) : mt 139 254 [some (mm_P 999), some (mm_P 0), some (mm_P 24), some (mm_P 30), some (mm_I (v4)), o5, o6] [] (mm_mk D u x) Q := by
  refine mu_aload (r := some (0)) mc_139_254 (by decide) rfl ?_
  refine mu_aload (r := some (999)) mc_139_255 (by decide) rfl ?_
  refine mu_load mc_139_256 (by decide) rfl ?_
  refine mu_const mc_139_257 (by decide) (by decide) ?_
  have h1 := H.1
  replace H := H.2
  refine mu_iadd mc_139_258 h1 ?_
  have h3 := H.1
  replace H := H.2
  obtain ⟨z2, h4, H⟩ := H
  refine mu_scr mc_139_259 h3 h4 ?_
  refine mu_aload (r := some (999)) mc_139_260 (by decide) rfl ?_
  refine mu_load mc_139_261 (by decide) rfl ?_
  refine mu_const mc_139_262 (by decide) (by decide) ?_
  have h5 := H.1
  replace H := H.2
  refine mu_iadd mc_139_263 h5 ?_
  have h7 := H.1
  replace H := H.2
  obtain ⟨z6, h8, H⟩ := H
  refine mu_scr mc_139_264 h7 h8 ?_
  refine mu_aload (r := some (999)) mc_139_265 (by decide) rfl ?_
  refine mu_load mc_139_266 (by decide) rfl ?_
  refine mu_const mc_139_267 (by decide) (by decide) ?_
  have h9 := H.1
  replace H := H.2
  refine mu_iadd mc_139_268 h9 ?_
  have h11 := H.1
  replace H := H.2
  obtain ⟨z10, h12, H⟩ := H
  refine mu_scr mc_139_269 h11 h12 ?_
  refine mt_call (args := [mm_P 0, mm_I (z2), mm_I (z6), mm_I (z10)]) (rest := []) mc_139_270 (by decide) rfl rfl rfl ⟨by simp, rfl, by decide⟩ rfl H ?_
  rintro _ _ ⟨r16, D13, u14, x15, rfl, rfl, H⟩
  refine Or.inl ⟨_, rfl, ?_⟩
  refine mu_store mc_139_271 (by decide) (by simp) (ls' := [some (mm_P 999), some (mm_P 0), some (mm_P 24), some (mm_P 30), some (mm_I (v4)), some (mm_I (r16)), o6]) rfl ?_
  refine mu_aload (r := some (24)) mc_139_272 (by decide) rfl ?_
  refine mu_aload (r := some (999)) mc_139_273 (by decide) rfl ?_
  refine mu_load mc_139_274 (by decide) rfl ?_
  refine mu_const mc_139_275 (by decide) (by decide) ?_
  have h17 := H.1
  replace H := H.2
  refine mu_iadd mc_139_276 h17 ?_
  have h19 := H.1
  replace H := H.2
  obtain ⟨z18, h20, H⟩ := H
  refine mu_scr mc_139_277 h19 h20 ?_
  refine mu_aload (r := some (999)) mc_139_278 (by decide) rfl ?_
  refine mu_load mc_139_279 (by decide) rfl ?_
  refine mu_const mc_139_280 (by decide) (by decide) ?_
  have h21 := H.1
  replace H := H.2
  refine mu_iadd mc_139_281 h21 ?_
  have h23 := H.1
  replace H := H.2
  obtain ⟨z22, h24, H⟩ := H
  refine mu_scr mc_139_282 h23 h24 ?_
  refine mu_aload (r := some (999)) mc_139_283 (by decide) rfl ?_
  refine mu_load mc_139_284 (by decide) rfl ?_
  refine mu_const mc_139_285 (by decide) (by decide) ?_
  have h25 := H.1
  replace H := H.2
  refine mu_iadd mc_139_286 h25 ?_
  have h27 := H.1
  replace H := H.2
  obtain ⟨z26, h28, H⟩ := H
  refine mu_scr mc_139_287 h27 h28 ?_
  refine mt_call (args := [mm_P 24, mm_I (z18), mm_I (z22), mm_I (z26)]) (rest := []) mc_139_288 (by decide) rfl rfl rfl ⟨by simp, rfl, by decide⟩ (mu_rcv (by decide) rfl (by decide)) H ?_
  rintro _ _ ⟨D29, u30, x31, rfl, rfl, H⟩
  refine Or.inl ⟨_, rfl, ?_⟩
  refine mu_aload (r := some (24)) mc_139_289 (by decide) rfl ?_
  refine mt_call (args := [mm_P 24]) (rest := []) mc_139_290 (by decide) rfl rfl rfl ⟨by simp, rfl, by decide⟩ (mu_rcv (by decide) rfl (by decide)) H ?_
  rintro _ _ ⟨r36, D33, u34, x35, rfl, rfl, H⟩
  refine Or.inl ⟨_, rfl, ?_⟩
  refine mu_load mc_139_291 (by decide) rfl ?_
  refine mu_ic_eq mc_139_292 (fun c => ?_) (fun c => ?_)
  · replace H := H.1 c
    refine mu_rfl (n := 646) mc_139_295 (by decide) rfl rfl ?_
    exact H
  · replace H := H.2 c
    refine mu_const mc_139_293 (by decide) (by decide) ?_
    exact mt_retB mc_139_294 (by decide) H

theorem q_L_law_296 {D : mm_D} {u : Int} {x : Nat × (Nat × List Int)} {Q : mm_O → mm_H → Prop} (v4 : Int) (o5 o6 : Option mm_V) (H : mt 52 0 [some (mm_P 0)] [] (mm_mk D u x) (mm_pI fun r4 D1 u2 x3 => mt 92 0 [some (mm_P 24)] [] (mm_mk D1 u2 x3) (mm_pI fun r8 D5 u6 x7 => (((r4) = (r8)) → mt 139 646 [some (mm_P 999), some (mm_P 0), some (mm_P 24), some (mm_P 30), some (mm_I (v4)), o5, o6] [] (mm_mk D5 u6 x7) Q) ∧ (¬ ((r4) = (r8)) → Q (.inl (some (mm_I ((0 : Int))))) (mm_mk D5 u6 x7))))) : mt 139 296 [some (mm_P 999), some (mm_P 0), some (mm_P 24), some (mm_P 30), some (mm_I (v4)), o5, o6] [] (mm_mk D u x) Q := by
  refine mu_aload (r := some (0)) mc_139_296 (by decide) rfl ?_
  refine mt_call (args := [mm_P 0]) (rest := []) mc_139_297 (by decide) rfl rfl rfl ⟨by simp, rfl, by decide⟩ (mu_rcv (by decide) rfl (by decide)) H ?_
  rintro _ _ ⟨r4, D1, u2, x3, rfl, rfl, H⟩
  refine Or.inl ⟨_, rfl, ?_⟩
  refine mu_aload (r := some (24)) mc_139_298 (by decide) rfl ?_
  refine mt_call (args := [mm_P 24]) (rest := [mm_I (r4)]) mc_139_299 (by decide) rfl rfl rfl ⟨by simp, rfl, by decide⟩ (mu_rcv (by decide) rfl (by decide)) H ?_
  rintro _ _ ⟨r8, D5, u6, x7, rfl, rfl, H⟩
  refine Or.inl ⟨_, rfl, ?_⟩
  refine mu_ic_eq mc_139_300 (fun c => ?_) (fun c => ?_)
  · replace H := H.1 c
    exact H
  · replace H := H.2 c
    refine mu_const mc_139_301 (by decide) (by decide) ?_
    exact mt_retB mc_139_302 (by decide) H

theorem q_L_law_303 {D : mm_D} {u : Int} {x : Nat × (Nat × List Int)} {Q : mm_O → mm_H → Prop} (v4 : Int) (o5 o6 : Option mm_V) (H : (mm_rng ((v4) + ((1 : Int)))) ∧ ((0 ≤ ((v4) + ((1 : Int)))) ∧ (∃ z2, x.2.2[((v4) + ((1 : Int))).toNat + 1]? = some z2 ∧ (mt 131 0 [some (mm_P 0), some (mm_I (z2)), some (mm_P 30), none] [] (mm_mk D u x) (mm_pI fun r8 D5 u6 x7 => (mm_rng ((v4) + ((1 : Int)))) ∧ ((0 ≤ ((v4) + ((1 : Int)))) ∧ (∃ z10, x7.2.2[((v4) + ((1 : Int))).toNat + 1]? = some z10 ∧ (mt 93 0 [some (mm_P 24), some (mm_I (z10))] [] (mm_mk D5 u6 x7) (mm_pI fun r16 D13 u14 x15 => mt 77 0 [some (mm_P 24)] [] (mm_mk D13 u14 x15) (mm_pI fun r20 D17 u18 x19 => (((r20) = (r8)) → ((¬ (r8) = 0) → mt 139 646 [some (mm_P 999), some (mm_P 0), some (mm_P 24), some (mm_P 30), some (mm_I (v4)), some (mm_I (r8)), some (mm_I (r16))] [] (mm_mk D17 u18 x19) Q) ∧ (¬ (¬ (r8) = 0) → (((mm_cmp (u18) (r16)) = 0) → mt 139 646 [some (mm_P 999), some (mm_P 0), some (mm_P 24), some (mm_P 30), some (mm_I (v4)), some (mm_I (r8)), some (mm_I (r16))] [] (mm_mk D17 u18 x19) Q) ∧ (¬ ((mm_cmp (u18) (r16)) = 0) → Q (.inl (some (mm_I ((0 : Int))))) (mm_mk D17 u18 x19)))) ∧ (¬ ((r20) = (r8)) → Q (.inl (some (mm_I ((0 : Int))))) (mm_mk D17 u18 x19)))))))))))) : mt 139 303 [some (mm_P 999), some (mm_P 0), some (mm_P 24), some (mm_P 30), some (mm_I (v4)), o5, o6] [] (mm_mk D u x) Q := by
  refine mu_aload (r := some (0)) mc_139_303 (by decide) rfl ?_
  refine mu_aload (r := some (999)) mc_139_304 (by decide) rfl ?_
  refine mu_load mc_139_305 (by decide) rfl ?_
  refine mu_const mc_139_306 (by decide) (by decide) ?_
  have h1 := H.1
  replace H := H.2
  refine mu_iadd mc_139_307 h1 ?_
  have h3 := H.1
  replace H := H.2
  obtain ⟨z2, h4, H⟩ := H
  refine mu_scr mc_139_308 h3 h4 ?_
  refine mu_aload (r := some (30)) mc_139_309 (by decide) rfl ?_
  refine mt_call (args := [mm_P 0, mm_I (z2), mm_P 30]) (rest := []) mc_139_310 (by decide) rfl rfl rfl ⟨by simp, rfl, by decide⟩ rfl H ?_
  rintro _ _ ⟨r8, D5, u6, x7, rfl, rfl, H⟩
  refine Or.inl ⟨_, rfl, ?_⟩
  refine mu_store mc_139_311 (by decide) (by simp) (ls' := [some (mm_P 999), some (mm_P 0), some (mm_P 24), some (mm_P 30), some (mm_I (v4)), some (mm_I (r8)), o6]) rfl ?_
  refine mu_aload (r := some (24)) mc_139_312 (by decide) rfl ?_
  refine mu_aload (r := some (999)) mc_139_313 (by decide) rfl ?_
  refine mu_load mc_139_314 (by decide) rfl ?_
  refine mu_const mc_139_315 (by decide) (by decide) ?_
  have h9 := H.1
  replace H := H.2
  refine mu_iadd mc_139_316 h9 ?_
  have h11 := H.1
  replace H := H.2
  obtain ⟨z10, h12, H⟩ := H
  refine mu_scr mc_139_317 h11 h12 ?_
  refine mt_call (args := [mm_P 24, mm_I (z10)]) (rest := []) mc_139_318 (by decide) rfl rfl rfl ⟨by simp, rfl, by decide⟩ (mu_rcv (by decide) rfl (by decide)) H ?_
  rintro _ _ ⟨r16, D13, u14, x15, rfl, rfl, H⟩
  refine Or.inl ⟨_, rfl, ?_⟩
  refine mu_store mc_139_319 (by decide) (by simp) (ls' := [some (mm_P 999), some (mm_P 0), some (mm_P 24), some (mm_P 30), some (mm_I (v4)), some (mm_I (r8)), some (mm_I (r16))]) rfl ?_
  refine mu_aload (r := some (24)) mc_139_320 (by decide) rfl ?_
  refine mt_call (args := [mm_P 24]) (rest := []) mc_139_321 (by decide) rfl rfl rfl ⟨by simp, rfl, by decide⟩ (mu_rcv (by decide) rfl (by decide)) H ?_
  rintro _ _ ⟨r20, D17, u18, x19, rfl, rfl, H⟩
  refine Or.inl ⟨_, rfl, ?_⟩
  refine mu_load mc_139_322 (by decide) rfl ?_
  refine mu_ic_eq mc_139_323 (fun c => ?_) (fun c => ?_)
  · replace H := H.1 c
    refine mu_load mc_139_326 (by decide) rfl ?_
    refine mu_if_ne mc_139_327 (fun c => ?_) (fun c => ?_)
    · replace H := H.1 c
      refine mu_rfl (n := 646) mc_139_337 (by decide) rfl rfl ?_
      exact H
    · replace H := H.2 c
      refine mu_aload (r := some (30)) mc_139_328 (by decide) rfl ?_
      refine mu_const mc_139_329 (by decide) (by decide) ?_
      refine mu_lald mc_139_330 rfl ?_
      refine mu_load mc_139_331 (by decide) rfl ?_
      refine mu_rfl mc_139_332 (by decide) rfl rfl ?_
      refine mu_rfl mc_139_333 (by decide) rfl rfl ?_
      refine mu_if_eq mc_139_334 (fun c => ?_) (fun c => ?_)
      · replace H := H.1 c
        refine mu_rfl (n := 646) mc_139_337 (by decide) rfl rfl ?_
        exact H
      · replace H := H.2 c
        refine mu_const mc_139_335 (by decide) (by decide) ?_
        exact mt_retB mc_139_336 (by decide) H
  · replace H := H.2 c
    refine mu_const mc_139_324 (by decide) (by decide) ?_
    exact mt_retB mc_139_325 (by decide) H

theorem q_L_law_338 {D : mm_D} {u : Int} {x : Nat × (Nat × List Int)} {Q : mm_O → mm_H → Prop} (v4 : Int) (o5 o6 : Option mm_V) (H : mt 54 0 [some (mm_P 0)] [] (mm_mk D u x) (mm_pI fun r4 D1 u2 x3 => mt 97 0 [some (mm_P 24)] [] (mm_mk D1 u2 x3) (mm_pI fun r8 D5 u6 x7 => (((r4) = (r8)) → mt 139 646 [some (mm_P 999), some (mm_P 0), some (mm_P 24), some (mm_P 30), some (mm_I (v4)), o5, o6] [] (mm_mk D5 u6 x7) Q) ∧ (¬ ((r4) = (r8)) → Q (.inl (some (mm_I ((0 : Int))))) (mm_mk D5 u6 x7))))) : mt 139 338 [some (mm_P 999), some (mm_P 0), some (mm_P 24), some (mm_P 30), some (mm_I (v4)), o5, o6] [] (mm_mk D u x) Q := by
  refine mu_aload (r := some (0)) mc_139_338 (by decide) rfl ?_
  refine mt_call (args := [mm_P 0]) (rest := []) mc_139_339 (by decide) rfl rfl rfl ⟨by simp, rfl, by decide⟩ (mu_rcv (by decide) rfl (by decide)) H ?_
  rintro _ _ ⟨r4, D1, u2, x3, rfl, rfl, H⟩
  refine Or.inl ⟨_, rfl, ?_⟩
  refine mu_aload (r := some (24)) mc_139_340 (by decide) rfl ?_
  refine mt_call (args := [mm_P 24]) (rest := [mm_I (r4)]) mc_139_341 (by decide) rfl rfl rfl ⟨by simp, rfl, by decide⟩ (mu_rcv (by decide) rfl (by decide)) H ?_
  rintro _ _ ⟨r8, D5, u6, x7, rfl, rfl, H⟩
  refine Or.inl ⟨_, rfl, ?_⟩
  refine mu_ic_eq mc_139_342 (fun c => ?_) (fun c => ?_)
  · replace H := H.1 c
    exact H
  · replace H := H.2 c
    refine mu_const mc_139_343 (by decide) (by decide) ?_
    exact mt_retB mc_139_344 (by decide) H

theorem q_L_law_345 {D : mm_D} {u : Int} {x : Nat × (Nat × List Int)} {Q : mm_O → mm_H → Prop} (v4 : Int) (o5 o6 : Option mm_V) (H : mt 55 0 [some (mm_P 0)] [] (mm_mk D u x) (mm_pI fun r4 D1 u2 x3 => mt 98 0 [some (mm_P 24)] [] (mm_mk D1 u2 x3) (mm_pI fun r8 D5 u6 x7 => (((r4) = (r8)) → mt 139 646 [some (mm_P 999), some (mm_P 0), some (mm_P 24), some (mm_P 30), some (mm_I (v4)), o5, o6] [] (mm_mk D5 u6 x7) Q) ∧ (¬ ((r4) = (r8)) → Q (.inl (some (mm_I ((0 : Int))))) (mm_mk D5 u6 x7))))) : mt 139 345 [some (mm_P 999), some (mm_P 0), some (mm_P 24), some (mm_P 30), some (mm_I (v4)), o5, o6] [] (mm_mk D u x) Q := by
  refine mu_aload (r := some (0)) mc_139_345 (by decide) rfl ?_
  refine mt_call (args := [mm_P 0]) (rest := []) mc_139_346 (by decide) rfl rfl rfl ⟨by simp, rfl, by decide⟩ (mu_rcv (by decide) rfl (by decide)) H ?_
  rintro _ _ ⟨r4, D1, u2, x3, rfl, rfl, H⟩
  refine Or.inl ⟨_, rfl, ?_⟩
  refine mu_aload (r := some (24)) mc_139_347 (by decide) rfl ?_
  refine mt_call (args := [mm_P 24]) (rest := [mm_I (r4)]) mc_139_348 (by decide) rfl rfl rfl ⟨by simp, rfl, by decide⟩ (mu_rcv (by decide) rfl (by decide)) H ?_
  rintro _ _ ⟨r8, D5, u6, x7, rfl, rfl, H⟩
  refine Or.inl ⟨_, rfl, ?_⟩
  refine mu_ic_eq mc_139_349 (fun c => ?_) (fun c => ?_)
  · replace H := H.1 c
    exact H
  · replace H := H.2 c
    refine mu_const mc_139_350 (by decide) (by decide) ?_
    exact mt_retB mc_139_351 (by decide) H

theorem q_L_law_352 {D : mm_D} {u : Int} {x : Nat × (Nat × List Int)} {Q : mm_O → mm_H → Prop} (v4 : Int) (o5 o6 : Option mm_V) (H : (mm_rng ((v4) + ((1 : Int)))) ∧ ((0 ≤ ((v4) + ((1 : Int)))) ∧ (∃ z2, x.2.2[((v4) + ((1 : Int))).toNat + 1]? = some z2 ∧ (mt 132 0 [some (mm_P 0), some (mm_I (z2)), some (mm_P 30), none] [] (mm_mk D u x) (mm_pI fun r8 D5 u6 x7 => (mm_rng ((v4) + ((1 : Int)))) ∧ ((0 ≤ ((v4) + ((1 : Int)))) ∧ (∃ z10, x7.2.2[((v4) + ((1 : Int))).toNat + 1]? = some z10 ∧ (mt 99 0 [some (mm_P 24), some (mm_I (z10))] [] (mm_mk D5 u6 x7) (mm_pI fun r16 D13 u14 x15 => mt 77 0 [some (mm_P 24)] [] (mm_mk D13 u14 x15) (mm_pI fun r20 D17 u18 x19 => (((r20) = (r8)) → ((¬ (r8) = 0) → mt 139 646 [some (mm_P 999), some (mm_P 0), some (mm_P 24), some (mm_P 30), some (mm_I (v4)), some (mm_I (r8)), some (mm_I (r16))] [] (mm_mk D17 u18 x19) Q) ∧ (¬ (¬ (r8) = 0) → (((mm_cmp (u18) (r16)) = 0) → mt 139 646 [some (mm_P 999), some (mm_P 0), some (mm_P 24), some (mm_P 30), some (mm_I (v4)), some (mm_I (r8)), some (mm_I (r16))] [] (mm_mk D17 u18 x19) Q) ∧ (¬ ((mm_cmp (u18) (r16)) = 0) → Q (.inl (some (mm_I ((0 : Int))))) (mm_mk D17 u18 x19)))) ∧ (¬ ((r20) = (r8)) → Q (.inl (some (mm_I ((0 : Int))))) (mm_mk D17 u18 x19)))))))))))) : mt 139 352 [some (mm_P 999), some (mm_P 0), some (mm_P 24), some (mm_P 30), some (mm_I (v4)), o5, o6] [] (mm_mk D u x) Q := by
  refine mu_aload (r := some (0)) mc_139_352 (by decide) rfl ?_
  refine mu_aload (r := some (999)) mc_139_353 (by decide) rfl ?_
  refine mu_load mc_139_354 (by decide) rfl ?_
  refine mu_const mc_139_355 (by decide) (by decide) ?_
  have h1 := H.1
  replace H := H.2
  refine mu_iadd mc_139_356 h1 ?_
  have h3 := H.1
  replace H := H.2
  obtain ⟨z2, h4, H⟩ := H
  refine mu_scr mc_139_357 h3 h4 ?_
  refine mu_aload (r := some (30)) mc_139_358 (by decide) rfl ?_
  refine mt_call (args := [mm_P 0, mm_I (z2), mm_P 30]) (rest := []) mc_139_359 (by decide) rfl rfl rfl ⟨by simp, rfl, by decide⟩ rfl H ?_
  rintro _ _ ⟨r8, D5, u6, x7, rfl, rfl, H⟩
  refine Or.inl ⟨_, rfl, ?_⟩
  refine mu_store mc_139_360 (by decide) (by simp) (ls' := [some (mm_P 999), some (mm_P 0), some (mm_P 24), some (mm_P 30), some (mm_I (v4)), some (mm_I (r8)), o6]) rfl ?_
  refine mu_aload (r := some (24)) mc_139_361 (by decide) rfl ?_
  refine mu_aload (r := some (999)) mc_139_362 (by decide) rfl ?_
  refine mu_load mc_139_363 (by decide) rfl ?_
  refine mu_const mc_139_364 (by decide) (by decide) ?_
  have h9 := H.1
  replace H := H.2
  refine mu_iadd mc_139_365 h9 ?_
  have h11 := H.1
  replace H := H.2
  obtain ⟨z10, h12, H⟩ := H
  refine mu_scr mc_139_366 h11 h12 ?_
  refine mt_call (args := [mm_P 24, mm_I (z10)]) (rest := []) mc_139_367 (by decide) rfl rfl rfl ⟨by simp, rfl, by decide⟩ (mu_rcv (by decide) rfl (by decide)) H ?_
  rintro _ _ ⟨r16, D13, u14, x15, rfl, rfl, H⟩
  refine Or.inl ⟨_, rfl, ?_⟩
  refine mu_store mc_139_368 (by decide) (by simp) (ls' := [some (mm_P 999), some (mm_P 0), some (mm_P 24), some (mm_P 30), some (mm_I (v4)), some (mm_I (r8)), some (mm_I (r16))]) rfl ?_
  refine mu_aload (r := some (24)) mc_139_369 (by decide) rfl ?_
  refine mt_call (args := [mm_P 24]) (rest := []) mc_139_370 (by decide) rfl rfl rfl ⟨by simp, rfl, by decide⟩ (mu_rcv (by decide) rfl (by decide)) H ?_
  rintro _ _ ⟨r20, D17, u18, x19, rfl, rfl, H⟩
  refine Or.inl ⟨_, rfl, ?_⟩
  refine mu_load mc_139_371 (by decide) rfl ?_
  refine mu_ic_eq mc_139_372 (fun c => ?_) (fun c => ?_)
  · replace H := H.1 c
    refine mu_load mc_139_375 (by decide) rfl ?_
    refine mu_if_ne mc_139_376 (fun c => ?_) (fun c => ?_)
    · replace H := H.1 c
      refine mu_rfl (n := 646) mc_139_386 (by decide) rfl rfl ?_
      exact H
    · replace H := H.2 c
      refine mu_aload (r := some (30)) mc_139_377 (by decide) rfl ?_
      refine mu_const mc_139_378 (by decide) (by decide) ?_
      refine mu_lald mc_139_379 rfl ?_
      refine mu_load mc_139_380 (by decide) rfl ?_
      refine mu_rfl mc_139_381 (by decide) rfl rfl ?_
      refine mu_rfl mc_139_382 (by decide) rfl rfl ?_
      refine mu_if_eq mc_139_383 (fun c => ?_) (fun c => ?_)
      · replace H := H.1 c
        refine mu_rfl (n := 646) mc_139_386 (by decide) rfl rfl ?_
        exact H
      · replace H := H.2 c
        refine mu_const mc_139_384 (by decide) (by decide) ?_
        exact mt_retB mc_139_385 (by decide) H
  · replace H := H.2 c
    refine mu_const mc_139_373 (by decide) (by decide) ?_
    exact mt_retB mc_139_374 (by decide) H

theorem q_L_law_387 {D : mm_D} {u : Int} {x : Nat × (Nat × List Int)} {Q : mm_O → mm_H → Prop} (v4 : Int) (o5 o6 : Option mm_V) (H : (mm_rng ((v4) + ((1 : Int)))) ∧ ((0 ≤ ((v4) + ((1 : Int)))) ∧ (∃ z2, x.2.2[((v4) + ((1 : Int))).toNat + 1]? = some z2 ∧ (mt 133 0 [some (mm_P 0), some (mm_I (z2)), some (mm_P 30), none] [] (mm_mk D u x) (mm_pI fun r8 D5 u6 x7 => (mm_rng ((v4) + ((1 : Int)))) ∧ ((0 ≤ ((v4) + ((1 : Int)))) ∧ (∃ z10, x7.2.2[((v4) + ((1 : Int))).toNat + 1]? = some z10 ∧ (mt 100 0 [some (mm_P 24), some (mm_I (z10)), none, none] [] (mm_mk D5 u6 x7) (mm_pI fun r16 D13 u14 x15 => mt 77 0 [some (mm_P 24)] [] (mm_mk D13 u14 x15) (mm_pI fun r20 D17 u18 x19 => (((r20) = (r8)) → ((¬ (r8) = 0) → mt 139 646 [some (mm_P 999), some (mm_P 0), some (mm_P 24), some (mm_P 30), some (mm_I (v4)), some (mm_I (r8)), some (mm_I (r16))] [] (mm_mk D17 u18 x19) Q) ∧ (¬ (¬ (r8) = 0) → (((mm_cmp (u18) (r16)) = 0) → mt 139 646 [some (mm_P 999), some (mm_P 0), some (mm_P 24), some (mm_P 30), some (mm_I (v4)), some (mm_I (r8)), some (mm_I (r16))] [] (mm_mk D17 u18 x19) Q) ∧ (¬ ((mm_cmp (u18) (r16)) = 0) → Q (.inl (some (mm_I ((0 : Int))))) (mm_mk D17 u18 x19)))) ∧ (¬ ((r20) = (r8)) → Q (.inl (some (mm_I ((0 : Int))))) (mm_mk D17 u18 x19)))))))))))) : mt 139 387 [some (mm_P 999), some (mm_P 0), some (mm_P 24), some (mm_P 30), some (mm_I (v4)), o5, o6] [] (mm_mk D u x) Q := by
  refine mu_aload (r := some (0)) mc_139_387 (by decide) rfl ?_
  refine mu_aload (r := some (999)) mc_139_388 (by decide) rfl ?_
  refine mu_load mc_139_389 (by decide) rfl ?_
  refine mu_const mc_139_390 (by decide) (by decide) ?_
  have h1 := H.1
  replace H := H.2
  refine mu_iadd mc_139_391 h1 ?_
  have h3 := H.1
  replace H := H.2
  obtain ⟨z2, h4, H⟩ := H
  refine mu_scr mc_139_392 h3 h4 ?_
  refine mu_aload (r := some (30)) mc_139_393 (by decide) rfl ?_
  refine mt_call (args := [mm_P 0, mm_I (z2), mm_P 30]) (rest := []) mc_139_394 (by decide) rfl rfl rfl ⟨by simp, rfl, by decide⟩ rfl H ?_
  rintro _ _ ⟨r8, D5, u6, x7, rfl, rfl, H⟩
  refine Or.inl ⟨_, rfl, ?_⟩
  refine mu_store mc_139_395 (by decide) (by simp) (ls' := [some (mm_P 999), some (mm_P 0), some (mm_P 24), some (mm_P 30), some (mm_I (v4)), some (mm_I (r8)), o6]) rfl ?_
  refine mu_aload (r := some (24)) mc_139_396 (by decide) rfl ?_
  refine mu_aload (r := some (999)) mc_139_397 (by decide) rfl ?_
  refine mu_load mc_139_398 (by decide) rfl ?_
  refine mu_const mc_139_399 (by decide) (by decide) ?_
  have h9 := H.1
  replace H := H.2
  refine mu_iadd mc_139_400 h9 ?_
  have h11 := H.1
  replace H := H.2
  obtain ⟨z10, h12, H⟩ := H
  refine mu_scr mc_139_401 h11 h12 ?_
  refine mt_call (args := [mm_P 24, mm_I (z10)]) (rest := []) mc_139_402 (by decide) rfl rfl rfl ⟨by simp, rfl, by decide⟩ (mu_rcv (by decide) rfl (by decide)) H ?_
  rintro _ _ ⟨r16, D13, u14, x15, rfl, rfl, H⟩
  refine Or.inl ⟨_, rfl, ?_⟩
  refine mu_store mc_139_403 (by decide) (by simp) (ls' := [some (mm_P 999), some (mm_P 0), some (mm_P 24), some (mm_P 30), some (mm_I (v4)), some (mm_I (r8)), some (mm_I (r16))]) rfl ?_
  refine mu_aload (r := some (24)) mc_139_404 (by decide) rfl ?_
  refine mt_call (args := [mm_P 24]) (rest := []) mc_139_405 (by decide) rfl rfl rfl ⟨by simp, rfl, by decide⟩ (mu_rcv (by decide) rfl (by decide)) H ?_
  rintro _ _ ⟨r20, D17, u18, x19, rfl, rfl, H⟩
  refine Or.inl ⟨_, rfl, ?_⟩
  refine mu_load mc_139_406 (by decide) rfl ?_
  refine mu_ic_eq mc_139_407 (fun c => ?_) (fun c => ?_)
  · replace H := H.1 c
    refine mu_load mc_139_410 (by decide) rfl ?_
    refine mu_if_ne mc_139_411 (fun c => ?_) (fun c => ?_)
    · replace H := H.1 c
      refine mu_rfl (n := 646) mc_139_421 (by decide) rfl rfl ?_
      exact H
    · replace H := H.2 c
      refine mu_aload (r := some (30)) mc_139_412 (by decide) rfl ?_
      refine mu_const mc_139_413 (by decide) (by decide) ?_
      refine mu_lald mc_139_414 rfl ?_
      refine mu_load mc_139_415 (by decide) rfl ?_
      refine mu_rfl mc_139_416 (by decide) rfl rfl ?_
      refine mu_rfl mc_139_417 (by decide) rfl rfl ?_
      refine mu_if_eq mc_139_418 (fun c => ?_) (fun c => ?_)
      · replace H := H.1 c
        refine mu_rfl (n := 646) mc_139_421 (by decide) rfl rfl ?_
        exact H
      · replace H := H.2 c
        refine mu_const mc_139_419 (by decide) (by decide) ?_
        exact mt_retB mc_139_420 (by decide) H
  · replace H := H.2 c
    refine mu_const mc_139_408 (by decide) (by decide) ?_
    exact mt_retB mc_139_409 (by decide) H

theorem q_L_law_422 {D : mm_D} {u : Int} {x : Nat × (Nat × List Int)} {Q : mm_O → mm_H → Prop} (v4 : Int) (o5 o6 : Option mm_V) (H : (mm_rng ((v4) + ((1 : Int)))) ∧ ((0 ≤ ((v4) + ((1 : Int)))) ∧ (∃ z2, x.2.2[((v4) + ((1 : Int))).toNat + 1]? = some z2 ∧ (mt 134 0 [some (mm_P 0), some (mm_I (z2)), some (mm_P 30), none] [] (mm_mk D u x) (mm_pI fun r8 D5 u6 x7 => (mm_rng ((v4) + ((1 : Int)))) ∧ ((0 ≤ ((v4) + ((1 : Int)))) ∧ (∃ z10, x7.2.2[((v4) + ((1 : Int))).toNat + 1]? = some z10 ∧ (mt 101 0 [some (mm_P 24), some (mm_I (z10)), none, none] [] (mm_mk D5 u6 x7) (mm_pI fun r16 D13 u14 x15 => mt 77 0 [some (mm_P 24)] [] (mm_mk D13 u14 x15) (mm_pI fun r20 D17 u18 x19 => (((r20) = (r8)) → ((¬ (r8) = 0) → mt 139 646 [some (mm_P 999), some (mm_P 0), some (mm_P 24), some (mm_P 30), some (mm_I (v4)), some (mm_I (r8)), some (mm_I (r16))] [] (mm_mk D17 u18 x19) Q) ∧ (¬ (¬ (r8) = 0) → (((mm_cmp (u18) (r16)) = 0) → mt 139 646 [some (mm_P 999), some (mm_P 0), some (mm_P 24), some (mm_P 30), some (mm_I (v4)), some (mm_I (r8)), some (mm_I (r16))] [] (mm_mk D17 u18 x19) Q) ∧ (¬ ((mm_cmp (u18) (r16)) = 0) → Q (.inl (some (mm_I ((0 : Int))))) (mm_mk D17 u18 x19)))) ∧ (¬ ((r20) = (r8)) → Q (.inl (some (mm_I ((0 : Int))))) (mm_mk D17 u18 x19)))))))))))) : mt 139 422 [some (mm_P 999), some (mm_P 0), some (mm_P 24), some (mm_P 30), some (mm_I (v4)), o5, o6] [] (mm_mk D u x) Q := by
  refine mu_aload (r := some (0)) mc_139_422 (by decide) rfl ?_
  refine mu_aload (r := some (999)) mc_139_423 (by decide) rfl ?_
  refine mu_load mc_139_424 (by decide) rfl ?_
  refine mu_const mc_139_425 (by decide) (by decide) ?_
  have h1 := H.1
  replace H := H.2
  refine mu_iadd mc_139_426 h1 ?_
  have h3 := H.1
  replace H := H.2
  obtain ⟨z2, h4, H⟩ := H
  refine mu_scr mc_139_427 h3 h4 ?_
  refine mu_aload (r := some (30)) mc_139_428 (by decide) rfl ?_
  refine mt_call (args := [mm_P 0, mm_I (z2), mm_P 30]) (rest := []) mc_139_429 (by decide) rfl rfl rfl ⟨by simp, rfl, by decide⟩ rfl H ?_
  rintro _ _ ⟨r8, D5, u6, x7, rfl, rfl, H⟩
  refine Or.inl ⟨_, rfl, ?_⟩
  refine mu_store mc_139_430 (by decide) (by simp) (ls' := [some (mm_P 999), some (mm_P 0), some (mm_P 24), some (mm_P 30), some (mm_I (v4)), some (mm_I (r8)), o6]) rfl ?_
  refine mu_aload (r := some (24)) mc_139_431 (by decide) rfl ?_
  refine mu_aload (r := some (999)) mc_139_432 (by decide) rfl ?_
  refine mu_load mc_139_433 (by decide) rfl ?_
  refine mu_const mc_139_434 (by decide) (by decide) ?_
  have h9 := H.1
  replace H := H.2
  refine mu_iadd mc_139_435 h9 ?_
  have h11 := H.1
  replace H := H.2
  obtain ⟨z10, h12, H⟩ := H
  refine mu_scr mc_139_436 h11 h12 ?_
  refine mt_call (args := [mm_P 24, mm_I (z10)]) (rest := []) mc_139_437 (by decide) rfl rfl rfl ⟨by simp, rfl, by decide⟩ (mu_rcv (by decide) rfl (by decide)) H ?_
  rintro _ _ ⟨r16, D13, u14, x15, rfl, rfl, H⟩
  refine Or.inl ⟨_, rfl, ?_⟩
  refine mu_store mc_139_438 (by decide) (by simp) (ls' := [some (mm_P 999), some (mm_P 0), some (mm_P 24), some (mm_P 30), some (mm_I (v4)), some (mm_I (r8)), some (mm_I (r16))]) rfl ?_
  refine mu_aload (r := some (24)) mc_139_439 (by decide) rfl ?_
  refine mt_call (args := [mm_P 24]) (rest := []) mc_139_440 (by decide) rfl rfl rfl ⟨by simp, rfl, by decide⟩ (mu_rcv (by decide) rfl (by decide)) H ?_
  rintro _ _ ⟨r20, D17, u18, x19, rfl, rfl, H⟩
  refine Or.inl ⟨_, rfl, ?_⟩
  refine mu_load mc_139_441 (by decide) rfl ?_
  refine mu_ic_eq mc_139_442 (fun c => ?_) (fun c => ?_)
  · replace H := H.1 c
    refine mu_load mc_139_445 (by decide) rfl ?_
    refine mu_if_ne mc_139_446 (fun c => ?_) (fun c => ?_)
    · replace H := H.1 c
      refine mu_rfl (n := 646) mc_139_456 (by decide) rfl rfl ?_
      exact H
    · replace H := H.2 c
      refine mu_aload (r := some (30)) mc_139_447 (by decide) rfl ?_
      refine mu_const mc_139_448 (by decide) (by decide) ?_
      refine mu_lald mc_139_449 rfl ?_
      refine mu_load mc_139_450 (by decide) rfl ?_
      refine mu_rfl mc_139_451 (by decide) rfl rfl ?_
      refine mu_rfl mc_139_452 (by decide) rfl rfl ?_
      refine mu_if_eq mc_139_453 (fun c => ?_) (fun c => ?_)
      · replace H := H.1 c
        refine mu_rfl (n := 646) mc_139_456 (by decide) rfl rfl ?_
        exact H
      · replace H := H.2 c
        refine mu_const mc_139_454 (by decide) (by decide) ?_
        exact mt_retB mc_139_455 (by decide) H
  · replace H := H.2 c
    refine mu_const mc_139_443 (by decide) (by decide) ?_
    exact mt_retB mc_139_444 (by decide) H

theorem q_L_law_457 {D : mm_D} {u : Int} {x : Nat × (Nat × List Int)} {Q : mm_O → mm_H → Prop} (v4 : Int) (o5 o6 : Option mm_V) (H : mt 59 0 [some (mm_P 0), none, none, none] [] (mm_mk D u x) (mm_pI fun r4 D1 u2 x3 => mt 103 0 [some (mm_P 24)] [] (mm_mk D1 u2 x3) (mm_pI fun r8 D5 u6 x7 => (((r4) = (r8)) → mt 139 646 [some (mm_P 999), some (mm_P 0), some (mm_P 24), some (mm_P 30), some (mm_I (v4)), o5, o6] [] (mm_mk D5 u6 x7) Q) ∧ (¬ ((r4) = (r8)) → Q (.inl (some (mm_I ((0 : Int))))) (mm_mk D5 u6 x7))))) : mt 139 457 [some (mm_P 999), some (mm_P 0), some (mm_P 24), some (mm_P 30), some (mm_I (v4)), o5, o6] [] (mm_mk D u x) Q := by
  refine mu_aload (r := some (0)) mc_139_457 (by decide) rfl ?_
  refine mt_call (args := [mm_P 0]) (rest := []) mc_139_458 (by decide) rfl rfl rfl ⟨by simp, rfl, by decide⟩ (mu_rcv (by decide) rfl (by decide)) H ?_
  rintro _ _ ⟨r4, D1, u2, x3, rfl, rfl, H⟩
  refine Or.inl ⟨_, rfl, ?_⟩
  refine mu_aload (r := some (24)) mc_139_459 (by decide) rfl ?_
  refine mt_call (args := [mm_P 24]) (rest := [mm_I (r4)]) mc_139_460 (by decide) rfl rfl rfl ⟨by simp, rfl, by decide⟩ (mu_rcv (by decide) rfl (by decide)) H ?_
  rintro _ _ ⟨r8, D5, u6, x7, rfl, rfl, H⟩
  refine Or.inl ⟨_, rfl, ?_⟩
  refine mu_ic_eq mc_139_461 (fun c => ?_) (fun c => ?_)
  · replace H := H.1 c
    exact H
  · replace H := H.2 c
    refine mu_const mc_139_462 (by decide) (by decide) ?_
    exact mt_retB mc_139_463 (by decide) H

theorem q_L_law_464 {D : mm_D} {u : Int} {x : Nat × (Nat × List Int)} {Q : mm_O → mm_H → Prop} (v4 : Int) (o5 o6 : Option mm_V) (H : mt 60 0 [some (mm_P 0), none, none] [] (mm_mk D u x) (mm_pI fun r4 D1 u2 x3 => mt 104 0 [some (mm_P 24)] [] (mm_mk D1 u2 x3) (mm_pI fun r8 D5 u6 x7 => (((r4) = (r8)) → mt 139 646 [some (mm_P 999), some (mm_P 0), some (mm_P 24), some (mm_P 30), some (mm_I (v4)), o5, o6] [] (mm_mk D5 u6 x7) Q) ∧ (¬ ((r4) = (r8)) → Q (.inl (some (mm_I ((0 : Int))))) (mm_mk D5 u6 x7))))) : mt 139 464 [some (mm_P 999), some (mm_P 0), some (mm_P 24), some (mm_P 30), some (mm_I (v4)), o5, o6] [] (mm_mk D u x) Q := by
  refine mu_aload (r := some (0)) mc_139_464 (by decide) rfl ?_
  refine mt_call (args := [mm_P 0]) (rest := []) mc_139_465 (by decide) rfl rfl rfl ⟨by simp, rfl, by decide⟩ (mu_rcv (by decide) rfl (by decide)) H ?_
  rintro _ _ ⟨r4, D1, u2, x3, rfl, rfl, H⟩
  refine Or.inl ⟨_, rfl, ?_⟩
  refine mu_aload (r := some (24)) mc_139_466 (by decide) rfl ?_
  refine mt_call (args := [mm_P 24]) (rest := [mm_I (r4)]) mc_139_467 (by decide) rfl rfl rfl ⟨by simp, rfl, by decide⟩ (mu_rcv (by decide) rfl (by decide)) H ?_
  rintro _ _ ⟨r8, D5, u6, x7, rfl, rfl, H⟩
  refine Or.inl ⟨_, rfl, ?_⟩
  refine mu_ic_eq mc_139_468 (fun c => ?_) (fun c => ?_)
  · replace H := H.1 c
    exact H
  · replace H := H.2 c
    refine mu_const mc_139_469 (by decide) (by decide) ?_
    exact mt_retB mc_139_470 (by decide) H

theorem q_L_law_471 {D : mm_D} {u : Int} {x : Nat × (Nat × List Int)} {Q : mm_O → mm_H → Prop} (v4 : Int) (o5 o6 : Option mm_V) (H : mt 61 0 [some (mm_P 0)] [] (mm_mk D u x) (mm_pI fun r4 D1 u2 x3 => mt 110 0 [some (mm_P 24), none, none, none] [] (mm_mk D1 u2 x3) (mm_pI fun r8 D5 u6 x7 => (((r4) = (r8)) → mt 139 646 [some (mm_P 999), some (mm_P 0), some (mm_P 24), some (mm_P 30), some (mm_I (v4)), o5, o6] [] (mm_mk D5 u6 x7) Q) ∧ (¬ ((r4) = (r8)) → Q (.inl (some (mm_I ((0 : Int))))) (mm_mk D5 u6 x7))))) : mt 139 471 [some (mm_P 999), some (mm_P 0), some (mm_P 24), some (mm_P 30), some (mm_I (v4)), o5, o6] [] (mm_mk D u x) Q := by
  refine mu_aload (r := some (0)) mc_139_471 (by decide) rfl ?_
  refine mt_call (args := [mm_P 0]) (rest := []) mc_139_472 (by decide) rfl rfl rfl ⟨by simp, rfl, by decide⟩ (mu_rcv (by decide) rfl (by decide)) H ?_
  rintro _ _ ⟨r4, D1, u2, x3, rfl, rfl, H⟩
  refine Or.inl ⟨_, rfl, ?_⟩
  refine mu_aload (r := some (24)) mc_139_473 (by decide) rfl ?_
  refine mt_call (args := [mm_P 24]) (rest := [mm_I (r4)]) mc_139_474 (by decide) rfl rfl rfl ⟨by simp, rfl, by decide⟩ (mu_rcv (by decide) rfl (by decide)) H ?_
  rintro _ _ ⟨r8, D5, u6, x7, rfl, rfl, H⟩
  refine Or.inl ⟨_, rfl, ?_⟩
  refine mu_ic_eq mc_139_475 (fun c => ?_) (fun c => ?_)
  · replace H := H.1 c
    exact H
  · replace H := H.2 c
    refine mu_const mc_139_476 (by decide) (by decide) ?_
    exact mt_retB mc_139_477 (by decide) H

theorem q_L_law_478 {D : mm_D} {u : Int} {x : Nat × (Nat × List Int)} {Q : mm_O → mm_H → Prop} (v4 : Int) (o5 o6 : Option mm_V) (H : mt 62 0 [some (mm_P 0), none] [] (mm_mk D u x) (mm_pI fun r4 D1 u2 x3 => mt 112 0 [some (mm_P 24), none] [] (mm_mk D1 u2 x3) (mm_pI fun r8 D5 u6 x7 => (((r4) = (r8)) → mt 139 646 [some (mm_P 999), some (mm_P 0), some (mm_P 24), some (mm_P 30), some (mm_I (v4)), o5, o6] [] (mm_mk D5 u6 x7) Q) ∧ (¬ ((r4) = (r8)) → Q (.inl (some (mm_I ((0 : Int))))) (mm_mk D5 u6 x7))))) : mt 139 478 [some (mm_P 999), some (mm_P 0), some (mm_P 24), some (mm_P 30), some (mm_I (v4)), o5, o6] [] (mm_mk D u x) Q := by
  refine mu_aload (r := some (0)) mc_139_478 (by decide) rfl ?_
  refine mt_call (args := [mm_P 0]) (rest := []) mc_139_479 (by decide) rfl rfl rfl ⟨by simp, rfl, by decide⟩ (mu_rcv (by decide) rfl (by decide)) H ?_
  rintro _ _ ⟨r4, D1, u2, x3, rfl, rfl, H⟩
  refine Or.inl ⟨_, rfl, ?_⟩
  refine mu_aload (r := some (24)) mc_139_480 (by decide) rfl ?_
  refine mt_call (args := [mm_P 24]) (rest := [mm_I (r4)]) mc_139_481 (by decide) rfl rfl rfl ⟨by simp, rfl, by decide⟩ (mu_rcv (by decide) rfl (by decide)) H ?_
  rintro _ _ ⟨r8, D5, u6, x7, rfl, rfl, H⟩
  refine Or.inl ⟨_, rfl, ?_⟩
  refine mu_ic_eq mc_139_482 (fun c => ?_) (fun c => ?_)
  · replace H := H.1 c
    exact H
  · replace H := H.2 c
    refine mu_const mc_139_483 (by decide) (by decide) ?_
    exact mt_retB mc_139_484 (by decide) H

theorem q_L_law_485 {D : mm_D} {u : Int} {x : Nat × (Nat × List Int)} {Q : mm_O → mm_H → Prop} (v4 : Int) (o5 o6 : Option mm_V) (H : mt 63 0 [some (mm_P 0), none] [] (mm_mk D u x) (mm_pI fun r4 D1 u2 x3 => mt 113 0 [some (mm_P 24), none, none] [] (mm_mk D1 u2 x3) (mm_pI fun r8 D5 u6 x7 => (((r4) = (r8)) → mt 139 646 [some (mm_P 999), some (mm_P 0), some (mm_P 24), some (mm_P 30), some (mm_I (v4)), o5, o6] [] (mm_mk D5 u6 x7) Q) ∧ (¬ ((r4) = (r8)) → Q (.inl (some (mm_I ((0 : Int))))) (mm_mk D5 u6 x7))))) : mt 139 485 [some (mm_P 999), some (mm_P 0), some (mm_P 24), some (mm_P 30), some (mm_I (v4)), o5, o6] [] (mm_mk D u x) Q := by
  refine mu_aload (r := some (0)) mc_139_485 (by decide) rfl ?_
  refine mt_call (args := [mm_P 0]) (rest := []) mc_139_486 (by decide) rfl rfl rfl ⟨by simp, rfl, by decide⟩ (mu_rcv (by decide) rfl (by decide)) H ?_
  rintro _ _ ⟨r4, D1, u2, x3, rfl, rfl, H⟩
  refine Or.inl ⟨_, rfl, ?_⟩
  refine mu_aload (r := some (24)) mc_139_487 (by decide) rfl ?_
  refine mt_call (args := [mm_P 24]) (rest := [mm_I (r4)]) mc_139_488 (by decide) rfl rfl rfl ⟨by simp, rfl, by decide⟩ (mu_rcv (by decide) rfl (by decide)) H ?_
  rintro _ _ ⟨r8, D5, u6, x7, rfl, rfl, H⟩
  refine Or.inl ⟨_, rfl, ?_⟩
  refine mu_ic_eq mc_139_489 (fun c => ?_) (fun c => ?_)
  · replace H := H.1 c
    exact H
  · replace H := H.2 c
    refine mu_const mc_139_490 (by decide) (by decide) ?_
    exact mt_retB mc_139_491 (by decide) H

theorem q_L_law_492 {D : mm_D} {u : Int} {x : Nat × (Nat × List Int)} {Q : mm_O → mm_H → Prop} (v4 : Int) (o5 o6 : Option mm_V) (H : mt 64 0 [some (mm_P 0)] [] (mm_mk D u x) (mm_pI fun r4 D1 u2 x3 => mt 115 0 [some (mm_P 24)] [] (mm_mk D1 u2 x3) (mm_pI fun r8 D5 u6 x7 => (((r4) = (r8)) → mt 139 646 [some (mm_P 999), some (mm_P 0), some (mm_P 24), some (mm_P 30), some (mm_I (v4)), o5, o6] [] (mm_mk D5 u6 x7) Q) ∧ (¬ ((r4) = (r8)) → Q (.inl (some (mm_I ((0 : Int))))) (mm_mk D5 u6 x7))))) : mt 139 492 [some (mm_P 999), some (mm_P 0), some (mm_P 24), some (mm_P 30), some (mm_I (v4)), o5, o6] [] (mm_mk D u x) Q := by
  refine mu_aload (r := some (0)) mc_139_492 (by decide) rfl ?_
  refine mt_call (args := [mm_P 0]) (rest := []) mc_139_493 (by decide) rfl rfl rfl ⟨by simp, rfl, by decide⟩ (mu_rcv (by decide) rfl (by decide)) H ?_
  rintro _ _ ⟨r4, D1, u2, x3, rfl, rfl, H⟩
  refine Or.inl ⟨_, rfl, ?_⟩
  refine mu_aload (r := some (24)) mc_139_494 (by decide) rfl ?_
  refine mt_call (args := [mm_P 24]) (rest := [mm_I (r4)]) mc_139_495 (by decide) rfl rfl rfl ⟨by simp, rfl, by decide⟩ (mu_rcv (by decide) rfl (by decide)) H ?_
  rintro _ _ ⟨r8, D5, u6, x7, rfl, rfl, H⟩
  refine Or.inl ⟨_, rfl, ?_⟩
  refine mu_ic_eq mc_139_496 (fun c => ?_) (fun c => ?_)
  · replace H := H.1 c
    exact H
  · replace H := H.2 c
    refine mu_const mc_139_497 (by decide) (by decide) ?_
    exact mt_retB mc_139_498 (by decide) H

theorem q_L_law_499 {D : mm_D} {u : Int} {x : Nat × (Nat × List Int)} {Q : mm_O → mm_H → Prop} (v4 : Int) (o5 o6 : Option mm_V) (H : mt 65 0 [some (mm_P 0)] [] (mm_mk D u x) (mm_pI fun r4 D1 u2 x3 => mt 117 0 [some (mm_P 24), none, none, none, none] [] (mm_mk D1 u2 x3) (mm_pI fun r8 D5 u6 x7 => (((r4) = (r8)) → mt 139 646 [some (mm_P 999), some (mm_P 0), some (mm_P 24), some (mm_P 30), some (mm_I (v4)), o5, o6] [] (mm_mk D5 u6 x7) Q) ∧ (¬ ((r4) = (r8)) → Q (.inl (some (mm_I ((0 : Int))))) (mm_mk D5 u6 x7))))) : mt 139 499 [some (mm_P 999), some (mm_P 0), some (mm_P 24), some (mm_P 30), some (mm_I (v4)), o5, o6] [] (mm_mk D u x) Q := by
  refine mu_aload (r := some (0)) mc_139_499 (by decide) rfl ?_
  refine mt_call (args := [mm_P 0]) (rest := []) mc_139_500 (by decide) rfl rfl rfl ⟨by simp, rfl, by decide⟩ (mu_rcv (by decide) rfl (by decide)) H ?_
  rintro _ _ ⟨r4, D1, u2, x3, rfl, rfl, H⟩
  refine Or.inl ⟨_, rfl, ?_⟩
  refine mu_aload (r := some (24)) mc_139_501 (by decide) rfl ?_
  refine mt_call (args := [mm_P 24]) (rest := [mm_I (r4)]) mc_139_502 (by decide) rfl rfl rfl ⟨by simp, rfl, by decide⟩ (mu_rcv (by decide) rfl (by decide)) H ?_
  rintro _ _ ⟨r8, D5, u6, x7, rfl, rfl, H⟩
  refine Or.inl ⟨_, rfl, ?_⟩
  refine mu_ic_eq mc_139_503 (fun c => ?_) (fun c => ?_)
  · replace H := H.1 c
    exact H
  · replace H := H.2 c
    refine mu_const mc_139_504 (by decide) (by decide) ?_
    exact mt_retB mc_139_505 (by decide) H

theorem q_L_law_506 {D : mm_D} {u : Int} {x : Nat × (Nat × List Int)} {Q : mm_O → mm_H → Prop} (v4 : Int) (o5 o6 : Option mm_V) (H : (mm_rng ((v4) + ((1 : Int)))) ∧ ((0 ≤ ((v4) + ((1 : Int)))) ∧ (∃ z2, x.2.2[((v4) + ((1 : Int))).toNat + 1]? = some z2 ∧ (mt 135 0 [some (mm_P 0), some (mm_I (z2)), some (mm_P 30), none] [] (mm_mk D u x) (mm_pI fun r8 D5 u6 x7 => (mm_rng ((v4) + ((1 : Int)))) ∧ ((0 ≤ ((v4) + ((1 : Int)))) ∧ (∃ z10, x7.2.2[((v4) + ((1 : Int))).toNat + 1]? = some z10 ∧ (mt 118 0 [some (mm_P 24), some (mm_I (z10)), none, none] [] (mm_mk D5 u6 x7) (mm_pI fun r16 D13 u14 x15 => mt 77 0 [some (mm_P 24)] [] (mm_mk D13 u14 x15) (mm_pI fun r20 D17 u18 x19 => (((r20) = (r8)) → ((¬ (r8) = 0) → mt 139 646 [some (mm_P 999), some (mm_P 0), some (mm_P 24), some (mm_P 30), some (mm_I (v4)), some (mm_I (r8)), some (mm_I (r16))] [] (mm_mk D17 u18 x19) Q) ∧ (¬ (¬ (r8) = 0) → (((mm_cmp (u18) (r16)) = 0) → mt 139 646 [some (mm_P 999), some (mm_P 0), some (mm_P 24), some (mm_P 30), some (mm_I (v4)), some (mm_I (r8)), some (mm_I (r16))] [] (mm_mk D17 u18 x19) Q) ∧ (¬ ((mm_cmp (u18) (r16)) = 0) → Q (.inl (some (mm_I ((0 : Int))))) (mm_mk D17 u18 x19)))) ∧ (¬ ((r20) = (r8)) → Q (.inl (some (mm_I ((0 : Int))))) (mm_mk D17 u18 x19)))))))))))) : mt 139 506 [some (mm_P 999), some (mm_P 0), some (mm_P 24), some (mm_P 30), some (mm_I (v4)), o5, o6] [] (mm_mk D u x) Q := by
  refine mu_aload (r := some (0)) mc_139_506 (by decide) rfl ?_
  refine mu_aload (r := some (999)) mc_139_507 (by decide) rfl ?_
  refine mu_load mc_139_508 (by decide) rfl ?_
  refine mu_const mc_139_509 (by decide) (by decide) ?_
  have h1 := H.1
  replace H := H.2
  refine mu_iadd mc_139_510 h1 ?_
  have h3 := H.1
  replace H := H.2
  obtain ⟨z2, h4, H⟩ := H
  refine mu_scr mc_139_511 h3 h4 ?_
  refine mu_aload (r := some (30)) mc_139_512 (by decide) rfl ?_
  refine mt_call (args := [mm_P 0, mm_I (z2), mm_P 30]) (rest := []) mc_139_513 (by decide) rfl rfl rfl ⟨by simp, rfl, by decide⟩ rfl H ?_
  rintro _ _ ⟨r8, D5, u6, x7, rfl, rfl, H⟩
  refine Or.inl ⟨_, rfl, ?_⟩
  refine mu_store mc_139_514 (by decide) (by simp) (ls' := [some (mm_P 999), some (mm_P 0), some (mm_P 24), some (mm_P 30), some (mm_I (v4)), some (mm_I (r8)), o6]) rfl ?_
  refine mu_aload (r := some (24)) mc_139_515 (by decide) rfl ?_
  refine mu_aload (r := some (999)) mc_139_516 (by decide) rfl ?_
  refine mu_load mc_139_517 (by decide) rfl ?_
  refine mu_const mc_139_518 (by decide) (by decide) ?_
  have h9 := H.1
  replace H := H.2
  refine mu_iadd mc_139_519 h9 ?_
  have h11 := H.1
  replace H := H.2
  obtain ⟨z10, h12, H⟩ := H
  refine mu_scr mc_139_520 h11 h12 ?_
  refine mt_call (args := [mm_P 24, mm_I (z10)]) (rest := []) mc_139_521 (by decide) rfl rfl rfl ⟨by simp, rfl, by decide⟩ (mu_rcv (by decide) rfl (by decide)) H ?_
  rintro _ _ ⟨r16, D13, u14, x15, rfl, rfl, H⟩
  refine Or.inl ⟨_, rfl, ?_⟩
  refine mu_store mc_139_522 (by decide) (by simp) (ls' := [some (mm_P 999), some (mm_P 0), some (mm_P 24), some (mm_P 30), some (mm_I (v4)), some (mm_I (r8)), some (mm_I (r16))]) rfl ?_
  refine mu_aload (r := some (24)) mc_139_523 (by decide) rfl ?_
  refine mt_call (args := [mm_P 24]) (rest := []) mc_139_524 (by decide) rfl rfl rfl ⟨by simp, rfl, by decide⟩ (mu_rcv (by decide) rfl (by decide)) H ?_
  rintro _ _ ⟨r20, D17, u18, x19, rfl, rfl, H⟩
  refine Or.inl ⟨_, rfl, ?_⟩
  refine mu_load mc_139_525 (by decide) rfl ?_
  refine mu_ic_eq mc_139_526 (fun c => ?_) (fun c => ?_)
  · replace H := H.1 c
    refine mu_load mc_139_529 (by decide) rfl ?_
    refine mu_if_ne mc_139_530 (fun c => ?_) (fun c => ?_)
    · replace H := H.1 c
      refine mu_rfl (n := 646) mc_139_540 (by decide) rfl rfl ?_
      exact H
    · replace H := H.2 c
      refine mu_aload (r := some (30)) mc_139_531 (by decide) rfl ?_
      refine mu_const mc_139_532 (by decide) (by decide) ?_
      refine mu_lald mc_139_533 rfl ?_
      refine mu_load mc_139_534 (by decide) rfl ?_
      refine mu_rfl mc_139_535 (by decide) rfl rfl ?_
      refine mu_rfl mc_139_536 (by decide) rfl rfl ?_
      refine mu_if_eq mc_139_537 (fun c => ?_) (fun c => ?_)
      · replace H := H.1 c
        refine mu_rfl (n := 646) mc_139_540 (by decide) rfl rfl ?_
        exact H
      · replace H := H.2 c
        refine mu_const mc_139_538 (by decide) (by decide) ?_
        exact mt_retB mc_139_539 (by decide) H
  · replace H := H.2 c
    refine mu_const mc_139_527 (by decide) (by decide) ?_
    exact mt_retB mc_139_528 (by decide) H

theorem q_L_law_541 {D : mm_D} {u : Int} {x : Nat × (Nat × List Int)} {Q : mm_O → mm_H → Prop} (v4 : Int) (o5 o6 : Option mm_V) (H : (mm_rng ((v4) + ((1 : Int)))) ∧ ((0 ≤ ((v4) + ((1 : Int)))) ∧ (∃ z2, x.2.2[((v4) + ((1 : Int))).toNat + 1]? = some z2 ∧ (mt 136 0 [some (mm_P 0), some (mm_I (z2)), some (mm_P 30), none] [] (mm_mk D u x) (mm_pI fun r8 D5 u6 x7 => (mm_rng ((v4) + ((1 : Int)))) ∧ ((0 ≤ ((v4) + ((1 : Int)))) ∧ (∃ z10, x7.2.2[((v4) + ((1 : Int))).toNat + 1]? = some z10 ∧ (mt 120 0 [some (mm_P 24), some (mm_I (z10))] [] (mm_mk D5 u6 x7) (mm_pI fun r16 D13 u14 x15 => mt 77 0 [some (mm_P 24)] [] (mm_mk D13 u14 x15) (mm_pI fun r20 D17 u18 x19 => (((r20) = (r8)) → ((¬ (r8) = 0) → mt 139 646 [some (mm_P 999), some (mm_P 0), some (mm_P 24), some (mm_P 30), some (mm_I (v4)), some (mm_I (r8)), some (mm_I (r16))] [] (mm_mk D17 u18 x19) Q) ∧ (¬ (¬ (r8) = 0) → (((mm_cmp (u18) (r16)) = 0) → mt 139 646 [some (mm_P 999), some (mm_P 0), some (mm_P 24), some (mm_P 30), some (mm_I (v4)), some (mm_I (r8)), some (mm_I (r16))] [] (mm_mk D17 u18 x19) Q) ∧ (¬ ((mm_cmp (u18) (r16)) = 0) → Q (.inl (some (mm_I ((0 : Int))))) (mm_mk D17 u18 x19)))) ∧ (¬ ((r20) = (r8)) → Q (.inl (some (mm_I ((0 : Int))))) (mm_mk D17 u18 x19)))))))))))) : mt 139 541 [some (mm_P 999), some (mm_P 0), some (mm_P 24), some (mm_P 30), some (mm_I (v4)), o5, o6] [] (mm_mk D u x) Q := by
  refine mu_aload (r := some (0)) mc_139_541 (by decide) rfl ?_
  refine mu_aload (r := some (999)) mc_139_542 (by decide) rfl ?_
  refine mu_load mc_139_543 (by decide) rfl ?_
  refine mu_const mc_139_544 (by decide) (by decide) ?_
  have h1 := H.1
  replace H := H.2
  refine mu_iadd mc_139_545 h1 ?_
  have h3 := H.1
  replace H := H.2
  obtain ⟨z2, h4, H⟩ := H
  refine mu_scr mc_139_546 h3 h4 ?_
  refine mu_aload (r := some (30)) mc_139_547 (by decide) rfl ?_
  refine mt_call (args := [mm_P 0, mm_I (z2), mm_P 30]) (rest := []) mc_139_548 (by decide) rfl rfl rfl ⟨by simp, rfl, by decide⟩ rfl H ?_
  rintro _ _ ⟨r8, D5, u6, x7, rfl, rfl, H⟩
  refine Or.inl ⟨_, rfl, ?_⟩
  refine mu_store mc_139_549 (by decide) (by simp) (ls' := [some (mm_P 999), some (mm_P 0), some (mm_P 24), some (mm_P 30), some (mm_I (v4)), some (mm_I (r8)), o6]) rfl ?_
  refine mu_aload (r := some (24)) mc_139_550 (by decide) rfl ?_
  refine mu_aload (r := some (999)) mc_139_551 (by decide) rfl ?_
  refine mu_load mc_139_552 (by decide) rfl ?_
  refine mu_const mc_139_553 (by decide) (by decide) ?_
  have h9 := H.1
  replace H := H.2
  refine mu_iadd mc_139_554 h9 ?_
  have h11 := H.1
  replace H := H.2
  obtain ⟨z10, h12, H⟩ := H
  refine mu_scr mc_139_555 h11 h12 ?_
  refine mt_call (args := [mm_P 24, mm_I (z10)]) (rest := []) mc_139_556 (by decide) rfl rfl rfl ⟨by simp, rfl, by decide⟩ (mu_rcv (by decide) rfl (by decide)) H ?_
  rintro _ _ ⟨r16, D13, u14, x15, rfl, rfl, H⟩
  refine Or.inl ⟨_, rfl, ?_⟩
  refine mu_store mc_139_557 (by decide) (by simp) (ls' := [some (mm_P 999), some (mm_P 0), some (mm_P 24), some (mm_P 30), some (mm_I (v4)), some (mm_I (r8)), some (mm_I (r16))]) rfl ?_
  refine mu_aload (r := some (24)) mc_139_558 (by decide) rfl ?_
  refine mt_call (args := [mm_P 24]) (rest := []) mc_139_559 (by decide) rfl rfl rfl ⟨by simp, rfl, by decide⟩ (mu_rcv (by decide) rfl (by decide)) H ?_
  rintro _ _ ⟨r20, D17, u18, x19, rfl, rfl, H⟩
  refine Or.inl ⟨_, rfl, ?_⟩
  refine mu_load mc_139_560 (by decide) rfl ?_
  refine mu_ic_eq mc_139_561 (fun c => ?_) (fun c => ?_)
  · replace H := H.1 c
    refine mu_load mc_139_564 (by decide) rfl ?_
    refine mu_if_ne mc_139_565 (fun c => ?_) (fun c => ?_)
    · replace H := H.1 c
      refine mu_rfl (n := 646) mc_139_575 (by decide) rfl rfl ?_
      exact H
    · replace H := H.2 c
      refine mu_aload (r := some (30)) mc_139_566 (by decide) rfl ?_
      refine mu_const mc_139_567 (by decide) (by decide) ?_
      refine mu_lald mc_139_568 rfl ?_
      refine mu_load mc_139_569 (by decide) rfl ?_
      refine mu_rfl mc_139_570 (by decide) rfl rfl ?_
      refine mu_rfl mc_139_571 (by decide) rfl rfl ?_
      refine mu_if_eq mc_139_572 (fun c => ?_) (fun c => ?_)
      · replace H := H.1 c
        refine mu_rfl (n := 646) mc_139_575 (by decide) rfl rfl ?_
        exact H
      · replace H := H.2 c
        refine mu_const mc_139_573 (by decide) (by decide) ?_
        exact mt_retB mc_139_574 (by decide) H
  · replace H := H.2 c
    refine mu_const mc_139_562 (by decide) (by decide) ?_
    exact mt_retB mc_139_563 (by decide) H

theorem q_L_law_576 {D : mm_D} {u : Int} {x : Nat × (Nat × List Int)} {Q : mm_O → mm_H → Prop} (v4 : Int) (o5 o6 : Option mm_V) (H : (mm_rng ((v4) + ((1 : Int)))) ∧ ((0 ≤ ((v4) + ((1 : Int)))) ∧ (∃ z2, x.2.2[((v4) + ((1 : Int))).toNat + 1]? = some z2 ∧ (mt 137 0 [some (mm_P 0), some (mm_I (z2)), some (mm_P 30), none] [] (mm_mk D u x) (mm_pI fun r8 D5 u6 x7 => (mm_rng ((v4) + ((1 : Int)))) ∧ ((0 ≤ ((v4) + ((1 : Int)))) ∧ (∃ z10, x7.2.2[((v4) + ((1 : Int))).toNat + 1]? = some z10 ∧ (mt 121 0 [some (mm_P 24), some (mm_I (z10))] [] (mm_mk D5 u6 x7) (mm_pI fun r16 D13 u14 x15 => mt 77 0 [some (mm_P 24)] [] (mm_mk D13 u14 x15) (mm_pI fun r20 D17 u18 x19 => (((r20) = (r8)) → ((¬ (r8) = 0) → mt 139 646 [some (mm_P 999), some (mm_P 0), some (mm_P 24), some (mm_P 30), some (mm_I (v4)), some (mm_I (r8)), some (mm_I (r16))] [] (mm_mk D17 u18 x19) Q) ∧ (¬ (¬ (r8) = 0) → (((mm_cmp (u18) (r16)) = 0) → mt 139 646 [some (mm_P 999), some (mm_P 0), some (mm_P 24), some (mm_P 30), some (mm_I (v4)), some (mm_I (r8)), some (mm_I (r16))] [] (mm_mk D17 u18 x19) Q) ∧ (¬ ((mm_cmp (u18) (r16)) = 0) → Q (.inl (some (mm_I ((0 : Int))))) (mm_mk D17 u18 x19)))) ∧ (¬ ((r20) = (r8)) → Q (.inl (some (mm_I ((0 : Int))))) (mm_mk D17 u18 x19)))))))))))) : mt 139 576 [some (mm_P 999), some (mm_P 0), some (mm_P 24), some (mm_P 30), some (mm_I (v4)), o5, o6] [] (mm_mk D u x) Q := by
  refine mu_aload (r := some (0)) mc_139_576 (by decide) rfl ?_
  refine mu_aload (r := some (999)) mc_139_577 (by decide) rfl ?_
  refine mu_load mc_139_578 (by decide) rfl ?_
  refine mu_const mc_139_579 (by decide) (by decide) ?_
  have h1 := H.1
  replace H := H.2
  refine mu_iadd mc_139_580 h1 ?_
  have h3 := H.1
  replace H := H.2
  obtain ⟨z2, h4, H⟩ := H
  refine mu_scr mc_139_581 h3 h4 ?_
  refine mu_aload (r := some (30)) mc_139_582 (by decide) rfl ?_
  refine mt_call (args := [mm_P 0, mm_I (z2), mm_P 30]) (rest := []) mc_139_583 (by decide) rfl rfl rfl ⟨by simp, rfl, by decide⟩ rfl H ?_
  rintro _ _ ⟨r8, D5, u6, x7, rfl, rfl, H⟩
  refine Or.inl ⟨_, rfl, ?_⟩
  refine mu_store mc_139_584 (by decide) (by simp) (ls' := [some (mm_P 999), some (mm_P 0), some (mm_P 24), some (mm_P 30), some (mm_I (v4)), some (mm_I (r8)), o6]) rfl ?_
  refine mu_aload (r := some (24)) mc_139_585 (by decide) rfl ?_
  refine mu_aload (r := some (999)) mc_139_586 (by decide) rfl ?_
  refine mu_load mc_139_587 (by decide) rfl ?_
  refine mu_const mc_139_588 (by decide) (by decide) ?_
  have h9 := H.1
  replace H := H.2
  refine mu_iadd mc_139_589 h9 ?_
  have h11 := H.1
  replace H := H.2
  obtain ⟨z10, h12, H⟩ := H
  refine mu_scr mc_139_590 h11 h12 ?_
  refine mt_call (args := [mm_P 24, mm_I (z10)]) (rest := []) mc_139_591 (by decide) rfl rfl rfl ⟨by simp, rfl, by decide⟩ (mu_rcv (by decide) rfl (by decide)) H ?_
  rintro _ _ ⟨r16, D13, u14, x15, rfl, rfl, H⟩
  refine Or.inl ⟨_, rfl, ?_⟩
  refine mu_store mc_139_592 (by decide) (by simp) (ls' := [some (mm_P 999), some (mm_P 0), some (mm_P 24), some (mm_P 30), some (mm_I (v4)), some (mm_I (r8)), some (mm_I (r16))]) rfl ?_
  refine mu_aload (r := some (24)) mc_139_593 (by decide) rfl ?_
  refine mt_call (args := [mm_P 24]) (rest := []) mc_139_594 (by decide) rfl rfl rfl ⟨by simp, rfl, by decide⟩ (mu_rcv (by decide) rfl (by decide)) H ?_
  rintro _ _ ⟨r20, D17, u18, x19, rfl, rfl, H⟩
  refine Or.inl ⟨_, rfl, ?_⟩
  refine mu_load mc_139_595 (by decide) rfl ?_
  refine mu_ic_eq mc_139_596 (fun c => ?_) (fun c => ?_)
  · replace H := H.1 c
    refine mu_load mc_139_599 (by decide) rfl ?_
    refine mu_if_ne mc_139_600 (fun c => ?_) (fun c => ?_)
    · replace H := H.1 c
      refine mu_rfl (n := 646) mc_139_610 (by decide) rfl rfl ?_
      exact H
    · replace H := H.2 c
      refine mu_aload (r := some (30)) mc_139_601 (by decide) rfl ?_
      refine mu_const mc_139_602 (by decide) (by decide) ?_
      refine mu_lald mc_139_603 rfl ?_
      refine mu_load mc_139_604 (by decide) rfl ?_
      refine mu_rfl mc_139_605 (by decide) rfl rfl ?_
      refine mu_rfl mc_139_606 (by decide) rfl rfl ?_
      refine mu_if_eq mc_139_607 (fun c => ?_) (fun c => ?_)
      · replace H := H.1 c
        refine mu_rfl (n := 646) mc_139_610 (by decide) rfl rfl ?_
        exact H
      · replace H := H.2 c
        refine mu_const mc_139_608 (by decide) (by decide) ?_
        exact mt_retB mc_139_609 (by decide) H
  · replace H := H.2 c
    refine mu_const mc_139_597 (by decide) (by decide) ?_
    exact mt_retB mc_139_598 (by decide) H

theorem q_L_law_611 {D : mm_D} {u : Int} {x : Nat × (Nat × List Int)} {Q : mm_O → mm_H → Prop} (v4 : Int) (o5 o6 : Option mm_V) (H : (mm_rng ((v4) + ((1 : Int)))) ∧ ((0 ≤ ((v4) + ((1 : Int)))) ∧ (∃ z2, x.2.2[((v4) + ((1 : Int))).toNat + 1]? = some z2 ∧ (mt 138 0 [some (mm_P 0), some (mm_I (z2)), some (mm_P 30), none] [] (mm_mk D u x) (mm_pI fun r8 D5 u6 x7 => (mm_rng ((v4) + ((1 : Int)))) ∧ ((0 ≤ ((v4) + ((1 : Int)))) ∧ (∃ z10, x7.2.2[((v4) + ((1 : Int))).toNat + 1]? = some z10 ∧ (mt 123 0 [some (mm_P 24), some (mm_I (z10))] [] (mm_mk D5 u6 x7) (mm_pI fun r16 D13 u14 x15 => mt 77 0 [some (mm_P 24)] [] (mm_mk D13 u14 x15) (mm_pI fun r20 D17 u18 x19 => (((r20) = (r8)) → ((¬ (r8) = 0) → mt 139 646 [some (mm_P 999), some (mm_P 0), some (mm_P 24), some (mm_P 30), some (mm_I (v4)), some (mm_I (r8)), some (mm_I (r16))] [] (mm_mk D17 u18 x19) Q) ∧ (¬ (¬ (r8) = 0) → (((mm_cmp (u18) (r16)) = 0) → mt 139 646 [some (mm_P 999), some (mm_P 0), some (mm_P 24), some (mm_P 30), some (mm_I (v4)), some (mm_I (r8)), some (mm_I (r16))] [] (mm_mk D17 u18 x19) Q) ∧ (¬ ((mm_cmp (u18) (r16)) = 0) → Q (.inl (some (mm_I ((0 : Int))))) (mm_mk D17 u18 x19)))) ∧ (¬ ((r20) = (r8)) → Q (.inl (some (mm_I ((0 : Int))))) (mm_mk D17 u18 x19)))))))))))) : mt 139 611 [some (mm_P 999), some (mm_P 0), some (mm_P 24), some (mm_P 30), some (mm_I (v4)), o5, o6] [] (mm_mk D u x) Q := by
  refine mu_aload (r := some (0)) mc_139_611 (by decide) rfl ?_
  refine mu_aload (r := some (999)) mc_139_612 (by decide) rfl ?_
  refine mu_load mc_139_613 (by decide) rfl ?_
  refine mu_const mc_139_614 (by decide) (by decide) ?_
  have h1 := H.1
  replace H := H.2
  refine mu_iadd mc_139_615 h1 ?_
  have h3 := H.1
  replace H := H.2
  obtain ⟨z2, h4, H⟩ := H
  refine mu_scr mc_139_616 h3 h4 ?_
  refine mu_aload (r := some (30)) mc_139_617 (by decide) rfl ?_
  refine mt_call (args := [mm_P 0, mm_I (z2), mm_P 30]) (rest := []) mc_139_618 (by decide) rfl rfl rfl ⟨by simp, rfl, by decide⟩ rfl H ?_
  rintro _ _ ⟨r8, D5, u6, x7, rfl, rfl, H⟩
  refine Or.inl ⟨_, rfl, ?_⟩
  refine mu_store mc_139_619 (by decide) (by simp) (ls' := [some (mm_P 999), some (mm_P 0), some (mm_P 24), some (mm_P 30), some (mm_I (v4)), some (mm_I (r8)), o6]) rfl ?_
  refine mu_aload (r := some (24)) mc_139_620 (by decide) rfl ?_
  refine mu_aload (r := some (999)) mc_139_621 (by decide) rfl ?_
  refine mu_load mc_139_622 (by decide) rfl ?_
  refine mu_const mc_139_623 (by decide) (by decide) ?_
  have h9 := H.1
  replace H := H.2
  refine mu_iadd mc_139_624 h9 ?_
  have h11 := H.1
  replace H := H.2
  obtain ⟨z10, h12, H⟩ := H
  refine mu_scr mc_139_625 h11 h12 ?_
  refine mt_call (args := [mm_P 24, mm_I (z10)]) (rest := []) mc_139_626 (by decide) rfl rfl rfl ⟨by simp, rfl, by decide⟩ (mu_rcv (by decide) rfl (by decide)) H ?_
  rintro _ _ ⟨r16, D13, u14, x15, rfl, rfl, H⟩
  refine Or.inl ⟨_, rfl, ?_⟩
  refine mu_store mc_139_627 (by decide) (by simp) (ls' := [some (mm_P 999), some (mm_P 0), some (mm_P 24), some (mm_P 30), some (mm_I (v4)), some (mm_I (r8)), some (mm_I (r16))]) rfl ?_
  refine mu_aload (r := some (24)) mc_139_628 (by decide) rfl ?_
  refine mt_call (args := [mm_P 24]) (rest := []) mc_139_629 (by decide) rfl rfl rfl ⟨by simp, rfl, by decide⟩ (mu_rcv (by decide) rfl (by decide)) H ?_
  rintro _ _ ⟨r20, D17, u18, x19, rfl, rfl, H⟩
  refine Or.inl ⟨_, rfl, ?_⟩
  refine mu_load mc_139_630 (by decide) rfl ?_
  refine mu_ic_eq mc_139_631 (fun c => ?_) (fun c => ?_)
  · replace H := H.1 c
    refine mu_load mc_139_634 (by decide) rfl ?_
    refine mu_if_ne mc_139_635 (fun c => ?_) (fun c => ?_)
    · replace H := H.1 c
      refine mu_rfl (n := 646) mc_139_645 (by decide) rfl rfl ?_
      exact H
    · replace H := H.2 c
      refine mu_aload (r := some (30)) mc_139_636 (by decide) rfl ?_
      refine mu_const mc_139_637 (by decide) (by decide) ?_
      refine mu_lald mc_139_638 rfl ?_
      refine mu_load mc_139_639 (by decide) rfl ?_
      refine mu_rfl mc_139_640 (by decide) rfl rfl ?_
      refine mu_rfl mc_139_641 (by decide) rfl rfl ?_
      refine mu_if_eq mc_139_642 (fun c => ?_) (fun c => ?_)
      · replace H := H.1 c
        refine mu_rfl (n := 646) mc_139_645 (by decide) rfl rfl ?_
        exact H
      · replace H := H.2 c
        refine mu_const mc_139_643 (by decide) (by decide) ?_
        exact mt_retB mc_139_644 (by decide) H
  · replace H := H.2 c
    refine mu_const mc_139_632 (by decide) (by decide) ?_
    exact mt_retB mc_139_633 (by decide) H

theorem q_L_law_646 {D : mm_D} {u : Int} {x : Nat × (Nat × List Int)} {Q : mm_O → mm_H → Prop} (v4 : Int) (o5 o6 : Option mm_V) (H : (mm_rng ((v4) + (4 : Int))) ∧ (mt 139 13 [some (mm_P 999), some (mm_P 0), some (mm_P 24), some (mm_P 30), some (mm_I ((v4) + (4 : Int))), o5, o6] [] (mm_mk D u x) Q)) : mt 139 646 [some (mm_P 999), some (mm_P 0), some (mm_P 24), some (mm_P 30), some (mm_I (v4)), o5, o6] [] (mm_mk D u x) Q := by
  have h1 := H.1
  replace H := H.2
  refine mu_iinc mc_139_646 rfl h1 (ls' := [some (mm_P 999), some (mm_P 0), some (mm_P 24), some (mm_P 30), some (mm_I ((v4) + (4 : Int))), o5, o6]) rfl ?_
  refine mu_rfl (n := 13) mc_139_647 (by decide) rfl rfl ?_
  exact H
