/-! printed by wip/p31/gen22.py -/
theorem q_L_draw_0 {D : mm_D} {u : Int} {x : Nat × (Nat × List Int)} {Q : mm_O → mm_H → Prop} (v1 : Int) (H : ∃ (z1 : Int) (t2 : List Int), x.2.2 = z1 :: t2 ∧ (((((t2.length : Int)) ≤ (v1)) → (mm_rng ((v1) + ((2 : Int)))) ∧ ((mm_rng (((104729 : Int)) * ((v1) + ((2 : Int))))) ∧ ((0 ≤ (((104729 : Int)) * ((v1) + ((2 : Int)))) ∧ 0 < ((65521 : Int))) ∧ ((mm_rng ((((104729 : Int)) * ((v1) + ((2 : Int)))) % ((65521 : Int)))) ∧ (Q (.inl (some (mm_I ((((104729 : Int)) * ((v1) + ((2 : Int)))) % ((65521 : Int)))))) (mm_mk D u x)))))) ∧ (¬ (((t2.length : Int)) ≤ (v1)) → (0 ≤ (v1)) ∧ (∃ z8, x.2.2[(v1).toNat + 1]? = some z8 ∧ (Q (.inl (some (mm_I (mm_and (z8) ((2147483647 : Int)))))) (mm_mk D u x)))))) : mt 42 0 [some (mm_P 999), some (mm_I (v1))] [] (mm_mk D u x) Q := by
  refine mu_load mc_42_0 (by decide) rfl ?_
  refine mu_aload (r := some (999)) mc_42_1 (by decide) rfl ?_
  obtain ⟨z1, t2, h3, H⟩ := H
  refine mu_alenS mc_42_2 h3 ?_
  refine mu_ic_ge mc_42_3 (fun c => ?_) (fun c => ?_)
  · replace H := H.1 c
    refine mu_ldc mc_42_10 (by decide) ?_
    refine mu_load mc_42_11 (by decide) rfl ?_
    refine mu_const mc_42_12 (by decide) (by decide) ?_
    have h4 := H.1
    replace H := H.2
    refine mu_iadd mc_42_13 h4 ?_
    have h5 := H.1
    replace H := H.2
    refine mu_imul mc_42_14 h5 ?_
    refine mu_ldc mc_42_15 (by decide) ?_
    have h6 := H.1
    replace H := H.2
    have h7 := H.1
    replace H := H.2
    refine mu_irem mc_42_16 h6 h7 ?_
    exact mt_ret mc_42_17 H
  · replace H := H.2 c
    refine mu_aload (r := some (999)) mc_42_4 (by decide) rfl ?_
    refine mu_load mc_42_5 (by decide) rfl ?_
    have h9 := H.1
    replace H := H.2
    obtain ⟨z8, h10, H⟩ := H
    refine mu_scr mc_42_6 h9 h10 ?_
    refine mu_ldc mc_42_7 (by decide) ?_
    refine mu_iand mc_42_8 ?_
    refine mu_rfl (n := 17) mc_42_9 (by decide) rfl rfl ?_
    exact mt_ret mc_42_17 H

theorem q_L_letters_0 {D : mm_D} {u : Int} {x : Nat × (Nat × List Int)} {Q : mm_O → mm_H → Prop} (H : mt 76 4 [some (mm_P 0), some (mm_I ((0 : Int))), some (mm_I ((0 : Int)))] [] (mm_mk D u x) Q) : mt 76 0 [some (mm_P 0), none, none] [] (mm_mk D u x) Q := by
  refine mu_const mc_76_0 (by decide) (by decide) ?_
  refine mu_store mc_76_1 (by decide) (by simp) (ls' := [some (mm_P 0), some (mm_I ((0 : Int))), none]) rfl ?_
  refine mu_const mc_76_2 (by decide) (by decide) ?_
  refine mu_store mc_76_3 (by decide) (by simp) (ls' := [some (mm_P 0), some (mm_I ((0 : Int))), some (mm_I ((0 : Int)))]) rfl ?_
  exact H
theorem q_L_letters_4 {D : mm_D} {u : Int} {x : Nat × (Nat × List Int)} {Q : mm_O → mm_H → Prop} (v1 v2 : Int) (H : mt 45 0 [some (mm_P 0)] [] (mm_mk D u x) (mm_pI fun r4 D1 u2 x3 => (((r4) ≤ (v2)) → Q (.inl (some (mm_I (v1)))) (mm_mk D1 u2 x3)) ∧ (¬ ((r4) ≤ (v2)) → mt 46 0 [some (mm_P 0), some (mm_I (v2))] [] (mm_mk D1 u2 x3) (mm_pIx (fun r8 D5 u6 x7 => (mm_rng ((v1) + (r8))) ∧ ((mm_rng ((v2) + (1 : Int))) ∧ (mt 76 4 [some (mm_P 0), some (mm_I ((v1) + (r8))), some (mm_I ((v2) + (1 : Int)))] [] (mm_mk D5 u6 x7) Q))) (fun E12 D9 u10 x11 => Q (.inr E12) (mm_mk D9 u10 x11)))))) : mt 76 4 [some (mm_P 0), some (mm_I (v1)), some (mm_I (v2))] [] (mm_mk D u x) Q := by
  refine mu_load mc_76_4 (by decide) rfl ?_
  refine mu_aload (r := some (0)) mc_76_5 (by decide) rfl ?_
  refine mt_call (args := [mm_P 0]) (rest := [mm_I (v2)]) mc_76_6 (by decide) rfl rfl rfl ⟨Or.inl (by simp), rfl, by decide⟩ (mu_rcv (by decide) rfl (by decide)) H ?_
  rintro _ _ ⟨r4, D1, u2, x3, rfl, rfl, H⟩
  refine Or.inl ⟨_, rfl, ?_⟩
  refine mu_ic_ge mc_76_7 (fun c => ?_) (fun c => ?_)
  · replace H := H.1 c
    refine mu_load mc_76_16 (by decide) rfl ?_
    exact mt_ret mc_76_17 H
  · replace H := H.2 c
    refine mu_load mc_76_8 (by decide) rfl ?_
    refine mu_aload (r := some (0)) mc_76_9 (by decide) rfl ?_
    refine mu_load mc_76_10 (by decide) rfl ?_
    refine mt_call (args := [mm_P 0, mm_I (v2)]) (rest := [mm_I (v1)]) mc_76_11 (by decide) rfl rfl rfl ⟨Or.inl (by simp), rfl, by decide⟩ (mu_rcv (by decide) rfl (by decide)) H ?_
    rintro _ _ (⟨r8, D5, u6, x7, rfl, rfl, H⟩ | ⟨E12, D9, u10, x11, rfl, rfl, H⟩)
    · refine Or.inl ⟨_, rfl, ?_⟩
      have h13 := H.1
      replace H := H.2
      refine mu_iadd mc_76_12 h13 ?_
      refine mu_store mc_76_13 (by decide) (by simp) (ls' := [some (mm_P 0), some (mm_I ((v1) + (r8))), some (mm_I (v2))]) rfl ?_
      have h14 := H.1
      replace H := H.2
      refine mu_iinc mc_76_14 rfl h14 (ls' := [some (mm_P 0), some (mm_I ((v1) + (r8))), some (mm_I ((v2) + (1 : Int)))]) rfl ?_
      refine mu_rfl (n := 4) mc_76_15 (by decide) rfl rfl ?_
      exact H
    · exact Or.inr ⟨_, rfl, by decide, Or.inr ⟨mm_handN (by decide) _, by decide, H⟩⟩

theorem q_L_step_0 {D : mm_D} {u : Int} {x : Nat × (Nat × List Int)} {Q : mm_O → mm_H → Prop} (v1 v2 v3 : Int) (H : mt 45 0 [some (mm_P 0)] [] (mm_mk D u x) (mm_pI fun r4 D1 u2 x3 => (((r4) = 0) → mt 77 12 [some (mm_P 0), some (mm_I (v1)), some (mm_I (v2)), some (mm_I (v3)), some (mm_I (r4)), none, none, none] [] (mm_mk D1 u2 x3) Q) ∧ (¬ ((r4) = 0) → (0 ≤ (v1) ∧ 0 < ((9 : Int))) ∧ ((mm_rng ((v1) % ((9 : Int)))) ∧ (((¬ ((v1) % ((9 : Int))) = 0) → mt 77 30 [some (mm_P 0), some (mm_I (v1)), some (mm_I (v2)), some (mm_I (v3)), some (mm_I (r4)), none, none, none] [] (mm_mk D1 u2 x3) Q) ∧ (¬ (¬ ((v1) % ((9 : Int))) = 0) → ((((4 : Int)) ≤ (r4)) → mt 77 30 [some (mm_P 0), some (mm_I (v1)), some (mm_I (v2)), some (mm_I (v3)), some (mm_I (r4)), none, none, none] [] (mm_mk D1 u2 x3) Q) ∧ (¬ (((4 : Int)) ≤ (r4)) → mt 77 12 [some (mm_P 0), some (mm_I (v1)), some (mm_I (v2)), some (mm_I (v3)), some (mm_I (r4)), none, none, none] [] (mm_mk D1 u2 x3) Q))))))) : mt 77 0 [some (mm_P 0), some (mm_I (v1)), some (mm_I (v2)), some (mm_I (v3)), none, none, none, none] [] (mm_mk D u x) Q := by
  refine mu_aload (r := some (0)) mc_77_0 (by decide) rfl ?_
  refine mt_call (args := [mm_P 0]) (rest := []) mc_77_1 (by decide) rfl rfl rfl ⟨Or.inl (by simp), rfl, by decide⟩ (mu_rcv (by decide) rfl (by decide)) H ?_
  rintro _ _ ⟨r4, D1, u2, x3, rfl, rfl, H⟩
  refine Or.inl ⟨_, rfl, ?_⟩
  refine mu_store mc_77_2 (by decide) (by simp) (ls' := [some (mm_P 0), some (mm_I (v1)), some (mm_I (v2)), some (mm_I (v3)), some (mm_I (r4)), none, none, none]) rfl ?_
  refine mu_load mc_77_3 (by decide) rfl ?_
  refine mu_if_eq mc_77_4 (fun c => ?_) (fun c => ?_)
  · replace H := H.1 c
    exact H
  · replace H := H.2 c
    refine mu_load mc_77_5 (by decide) rfl ?_
    refine mu_const mc_77_6 (by decide) (by decide) ?_
    have h5 := H.1
    replace H := H.2
    have h6 := H.1
    replace H := H.2
    refine mu_irem mc_77_7 h5 h6 ?_
    refine mu_if_ne mc_77_8 (fun c => ?_) (fun c => ?_)
    · replace H := H.1 c
      exact H
    · replace H := H.2 c
      refine mu_load mc_77_9 (by decide) rfl ?_
      refine mu_const mc_77_10 (by decide) (by decide) ?_
      refine mu_ic_ge mc_77_11 (fun c => ?_) (fun c => ?_)
      · replace H := H.1 c
        exact H
      · replace H := H.2 c
        exact H
theorem q_L_step_12 {D : mm_D} {u : Int} {x : Nat × (Nat × List Int)} {Q : mm_O → mm_H → Prop} (v1 v2 v3 v4 : Int) (H : mt 43 0 [some (mm_P 0)] [] (mm_mk D u x) (mm_pIx (fun r4 D1 u2 x3 => ((¬ (r4) = (v4)) → mt 77 28 [some (mm_P 0), some (mm_I (v1)), some (mm_I (v2)), some (mm_I (v3)), some (mm_I (v4)), none, none, none] [] (mm_mk D1 u2 x3) Q) ∧ (¬ (¬ (r4) = (v4)) → mt 45 0 [some (mm_P 0)] [] (mm_mk D1 u2 x3) (mm_pI fun r12 D9 u10 x11 => (mm_rng ((v4) + ((1 : Int)))) ∧ (((¬ (r12) = ((v4) + ((1 : Int)))) → mt 77 28 [some (mm_P 0), some (mm_I (v1)), some (mm_I (v2)), some (mm_I (v3)), some (mm_I (v4)), none, none, none] [] (mm_mk D9 u10 x11) Q) ∧ (¬ (¬ (r12) = ((v4) + ((1 : Int)))) → mt 46 0 [some (mm_P 0), some (mm_I (v4))] [] (mm_mk D9 u10 x11) (mm_pIx (fun r17 D14 u15 x16 => ((¬ (r17) = 0) → mt 77 28 [some (mm_P 0), some (mm_I (v1)), some (mm_I (v2)), some (mm_I (v3)), some (mm_I (v4)), none, none, none] [] (mm_mk D14 u15 x16) Q) ∧ (¬ (¬ (r17) = 0) → Q (.inl (some (mm_I ((1 : Int))))) (mm_mk D14 u15 x16))) (fun E21 D18 u19 x20 => Q (.inr E21) (mm_mk D18 u19 x20)))))))) (fun E8 D5 u6 x7 => Q (.inr E8) (mm_mk D5 u6 x7)))) : mt 77 12 [some (mm_P 0), some (mm_I (v1)), some (mm_I (v2)), some (mm_I (v3)), some (mm_I (v4)), none, none, none] [] (mm_mk D u x) Q := by
  refine mu_aload (r := some (0)) mc_77_12 (by decide) rfl ?_
  refine mt_call (args := [mm_P 0]) (rest := []) mc_77_13 (by decide) rfl rfl rfl ⟨Or.inl (by simp), rfl, by decide⟩ (mu_rcv (by decide) rfl (by decide)) H ?_
  rintro _ _ (⟨r4, D1, u2, x3, rfl, rfl, H⟩ | ⟨E8, D5, u6, x7, rfl, rfl, H⟩)
  · refine Or.inl ⟨_, rfl, ?_⟩
    refine mu_load mc_77_14 (by decide) rfl ?_
    refine mu_ic_ne mc_77_15 (fun c => ?_) (fun c => ?_)
    · replace H := H.1 c
      exact H
    · replace H := H.2 c
      refine mu_aload (r := some (0)) mc_77_16 (by decide) rfl ?_
      refine mt_call (args := [mm_P 0]) (rest := []) mc_77_17 (by decide) rfl rfl rfl ⟨Or.inl (by simp), rfl, by decide⟩ (mu_rcv (by decide) rfl (by decide)) H ?_
      rintro _ _ ⟨r12, D9, u10, x11, rfl, rfl, H⟩
      refine Or.inl ⟨_, rfl, ?_⟩
      refine mu_load mc_77_18 (by decide) rfl ?_
      refine mu_const mc_77_19 (by decide) (by decide) ?_
      have h13 := H.1
      replace H := H.2
      refine mu_iadd mc_77_20 h13 ?_
      refine mu_ic_ne mc_77_21 (fun c => ?_) (fun c => ?_)
      · replace H := H.1 c
        exact H
      · replace H := H.2 c
        refine mu_aload (r := some (0)) mc_77_22 (by decide) rfl ?_
        refine mu_load mc_77_23 (by decide) rfl ?_
        refine mt_call (args := [mm_P 0, mm_I (v4)]) (rest := []) mc_77_24 (by decide) rfl rfl rfl ⟨Or.inl (by simp), rfl, by decide⟩ (mu_rcv (by decide) rfl (by decide)) H ?_
        rintro _ _ (⟨r17, D14, u15, x16, rfl, rfl, H⟩ | ⟨E21, D18, u19, x20, rfl, rfl, H⟩)
        · refine Or.inl ⟨_, rfl, ?_⟩
          refine mu_if_ne mc_77_25 (fun c => ?_) (fun c => ?_)
          · replace H := H.1 c
            exact H
          · replace H := H.2 c
            refine mu_const mc_77_26 (by decide) (by decide) ?_
            refine mu_rfl (n := 29) mc_77_27 (by decide) rfl rfl ?_
            exact mt_retB mc_77_29 (by decide) H
        · exact Or.inr ⟨_, rfl, by decide, Or.inr ⟨mm_handN (by decide) _, by decide, H⟩⟩
  · exact Or.inr ⟨_, rfl, by decide, Or.inr ⟨mm_handN (by decide) _, by decide, H⟩⟩
theorem q_L_step_28 {D : mm_D} {u : Int} {x : Nat × (Nat × List Int)} {Q : mm_O → mm_H → Prop} (v1 v2 v3 v4 : Int) (H : Q (.inl (some (mm_I ((0 : Int))))) (mm_mk D u x)) : mt 77 28 [some (mm_P 0), some (mm_I (v1)), some (mm_I (v2)), some (mm_I (v3)), some (mm_I (v4)), none, none, none] [] (mm_mk D u x) Q := by
  refine mu_const mc_77_28 (by decide) (by decide) ?_
  exact mt_retB mc_77_29 (by decide) H
theorem q_L_step_30 {D : mm_D} {u : Int} {x : Nat × (Nat × List Int)} {Q : mm_O → mm_H → Prop} (v1 v2 v3 v4 : Int) (H : (0 ≤ (v2) ∧ 0 < (v4)) ∧ ((mm_rng ((v2) % (v4))) ∧ ((0 ≤ (v1) ∧ 0 < ((9 : Int))) ∧ ((mm_rng ((v1) % ((9 : Int)))) ∧ (((((6 : Int)) ≤ ((v1) % ((9 : Int)))) → mt 77 82 [some (mm_P 0), some (mm_I (v1)), some (mm_I (v2)), some (mm_I (v3)), some (mm_I (v4)), some (mm_I ((v2) % (v4))), none, none] [] (mm_mk D u x) Q) ∧ (¬ (((6 : Int)) ≤ ((v1) % ((9 : Int)))) → mt 76 0 [some (mm_P 0), none, none] [] (mm_mk D u x) (mm_pIx (fun r8 D5 u6 x7 => ((((24 : Int)) ≤ (r8)) → mt 77 82 [some (mm_P 0), some (mm_I (v1)), some (mm_I (v2)), some (mm_I (v3)), some (mm_I (v4)), some (mm_I ((v2) % (v4))), none, none] [] (mm_mk D5 u6 x7) Q) ∧ (¬ (((24 : Int)) ≤ (r8)) → mt 46 0 [some (mm_P 0), some (mm_I ((v2) % (v4)))] [] (mm_mk D5 u6 x7) (mm_pIx (fun r16 D13 u14 x15 => (0 ≤ (v3) ∧ 0 < ((5 : Int))) ∧ ((mm_rng ((v3) % ((5 : Int)))) ∧ (((¬ ((v3) % ((5 : Int))) = 0) → (0 ≤ (v3) ∧ 0 < ((3 : Int))) ∧ ((mm_rng ((v3) % ((3 : Int)))) ∧ (mt 44 0 [some (mm_P 0), some (mm_I ((v2) % (v4))), some (mm_I ((v3) % ((3 : Int)))), none] [] (mm_mk D13 u14 x15) (mm_pIx (fun r28 D25 u26 x27 => (mm_rng ((r16) + ((1 : Int)))) ∧ (((¬ (r28) = ((r16) + ((1 : Int)))) → mt 77 80 [some (mm_P 0), some (mm_I (v1)), some (mm_I (v2)), some (mm_I (v3)), some (mm_I (v4)), some (mm_I ((v2) % (v4))), some (mm_I (r16)), some (mm_I ((v3) % ((3 : Int))))] [] (mm_mk D25 u26 x27) Q) ∧ (¬ (¬ (r28) = ((r16) + ((1 : Int)))) → mt 46 0 [some (mm_P 0), some (mm_I ((v2) % (v4)))] [] (mm_mk D25 u26 x27) (mm_pIx (fun r37 D34 u35 x36 => (mm_rng ((r16) + ((1 : Int)))) ∧ (((¬ (r37) = ((r16) + ((1 : Int)))) → mt 77 80 [some (mm_P 0), some (mm_I (v1)), some (mm_I (v2)), some (mm_I (v3)), some (mm_I (v4)), some (mm_I ((v2) % (v4))), some (mm_I (r16)), some (mm_I ((v3) % ((3 : Int))))] [] (mm_mk D34 u35 x36) Q) ∧ (¬ (¬ (r37) = ((r16) + ((1 : Int)))) → mt 47 0 [some (mm_P 0), some (mm_I ((v2) % (v4))), some (mm_I (r16)), none] [] (mm_mk D34 u35 x36) (mm_pIx (fun r46 D43 u44 x45 => ((¬ (r46) = ((v3) % ((3 : Int)))) → mt 77 80 [some (mm_P 0), some (mm_I (v1)), some (mm_I (v2)), some (mm_I (v3)), some (mm_I (v4)), some (mm_I ((v2) % (v4))), some (mm_I (r16)), some (mm_I ((v3) % ((3 : Int))))] [] (mm_mk D43 u44 x45) Q) ∧ (¬ (¬ (r46) = ((v3) % ((3 : Int)))) → Q (.inl (some (mm_I ((1 : Int))))) (mm_mk D43 u44 x45))) (fun E50 D47 u48 x49 => Q (.inr E50) (mm_mk D47 u48 x49)))))) (fun E41 D38 u39 x40 => Q (.inr E41) (mm_mk D38 u39 x40)))))) (fun E32 D29 u30 x31 => Q (.inr E32) (mm_mk D29 u30 x31)))))) ∧ (¬ (¬ ((v3) % ((5 : Int))) = 0) → (0 ≤ (v3) ∧ 0 < ((26 : Int))) ∧ ((mm_rng ((v3) % ((26 : Int)))) ∧ (mt 44 0 [some (mm_P 0), some (mm_I ((v2) % (v4))), some (mm_I ((v3) % ((26 : Int)))), none] [] (mm_mk D13 u14 x15) (mm_pIx (fun r56 D53 u54 x55 => (mm_rng ((r16) + ((1 : Int)))) ∧ (((¬ (r56) = ((r16) + ((1 : Int)))) → mt 77 80 [some (mm_P 0), some (mm_I (v1)), some (mm_I (v2)), some (mm_I (v3)), some (mm_I (v4)), some (mm_I ((v2) % (v4))), some (mm_I (r16)), some (mm_I ((v3) % ((26 : Int))))] [] (mm_mk D53 u54 x55) Q) ∧ (¬ (¬ (r56) = ((r16) + ((1 : Int)))) → mt 46 0 [some (mm_P 0), some (mm_I ((v2) % (v4)))] [] (mm_mk D53 u54 x55) (mm_pIx (fun r65 D62 u63 x64 => (mm_rng ((r16) + ((1 : Int)))) ∧ (((¬ (r65) = ((r16) + ((1 : Int)))) → mt 77 80 [some (mm_P 0), some (mm_I (v1)), some (mm_I (v2)), some (mm_I (v3)), some (mm_I (v4)), some (mm_I ((v2) % (v4))), some (mm_I (r16)), some (mm_I ((v3) % ((26 : Int))))] [] (mm_mk D62 u63 x64) Q) ∧ (¬ (¬ (r65) = ((r16) + ((1 : Int)))) → mt 47 0 [some (mm_P 0), some (mm_I ((v2) % (v4))), some (mm_I (r16)), none] [] (mm_mk D62 u63 x64) (mm_pIx (fun r74 D71 u72 x73 => ((¬ (r74) = ((v3) % ((26 : Int)))) → mt 77 80 [some (mm_P 0), some (mm_I (v1)), some (mm_I (v2)), some (mm_I (v3)), some (mm_I (v4)), some (mm_I ((v2) % (v4))), some (mm_I (r16)), some (mm_I ((v3) % ((26 : Int))))] [] (mm_mk D71 u72 x73) Q) ∧ (¬ (¬ (r74) = ((v3) % ((26 : Int)))) → Q (.inl (some (mm_I ((1 : Int))))) (mm_mk D71 u72 x73))) (fun E78 D75 u76 x77 => Q (.inr E78) (mm_mk D75 u76 x77)))))) (fun E69 D66 u67 x68 => Q (.inr E69) (mm_mk D66 u67 x68)))))) (fun E60 D57 u58 x59 => Q (.inr E60) (mm_mk D57 u58 x59))))))))) (fun E20 D17 u18 x19 => Q (.inr E20) (mm_mk D17 u18 x19))))) (fun E12 D9 u10 x11 => Q (.inr E12) (mm_mk D9 u10 x11))))))))) : mt 77 30 [some (mm_P 0), some (mm_I (v1)), some (mm_I (v2)), some (mm_I (v3)), some (mm_I (v4)), none, none, none] [] (mm_mk D u x) Q := by
  refine mu_load mc_77_30 (by decide) rfl ?_
  refine mu_load mc_77_31 (by decide) rfl ?_
  have h1 := H.1
  replace H := H.2
  have h2 := H.1
  replace H := H.2
  refine mu_irem mc_77_32 h1 h2 ?_
  refine mu_store mc_77_33 (by decide) (by simp) (ls' := [some (mm_P 0), some (mm_I (v1)), some (mm_I (v2)), some (mm_I (v3)), some (mm_I (v4)), some (mm_I ((v2) % (v4))), none, none]) rfl ?_
  refine mu_load mc_77_34 (by decide) rfl ?_
  refine mu_const mc_77_35 (by decide) (by decide) ?_
  have h3 := H.1
  replace H := H.2
  have h4 := H.1
  replace H := H.2
  refine mu_irem mc_77_36 h3 h4 ?_
  refine mu_const mc_77_37 (by decide) (by decide) ?_
  refine mu_ic_ge mc_77_38 (fun c => ?_) (fun c => ?_)
  · replace H := H.1 c
    exact H
  · replace H := H.2 c
    refine mu_aload (r := some (0)) mc_77_39 (by decide) rfl ?_
    refine mt_call (args := [mm_P 0]) (rest := []) mc_77_40 (by decide) rfl rfl rfl ⟨Or.inl (by simp), rfl, by decide⟩ rfl H ?_
    rintro _ _ (⟨r8, D5, u6, x7, rfl, rfl, H⟩ | ⟨E12, D9, u10, x11, rfl, rfl, H⟩)
    · refine Or.inl ⟨_, rfl, ?_⟩
      refine mu_const mc_77_41 (by decide) (by decide) ?_
      refine mu_ic_ge mc_77_42 (fun c => ?_) (fun c => ?_)
      · replace H := H.1 c
        exact H
      · replace H := H.2 c
        refine mu_aload (r := some (0)) mc_77_43 (by decide) rfl ?_
        refine mu_load mc_77_44 (by decide) rfl ?_
        refine mt_call (args := [mm_P 0, mm_I ((v2) % (v4))]) (rest := []) mc_77_45 (by decide) rfl rfl rfl ⟨Or.inl (by simp), rfl, by decide⟩ (mu_rcv (by decide) rfl (by decide)) H ?_
        rintro _ _ (⟨r16, D13, u14, x15, rfl, rfl, H⟩ | ⟨E20, D17, u18, x19, rfl, rfl, H⟩)
        · refine Or.inl ⟨_, rfl, ?_⟩
          refine mu_store mc_77_46 (by decide) (by simp) (ls' := [some (mm_P 0), some (mm_I (v1)), some (mm_I (v2)), some (mm_I (v3)), some (mm_I (v4)), some (mm_I ((v2) % (v4))), some (mm_I (r16)), none]) rfl ?_
          refine mu_load mc_77_47 (by decide) rfl ?_
          refine mu_load mc_77_48 (by decide) rfl ?_
          refine mu_const mc_77_49 (by decide) (by decide) ?_
          have h21 := H.1
          replace H := H.2
          have h22 := H.1
          replace H := H.2
          refine mu_irem mc_77_50 h21 h22 ?_
          refine mu_if_ne mc_77_51 (fun c => ?_) (fun c => ?_)
          · replace H := H.1 c
            refine mu_const mc_77_54 (by decide) (by decide) ?_
            have h23 := H.1
            replace H := H.2
            have h24 := H.1
            replace H := H.2
            refine mu_irem mc_77_55 h23 h24 ?_
            refine mu_store mc_77_56 (by decide) (by simp) (ls' := [some (mm_P 0), some (mm_I (v1)), some (mm_I (v2)), some (mm_I (v3)), some (mm_I (v4)), some (mm_I ((v2) % (v4))), some (mm_I (r16)), some (mm_I ((v3) % ((3 : Int))))]) rfl ?_
            refine mu_aload (r := some (0)) mc_77_57 (by decide) rfl ?_
            refine mu_load mc_77_58 (by decide) rfl ?_
            refine mu_load mc_77_59 (by decide) rfl ?_
            refine mt_call (args := [mm_P 0, mm_I ((v2) % (v4)), mm_I ((v3) % ((3 : Int)))]) (rest := []) mc_77_60 (by decide) rfl rfl rfl ⟨Or.inl (by simp), rfl, by decide⟩ (mu_rcv (by decide) rfl (by decide)) H ?_
            rintro _ _ (⟨r28, D25, u26, x27, rfl, rfl, H⟩ | ⟨E32, D29, u30, x31, rfl, rfl, H⟩)
            · refine Or.inl ⟨_, rfl, ?_⟩
              refine mu_load mc_77_61 (by decide) rfl ?_
              refine mu_const mc_77_62 (by decide) (by decide) ?_
              have h33 := H.1
              replace H := H.2
              refine mu_iadd mc_77_63 h33 ?_
              refine mu_ic_ne mc_77_64 (fun c => ?_) (fun c => ?_)
              · replace H := H.1 c
                exact H
              · replace H := H.2 c
                refine mu_aload (r := some (0)) mc_77_65 (by decide) rfl ?_
                refine mu_load mc_77_66 (by decide) rfl ?_
                refine mt_call (args := [mm_P 0, mm_I ((v2) % (v4))]) (rest := []) mc_77_67 (by decide) rfl rfl rfl ⟨Or.inl (by simp), rfl, by decide⟩ (mu_rcv (by decide) rfl (by decide)) H ?_
                rintro _ _ (⟨r37, D34, u35, x36, rfl, rfl, H⟩ | ⟨E41, D38, u39, x40, rfl, rfl, H⟩)
                · refine Or.inl ⟨_, rfl, ?_⟩
                  refine mu_load mc_77_68 (by decide) rfl ?_
                  refine mu_const mc_77_69 (by decide) (by decide) ?_
                  have h42 := H.1
                  replace H := H.2
                  refine mu_iadd mc_77_70 h42 ?_
                  refine mu_ic_ne mc_77_71 (fun c => ?_) (fun c => ?_)
                  · replace H := H.1 c
                    exact H
                  · replace H := H.2 c
                    refine mu_aload (r := some (0)) mc_77_72 (by decide) rfl ?_
                    refine mu_load mc_77_73 (by decide) rfl ?_
                    refine mu_load mc_77_74 (by decide) rfl ?_
                    refine mt_call (args := [mm_P 0, mm_I ((v2) % (v4)), mm_I (r16)]) (rest := []) mc_77_75 (by decide) rfl rfl rfl ⟨Or.inl (by simp), rfl, by decide⟩ (mu_rcv (by decide) rfl (by decide)) H ?_
                    rintro _ _ (⟨r46, D43, u44, x45, rfl, rfl, H⟩ | ⟨E50, D47, u48, x49, rfl, rfl, H⟩)
                    · refine Or.inl ⟨_, rfl, ?_⟩
                      refine mu_load mc_77_76 (by decide) rfl ?_
                      refine mu_ic_ne mc_77_77 (fun c => ?_) (fun c => ?_)
                      · replace H := H.1 c
                        exact H
                      · replace H := H.2 c
                        refine mu_const mc_77_78 (by decide) (by decide) ?_
                        refine mu_rfl (n := 81) mc_77_79 (by decide) rfl rfl ?_
                        exact mt_retB mc_77_81 (by decide) H
                    · exact Or.inr ⟨_, rfl, by decide, Or.inr ⟨mm_handN (by decide) _, by decide, H⟩⟩
                · exact Or.inr ⟨_, rfl, by decide, Or.inr ⟨mm_handN (by decide) _, by decide, H⟩⟩
            · exact Or.inr ⟨_, rfl, by decide, Or.inr ⟨mm_handN (by decide) _, by decide, H⟩⟩
          · replace H := H.2 c
            refine mu_const mc_77_52 (by decide) (by decide) ?_
            refine mu_rfl (n := 55) mc_77_53 (by decide) rfl rfl ?_
            have h51 := H.1
            replace H := H.2
            have h52 := H.1
            replace H := H.2
            refine mu_irem mc_77_55 h51 h52 ?_
            refine mu_store mc_77_56 (by decide) (by simp) (ls' := [some (mm_P 0), some (mm_I (v1)), some (mm_I (v2)), some (mm_I (v3)), some (mm_I (v4)), some (mm_I ((v2) % (v4))), some (mm_I (r16)), some (mm_I ((v3) % ((26 : Int))))]) rfl ?_
            refine mu_aload (r := some (0)) mc_77_57 (by decide) rfl ?_
            refine mu_load mc_77_58 (by decide) rfl ?_
            refine mu_load mc_77_59 (by decide) rfl ?_
            refine mt_call (args := [mm_P 0, mm_I ((v2) % (v4)), mm_I ((v3) % ((26 : Int)))]) (rest := []) mc_77_60 (by decide) rfl rfl rfl ⟨Or.inl (by simp), rfl, by decide⟩ (mu_rcv (by decide) rfl (by decide)) H ?_
            rintro _ _ (⟨r56, D53, u54, x55, rfl, rfl, H⟩ | ⟨E60, D57, u58, x59, rfl, rfl, H⟩)
            · refine Or.inl ⟨_, rfl, ?_⟩
              refine mu_load mc_77_61 (by decide) rfl ?_
              refine mu_const mc_77_62 (by decide) (by decide) ?_
              have h61 := H.1
              replace H := H.2
              refine mu_iadd mc_77_63 h61 ?_
              refine mu_ic_ne mc_77_64 (fun c => ?_) (fun c => ?_)
              · replace H := H.1 c
                exact H
              · replace H := H.2 c
                refine mu_aload (r := some (0)) mc_77_65 (by decide) rfl ?_
                refine mu_load mc_77_66 (by decide) rfl ?_
                refine mt_call (args := [mm_P 0, mm_I ((v2) % (v4))]) (rest := []) mc_77_67 (by decide) rfl rfl rfl ⟨Or.inl (by simp), rfl, by decide⟩ (mu_rcv (by decide) rfl (by decide)) H ?_
                rintro _ _ (⟨r65, D62, u63, x64, rfl, rfl, H⟩ | ⟨E69, D66, u67, x68, rfl, rfl, H⟩)
                · refine Or.inl ⟨_, rfl, ?_⟩
                  refine mu_load mc_77_68 (by decide) rfl ?_
                  refine mu_const mc_77_69 (by decide) (by decide) ?_
                  have h70 := H.1
                  replace H := H.2
                  refine mu_iadd mc_77_70 h70 ?_
                  refine mu_ic_ne mc_77_71 (fun c => ?_) (fun c => ?_)
                  · replace H := H.1 c
                    exact H
                  · replace H := H.2 c
                    refine mu_aload (r := some (0)) mc_77_72 (by decide) rfl ?_
                    refine mu_load mc_77_73 (by decide) rfl ?_
                    refine mu_load mc_77_74 (by decide) rfl ?_
                    refine mt_call (args := [mm_P 0, mm_I ((v2) % (v4)), mm_I (r16)]) (rest := []) mc_77_75 (by decide) rfl rfl rfl ⟨Or.inl (by simp), rfl, by decide⟩ (mu_rcv (by decide) rfl (by decide)) H ?_
                    rintro _ _ (⟨r74, D71, u72, x73, rfl, rfl, H⟩ | ⟨E78, D75, u76, x77, rfl, rfl, H⟩)
                    · refine Or.inl ⟨_, rfl, ?_⟩
                      refine mu_load mc_77_76 (by decide) rfl ?_
                      refine mu_ic_ne mc_77_77 (fun c => ?_) (fun c => ?_)
                      · replace H := H.1 c
                        exact H
                      · replace H := H.2 c
                        refine mu_const mc_77_78 (by decide) (by decide) ?_
                        refine mu_rfl (n := 81) mc_77_79 (by decide) rfl rfl ?_
                        exact mt_retB mc_77_81 (by decide) H
                    · exact Or.inr ⟨_, rfl, by decide, Or.inr ⟨mm_handN (by decide) _, by decide, H⟩⟩
                · exact Or.inr ⟨_, rfl, by decide, Or.inr ⟨mm_handN (by decide) _, by decide, H⟩⟩
            · exact Or.inr ⟨_, rfl, by decide, Or.inr ⟨mm_handN (by decide) _, by decide, H⟩⟩
        · exact Or.inr ⟨_, rfl, by decide, Or.inr ⟨mm_handN (by decide) _, by decide, H⟩⟩
    · exact Or.inr ⟨_, rfl, by decide, Or.inr ⟨mm_handN (by decide) _, by decide, H⟩⟩
theorem q_L_step_80 {D : mm_D} {u : Int} {x : Nat × (Nat × List Int)} {Q : mm_O → mm_H → Prop} (v1 v2 v3 v4 v5 v6 v7 : Int) (H : Q (.inl (some (mm_I ((0 : Int))))) (mm_mk D u x)) : mt 77 80 [some (mm_P 0), some (mm_I (v1)), some (mm_I (v2)), some (mm_I (v3)), some (mm_I (v4)), some (mm_I (v5)), some (mm_I (v6)), some (mm_I (v7))] [] (mm_mk D u x) Q := by
  refine mu_const mc_77_80 (by decide) (by decide) ?_
  exact mt_retB mc_77_81 (by decide) H
theorem q_L_step_82 {D : mm_D} {u : Int} {x : Nat × (Nat × List Int)} {Q : mm_O → mm_H → Prop} (v1 v2 v3 v4 v5 : Int) (H : mt 52 0 [some (mm_P 0)] [] (mm_mk D u x) (mm_pI fun r4 D1 u2 x3 => (0 ≤ (v1) ∧ 0 < ((9 : Int))) ∧ ((mm_rng ((v1) % ((9 : Int)))) ∧ (((¬ ((v1) % ((9 : Int))) = ((6 : Int))) → mt 77 113 [some (mm_P 0), some (mm_I (v1)), some (mm_I (v2)), some (mm_I (v3)), some (mm_I (v4)), some (mm_I (v5)), some (mm_I (r4)), none] [] (mm_mk D1 u2 x3) Q) ∧ (¬ (¬ ((v1) % ((9 : Int))) = ((6 : Int))) → ((((120 : Int)) ≤ (r4)) → mt 77 113 [some (mm_P 0), some (mm_I (v1)), some (mm_I (v2)), some (mm_I (v3)), some (mm_I (v4)), some (mm_I (v5)), some (mm_I (r4)), none] [] (mm_mk D1 u2 x3) Q) ∧ (¬ (((120 : Int)) ≤ (r4)) → (0 ≤ (v3) ∧ 0 < ((4 : Int))) ∧ ((mm_rng ((v3) % ((4 : Int)))) ∧ (mt 48 0 [some (mm_P 0), some (mm_I ((v3) % ((4 : Int))))] [] (mm_mk D1 u2 x3) (mm_pIx (fun r12 D9 u10 x11 => (mm_rng ((r4) + ((1 : Int)))) ∧ (((¬ (r12) = ((r4) + ((1 : Int)))) → mt 77 111 [some (mm_P 0), some (mm_I (v1)), some (mm_I (v2)), some (mm_I (v3)), some (mm_I (v4)), some (mm_I (v5)), some (mm_I (r4)), none] [] (mm_mk D9 u10 x11) Q) ∧ (¬ (¬ (r12) = ((r4) + ((1 : Int)))) → mt 53 0 [some (mm_P 0), some (mm_I (r4))] [] (mm_mk D9 u10 x11) (mm_pIx (fun r21 D18 u19 x20 => (0 ≤ (v3) ∧ 0 < ((4 : Int))) ∧ ((mm_rng ((v3) % ((4 : Int)))) ∧ (((¬ (r21) = ((v3) % ((4 : Int)))) → mt 77 111 [some (mm_P 0), some (mm_I (v1)), some (mm_I (v2)), some (mm_I (v3)), some (mm_I (v4)), some (mm_I (v5)), some (mm_I (r4)), none] [] (mm_mk D18 u19 x20) Q) ∧ (¬ (¬ (r21) = ((v3) % ((4 : Int)))) → Q (.inl (some (mm_I ((1 : Int))))) (mm_mk D18 u19 x20))))) (fun E25 D22 u23 x24 => Q (.inr E25) (mm_mk D22 u23 x24)))))) (fun E16 D13 u14 x15 => Q (.inr E16) (mm_mk D13 u14 x15))))))))))) : mt 77 82 [some (mm_P 0), some (mm_I (v1)), some (mm_I (v2)), some (mm_I (v3)), some (mm_I (v4)), some (mm_I (v5)), none, none] [] (mm_mk D u x) Q := by
  refine mu_aload (r := some (0)) mc_77_82 (by decide) rfl ?_
  refine mt_call (args := [mm_P 0]) (rest := []) mc_77_83 (by decide) rfl rfl rfl ⟨Or.inl (by simp), rfl, by decide⟩ (mu_rcv (by decide) rfl (by decide)) H ?_
  rintro _ _ ⟨r4, D1, u2, x3, rfl, rfl, H⟩
  refine Or.inl ⟨_, rfl, ?_⟩
  refine mu_store mc_77_84 (by decide) (by simp) (ls' := [some (mm_P 0), some (mm_I (v1)), some (mm_I (v2)), some (mm_I (v3)), some (mm_I (v4)), some (mm_I (v5)), some (mm_I (r4)), none]) rfl ?_
  refine mu_load mc_77_85 (by decide) rfl ?_
  refine mu_const mc_77_86 (by decide) (by decide) ?_
  have h5 := H.1
  replace H := H.2
  have h6 := H.1
  replace H := H.2
  refine mu_irem mc_77_87 h5 h6 ?_
  refine mu_const mc_77_88 (by decide) (by decide) ?_
  refine mu_ic_ne mc_77_89 (fun c => ?_) (fun c => ?_)
  · replace H := H.1 c
    exact H
  · replace H := H.2 c
    refine mu_load mc_77_90 (by decide) rfl ?_
    refine mu_const mc_77_91 (by decide) (by decide) ?_
    refine mu_ic_ge mc_77_92 (fun c => ?_) (fun c => ?_)
    · replace H := H.1 c
      exact H
    · replace H := H.2 c
      refine mu_aload (r := some (0)) mc_77_93 (by decide) rfl ?_
      refine mu_load mc_77_94 (by decide) rfl ?_
      refine mu_const mc_77_95 (by decide) (by decide) ?_
      have h7 := H.1
      replace H := H.2
      have h8 := H.1
      replace H := H.2
      refine mu_irem mc_77_96 h7 h8 ?_
      refine mt_call (args := [mm_P 0, mm_I ((v3) % ((4 : Int)))]) (rest := []) mc_77_97 (by decide) rfl rfl rfl ⟨Or.inl (by simp), rfl, by decide⟩ (mu_rcv (by decide) rfl (by decide)) H ?_
      rintro _ _ (⟨r12, D9, u10, x11, rfl, rfl, H⟩ | ⟨E16, D13, u14, x15, rfl, rfl, H⟩)
      · refine Or.inl ⟨_, rfl, ?_⟩
        refine mu_load mc_77_98 (by decide) rfl ?_
        refine mu_const mc_77_99 (by decide) (by decide) ?_
        have h17 := H.1
        replace H := H.2
        refine mu_iadd mc_77_100 h17 ?_
        refine mu_ic_ne mc_77_101 (fun c => ?_) (fun c => ?_)
        · replace H := H.1 c
          exact H
        · replace H := H.2 c
          refine mu_aload (r := some (0)) mc_77_102 (by decide) rfl ?_
          refine mu_load mc_77_103 (by decide) rfl ?_
          refine mt_call (args := [mm_P 0, mm_I (r4)]) (rest := []) mc_77_104 (by decide) rfl rfl rfl ⟨Or.inl (by simp), rfl, by decide⟩ (mu_rcv (by decide) rfl (by decide)) H ?_
          rintro _ _ (⟨r21, D18, u19, x20, rfl, rfl, H⟩ | ⟨E25, D22, u23, x24, rfl, rfl, H⟩)
          · refine Or.inl ⟨_, rfl, ?_⟩
            refine mu_load mc_77_105 (by decide) rfl ?_
            refine mu_const mc_77_106 (by decide) (by decide) ?_
            have h26 := H.1
            replace H := H.2
            have h27 := H.1
            replace H := H.2
            refine mu_irem mc_77_107 h26 h27 ?_
            refine mu_ic_ne mc_77_108 (fun c => ?_) (fun c => ?_)
            · replace H := H.1 c
              exact H
            · replace H := H.2 c
              refine mu_const mc_77_109 (by decide) (by decide) ?_
              refine mu_rfl (n := 112) mc_77_110 (by decide) rfl rfl ?_
              exact mt_retB mc_77_112 (by decide) H
          · exact Or.inr ⟨_, rfl, by decide, Or.inr ⟨mm_handN (by decide) _, by decide, H⟩⟩
      · exact Or.inr ⟨_, rfl, by decide, Or.inr ⟨mm_handN (by decide) _, by decide, H⟩⟩
theorem q_L_step_111 {D : mm_D} {u : Int} {x : Nat × (Nat × List Int)} {Q : mm_O → mm_H → Prop} (v1 v2 v3 v4 v5 v6 : Int) (H : Q (.inl (some (mm_I ((0 : Int))))) (mm_mk D u x)) : mt 77 111 [some (mm_P 0), some (mm_I (v1)), some (mm_I (v2)), some (mm_I (v3)), some (mm_I (v4)), some (mm_I (v5)), some (mm_I (v6)), none] [] (mm_mk D u x) Q := by
  refine mu_const mc_77_111 (by decide) (by decide) ?_
  exact mt_retB mc_77_112 (by decide) H
theorem q_L_step_113 {D : mm_D} {u : Int} {x : Nat × (Nat × List Int)} {Q : mm_O → mm_H → Prop} (v1 v2 v3 v4 v5 v6 : Int) (H : (0 ≤ (v1) ∧ 0 < ((9 : Int))) ∧ ((mm_rng ((v1) % ((9 : Int)))) ∧ (((¬ ((v1) % ((9 : Int))) = ((7 : Int))) → mt 77 140 [some (mm_P 0), some (mm_I (v1)), some (mm_I (v2)), some (mm_I (v3)), some (mm_I (v4)), some (mm_I (v5)), some (mm_I (v6)), none] [] (mm_mk D u x) Q) ∧ (¬ (¬ ((v1) % ((9 : Int))) = ((7 : Int))) → (((v6) ≤ 0) → mt 77 140 [some (mm_P 0), some (mm_I (v1)), some (mm_I (v2)), some (mm_I (v3)), some (mm_I (v4)), some (mm_I (v5)), some (mm_I (v6)), none] [] (mm_mk D u x) Q) ∧ (¬ ((v6) ≤ 0) → (mm_rng ((v6) - ((1 : Int)))) ∧ (mt 53 0 [some (mm_P 0), some (mm_I ((v6) - ((1 : Int))))] [] (mm_mk D u x) (mm_pIx (fun r7 D4 u5 x6 => mt 49 0 [some (mm_P 0), none] [] (mm_mk D4 u5 x6) (mm_pIx (fun r15 D12 u13 x14 => ((¬ (r15) = (r7)) → mt 77 138 [some (mm_P 0), some (mm_I (v1)), some (mm_I (v2)), some (mm_I (v3)), some (mm_I (v4)), some (mm_I (v5)), some (mm_I (v6)), some (mm_I (r7))] [] (mm_mk D12 u13 x14) Q) ∧ (¬ (¬ (r15) = (r7)) → mt 52 0 [some (mm_P 0)] [] (mm_mk D12 u13 x14) (mm_pI fun r23 D20 u21 x22 => (mm_rng ((v6) - ((1 : Int)))) ∧ (((¬ (r23) = ((v6) - ((1 : Int)))) → mt 77 138 [some (mm_P 0), some (mm_I (v1)), some (mm_I (v2)), some (mm_I (v3)), some (mm_I (v4)), some (mm_I (v5)), some (mm_I (v6)), some (mm_I (r7))] [] (mm_mk D20 u21 x22) Q) ∧ (¬ (¬ (r23) = ((v6) - ((1 : Int)))) → Q (.inl (some (mm_I ((1 : Int))))) (mm_mk D20 u21 x22)))))) (fun E19 D16 u17 x18 => Q (.inr E19) (mm_mk D16 u17 x18)))) (fun E11 D8 u9 x10 => Q (.inr E11) (mm_mk D8 u9 x10))))))))) : mt 77 113 [some (mm_P 0), some (mm_I (v1)), some (mm_I (v2)), some (mm_I (v3)), some (mm_I (v4)), some (mm_I (v5)), some (mm_I (v6)), none] [] (mm_mk D u x) Q := by
  refine mu_load mc_77_113 (by decide) rfl ?_
  refine mu_const mc_77_114 (by decide) (by decide) ?_
  have h1 := H.1
  replace H := H.2
  have h2 := H.1
  replace H := H.2
  refine mu_irem mc_77_115 h1 h2 ?_
  refine mu_const mc_77_116 (by decide) (by decide) ?_
  refine mu_ic_ne mc_77_117 (fun c => ?_) (fun c => ?_)
  · replace H := H.1 c
    exact H
  · replace H := H.2 c
    refine mu_load mc_77_118 (by decide) rfl ?_
    refine mu_if_le mc_77_119 (fun c => ?_) (fun c => ?_)
    · replace H := H.1 c
      exact H
    · replace H := H.2 c
      refine mu_aload (r := some (0)) mc_77_120 (by decide) rfl ?_
      refine mu_load mc_77_121 (by decide) rfl ?_
      refine mu_const mc_77_122 (by decide) (by decide) ?_
      have h3 := H.1
      replace H := H.2
      refine mu_isub mc_77_123 h3 ?_
      refine mt_call (args := [mm_P 0, mm_I ((v6) - ((1 : Int)))]) (rest := []) mc_77_124 (by decide) rfl rfl rfl ⟨Or.inl (by simp), rfl, by decide⟩ (mu_rcv (by decide) rfl (by decide)) H ?_
      rintro _ _ (⟨r7, D4, u5, x6, rfl, rfl, H⟩ | ⟨E11, D8, u9, x10, rfl, rfl, H⟩)
      · refine Or.inl ⟨_, rfl, ?_⟩
        refine mu_store mc_77_125 (by decide) (by simp) (ls' := [some (mm_P 0), some (mm_I (v1)), some (mm_I (v2)), some (mm_I (v3)), some (mm_I (v4)), some (mm_I (v5)), some (mm_I (v6)), some (mm_I (r7))]) rfl ?_
        refine mu_aload (r := some (0)) mc_77_126 (by decide) rfl ?_
        refine mt_call (args := [mm_P 0]) (rest := []) mc_77_127 (by decide) rfl rfl rfl ⟨Or.inl (by simp), rfl, by decide⟩ (mu_rcv (by decide) rfl (by decide)) H ?_
        rintro _ _ (⟨r15, D12, u13, x14, rfl, rfl, H⟩ | ⟨E19, D16, u17, x18, rfl, rfl, H⟩)
        · refine Or.inl ⟨_, rfl, ?_⟩
          refine mu_load mc_77_128 (by decide) rfl ?_
          refine mu_ic_ne mc_77_129 (fun c => ?_) (fun c => ?_)
          · replace H := H.1 c
            exact H
          · replace H := H.2 c
            refine mu_aload (r := some (0)) mc_77_130 (by decide) rfl ?_
            refine mt_call (args := [mm_P 0]) (rest := []) mc_77_131 (by decide) rfl rfl rfl ⟨Or.inl (by simp), rfl, by decide⟩ (mu_rcv (by decide) rfl (by decide)) H ?_
            rintro _ _ ⟨r23, D20, u21, x22, rfl, rfl, H⟩
            refine Or.inl ⟨_, rfl, ?_⟩
            refine mu_load mc_77_132 (by decide) rfl ?_
            refine mu_const mc_77_133 (by decide) (by decide) ?_
            have h24 := H.1
            replace H := H.2
            refine mu_isub mc_77_134 h24 ?_
            refine mu_ic_ne mc_77_135 (fun c => ?_) (fun c => ?_)
            · replace H := H.1 c
              exact H
            · replace H := H.2 c
              refine mu_const mc_77_136 (by decide) (by decide) ?_
              refine mu_rfl (n := 139) mc_77_137 (by decide) rfl rfl ?_
              exact mt_retB mc_77_139 (by decide) H
        · exact Or.inr ⟨_, rfl, by decide, Or.inr ⟨mm_handN (by decide) _, by decide, H⟩⟩
      · exact Or.inr ⟨_, rfl, by decide, Or.inr ⟨mm_handN (by decide) _, by decide, H⟩⟩
theorem q_L_step_138 {D : mm_D} {u : Int} {x : Nat × (Nat × List Int)} {Q : mm_O → mm_H → Prop} (v1 v2 v3 v4 v5 v6 v7 : Int) (H : Q (.inl (some (mm_I ((0 : Int))))) (mm_mk D u x)) : mt 77 138 [some (mm_P 0), some (mm_I (v1)), some (mm_I (v2)), some (mm_I (v3)), some (mm_I (v4)), some (mm_I (v5)), some (mm_I (v6)), some (mm_I (v7))] [] (mm_mk D u x) Q := by
  refine mu_const mc_77_138 (by decide) (by decide) ?_
  exact mt_retB mc_77_139 (by decide) H
theorem q_L_step_140 {D : mm_D} {u : Int} {x : Nat × (Nat × List Int)} {Q : mm_O → mm_H → Prop} (v1 v2 v3 v4 v5 v6 : Int) (H : mt 46 0 [some (mm_P 0), some (mm_I (v5))] [] (mm_mk D u x) (mm_pIx (fun r4 D1 u2 x3 => ((¬ (r4) = 0) → mt 46 0 [some (mm_P 0), some (mm_I (v5))] [] (mm_mk D1 u2 x3) (mm_pIx (fun r12 D9 u10 x11 => (0 ≤ (v3) ∧ 0 < (r12)) ∧ ((mm_rng ((v3) % (r12))) ∧ ((0 ≤ (v3) ∧ 0 < ((25 : Int))) ∧ ((mm_rng ((v3) / ((25 : Int)))) ∧ (mt 78 0 [some (mm_P 0), some (mm_I (v5)), some (mm_I ((v3) % (r12))), some (mm_I ((v3) / ((25 : Int)))), none, none, none] [] (mm_mk D9 u10 x11) (mm_pIx (fun r24 D21 u22 x23 => ((r24) = 0 ∨ (r24) = 1) ∧ (Q (.inl (some (mm_I (r24)))) (mm_mk D21 u22 x23))) (fun E28 D25 u26 x27 => Q (.inr E28) (mm_mk D25 u26 x27)))))))) (fun E16 D13 u14 x15 => Q (.inr E16) (mm_mk D13 u14 x15)))) ∧ (¬ (¬ (r4) = 0) → (0 ≤ (v3) ∧ 0 < ((25 : Int))) ∧ ((mm_rng ((v3) / ((25 : Int)))) ∧ (mt 78 0 [some (mm_P 0), some (mm_I (v5)), some (mm_I ((0 : Int))), some (mm_I ((v3) / ((25 : Int)))), none, none, none] [] (mm_mk D1 u2 x3) (mm_pIx (fun r35 D32 u33 x34 => ((r35) = 0 ∨ (r35) = 1) ∧ (Q (.inl (some (mm_I (r35)))) (mm_mk D32 u33 x34))) (fun E39 D36 u37 x38 => Q (.inr E39) (mm_mk D36 u37 x38))))))) (fun E8 D5 u6 x7 => Q (.inr E8) (mm_mk D5 u6 x7)))) : mt 77 140 [some (mm_P 0), some (mm_I (v1)), some (mm_I (v2)), some (mm_I (v3)), some (mm_I (v4)), some (mm_I (v5)), some (mm_I (v6)), none] [] (mm_mk D u x) Q := by
  refine mu_aload (r := some (0)) mc_77_140 (by decide) rfl ?_
  refine mu_load mc_77_141 (by decide) rfl ?_
  refine mu_aload (r := some (0)) mc_77_142 (by decide) rfl ?_
  refine mu_load mc_77_143 (by decide) rfl ?_
  refine mt_call (args := [mm_P 0, mm_I (v5)]) (rest := [mm_I (v5), mm_P 0]) mc_77_144 (by decide) rfl rfl rfl ⟨Or.inl (by simp), rfl, by decide⟩ (mu_rcv (by decide) rfl (by decide)) H ?_
  rintro _ _ (⟨r4, D1, u2, x3, rfl, rfl, H⟩ | ⟨E8, D5, u6, x7, rfl, rfl, H⟩)
  · refine Or.inl ⟨_, rfl, ?_⟩
    refine mu_if_ne mc_77_145 (fun c => ?_) (fun c => ?_)
    · replace H := H.1 c
      refine mu_load mc_77_148 (by decide) rfl ?_
      refine mu_aload (r := some (0)) mc_77_149 (by decide) rfl ?_
      refine mu_load mc_77_150 (by decide) rfl ?_
      refine mt_call (args := [mm_P 0, mm_I (v5)]) (rest := [mm_I (v3), mm_I (v5), mm_P 0]) mc_77_151 (by decide) rfl rfl rfl ⟨Or.inl (by simp), rfl, by decide⟩ (mu_rcv (by decide) rfl (by decide)) H ?_
      rintro _ _ (⟨r12, D9, u10, x11, rfl, rfl, H⟩ | ⟨E16, D13, u14, x15, rfl, rfl, H⟩)
      · refine Or.inl ⟨_, rfl, ?_⟩
        have h17 := H.1
        replace H := H.2
        have h18 := H.1
        replace H := H.2
        refine mu_irem mc_77_152 h17 h18 ?_
        refine mu_load mc_77_153 (by decide) rfl ?_
        refine mu_const mc_77_154 (by decide) (by decide) ?_
        have h19 := H.1
        replace H := H.2
        have h20 := H.1
        replace H := H.2
        refine mu_idiv mc_77_155 h19 h20 ?_
        refine mt_call (args := [mm_P 0, mm_I (v5), mm_I ((v3) % (r12)), mm_I ((v3) / ((25 : Int)))]) (rest := []) mc_77_156 (by decide) rfl rfl rfl ⟨Or.inl (by simp), rfl, by decide⟩ rfl H ?_
        rintro _ _ (⟨r24, D21, u22, x23, rfl, rfl, H⟩ | ⟨E28, D25, u26, x27, rfl, rfl, H⟩)
        · refine Or.inl ⟨_, rfl, ?_⟩
          have h29 := H.1
          replace H := H.2
          exact mt_retB mc_77_157 h29 H
        · exact Or.inr ⟨_, rfl, by decide, Or.inr ⟨mm_handN (by decide) _, by decide, H⟩⟩
      · exact Or.inr ⟨_, rfl, by decide, Or.inr ⟨mm_handN (by decide) _, by decide, H⟩⟩
    · replace H := H.2 c
      refine mu_const mc_77_146 (by decide) (by decide) ?_
      refine mu_rfl (n := 153) mc_77_147 (by decide) rfl rfl ?_
      refine mu_load mc_77_153 (by decide) rfl ?_
      refine mu_const mc_77_154 (by decide) (by decide) ?_
      have h30 := H.1
      replace H := H.2
      have h31 := H.1
      replace H := H.2
      refine mu_idiv mc_77_155 h30 h31 ?_
      refine mt_call (args := [mm_P 0, mm_I (v5), mm_I ((0 : Int)), mm_I ((v3) / ((25 : Int)))]) (rest := []) mc_77_156 (by decide) rfl rfl rfl ⟨Or.inl (by simp), rfl, by decide⟩ rfl H ?_
      rintro _ _ (⟨r35, D32, u33, x34, rfl, rfl, H⟩ | ⟨E39, D36, u37, x38, rfl, rfl, H⟩)
      · refine Or.inl ⟨_, rfl, ?_⟩
        have h40 := H.1
        replace H := H.2
        exact mt_retB mc_77_157 h40 H
      · exact Or.inr ⟨_, rfl, by decide, Or.inr ⟨mm_handN (by decide) _, by decide, H⟩⟩
  · exact Or.inr ⟨_, rfl, by decide, Or.inr ⟨mm_handN (by decide) _, by decide, H⟩⟩

theorem q_L_copies_0 {D : mm_D} {u : Int} {x : Nat × (Nat × List Int)} {Q : mm_O → mm_H → Prop} (v1 v2 v3 : Int) (H : mt 46 0 [some (mm_P 0), some (mm_I (v1))] [] (mm_mk D u x) (mm_pIx (fun r4 D1 u2 x3 => (mm_rng ((r4) - (v2))) ∧ ((mm_rng (((r4) - (v2)) + ((1 : Int)))) ∧ ((0 ≤ (v3) ∧ 0 < (((r4) - (v2)) + ((1 : Int)))) ∧ ((mm_rng ((v3) % (((r4) - (v2)) + ((1 : Int))))) ∧ (mt 51 0 [some (mm_P 0), some (mm_I (v1)), some (mm_I (v2)), some (mm_I ((v3) % (((r4) - (v2)) + ((1 : Int))))), none, none] [] (mm_mk D1 u2 x3) (mm_pVx (fun D13 u14 x15 => mt 52 0 [some (mm_P 0)] [] (mm_mk D13 u14 x15) (mm_pI fun r24 D21 u22 x23 => ((¬ (r24) = ((v3) % (((r4) - (v2)) + ((1 : Int))))) → mt 78 23 [some (mm_P 0), some (mm_I (v1)), some (mm_I (v2)), some (mm_I (v3)), some (mm_I ((v3) % (((r4) - (v2)) + ((1 : Int))))), some (mm_I ((0 : Int))), none] [] (mm_mk D21 u22 x23) Q) ∧ (¬ (¬ (r24) = ((v3) % (((r4) - (v2)) + ((1 : Int))))) → mt 78 23 [some (mm_P 0), some (mm_I (v1)), some (mm_I (v2)), some (mm_I (v3)), some (mm_I ((v3) % (((r4) - (v2)) + ((1 : Int))))), some (mm_I ((1 : Int))), none] [] (mm_mk D21 u22 x23) Q))) (fun E20 D17 u18 x19 => Q (.inr E20) (mm_mk D17 u18 x19)))))))) (fun E8 D5 u6 x7 => Q (.inr E8) (mm_mk D5 u6 x7)))) : mt 78 0 [some (mm_P 0), some (mm_I (v1)), some (mm_I (v2)), some (mm_I (v3)), none, none, none] [] (mm_mk D u x) Q := by
  refine mu_load mc_78_0 (by decide) rfl ?_
  refine mu_aload (r := some (0)) mc_78_1 (by decide) rfl ?_
  refine mu_load mc_78_2 (by decide) rfl ?_
  refine mt_call (args := [mm_P 0, mm_I (v1)]) (rest := [mm_I (v3)]) mc_78_3 (by decide) rfl rfl rfl ⟨Or.inl (by simp), rfl, by decide⟩ (mu_rcv (by decide) rfl (by decide)) H ?_
  rintro _ _ (⟨r4, D1, u2, x3, rfl, rfl, H⟩ | ⟨E8, D5, u6, x7, rfl, rfl, H⟩)
  · refine Or.inl ⟨_, rfl, ?_⟩
    refine mu_load mc_78_4 (by decide) rfl ?_
    have h9 := H.1
    replace H := H.2
    refine mu_isub mc_78_5 h9 ?_
    refine mu_const mc_78_6 (by decide) (by decide) ?_
    have h10 := H.1
    replace H := H.2
    refine mu_iadd mc_78_7 h10 ?_
    have h11 := H.1
    replace H := H.2
    have h12 := H.1
    replace H := H.2
    refine mu_irem mc_78_8 h11 h12 ?_
    refine mu_store mc_78_9 (by decide) (by simp) (ls' := [some (mm_P 0), some (mm_I (v1)), some (mm_I (v2)), some (mm_I (v3)), some (mm_I ((v3) % (((r4) - (v2)) + ((1 : Int))))), none, none]) rfl ?_
    refine mu_aload (r := some (0)) mc_78_10 (by decide) rfl ?_
    refine mu_load mc_78_11 (by decide) rfl ?_
    refine mu_load mc_78_12 (by decide) rfl ?_
    refine mu_load mc_78_13 (by decide) rfl ?_
    refine mt_call (args := [mm_P 0, mm_I (v1), mm_I (v2), mm_I ((v3) % (((r4) - (v2)) + ((1 : Int))))]) (rest := []) mc_78_14 (by decide) rfl rfl rfl ⟨Or.inl (by simp), rfl, by decide⟩ (mu_rcv (by decide) rfl (by decide)) H ?_
    rintro _ _ (⟨D13, u14, x15, rfl, rfl, H⟩ | ⟨E20, D17, u18, x19, rfl, rfl, H⟩)
    · refine Or.inl ⟨_, rfl, ?_⟩
      refine mu_aload (r := some (0)) mc_78_15 (by decide) rfl ?_
      refine mt_call (args := [mm_P 0]) (rest := []) mc_78_16 (by decide) rfl rfl rfl ⟨Or.inl (by simp), rfl, by decide⟩ (mu_rcv (by decide) rfl (by decide)) H ?_
      rintro _ _ ⟨r24, D21, u22, x23, rfl, rfl, H⟩
      refine Or.inl ⟨_, rfl, ?_⟩
      refine mu_load mc_78_17 (by decide) rfl ?_
      refine mu_ic_ne mc_78_18 (fun c => ?_) (fun c => ?_)
      · replace H := H.1 c
        refine mu_const mc_78_21 (by decide) (by decide) ?_
        refine mu_store mc_78_22 (by decide) (by simp) (ls' := [some (mm_P 0), some (mm_I (v1)), some (mm_I (v2)), some (mm_I (v3)), some (mm_I ((v3) % (((r4) - (v2)) + ((1 : Int))))), some (mm_I ((0 : Int))), none]) rfl ?_
        exact H
      · replace H := H.2 c
        refine mu_const mc_78_19 (by decide) (by decide) ?_
        refine mu_rfl (n := 22) mc_78_20 (by decide) rfl rfl ?_
        refine mu_store mc_78_22 (by decide) (by simp) (ls' := [some (mm_P 0), some (mm_I (v1)), some (mm_I (v2)), some (mm_I (v3)), some (mm_I ((v3) % (((r4) - (v2)) + ((1 : Int))))), some (mm_I ((1 : Int))), none]) rfl ?_
        exact H
    · exact Or.inr ⟨_, rfl, by decide, Or.inr ⟨mm_handN (by decide) _, by decide, H⟩⟩
  · exact Or.inr ⟨_, rfl, by decide, Or.inr ⟨mm_handN (by decide) _, by decide, H⟩⟩
theorem q_L_copies_23 {D : mm_D} {u : Int} {x : Nat × (Nat × List Int)} {Q : mm_O → mm_H → Prop} (v1 v2 v3 v4 v5 : Int) (H : mt 78 25 [some (mm_P 0), some (mm_I (v1)), some (mm_I (v2)), some (mm_I (v3)), some (mm_I (v4)), some (mm_I (v5)), some (mm_I ((0 : Int)))] [] (mm_mk D u x) Q) : mt 78 23 [some (mm_P 0), some (mm_I (v1)), some (mm_I (v2)), some (mm_I (v3)), some (mm_I (v4)), some (mm_I (v5)), none] [] (mm_mk D u x) Q := by
  refine mu_const mc_78_23 (by decide) (by decide) ?_
  refine mu_store mc_78_24 (by decide) (by simp) (ls' := [some (mm_P 0), some (mm_I (v1)), some (mm_I (v2)), some (mm_I (v3)), some (mm_I (v4)), some (mm_I (v5)), some (mm_I ((0 : Int)))]) rfl ?_
  exact H
theorem q_L_copies_25 {D : mm_D} {u : Int} {x : Nat × (Nat × List Int)} {Q : mm_O → mm_H → Prop} (v1 v2 v3 v4 v5 v6 : Int) (H : (((v4) ≤ (v6)) → (((v5) = 0) → mt 78 82 [some (mm_P 0), some (mm_I (v1)), some (mm_I (v2)), some (mm_I (v3)), some (mm_I (v4)), some (mm_I (v5)), some (mm_I (v6))] [] (mm_mk D u x) Q) ∧ (¬ ((v5) = 0) → ((¬ (v4) = 0) → mt 54 0 [some (mm_P 0)] [] (mm_mk D u x) (mm_pI fun r4 D1 u2 x3 => (((r4) = 0) → mt 78 82 [some (mm_P 0), some (mm_I (v1)), some (mm_I (v2)), some (mm_I (v3)), some (mm_I (v4)), some (mm_I (v5)), some (mm_I (v6))] [] (mm_mk D1 u2 x3) Q) ∧ (¬ ((r4) = 0) → mt 57 0 [some (mm_P 0), some (mm_I (v1))] [] (mm_mk D1 u2 x3) (mm_pIx (fun r8 D5 u6 x7 => (((v2) < (r8)) → mt 78 82 [some (mm_P 0), some (mm_I (v1)), some (mm_I (v2)), some (mm_I (v3)), some (mm_I (v4)), some (mm_I (v5)), some (mm_I (v6))] [] (mm_mk D5 u6 x7) Q) ∧ (¬ ((v2) < (r8)) → mt 58 0 [some (mm_P 0), some (mm_I (v1))] [] (mm_mk D5 u6 x7) (mm_pIx (fun r16 D13 u14 x15 => (((r16) < (v2)) → mt 78 82 [some (mm_P 0), some (mm_I (v1)), some (mm_I (v2)), some (mm_I (v3)), some (mm_I (v4)), some (mm_I (v5)), some (mm_I (v6))] [] (mm_mk D13 u14 x15) Q) ∧ (¬ ((r16) < (v2)) → mt 56 0 [some (mm_P 0), some (mm_I (v1))] [] (mm_mk D13 u14 x15) (mm_pIx (fun r24 D21 u22 x23 => (((r24) < ((1 : Int))) → mt 78 82 [some (mm_P 0), some (mm_I (v1)), some (mm_I (v2)), some (mm_I (v3)), some (mm_I (v4)), some (mm_I (v5)), some (mm_I (v6))] [] (mm_mk D21 u22 x23) Q) ∧ (¬ ((r24) < ((1 : Int))) → mt 65 0 [some (mm_P 0)] [] (mm_mk D21 u22 x23) (mm_pI fun r32 D29 u30 x31 => mt 64 0 [some (mm_P 0)] [] (mm_mk D29 u30 x31) (mm_pI fun r36 D33 u34 x35 => (((r36) ≤ (r32)) → mt 78 82 [some (mm_P 0), some (mm_I (v1)), some (mm_I (v2)), some (mm_I (v3)), some (mm_I (v4)), some (mm_I (v5)), some (mm_I (v6))] [] (mm_mk D33 u34 x35) Q) ∧ (¬ ((r36) ≤ (r32)) → mt 78 80 [some (mm_P 0), some (mm_I (v1)), some (mm_I (v2)), some (mm_I (v3)), some (mm_I (v4)), some (mm_I (v5)), some (mm_I (v6))] [] (mm_mk D33 u34 x35) Q))))) (fun E28 D25 u26 x27 => Q (.inr E28) (mm_mk D25 u26 x27))))) (fun E20 D17 u18 x19 => Q (.inr E20) (mm_mk D17 u18 x19))))) (fun E12 D9 u10 x11 => Q (.inr E12) (mm_mk D9 u10 x11)))))) ∧ (¬ (¬ (v4) = 0) → mt 54 0 [some (mm_P 0)] [] (mm_mk D u x) (mm_pI fun r40 D37 u38 x39 => ((¬ (r40) = 0) → mt 78 82 [some (mm_P 0), some (mm_I (v1)), some (mm_I (v2)), some (mm_I (v3)), some (mm_I (v4)), some (mm_I (v5)), some (mm_I (v6))] [] (mm_mk D37 u38 x39) Q) ∧ (¬ (¬ (r40) = 0) → mt 65 0 [some (mm_P 0)] [] (mm_mk D37 u38 x39) (mm_pI fun r44 D41 u42 x43 => ((¬ (r44) = 0) → mt 78 82 [some (mm_P 0), some (mm_I (v1)), some (mm_I (v2)), some (mm_I (v3)), some (mm_I (v4)), some (mm_I (v5)), some (mm_I (v6))] [] (mm_mk D41 u42 x43) Q) ∧ (¬ (¬ (r44) = 0) → mt 78 80 [some (mm_P 0), some (mm_I (v1)), some (mm_I (v2)), some (mm_I (v3)), some (mm_I (v4)), some (mm_I (v5)), some (mm_I (v6))] [] (mm_mk D41 u42 x43) Q))))))) ∧ (¬ ((v4) ≤ (v6)) → (((v5) = 0) → mt 78 42 [some (mm_P 0), some (mm_I (v1)), some (mm_I (v2)), some (mm_I (v3)), some (mm_I (v4)), some (mm_I (v5)), some (mm_I (v6))] [] (mm_mk D u x) Q) ∧ (¬ ((v5) = 0) → mt 53 0 [some (mm_P 0), some (mm_I (v6))] [] (mm_mk D u x) (mm_pIx (fun r48 D45 u46 x47 => (mm_rng ((v2) + (v6))) ∧ (mt 47 0 [some (mm_P 0), some (mm_I (v1)), some (mm_I ((v2) + (v6))), none] [] (mm_mk D45 u46 x47) (mm_pIx (fun r57 D54 u55 x56 => ((¬ (r48) = (r57)) → mt 78 42 [some (mm_P 0), some (mm_I (v1)), some (mm_I (v2)), some (mm_I (v3)), some (mm_I (v4)), some (mm_I (v5)), some (mm_I (v6))] [] (mm_mk D54 u55 x56) Q) ∧ (¬ (¬ (r48) = (r57)) → mt 78 44 [some (mm_P 0), some (mm_I (v1)), some (mm_I (v2)), some (mm_I (v3)), some (mm_I (v4)), some (mm_I ((1 : Int))), some (mm_I (v6))] [] (mm_mk D54 u55 x56) Q)) (fun E61 D58 u59 x60 => Q (.inr E61) (mm_mk D58 u59 x60))))) (fun E52 D49 u50 x51 => Q (.inr E52) (mm_mk D49 u50 x51)))))) : mt 78 25 [some (mm_P 0), some (mm_I (v1)), some (mm_I (v2)), some (mm_I (v3)), some (mm_I (v4)), some (mm_I (v5)), some (mm_I (v6))] [] (mm_mk D u x) Q := by
  refine mu_load mc_78_25 (by decide) rfl ?_
  refine mu_load mc_78_26 (by decide) rfl ?_
  refine mu_ic_ge mc_78_27 (fun c => ?_) (fun c => ?_)
  · replace H := H.1 c
    refine mu_load mc_78_46 (by decide) rfl ?_
    refine mu_if_eq mc_78_47 (fun c => ?_) (fun c => ?_)
    · replace H := H.1 c
      exact H
    · replace H := H.2 c
      refine mu_load mc_78_48 (by decide) rfl ?_
      refine mu_if_ne mc_78_49 (fun c => ?_) (fun c => ?_)
      · replace H := H.1 c
        refine mu_aload (r := some (0)) mc_78_57 (by decide) rfl ?_
        refine mt_call (args := [mm_P 0]) (rest := []) mc_78_58 (by decide) rfl rfl rfl ⟨Or.inl (by simp), rfl, by decide⟩ (mu_rcv (by decide) rfl (by decide)) H ?_
        rintro _ _ ⟨r4, D1, u2, x3, rfl, rfl, H⟩
        refine Or.inl ⟨_, rfl, ?_⟩
        refine mu_if_eq mc_78_59 (fun c => ?_) (fun c => ?_)
        · replace H := H.1 c
          exact H
        · replace H := H.2 c
          refine mu_aload (r := some (0)) mc_78_60 (by decide) rfl ?_
          refine mu_load mc_78_61 (by decide) rfl ?_
          refine mt_call (args := [mm_P 0, mm_I (v1)]) (rest := []) mc_78_62 (by decide) rfl rfl rfl ⟨Or.inl (by simp), rfl, by decide⟩ (mu_rcv (by decide) rfl (by decide)) H ?_
          rintro _ _ (⟨r8, D5, u6, x7, rfl, rfl, H⟩ | ⟨E12, D9, u10, x11, rfl, rfl, H⟩)
          · refine Or.inl ⟨_, rfl, ?_⟩
            refine mu_load mc_78_63 (by decide) rfl ?_
            refine mu_ic_gt mc_78_64 (fun c => ?_) (fun c => ?_)
            · replace H := H.1 c
              exact H
            · replace H := H.2 c
              refine mu_aload (r := some (0)) mc_78_65 (by decide) rfl ?_
              refine mu_load mc_78_66 (by decide) rfl ?_
              refine mt_call (args := [mm_P 0, mm_I (v1)]) (rest := []) mc_78_67 (by decide) rfl rfl rfl ⟨Or.inl (by simp), rfl, by decide⟩ (mu_rcv (by decide) rfl (by decide)) H ?_
              rintro _ _ (⟨r16, D13, u14, x15, rfl, rfl, H⟩ | ⟨E20, D17, u18, x19, rfl, rfl, H⟩)
              · refine Or.inl ⟨_, rfl, ?_⟩
                refine mu_load mc_78_68 (by decide) rfl ?_
                refine mu_ic_lt mc_78_69 (fun c => ?_) (fun c => ?_)
                · replace H := H.1 c
                  exact H
                · replace H := H.2 c
                  refine mu_aload (r := some (0)) mc_78_70 (by decide) rfl ?_
                  refine mu_load mc_78_71 (by decide) rfl ?_
                  refine mt_call (args := [mm_P 0, mm_I (v1)]) (rest := []) mc_78_72 (by decide) rfl rfl rfl ⟨Or.inl (by simp), rfl, by decide⟩ (mu_rcv (by decide) rfl (by decide)) H ?_
                  rintro _ _ (⟨r24, D21, u22, x23, rfl, rfl, H⟩ | ⟨E28, D25, u26, x27, rfl, rfl, H⟩)
                  · refine Or.inl ⟨_, rfl, ?_⟩
                    refine mu_const mc_78_73 (by decide) (by decide) ?_
                    refine mu_ic_lt mc_78_74 (fun c => ?_) (fun c => ?_)
                    · replace H := H.1 c
                      exact H
                    · replace H := H.2 c
                      refine mu_aload (r := some (0)) mc_78_75 (by decide) rfl ?_
                      refine mt_call (args := [mm_P 0]) (rest := []) mc_78_76 (by decide) rfl rfl rfl ⟨Or.inl (by simp), rfl, by decide⟩ (mu_rcv (by decide) rfl (by decide)) H ?_
                      rintro _ _ ⟨r32, D29, u30, x31, rfl, rfl, H⟩
                      refine Or.inl ⟨_, rfl, ?_⟩
                      refine mu_aload (r := some (0)) mc_78_77 (by decide) rfl ?_
                      refine mt_call (args := [mm_P 0]) (rest := [mm_I (r32)]) mc_78_78 (by decide) rfl rfl rfl ⟨Or.inl (by simp), rfl, by decide⟩ (mu_rcv (by decide) rfl (by decide)) H ?_
                      rintro _ _ ⟨r36, D33, u34, x35, rfl, rfl, H⟩
                      refine Or.inl ⟨_, rfl, ?_⟩
                      refine mu_ic_ge mc_78_79 (fun c => ?_) (fun c => ?_)
                      · replace H := H.1 c
                        exact H
                      · replace H := H.2 c
                        exact H
                  · exact Or.inr ⟨_, rfl, by decide, Or.inr ⟨mm_handN (by decide) _, by decide, H⟩⟩
              · exact Or.inr ⟨_, rfl, by decide, Or.inr ⟨mm_handN (by decide) _, by decide, H⟩⟩
          · exact Or.inr ⟨_, rfl, by decide, Or.inr ⟨mm_handN (by decide) _, by decide, H⟩⟩
      · replace H := H.2 c
        refine mu_aload (r := some (0)) mc_78_50 (by decide) rfl ?_
        refine mt_call (args := [mm_P 0]) (rest := []) mc_78_51 (by decide) rfl rfl rfl ⟨Or.inl (by simp), rfl, by decide⟩ (mu_rcv (by decide) rfl (by decide)) H ?_
        rintro _ _ ⟨r40, D37, u38, x39, rfl, rfl, H⟩
        refine Or.inl ⟨_, rfl, ?_⟩
        refine mu_if_ne mc_78_52 (fun c => ?_) (fun c => ?_)
        · replace H := H.1 c
          exact H
        · replace H := H.2 c
          refine mu_aload (r := some (0)) mc_78_53 (by decide) rfl ?_
          refine mt_call (args := [mm_P 0]) (rest := []) mc_78_54 (by decide) rfl rfl rfl ⟨Or.inl (by simp), rfl, by decide⟩ (mu_rcv (by decide) rfl (by decide)) H ?_
          rintro _ _ ⟨r44, D41, u42, x43, rfl, rfl, H⟩
          refine Or.inl ⟨_, rfl, ?_⟩
          refine mu_if_ne mc_78_55 (fun c => ?_) (fun c => ?_)
          · replace H := H.1 c
            exact H
          · replace H := H.2 c
            refine mu_rfl (n := 80) mc_78_56 (by decide) rfl rfl ?_
            exact H
  · replace H := H.2 c
    refine mu_load mc_78_28 (by decide) rfl ?_
    refine mu_if_eq mc_78_29 (fun c => ?_) (fun c => ?_)
    · replace H := H.1 c
      exact H
    · replace H := H.2 c
      refine mu_aload (r := some (0)) mc_78_30 (by decide) rfl ?_
      refine mu_load mc_78_31 (by decide) rfl ?_
      refine mt_call (args := [mm_P 0, mm_I (v6)]) (rest := []) mc_78_32 (by decide) rfl rfl rfl ⟨Or.inl (by simp), rfl, by decide⟩ (mu_rcv (by decide) rfl (by decide)) H ?_
      rintro _ _ (⟨r48, D45, u46, x47, rfl, rfl, H⟩ | ⟨E52, D49, u50, x51, rfl, rfl, H⟩)
      · refine Or.inl ⟨_, rfl, ?_⟩
        refine mu_aload (r := some (0)) mc_78_33 (by decide) rfl ?_
        refine mu_load mc_78_34 (by decide) rfl ?_
        refine mu_load mc_78_35 (by decide) rfl ?_
        refine mu_load mc_78_36 (by decide) rfl ?_
        have h53 := H.1
        replace H := H.2
        refine mu_iadd mc_78_37 h53 ?_
        refine mt_call (args := [mm_P 0, mm_I (v1), mm_I ((v2) + (v6))]) (rest := [mm_I (r48)]) mc_78_38 (by decide) rfl rfl rfl ⟨Or.inl (by simp), rfl, by decide⟩ (mu_rcv (by decide) rfl (by decide)) H ?_
        rintro _ _ (⟨r57, D54, u55, x56, rfl, rfl, H⟩ | ⟨E61, D58, u59, x60, rfl, rfl, H⟩)
        · refine Or.inl ⟨_, rfl, ?_⟩
          refine mu_ic_ne mc_78_39 (fun c => ?_) (fun c => ?_)
          · replace H := H.1 c
            exact H
          · replace H := H.2 c
            refine mu_const mc_78_40 (by decide) (by decide) ?_
            refine mu_rfl (n := 43) mc_78_41 (by decide) rfl rfl ?_
            refine mu_store mc_78_43 (by decide) (by simp) (ls' := [some (mm_P 0), some (mm_I (v1)), some (mm_I (v2)), some (mm_I (v3)), some (mm_I (v4)), some (mm_I ((1 : Int))), some (mm_I (v6))]) rfl ?_
            exact H
        · exact Or.inr ⟨_, rfl, by decide, Or.inr ⟨mm_handN (by decide) _, by decide, H⟩⟩
      · exact Or.inr ⟨_, rfl, by decide, Or.inr ⟨mm_handN (by decide) _, by decide, H⟩⟩
theorem q_L_copies_42 {D : mm_D} {u : Int} {x : Nat × (Nat × List Int)} {Q : mm_O → mm_H → Prop} (v1 v2 v3 v4 v5 v6 : Int) (H : mt 78 44 [some (mm_P 0), some (mm_I (v1)), some (mm_I (v2)), some (mm_I (v3)), some (mm_I (v4)), some (mm_I ((0 : Int))), some (mm_I (v6))] [] (mm_mk D u x) Q) : mt 78 42 [some (mm_P 0), some (mm_I (v1)), some (mm_I (v2)), some (mm_I (v3)), some (mm_I (v4)), some (mm_I (v5)), some (mm_I (v6))] [] (mm_mk D u x) Q := by
  refine mu_const mc_78_42 (by decide) (by decide) ?_
  refine mu_store mc_78_43 (by decide) (by simp) (ls' := [some (mm_P 0), some (mm_I (v1)), some (mm_I (v2)), some (mm_I (v3)), some (mm_I (v4)), some (mm_I ((0 : Int))), some (mm_I (v6))]) rfl ?_
  exact H
theorem q_L_copies_44 {D : mm_D} {u : Int} {x : Nat × (Nat × List Int)} {Q : mm_O → mm_H → Prop} (v1 v2 v3 v4 v5 v6 : Int) (H : (mm_rng ((v6) + (1 : Int))) ∧ (mt 78 25 [some (mm_P 0), some (mm_I (v1)), some (mm_I (v2)), some (mm_I (v3)), some (mm_I (v4)), some (mm_I (v5)), some (mm_I ((v6) + (1 : Int)))] [] (mm_mk D u x) Q)) : mt 78 44 [some (mm_P 0), some (mm_I (v1)), some (mm_I (v2)), some (mm_I (v3)), some (mm_I (v4)), some (mm_I (v5)), some (mm_I (v6))] [] (mm_mk D u x) Q := by
  have h1 := H.1
  replace H := H.2
  refine mu_iinc mc_78_44 rfl h1 (ls' := [some (mm_P 0), some (mm_I (v1)), some (mm_I (v2)), some (mm_I (v3)), some (mm_I (v4)), some (mm_I (v5)), some (mm_I ((v6) + (1 : Int)))]) rfl ?_
  refine mu_rfl (n := 25) mc_78_45 (by decide) rfl rfl ?_
  exact H
theorem q_L_copies_80 {D : mm_D} {u : Int} {x : Nat × (Nat × List Int)} {Q : mm_O → mm_H → Prop} (v1 v2 v3 v4 v5 v6 : Int) (H : Q (.inl (some (mm_I ((1 : Int))))) (mm_mk D u x)) : mt 78 80 [some (mm_P 0), some (mm_I (v1)), some (mm_I (v2)), some (mm_I (v3)), some (mm_I (v4)), some (mm_I (v5)), some (mm_I (v6))] [] (mm_mk D u x) Q := by
  refine mu_const mc_78_80 (by decide) (by decide) ?_
  refine mu_rfl (n := 83) mc_78_81 (by decide) rfl rfl ?_
  exact mt_retB mc_78_83 (by decide) H
theorem q_L_copies_82 {D : mm_D} {u : Int} {x : Nat × (Nat × List Int)} {Q : mm_O → mm_H → Prop} (v1 v2 v3 v4 v5 v6 : Int) (H : Q (.inl (some (mm_I ((0 : Int))))) (mm_mk D u x)) : mt 78 82 [some (mm_P 0), some (mm_I (v1)), some (mm_I (v2)), some (mm_I (v3)), some (mm_I (v4)), some (mm_I (v5)), some (mm_I (v6))] [] (mm_mk D u x) Q := by
  refine mu_const mc_78_82 (by decide) (by decide) ?_
  exact mt_retB mc_78_83 (by decide) H

theorem q_L_stands_0 {D : mm_D} {u : Int} {x : Nat × (Nat × List Int)} {Q : mm_O → mm_H → Prop} (v1 v2 : Int) (H : mt 52 0 [some (mm_P 0)] [] (mm_mk D u x) (mm_pI fun r4 D1 u2 x3 => (((r4) ≤ 0) → mt 79 13 [some (mm_P 0), some (mm_I (v1)), some (mm_I (v2)), none, none] [] (mm_mk D1 u2 x3) Q) ∧ (¬ ((r4) ≤ 0) → mt 52 0 [some (mm_P 0)] [] (mm_mk D1 u2 x3) (mm_pI fun r8 D5 u6 x7 => (mm_rng ((v2) + (r8))) ∧ (mt 46 0 [some (mm_P 0), some (mm_I (v1))] [] (mm_mk D5 u6 x7) (mm_pIx (fun r13 D10 u11 x12 => (((r13) < ((v2) + (r8))) → mt 79 13 [some (mm_P 0), some (mm_I (v1)), some (mm_I (v2)), none, none] [] (mm_mk D10 u11 x12) Q) ∧ (¬ ((r13) < ((v2) + (r8))) → mt 79 15 [some (mm_P 0), some (mm_I (v1)), some (mm_I (v2)), some (mm_I ((1 : Int))), none] [] (mm_mk D10 u11 x12) Q)) (fun E17 D14 u15 x16 => Q (.inr E17) (mm_mk D14 u15 x16)))))))) : mt 79 0 [some (mm_P 0), some (mm_I (v1)), some (mm_I (v2)), none, none] [] (mm_mk D u x) Q := by
  refine mu_aload (r := some (0)) mc_79_0 (by decide) rfl ?_
  refine mt_call (args := [mm_P 0]) (rest := []) mc_79_1 (by decide) rfl rfl rfl ⟨Or.inl (by simp), rfl, by decide⟩ (mu_rcv (by decide) rfl (by decide)) H ?_
  rintro _ _ ⟨r4, D1, u2, x3, rfl, rfl, H⟩
  refine Or.inl ⟨_, rfl, ?_⟩
  refine mu_if_le mc_79_2 (fun c => ?_) (fun c => ?_)
  · replace H := H.1 c
    exact H
  · replace H := H.2 c
    refine mu_load mc_79_3 (by decide) rfl ?_
    refine mu_aload (r := some (0)) mc_79_4 (by decide) rfl ?_
    refine mt_call (args := [mm_P 0]) (rest := [mm_I (v2)]) mc_79_5 (by decide) rfl rfl rfl ⟨Or.inl (by simp), rfl, by decide⟩ (mu_rcv (by decide) rfl (by decide)) H ?_
    rintro _ _ ⟨r8, D5, u6, x7, rfl, rfl, H⟩
    refine Or.inl ⟨_, rfl, ?_⟩
    have h9 := H.1
    replace H := H.2
    refine mu_iadd mc_79_6 h9 ?_
    refine mu_aload (r := some (0)) mc_79_7 (by decide) rfl ?_
    refine mu_load mc_79_8 (by decide) rfl ?_
    refine mt_call (args := [mm_P 0, mm_I (v1)]) (rest := [mm_I ((v2) + (r8))]) mc_79_9 (by decide) rfl rfl rfl ⟨Or.inl (by simp), rfl, by decide⟩ (mu_rcv (by decide) rfl (by decide)) H ?_
    rintro _ _ (⟨r13, D10, u11, x12, rfl, rfl, H⟩ | ⟨E17, D14, u15, x16, rfl, rfl, H⟩)
    · refine Or.inl ⟨_, rfl, ?_⟩
      refine mu_ic_gt mc_79_10 (fun c => ?_) (fun c => ?_)
      · replace H := H.1 c
        exact H
      · replace H := H.2 c
        refine mu_const mc_79_11 (by decide) (by decide) ?_
        refine mu_rfl (n := 14) mc_79_12 (by decide) rfl rfl ?_
        refine mu_store mc_79_14 (by decide) (by simp) (ls' := [some (mm_P 0), some (mm_I (v1)), some (mm_I (v2)), some (mm_I ((1 : Int))), none]) rfl ?_
        exact H
    · exact Or.inr ⟨_, rfl, by decide, Or.inr ⟨mm_handN (by decide) _, by decide, H⟩⟩
theorem q_L_stands_13 {D : mm_D} {u : Int} {x : Nat × (Nat × List Int)} {Q : mm_O → mm_H → Prop} (v1 v2 : Int) (H : mt 79 15 [some (mm_P 0), some (mm_I (v1)), some (mm_I (v2)), some (mm_I ((0 : Int))), none] [] (mm_mk D u x) Q) : mt 79 13 [some (mm_P 0), some (mm_I (v1)), some (mm_I (v2)), none, none] [] (mm_mk D u x) Q := by
  refine mu_const mc_79_13 (by decide) (by decide) ?_
  refine mu_store mc_79_14 (by decide) (by simp) (ls' := [some (mm_P 0), some (mm_I (v1)), some (mm_I (v2)), some (mm_I ((0 : Int))), none]) rfl ?_
  exact H
theorem q_L_stands_15 {D : mm_D} {u : Int} {x : Nat × (Nat × List Int)} {Q : mm_O → mm_H → Prop} (v1 v2 v3 : Int) (H : mt 79 17 [some (mm_P 0), some (mm_I (v1)), some (mm_I (v2)), some (mm_I (v3)), some (mm_I ((0 : Int)))] [] (mm_mk D u x) Q) : mt 79 15 [some (mm_P 0), some (mm_I (v1)), some (mm_I (v2)), some (mm_I (v3)), none] [] (mm_mk D u x) Q := by
  refine mu_const mc_79_15 (by decide) (by decide) ?_
  refine mu_store mc_79_16 (by decide) (by simp) (ls' := [some (mm_P 0), some (mm_I (v1)), some (mm_I (v2)), some (mm_I (v3)), some (mm_I ((0 : Int)))]) rfl ?_
  exact H
theorem q_L_stands_17 {D : mm_D} {u : Int} {x : Nat × (Nat × List Int)} {Q : mm_O → mm_H → Prop} (v1 v2 v3 v4 : Int) (H : mt 52 0 [some (mm_P 0)] [] (mm_mk D u x) (mm_pI fun r4 D1 u2 x3 => (((r4) ≤ (v4)) → mt 79 39 [some (mm_P 0), some (mm_I (v1)), some (mm_I (v2)), some (mm_I (v3)), some (mm_I (v4))] [] (mm_mk D1 u2 x3) Q) ∧ (¬ ((r4) ≤ (v4)) → (((v3) = 0) → mt 79 39 [some (mm_P 0), some (mm_I (v1)), some (mm_I (v2)), some (mm_I (v3)), some (mm_I (v4))] [] (mm_mk D1 u2 x3) Q) ∧ (¬ ((v3) = 0) → (mm_rng ((v2) + (v4))) ∧ (mt 47 0 [some (mm_P 0), some (mm_I (v1)), some (mm_I ((v2) + (v4))), none] [] (mm_mk D1 u2 x3) (mm_pIx (fun r9 D6 u7 x8 => mt 53 0 [some (mm_P 0), some (mm_I (v4))] [] (mm_mk D6 u7 x8) (mm_pIx (fun r17 D14 u15 x16 => ((¬ (r9) = (r17)) → mt 79 37 [some (mm_P 0), some (mm_I (v1)), some (mm_I (v2)), some (mm_I ((0 : Int))), some (mm_I (v4))] [] (mm_mk D14 u15 x16) Q) ∧ (¬ (¬ (r9) = (r17)) → mt 79 37 [some (mm_P 0), some (mm_I (v1)), some (mm_I (v2)), some (mm_I ((1 : Int))), some (mm_I (v4))] [] (mm_mk D14 u15 x16) Q)) (fun E21 D18 u19 x20 => Q (.inr E21) (mm_mk D18 u19 x20)))) (fun E13 D10 u11 x12 => Q (.inr E13) (mm_mk D10 u11 x12)))))))) : mt 79 17 [some (mm_P 0), some (mm_I (v1)), some (mm_I (v2)), some (mm_I (v3)), some (mm_I (v4))] [] (mm_mk D u x) Q := by
  refine mu_load mc_79_17 (by decide) rfl ?_
  refine mu_aload (r := some (0)) mc_79_18 (by decide) rfl ?_
  refine mt_call (args := [mm_P 0]) (rest := [mm_I (v4)]) mc_79_19 (by decide) rfl rfl rfl ⟨Or.inl (by simp), rfl, by decide⟩ (mu_rcv (by decide) rfl (by decide)) H ?_
  rintro _ _ ⟨r4, D1, u2, x3, rfl, rfl, H⟩
  refine Or.inl ⟨_, rfl, ?_⟩
  refine mu_ic_ge mc_79_20 (fun c => ?_) (fun c => ?_)
  · replace H := H.1 c
    exact H
  · replace H := H.2 c
    refine mu_load mc_79_21 (by decide) rfl ?_
    refine mu_if_eq mc_79_22 (fun c => ?_) (fun c => ?_)
    · replace H := H.1 c
      exact H
    · replace H := H.2 c
      refine mu_aload (r := some (0)) mc_79_23 (by decide) rfl ?_
      refine mu_load mc_79_24 (by decide) rfl ?_
      refine mu_load mc_79_25 (by decide) rfl ?_
      refine mu_load mc_79_26 (by decide) rfl ?_
      have h5 := H.1
      replace H := H.2
      refine mu_iadd mc_79_27 h5 ?_
      refine mt_call (args := [mm_P 0, mm_I (v1), mm_I ((v2) + (v4))]) (rest := []) mc_79_28 (by decide) rfl rfl rfl ⟨Or.inl (by simp), rfl, by decide⟩ (mu_rcv (by decide) rfl (by decide)) H ?_
      rintro _ _ (⟨r9, D6, u7, x8, rfl, rfl, H⟩ | ⟨E13, D10, u11, x12, rfl, rfl, H⟩)
      · refine Or.inl ⟨_, rfl, ?_⟩
        refine mu_aload (r := some (0)) mc_79_29 (by decide) rfl ?_
        refine mu_load mc_79_30 (by decide) rfl ?_
        refine mt_call (args := [mm_P 0, mm_I (v4)]) (rest := [mm_I (r9)]) mc_79_31 (by decide) rfl rfl rfl ⟨Or.inl (by simp), rfl, by decide⟩ (mu_rcv (by decide) rfl (by decide)) H ?_
        rintro _ _ (⟨r17, D14, u15, x16, rfl, rfl, H⟩ | ⟨E21, D18, u19, x20, rfl, rfl, H⟩)
        · refine Or.inl ⟨_, rfl, ?_⟩
          refine mu_ic_ne mc_79_32 (fun c => ?_) (fun c => ?_)
          · replace H := H.1 c
            refine mu_const mc_79_35 (by decide) (by decide) ?_
            refine mu_store mc_79_36 (by decide) (by simp) (ls' := [some (mm_P 0), some (mm_I (v1)), some (mm_I (v2)), some (mm_I ((0 : Int))), some (mm_I (v4))]) rfl ?_
            exact H
          · replace H := H.2 c
            refine mu_const mc_79_33 (by decide) (by decide) ?_
            refine mu_rfl (n := 36) mc_79_34 (by decide) rfl rfl ?_
            refine mu_store mc_79_36 (by decide) (by simp) (ls' := [some (mm_P 0), some (mm_I (v1)), some (mm_I (v2)), some (mm_I ((1 : Int))), some (mm_I (v4))]) rfl ?_
            exact H
        · exact Or.inr ⟨_, rfl, by decide, Or.inr ⟨mm_handN (by decide) _, by decide, H⟩⟩
      · exact Or.inr ⟨_, rfl, by decide, Or.inr ⟨mm_handN (by decide) _, by decide, H⟩⟩
theorem q_L_stands_37 {D : mm_D} {u : Int} {x : Nat × (Nat × List Int)} {Q : mm_O → mm_H → Prop} (v1 v2 v3 v4 : Int) (H : (mm_rng ((v4) + (1 : Int))) ∧ (mt 79 17 [some (mm_P 0), some (mm_I (v1)), some (mm_I (v2)), some (mm_I (v3)), some (mm_I ((v4) + (1 : Int)))] [] (mm_mk D u x) Q)) : mt 79 37 [some (mm_P 0), some (mm_I (v1)), some (mm_I (v2)), some (mm_I (v3)), some (mm_I (v4))] [] (mm_mk D u x) Q := by
  have h1 := H.1
  replace H := H.2
  refine mu_iinc mc_79_37 rfl h1 (ls' := [some (mm_P 0), some (mm_I (v1)), some (mm_I (v2)), some (mm_I (v3)), some (mm_I ((v4) + (1 : Int)))]) rfl ?_
  refine mu_rfl (n := 17) mc_79_38 (by decide) rfl rfl ?_
  exact H
theorem q_L_stands_39 {D : mm_D} {u : Int} {x : Nat × (Nat × List Int)} {Q : mm_O → mm_H → Prop} (v1 v2 v3 v4 : Int) (H : ((v3) = 0 ∨ (v3) = 1) ∧ (Q (.inl (some (mm_I (v3)))) (mm_mk D u x))) : mt 79 39 [some (mm_P 0), some (mm_I (v1)), some (mm_I (v2)), some (mm_I (v3)), some (mm_I (v4))] [] (mm_mk D u x) Q := by
  refine mu_load mc_79_39 (by decide) rfl ?_
  have h1 := H.1
  replace H := H.2
  exact mt_retB mc_79_40 h1 H

theorem q_L_arePlaces_0 {D : mm_D} {u : Int} {x : Nat × (Nat × List Int)} {Q : mm_O → mm_H → Prop} (H : mt 80 10 [some (mm_P 0), some (mm_I ((0 : Int))), some (mm_I ((1 : Int))), some (mm_I ((0 : Int))), some (mm_I ((0 : Int))), some (mm_I ((0 : Int))), none, none, none, none] [] (mm_mk D u x) Q) : mt 80 0 [some (mm_P 0), none, none, none, none, none, none, none, none, none] [] (mm_mk D u x) Q := by
  refine mu_const mc_80_0 (by decide) (by decide) ?_
  refine mu_store mc_80_1 (by decide) (by simp) (ls' := [some (mm_P 0), some (mm_I ((0 : Int))), none, none, none, none, none, none, none, none]) rfl ?_
  refine mu_const mc_80_2 (by decide) (by decide) ?_
  refine mu_store mc_80_3 (by decide) (by simp) (ls' := [some (mm_P 0), some (mm_I ((0 : Int))), some (mm_I ((1 : Int))), none, none, none, none, none, none, none]) rfl ?_
  refine mu_const mc_80_4 (by decide) (by decide) ?_
  refine mu_store mc_80_5 (by decide) (by simp) (ls' := [some (mm_P 0), some (mm_I ((0 : Int))), some (mm_I ((1 : Int))), some (mm_I ((0 : Int))), none, none, none, none, none, none]) rfl ?_
  refine mu_const mc_80_6 (by decide) (by decide) ?_
  refine mu_store mc_80_7 (by decide) (by simp) (ls' := [some (mm_P 0), some (mm_I ((0 : Int))), some (mm_I ((1 : Int))), some (mm_I ((0 : Int))), some (mm_I ((0 : Int))), none, none, none, none, none]) rfl ?_
  refine mu_const mc_80_8 (by decide) (by decide) ?_
  refine mu_store mc_80_9 (by decide) (by simp) (ls' := [some (mm_P 0), some (mm_I ((0 : Int))), some (mm_I ((1 : Int))), some (mm_I ((0 : Int))), some (mm_I ((0 : Int))), some (mm_I ((0 : Int))), none, none, none, none]) rfl ?_
  exact H
theorem q_L_arePlaces_10 {D : mm_D} {u : Int} {x : Nat × (Nat × List Int)} {Q : mm_O → mm_H → Prop} (v1 v2 v3 v4 v5 : Int) (o6 o7 o8 o9 : Option mm_V) (H : mt 45 0 [some (mm_P 0)] [] (mm_mk D u x) (mm_pI fun r4 D1 u2 x3 => (((r4) ≤ (v5)) → mt 52 0 [some (mm_P 0)] [] (mm_mk D1 u2 x3) (mm_pI fun r8 D5 u6 x7 => ((¬ (r8) = 0) → mt 80 115 [some (mm_P 0), some (mm_I (v1)), some (mm_I (v2)), some (mm_I (v3)), some (mm_I (v4)), some (mm_I ((0 : Int))), o6, o7, o8, o9] [] (mm_mk D5 u6 x7) Q) ∧ (¬ (¬ (r8) = 0) → mt 80 115 [some (mm_P 0), some (mm_I (v1)), some (mm_I (v2)), some (mm_I (v3)), some (mm_I (v4)), some (mm_I ((1 : Int))), o6, o7, o8, o9] [] (mm_mk D5 u6 x7) Q))) ∧ (¬ ((r4) ≤ (v5)) → mt 80 22 [some (mm_P 0), some (mm_I (v1)), some (mm_I (v2)), some (mm_I (v3)), some (mm_I (v4)), some (mm_I (v5)), some (mm_I ((0 : Int))), some (mm_I ((-1 : Int))), some (mm_I ((-1 : Int))), some (mm_I ((0 : Int)))] [] (mm_mk D1 u2 x3) Q))) : mt 80 10 [some (mm_P 0), some (mm_I (v1)), some (mm_I (v2)), some (mm_I (v3)), some (mm_I (v4)), some (mm_I (v5)), o6, o7, o8, o9] [] (mm_mk D u x) Q := by
  refine mu_load mc_80_10 (by decide) rfl ?_
  refine mu_aload (r := some (0)) mc_80_11 (by decide) rfl ?_
  refine mt_call (args := [mm_P 0]) (rest := [mm_I (v5)]) mc_80_12 (by decide) rfl rfl rfl ⟨Or.inl (by simp), rfl, by decide⟩ (mu_rcv (by decide) rfl (by decide)) H ?_
  rintro _ _ ⟨r4, D1, u2, x3, rfl, rfl, H⟩
  refine Or.inl ⟨_, rfl, ?_⟩
  refine mu_ic_ge mc_80_13 (fun c => ?_) (fun c => ?_)
  · replace H := H.1 c
    refine mu_aload (r := some (0)) mc_80_108 (by decide) rfl ?_
    refine mt_call (args := [mm_P 0]) (rest := []) mc_80_109 (by decide) rfl rfl rfl ⟨Or.inl (by simp), rfl, by decide⟩ (mu_rcv (by decide) rfl (by decide)) H ?_
    rintro _ _ ⟨r8, D5, u6, x7, rfl, rfl, H⟩
    refine Or.inl ⟨_, rfl, ?_⟩
    refine mu_if_ne mc_80_110 (fun c => ?_) (fun c => ?_)
    · replace H := H.1 c
      refine mu_const mc_80_113 (by decide) (by decide) ?_
      refine mu_store mc_80_114 (by decide) (by simp) (ls' := [some (mm_P 0), some (mm_I (v1)), some (mm_I (v2)), some (mm_I (v3)), some (mm_I (v4)), some (mm_I ((0 : Int))), o6, o7, o8, o9]) rfl ?_
      exact H
    · replace H := H.2 c
      refine mu_const mc_80_111 (by decide) (by decide) ?_
      refine mu_rfl (n := 114) mc_80_112 (by decide) rfl rfl ?_
      refine mu_store mc_80_114 (by decide) (by simp) (ls' := [some (mm_P 0), some (mm_I (v1)), some (mm_I (v2)), some (mm_I (v3)), some (mm_I (v4)), some (mm_I ((1 : Int))), o6, o7, o8, o9]) rfl ?_
      exact H
  · replace H := H.2 c
    refine mu_const mc_80_14 (by decide) (by decide) ?_
    refine mu_store mc_80_15 (by decide) (by simp) (ls' := [some (mm_P 0), some (mm_I (v1)), some (mm_I (v2)), some (mm_I (v3)), some (mm_I (v4)), some (mm_I (v5)), some (mm_I ((0 : Int))), o7, o8, o9]) rfl ?_
    refine mu_const mc_80_16 (by decide) (by decide) ?_
    refine mu_store mc_80_17 (by decide) (by simp) (ls' := [some (mm_P 0), some (mm_I (v1)), some (mm_I (v2)), some (mm_I (v3)), some (mm_I (v4)), some (mm_I (v5)), some (mm_I ((0 : Int))), some (mm_I ((-1 : Int))), o8, o9]) rfl ?_
    refine mu_const mc_80_18 (by decide) (by decide) ?_
    refine mu_store mc_80_19 (by decide) (by simp) (ls' := [some (mm_P 0), some (mm_I (v1)), some (mm_I (v2)), some (mm_I (v3)), some (mm_I (v4)), some (mm_I (v5)), some (mm_I ((0 : Int))), some (mm_I ((-1 : Int))), some (mm_I ((-1 : Int))), o9]) rfl ?_
    refine mu_const mc_80_20 (by decide) (by decide) ?_
    refine mu_store mc_80_21 (by decide) (by simp) (ls' := [some (mm_P 0), some (mm_I (v1)), some (mm_I (v2)), some (mm_I (v3)), some (mm_I (v4)), some (mm_I (v5)), some (mm_I ((0 : Int))), some (mm_I ((-1 : Int))), some (mm_I ((-1 : Int))), some (mm_I ((0 : Int)))]) rfl ?_
    exact H
theorem q_L_arePlaces_22 {D : mm_D} {u : Int} {x : Nat × (Nat × List Int)} {Q : mm_O → mm_H → Prop} (v1 v2 v3 v4 v5 v6 v7 v8 v9 : Int) (H : mt 46 0 [some (mm_P 0), some (mm_I (v5))] [] (mm_mk D u x) (mm_pIx (fun r4 D1 u2 x3 => (((r4) ≤ (v9)) → (mm_rng ((v1) + (v6))) ∧ ((((v2) = 0) → mt 80 104 [some (mm_P 0), some (mm_I ((v1) + (v6))), some (mm_I (v2)), some (mm_I (v3)), some (mm_I (v4)), some (mm_I (v5)), some (mm_I (v6)), some (mm_I (v7)), some (mm_I (v8)), some (mm_I (v9))] [] (mm_mk D1 u2 x3) Q) ∧ (¬ ((v2) = 0) → mt 56 0 [some (mm_P 0), some (mm_I (v5))] [] (mm_mk D1 u2 x3) (mm_pIx (fun r13 D10 u11 x12 => ((¬ (r13) = (v6)) → mt 80 104 [some (mm_P 0), some (mm_I ((v1) + (v6))), some (mm_I (v2)), some (mm_I (v3)), some (mm_I (v4)), some (mm_I (v5)), some (mm_I (v6)), some (mm_I (v7)), some (mm_I (v8)), some (mm_I (v9))] [] (mm_mk D10 u11 x12) Q) ∧ (¬ (¬ (r13) = (v6)) → mt 57 0 [some (mm_P 0), some (mm_I (v5))] [] (mm_mk D10 u11 x12) (mm_pIx (fun r21 D18 u19 x20 => ((¬ (r21) = (v7)) → mt 80 104 [some (mm_P 0), some (mm_I ((v1) + (v6))), some (mm_I (v2)), some (mm_I (v3)), some (mm_I (v4)), some (mm_I (v5)), some (mm_I (v6)), some (mm_I (v7)), some (mm_I (v8)), some (mm_I (v9))] [] (mm_mk D18 u19 x20) Q) ∧ (¬ (¬ (r21) = (v7)) → mt 58 0 [some (mm_P 0), some (mm_I (v5))] [] (mm_mk D18 u19 x20) (mm_pIx (fun r29 D26 u27 x28 => ((¬ (r29) = (v8)) → mt 80 104 [some (mm_P 0), some (mm_I ((v1) + (v6))), some (mm_I (v2)), some (mm_I (v3)), some (mm_I (v4)), some (mm_I (v5)), some (mm_I (v6)), some (mm_I (v7)), some (mm_I (v8)), some (mm_I (v9))] [] (mm_mk D26 u27 x28) Q) ∧ (¬ (¬ (r29) = (v8)) → mt 80 106 [some (mm_P 0), some (mm_I ((v1) + (v6))), some (mm_I ((1 : Int))), some (mm_I (v3)), some (mm_I (v4)), some (mm_I (v5)), some (mm_I (v6)), some (mm_I (v7)), some (mm_I (v8)), some (mm_I (v9))] [] (mm_mk D26 u27 x28) Q)) (fun E33 D30 u31 x32 => Q (.inr E33) (mm_mk D30 u31 x32))))) (fun E25 D22 u23 x24 => Q (.inr E25) (mm_mk D22 u23 x24))))) (fun E17 D14 u15 x16 => Q (.inr E17) (mm_mk D14 u15 x16)))))) ∧ (¬ ((r4) ≤ (v9)) → mt 79 0 [some (mm_P 0), some (mm_I (v5)), some (mm_I (v9)), none, none] [] (mm_mk D1 u2 x3) (mm_pIx (fun r37 D34 u35 x36 => (((r37) = 0) → mt 80 79 [some (mm_P 0), some (mm_I (v1)), some (mm_I (v2)), some (mm_I (v3)), some (mm_I (v4)), some (mm_I (v5)), some (mm_I (v6)), some (mm_I (v7)), some (mm_I (v8)), some (mm_I (v9))] [] (mm_mk D34 u35 x36) Q) ∧ (¬ ((r37) = 0) → (mm_rng ((v6) + (1 : Int))) ∧ (((¬ (v7) = ((-1 : Int))) → mt 80 40 [some (mm_P 0), some (mm_I (v1)), some (mm_I (v2)), some (mm_I (v3)), some (mm_I (v4)), some (mm_I (v5)), some (mm_I ((v6) + (1 : Int))), some (mm_I (v7)), some (mm_I (v8)), some (mm_I (v9))] [] (mm_mk D34 u35 x36) Q) ∧ (¬ (¬ (v7) = ((-1 : Int))) → mt 80 40 [some (mm_P 0), some (mm_I (v1)), some (mm_I (v2)), some (mm_I (v3)), some (mm_I (v4)), some (mm_I (v5)), some (mm_I ((v6) + (1 : Int))), some (mm_I (v9)), some (mm_I (v8)), some (mm_I (v9))] [] (mm_mk D34 u35 x36) Q)))) (fun E41 D38 u39 x40 => Q (.inr E41) (mm_mk D38 u39 x40))))) (fun E8 D5 u6 x7 => Q (.inr E8) (mm_mk D5 u6 x7)))) : mt 80 22 [some (mm_P 0), some (mm_I (v1)), some (mm_I (v2)), some (mm_I (v3)), some (mm_I (v4)), some (mm_I (v5)), some (mm_I (v6)), some (mm_I (v7)), some (mm_I (v8)), some (mm_I (v9))] [] (mm_mk D u x) Q := by
  refine mu_load mc_80_22 (by decide) rfl ?_
  refine mu_aload (r := some (0)) mc_80_23 (by decide) rfl ?_
  refine mu_load mc_80_24 (by decide) rfl ?_
  refine mt_call (args := [mm_P 0, mm_I (v5)]) (rest := [mm_I (v9)]) mc_80_25 (by decide) rfl rfl rfl ⟨Or.inl (by simp), rfl, by decide⟩ (mu_rcv (by decide) rfl (by decide)) H ?_
  rintro _ _ (⟨r4, D1, u2, x3, rfl, rfl, H⟩ | ⟨E8, D5, u6, x7, rfl, rfl, H⟩)
  · refine Or.inl ⟨_, rfl, ?_⟩
    refine mu_ic_ge mc_80_26 (fun c => ?_) (fun c => ?_)
    · replace H := H.1 c
      refine mu_load mc_80_81 (by decide) rfl ?_
      refine mu_load mc_80_82 (by decide) rfl ?_
      have h9 := H.1
      replace H := H.2
      refine mu_iadd mc_80_83 h9 ?_
      refine mu_store mc_80_84 (by decide) (by simp) (ls' := [some (mm_P 0), some (mm_I ((v1) + (v6))), some (mm_I (v2)), some (mm_I (v3)), some (mm_I (v4)), some (mm_I (v5)), some (mm_I (v6)), some (mm_I (v7)), some (mm_I (v8)), some (mm_I (v9))]) rfl ?_
      refine mu_load mc_80_85 (by decide) rfl ?_
      refine mu_if_eq mc_80_86 (fun c => ?_) (fun c => ?_)
      · replace H := H.1 c
        exact H
      · replace H := H.2 c
        refine mu_aload (r := some (0)) mc_80_87 (by decide) rfl ?_
        refine mu_load mc_80_88 (by decide) rfl ?_
        refine mt_call (args := [mm_P 0, mm_I (v5)]) (rest := []) mc_80_89 (by decide) rfl rfl rfl ⟨Or.inl (by simp), rfl, by decide⟩ (mu_rcv (by decide) rfl (by decide)) H ?_
        rintro _ _ (⟨r13, D10, u11, x12, rfl, rfl, H⟩ | ⟨E17, D14, u15, x16, rfl, rfl, H⟩)
        · refine Or.inl ⟨_, rfl, ?_⟩
          refine mu_load mc_80_90 (by decide) rfl ?_
          refine mu_ic_ne mc_80_91 (fun c => ?_) (fun c => ?_)
          · replace H := H.1 c
            exact H
          · replace H := H.2 c
            refine mu_aload (r := some (0)) mc_80_92 (by decide) rfl ?_
            refine mu_load mc_80_93 (by decide) rfl ?_
            refine mt_call (args := [mm_P 0, mm_I (v5)]) (rest := []) mc_80_94 (by decide) rfl rfl rfl ⟨Or.inl (by simp), rfl, by decide⟩ (mu_rcv (by decide) rfl (by decide)) H ?_
            rintro _ _ (⟨r21, D18, u19, x20, rfl, rfl, H⟩ | ⟨E25, D22, u23, x24, rfl, rfl, H⟩)
            · refine Or.inl ⟨_, rfl, ?_⟩
              refine mu_load mc_80_95 (by decide) rfl ?_
              refine mu_ic_ne mc_80_96 (fun c => ?_) (fun c => ?_)
              · replace H := H.1 c
                exact H
              · replace H := H.2 c
                refine mu_aload (r := some (0)) mc_80_97 (by decide) rfl ?_
                refine mu_load mc_80_98 (by decide) rfl ?_
                refine mt_call (args := [mm_P 0, mm_I (v5)]) (rest := []) mc_80_99 (by decide) rfl rfl rfl ⟨Or.inl (by simp), rfl, by decide⟩ (mu_rcv (by decide) rfl (by decide)) H ?_
                rintro _ _ (⟨r29, D26, u27, x28, rfl, rfl, H⟩ | ⟨E33, D30, u31, x32, rfl, rfl, H⟩)
                · refine Or.inl ⟨_, rfl, ?_⟩
                  refine mu_load mc_80_100 (by decide) rfl ?_
                  refine mu_ic_ne mc_80_101 (fun c => ?_) (fun c => ?_)
                  · replace H := H.1 c
                    exact H
                  · replace H := H.2 c
                    refine mu_const mc_80_102 (by decide) (by decide) ?_
                    refine mu_rfl (n := 105) mc_80_103 (by decide) rfl rfl ?_
                    refine mu_store mc_80_105 (by decide) (by simp) (ls' := [some (mm_P 0), some (mm_I ((v1) + (v6))), some (mm_I ((1 : Int))), some (mm_I (v3)), some (mm_I (v4)), some (mm_I (v5)), some (mm_I (v6)), some (mm_I (v7)), some (mm_I (v8)), some (mm_I (v9))]) rfl ?_
                    exact H
                · exact Or.inr ⟨_, rfl, by decide, Or.inr ⟨mm_handN (by decide) _, by decide, H⟩⟩
            · exact Or.inr ⟨_, rfl, by decide, Or.inr ⟨mm_handN (by decide) _, by decide, H⟩⟩
        · exact Or.inr ⟨_, rfl, by decide, Or.inr ⟨mm_handN (by decide) _, by decide, H⟩⟩
    · replace H := H.2 c
      refine mu_aload (r := some (0)) mc_80_27 (by decide) rfl ?_
      refine mu_load mc_80_28 (by decide) rfl ?_
      refine mu_load mc_80_29 (by decide) rfl ?_
      refine mt_call (args := [mm_P 0, mm_I (v5), mm_I (v9)]) (rest := []) mc_80_30 (by decide) rfl rfl rfl ⟨Or.inl (by simp), rfl, by decide⟩ rfl H ?_
      rintro _ _ (⟨r37, D34, u35, x36, rfl, rfl, H⟩ | ⟨E41, D38, u39, x40, rfl, rfl, H⟩)
      · refine Or.inl ⟨_, rfl, ?_⟩
        refine mu_if_eq mc_80_31 (fun c => ?_) (fun c => ?_)
        · replace H := H.1 c
          exact H
        · replace H := H.2 c
          have h42 := H.1
          replace H := H.2
          refine mu_iinc mc_80_32 rfl h42 (ls' := [some (mm_P 0), some (mm_I (v1)), some (mm_I (v2)), some (mm_I (v3)), some (mm_I (v4)), some (mm_I (v5)), some (mm_I ((v6) + (1 : Int))), some (mm_I (v7)), some (mm_I (v8)), some (mm_I (v9))]) rfl ?_
          refine mu_load mc_80_33 (by decide) rfl ?_
          refine mu_const mc_80_34 (by decide) (by decide) ?_
          refine mu_ic_ne mc_80_35 (fun c => ?_) (fun c => ?_)
          · replace H := H.1 c
            refine mu_load mc_80_38 (by decide) rfl ?_
            refine mu_store mc_80_39 (by decide) (by simp) (ls' := [some (mm_P 0), some (mm_I (v1)), some (mm_I (v2)), some (mm_I (v3)), some (mm_I (v4)), some (mm_I (v5)), some (mm_I ((v6) + (1 : Int))), some (mm_I (v7)), some (mm_I (v8)), some (mm_I (v9))]) rfl ?_
            exact H
          · replace H := H.2 c
            refine mu_load mc_80_36 (by decide) rfl ?_
            refine mu_rfl (n := 39) mc_80_37 (by decide) rfl rfl ?_
            refine mu_store mc_80_39 (by decide) (by simp) (ls' := [some (mm_P 0), some (mm_I (v1)), some (mm_I (v2)), some (mm_I (v3)), some (mm_I (v4)), some (mm_I (v5)), some (mm_I ((v6) + (1 : Int))), some (mm_I (v9)), some (mm_I (v8)), some (mm_I (v9))]) rfl ?_
            exact H
      · exact Or.inr ⟨_, rfl, by decide, Or.inr ⟨mm_handN (by decide) _, by decide, H⟩⟩
  · exact Or.inr ⟨_, rfl, by decide, Or.inr ⟨mm_handN (by decide) _, by decide, H⟩⟩
theorem q_L_arePlaces_40 {D : mm_D} {u : Int} {x : Nat × (Nat × List Int)} {Q : mm_O → mm_H → Prop} (v1 v2 v3 v4 v5 v6 v7 v8 v9 : Int) (H : mt 52 0 [some (mm_P 0)] [] (mm_mk D u x) (mm_pI fun r4 D1 u2 x3 => (mm_rng ((v9) + (r4))) ∧ (mt 46 0 [some (mm_P 0), some (mm_I (v5))] [] (mm_mk D1 u2 x3) (mm_pIx (fun r9 D6 u7 x8 => (((r9) ≤ ((v9) + (r4))) → (((v9) ≤ 0) → mt 80 79 [some (mm_P 0), some (mm_I (v1)), some (mm_I (v2)), some (mm_I (mm_or (v3) ((0 : Int)))), some (mm_I (mm_or (v4) ((0 : Int)))), some (mm_I (v5)), some (mm_I (v6)), some (mm_I (v7)), some (mm_I (v9)), some (mm_I (v9))] [] (mm_mk D6 u7 x8) Q) ∧ (¬ ((v9) ≤ 0) → (mm_rng ((v9) - ((1 : Int)))) ∧ (mt 47 0 [some (mm_P 0), some (mm_I (v5)), some (mm_I ((v9) - ((1 : Int)))), none] [] (mm_mk D6 u7 x8) (mm_pIx (fun r18 D15 u16 x17 => (0 ≤ ((1 : Int)) ∧ 0 ≤ (r18) ∧ (r18) < 31) ∧ ((mm_rng (((1 : Int)) * 2 ^ (r18).toNat)) ∧ (mt 80 79 [some (mm_P 0), some (mm_I (v1)), some (mm_I (v2)), some (mm_I (mm_or (v3) ((0 : Int)))), some (mm_I (mm_or (v4) (((1 : Int)) * 2 ^ (r18).toNat))), some (mm_I (v5)), some (mm_I (v6)), some (mm_I (v7)), some (mm_I (v9)), some (mm_I (v9))] [] (mm_mk D15 u16 x17) Q))) (fun E22 D19 u20 x21 => Q (.inr E22) (mm_mk D19 u20 x21)))))) ∧ (¬ ((r9) ≤ ((v9) + (r4))) → mt 52 0 [some (mm_P 0)] [] (mm_mk D6 u7 x8) (mm_pI fun r28 D25 u26 x27 => (mm_rng ((v9) + (r28))) ∧ (mt 47 0 [some (mm_P 0), some (mm_I (v5)), some (mm_I ((v9) + (r28))), none] [] (mm_mk D25 u26 x27) (mm_pIx (fun r33 D30 u31 x32 => (0 ≤ ((1 : Int)) ∧ 0 ≤ (r33) ∧ (r33) < 31) ∧ ((mm_rng (((1 : Int)) * 2 ^ (r33).toNat)) ∧ ((((v9) ≤ 0) → mt 80 79 [some (mm_P 0), some (mm_I (v1)), some (mm_I (v2)), some (mm_I (mm_or (v3) (((1 : Int)) * 2 ^ (r33).toNat))), some (mm_I (mm_or (v4) ((0 : Int)))), some (mm_I (v5)), some (mm_I (v6)), some (mm_I (v7)), some (mm_I (v9)), some (mm_I (v9))] [] (mm_mk D30 u31 x32) Q) ∧ (¬ ((v9) ≤ 0) → (mm_rng ((v9) - ((1 : Int)))) ∧ (mt 47 0 [some (mm_P 0), some (mm_I (v5)), some (mm_I ((v9) - ((1 : Int)))), none] [] (mm_mk D30 u31 x32) (mm_pIx (fun r44 D41 u42 x43 => (0 ≤ ((1 : Int)) ∧ 0 ≤ (r44) ∧ (r44) < 31) ∧ ((mm_rng (((1 : Int)) * 2 ^ (r44).toNat)) ∧ (mt 80 79 [some (mm_P 0), some (mm_I (v1)), some (mm_I (v2)), some (mm_I (mm_or (v3) (((1 : Int)) * 2 ^ (r33).toNat))), some (mm_I (mm_or (v4) (((1 : Int)) * 2 ^ (r44).toNat))), some (mm_I (v5)), some (mm_I (v6)), some (mm_I (v7)), some (mm_I (v9)), some (mm_I (v9))] [] (mm_mk D41 u42 x43) Q))) (fun E48 D45 u46 x47 => Q (.inr E48) (mm_mk D45 u46 x47)))))))) (fun E37 D34 u35 x36 => Q (.inr E37) (mm_mk D34 u35 x36))))))) (fun E13 D10 u11 x12 => Q (.inr E13) (mm_mk D10 u11 x12)))))) : mt 80 40 [some (mm_P 0), some (mm_I (v1)), some (mm_I (v2)), some (mm_I (v3)), some (mm_I (v4)), some (mm_I (v5)), some (mm_I (v6)), some (mm_I (v7)), some (mm_I (v8)), some (mm_I (v9))] [] (mm_mk D u x) Q := by
  refine mu_load mc_80_40 (by decide) rfl ?_
  refine mu_store mc_80_41 (by decide) (by simp) (ls' := [some (mm_P 0), some (mm_I (v1)), some (mm_I (v2)), some (mm_I (v3)), some (mm_I (v4)), some (mm_I (v5)), some (mm_I (v6)), some (mm_I (v7)), some (mm_I (v9)), some (mm_I (v9))]) rfl ?_
  refine mu_load mc_80_42 (by decide) rfl ?_
  refine mu_load mc_80_43 (by decide) rfl ?_
  refine mu_aload (r := some (0)) mc_80_44 (by decide) rfl ?_
  refine mt_call (args := [mm_P 0]) (rest := [mm_I (v9), mm_I (v3)]) mc_80_45 (by decide) rfl rfl rfl ⟨Or.inl (by simp), rfl, by decide⟩ (mu_rcv (by decide) rfl (by decide)) H ?_
  rintro _ _ ⟨r4, D1, u2, x3, rfl, rfl, H⟩
  refine Or.inl ⟨_, rfl, ?_⟩
  have h5 := H.1
  replace H := H.2
  refine mu_iadd mc_80_46 h5 ?_
  refine mu_aload (r := some (0)) mc_80_47 (by decide) rfl ?_
  refine mu_load mc_80_48 (by decide) rfl ?_
  refine mt_call (args := [mm_P 0, mm_I (v5)]) (rest := [mm_I ((v9) + (r4)), mm_I (v3)]) mc_80_49 (by decide) rfl rfl rfl ⟨Or.inl (by simp), rfl, by decide⟩ (mu_rcv (by decide) rfl (by decide)) H ?_
  rintro _ _ (⟨r9, D6, u7, x8, rfl, rfl, H⟩ | ⟨E13, D10, u11, x12, rfl, rfl, H⟩)
  · refine Or.inl ⟨_, rfl, ?_⟩
    refine mu_ic_ge mc_80_50 (fun c => ?_) (fun c => ?_)
    · replace H := H.1 c
      refine mu_const mc_80_61 (by decide) (by decide) ?_
      refine mu_ior mc_80_62 ?_
      refine mu_store mc_80_63 (by decide) (by simp) (ls' := [some (mm_P 0), some (mm_I (v1)), some (mm_I (v2)), some (mm_I (mm_or (v3) ((0 : Int)))), some (mm_I (v4)), some (mm_I (v5)), some (mm_I (v6)), some (mm_I (v7)), some (mm_I (v9)), some (mm_I (v9))]) rfl ?_
      refine mu_load mc_80_64 (by decide) rfl ?_
      refine mu_load mc_80_65 (by decide) rfl ?_
      refine mu_if_le mc_80_66 (fun c => ?_) (fun c => ?_)
      · replace H := H.1 c
        refine mu_const mc_80_76 (by decide) (by decide) ?_
        refine mu_ior mc_80_77 ?_
        refine mu_store mc_80_78 (by decide) (by simp) (ls' := [some (mm_P 0), some (mm_I (v1)), some (mm_I (v2)), some (mm_I (mm_or (v3) ((0 : Int)))), some (mm_I (mm_or (v4) ((0 : Int)))), some (mm_I (v5)), some (mm_I (v6)), some (mm_I (v7)), some (mm_I (v9)), some (mm_I (v9))]) rfl ?_
        exact H
      · replace H := H.2 c
        refine mu_const mc_80_67 (by decide) (by decide) ?_
        refine mu_aload (r := some (0)) mc_80_68 (by decide) rfl ?_
        refine mu_load mc_80_69 (by decide) rfl ?_
        refine mu_load mc_80_70 (by decide) rfl ?_
        refine mu_const mc_80_71 (by decide) (by decide) ?_
        have h14 := H.1
        replace H := H.2
        refine mu_isub mc_80_72 h14 ?_
        refine mt_call (args := [mm_P 0, mm_I (v5), mm_I ((v9) - ((1 : Int)))]) (rest := [mm_I ((1 : Int)), mm_I (v4)]) mc_80_73 (by decide) rfl rfl rfl ⟨Or.inl (by simp), rfl, by decide⟩ (mu_rcv (by decide) rfl (by decide)) H ?_
        rintro _ _ (⟨r18, D15, u16, x17, rfl, rfl, H⟩ | ⟨E22, D19, u20, x21, rfl, rfl, H⟩)
        · refine Or.inl ⟨_, rfl, ?_⟩
          have h23 := H.1
          replace H := H.2
          have h24 := H.1
          replace H := H.2
          refine mu_ishl mc_80_74 h23 h24 ?_
          refine mu_rfl (n := 77) mc_80_75 (by decide) rfl rfl ?_
          refine mu_ior mc_80_77 ?_
          refine mu_store mc_80_78 (by decide) (by simp) (ls' := [some (mm_P 0), some (mm_I (v1)), some (mm_I (v2)), some (mm_I (mm_or (v3) ((0 : Int)))), some (mm_I (mm_or (v4) (((1 : Int)) * 2 ^ (r18).toNat))), some (mm_I (v5)), some (mm_I (v6)), some (mm_I (v7)), some (mm_I (v9)), some (mm_I (v9))]) rfl ?_
          exact H
        · exact Or.inr ⟨_, rfl, by decide, Or.inr ⟨mm_handN (by decide) _, by decide, H⟩⟩
    · replace H := H.2 c
      refine mu_const mc_80_51 (by decide) (by decide) ?_
      refine mu_aload (r := some (0)) mc_80_52 (by decide) rfl ?_
      refine mu_load mc_80_53 (by decide) rfl ?_
      refine mu_load mc_80_54 (by decide) rfl ?_
      refine mu_aload (r := some (0)) mc_80_55 (by decide) rfl ?_
      refine mt_call (args := [mm_P 0]) (rest := [mm_I (v9), mm_I (v5), mm_P 0, mm_I ((1 : Int)), mm_I (v3)]) mc_80_56 (by decide) rfl rfl rfl ⟨Or.inr ⟨by simp, rfl⟩, rfl, by decide⟩ (mu_rcv (by decide) rfl (by decide)) H ?_
      rintro _ _ ⟨r28, D25, u26, x27, rfl, rfl, H⟩
      refine Or.inl ⟨_, rfl, ?_⟩
      have h29 := H.1
      replace H := H.2
      refine mu_iadd mc_80_57 h29 ?_
      refine mt_call (args := [mm_P 0, mm_I (v5), mm_I ((v9) + (r28))]) (rest := [mm_I ((1 : Int)), mm_I (v3)]) mc_80_58 (by decide) rfl rfl rfl ⟨Or.inl (by simp), rfl, by decide⟩ (mu_rcv (by decide) rfl (by decide)) H ?_
      rintro _ _ (⟨r33, D30, u31, x32, rfl, rfl, H⟩ | ⟨E37, D34, u35, x36, rfl, rfl, H⟩)
      · refine Or.inl ⟨_, rfl, ?_⟩
        have h38 := H.1
        replace H := H.2
        have h39 := H.1
        replace H := H.2
        refine mu_ishl mc_80_59 h38 h39 ?_
        refine mu_rfl (n := 62) mc_80_60 (by decide) rfl rfl ?_
        refine mu_ior mc_80_62 ?_
        refine mu_store mc_80_63 (by decide) (by simp) (ls' := [some (mm_P 0), some (mm_I (v1)), some (mm_I (v2)), some (mm_I (mm_or (v3) (((1 : Int)) * 2 ^ (r33).toNat))), some (mm_I (v4)), some (mm_I (v5)), some (mm_I (v6)), some (mm_I (v7)), some (mm_I (v9)), some (mm_I (v9))]) rfl ?_
        refine mu_load mc_80_64 (by decide) rfl ?_
        refine mu_load mc_80_65 (by decide) rfl ?_
        refine mu_if_le mc_80_66 (fun c => ?_) (fun c => ?_)
        · replace H := H.1 c
          refine mu_const mc_80_76 (by decide) (by decide) ?_
          refine mu_ior mc_80_77 ?_
          refine mu_store mc_80_78 (by decide) (by simp) (ls' := [some (mm_P 0), some (mm_I (v1)), some (mm_I (v2)), some (mm_I (mm_or (v3) (((1 : Int)) * 2 ^ (r33).toNat))), some (mm_I (mm_or (v4) ((0 : Int)))), some (mm_I (v5)), some (mm_I (v6)), some (mm_I (v7)), some (mm_I (v9)), some (mm_I (v9))]) rfl ?_
          exact H
        · replace H := H.2 c
          refine mu_const mc_80_67 (by decide) (by decide) ?_
          refine mu_aload (r := some (0)) mc_80_68 (by decide) rfl ?_
          refine mu_load mc_80_69 (by decide) rfl ?_
          refine mu_load mc_80_70 (by decide) rfl ?_
          refine mu_const mc_80_71 (by decide) (by decide) ?_
          have h40 := H.1
          replace H := H.2
          refine mu_isub mc_80_72 h40 ?_
          refine mt_call (args := [mm_P 0, mm_I (v5), mm_I ((v9) - ((1 : Int)))]) (rest := [mm_I ((1 : Int)), mm_I (v4)]) mc_80_73 (by decide) rfl rfl rfl ⟨Or.inl (by simp), rfl, by decide⟩ (mu_rcv (by decide) rfl (by decide)) H ?_
          rintro _ _ (⟨r44, D41, u42, x43, rfl, rfl, H⟩ | ⟨E48, D45, u46, x47, rfl, rfl, H⟩)
          · refine Or.inl ⟨_, rfl, ?_⟩
            have h49 := H.1
            replace H := H.2
            have h50 := H.1
            replace H := H.2
            refine mu_ishl mc_80_74 h49 h50 ?_
            refine mu_rfl (n := 77) mc_80_75 (by decide) rfl rfl ?_
            refine mu_ior mc_80_77 ?_
            refine mu_store mc_80_78 (by decide) (by simp) (ls' := [some (mm_P 0), some (mm_I (v1)), some (mm_I (v2)), some (mm_I (mm_or (v3) (((1 : Int)) * 2 ^ (r33).toNat))), some (mm_I (mm_or (v4) (((1 : Int)) * 2 ^ (r44).toNat))), some (mm_I (v5)), some (mm_I (v6)), some (mm_I (v7)), some (mm_I (v9)), some (mm_I (v9))]) rfl ?_
            exact H
          · exact Or.inr ⟨_, rfl, by decide, Or.inr ⟨mm_handN (by decide) _, by decide, H⟩⟩
      · exact Or.inr ⟨_, rfl, by decide, Or.inr ⟨mm_handN (by decide) _, by decide, H⟩⟩
  · exact Or.inr ⟨_, rfl, by decide, Or.inr ⟨mm_handN (by decide) _, by decide, H⟩⟩
theorem q_L_arePlaces_79 {D : mm_D} {u : Int} {x : Nat × (Nat × List Int)} {Q : mm_O → mm_H → Prop} (v1 v2 v3 v4 v5 v6 v7 v8 v9 : Int) (H : (mm_rng ((v9) + (1 : Int))) ∧ (mt 80 22 [some (mm_P 0), some (mm_I (v1)), some (mm_I (v2)), some (mm_I (v3)), some (mm_I (v4)), some (mm_I (v5)), some (mm_I (v6)), some (mm_I (v7)), some (mm_I (v8)), some (mm_I ((v9) + (1 : Int)))] [] (mm_mk D u x) Q)) : mt 80 79 [some (mm_P 0), some (mm_I (v1)), some (mm_I (v2)), some (mm_I (v3)), some (mm_I (v4)), some (mm_I (v5)), some (mm_I (v6)), some (mm_I (v7)), some (mm_I (v8)), some (mm_I (v9))] [] (mm_mk D u x) Q := by
  have h1 := H.1
  replace H := H.2
  refine mu_iinc mc_80_79 rfl h1 (ls' := [some (mm_P 0), some (mm_I (v1)), some (mm_I (v2)), some (mm_I (v3)), some (mm_I (v4)), some (mm_I (v5)), some (mm_I (v6)), some (mm_I (v7)), some (mm_I (v8)), some (mm_I ((v9) + (1 : Int)))]) rfl ?_
  refine mu_rfl (n := 22) mc_80_80 (by decide) rfl rfl ?_
  exact H
theorem q_L_arePlaces_104 {D : mm_D} {u : Int} {x : Nat × (Nat × List Int)} {Q : mm_O → mm_H → Prop} (v1 v2 v3 v4 v5 v6 v7 v8 v9 : Int) (H : mt 80 106 [some (mm_P 0), some (mm_I (v1)), some (mm_I ((0 : Int))), some (mm_I (v3)), some (mm_I (v4)), some (mm_I (v5)), some (mm_I (v6)), some (mm_I (v7)), some (mm_I (v8)), some (mm_I (v9))] [] (mm_mk D u x) Q) : mt 80 104 [some (mm_P 0), some (mm_I (v1)), some (mm_I (v2)), some (mm_I (v3)), some (mm_I (v4)), some (mm_I (v5)), some (mm_I (v6)), some (mm_I (v7)), some (mm_I (v8)), some (mm_I (v9))] [] (mm_mk D u x) Q := by
  refine mu_const mc_80_104 (by decide) (by decide) ?_
  refine mu_store mc_80_105 (by decide) (by simp) (ls' := [some (mm_P 0), some (mm_I (v1)), some (mm_I ((0 : Int))), some (mm_I (v3)), some (mm_I (v4)), some (mm_I (v5)), some (mm_I (v6)), some (mm_I (v7)), some (mm_I (v8)), some (mm_I (v9))]) rfl ?_
  exact H
theorem q_L_arePlaces_106 {D : mm_D} {u : Int} {x : Nat × (Nat × List Int)} {Q : mm_O → mm_H → Prop} (v1 v2 v3 v4 v5 v6 v7 v8 v9 : Int) (H : (mm_rng ((v5) + (1 : Int))) ∧ (mt 80 10 [some (mm_P 0), some (mm_I (v1)), some (mm_I (v2)), some (mm_I (v3)), some (mm_I (v4)), some (mm_I ((v5) + (1 : Int))), some (mm_I (v6)), some (mm_I (v7)), some (mm_I (v8)), some (mm_I (v9))] [] (mm_mk D u x) Q)) : mt 80 106 [some (mm_P 0), some (mm_I (v1)), some (mm_I (v2)), some (mm_I (v3)), some (mm_I (v4)), some (mm_I (v5)), some (mm_I (v6)), some (mm_I (v7)), some (mm_I (v8)), some (mm_I (v9))] [] (mm_mk D u x) Q := by
  have h1 := H.1
  replace H := H.2
  refine mu_iinc mc_80_106 rfl h1 (ls' := [some (mm_P 0), some (mm_I (v1)), some (mm_I (v2)), some (mm_I (v3)), some (mm_I (v4)), some (mm_I ((v5) + (1 : Int))), some (mm_I (v6)), some (mm_I (v7)), some (mm_I (v8)), some (mm_I (v9))]) rfl ?_
  refine mu_rfl (n := 10) mc_80_107 (by decide) rfl rfl ?_
  exact H
theorem q_L_arePlaces_115 {D : mm_D} {u : Int} {x : Nat × (Nat × List Int)} {Q : mm_O → mm_H → Prop} (v1 v2 v3 v4 v5 : Int) (o6 o7 o8 o9 : Option mm_V) (H : (((v2) = 0) → mt 80 147 [some (mm_P 0), some (mm_I (v1)), some (mm_I (v2)), some (mm_I (v3)), some (mm_I (v4)), some (mm_I (v5)), o6, o7, o8, o9] [] (mm_mk D u x) Q) ∧ (¬ ((v2) = 0) → mt 55 0 [some (mm_P 0)] [] (mm_mk D u x) (mm_pI fun r4 D1 u2 x3 => ((¬ (r4) = (v1)) → mt 80 147 [some (mm_P 0), some (mm_I (v1)), some (mm_I (v2)), some (mm_I (v3)), some (mm_I (v4)), some (mm_I (v5)), o6, o7, o8, o9] [] (mm_mk D1 u2 x3) Q) ∧ (¬ (¬ (r4) = (v1)) → mt 54 0 [some (mm_P 0)] [] (mm_mk D1 u2 x3) (mm_pI fun r8 D5 u6 x7 => (((v1) ≤ 0) → ((¬ (r8) = ((0 : Int))) → mt 80 147 [some (mm_P 0), some (mm_I (v1)), some (mm_I (v2)), some (mm_I (v3)), some (mm_I (v4)), some (mm_I (v5)), o6, o7, o8, o9] [] (mm_mk D5 u6 x7) Q) ∧ (¬ (¬ (r8) = ((0 : Int))) → (((v5) = 0) → mt 59 0 [some (mm_P 0), none, none, none] [] (mm_mk D5 u6 x7) (mm_pI fun r12 D9 u10 x11 => ((¬ (r12) = (v3)) → mt 80 147 [some (mm_P 0), some (mm_I (v1)), some (mm_I (v2)), some (mm_I (v3)), some (mm_I (v4)), some (mm_I (v5)), o6, o7, o8, o9] [] (mm_mk D9 u10 x11) Q) ∧ (¬ (¬ (r12) = (v3)) → mt 60 0 [some (mm_P 0), none, none] [] (mm_mk D9 u10 x11) (mm_pI fun r16 D13 u14 x15 => ((¬ (r16) = (v4)) → mt 80 147 [some (mm_P 0), some (mm_I (v1)), some (mm_I (v2)), some (mm_I (v3)), some (mm_I (v4)), some (mm_I (v5)), o6, o7, o8, o9] [] (mm_mk D13 u14 x15) Q) ∧ (¬ (¬ (r16) = (v4)) → mt 80 145 [some (mm_P 0), some (mm_I (v1)), some (mm_I (v2)), some (mm_I (v3)), some (mm_I (v4)), some (mm_I (v5)), o6, o7, o8, o9] [] (mm_mk D13 u14 x15) Q))))) ∧ (¬ ((v5) = 0) → mt 59 0 [some (mm_P 0), none, none, none] [] (mm_mk D5 u6 x7) (mm_pI fun r20 D17 u18 x19 => mt 60 0 [some (mm_P 0), none, none] [] (mm_mk D17 u18 x19) (mm_pI fun r24 D21 u22 x23 => ((¬ (r20) = (r24)) → mt 80 147 [some (mm_P 0), some (mm_I (v1)), some (mm_I (v2)), some (mm_I (v3)), some (mm_I (v4)), some (mm_I (v5)), o6, o7, o8, o9] [] (mm_mk D21 u22 x23) Q) ∧ (¬ (¬ (r20) = (r24)) → mt 80 145 [some (mm_P 0), some (mm_I (v1)), some (mm_I (v2)), some (mm_I (v3)), some (mm_I (v4)), some (mm_I (v5)), o6, o7, o8, o9] [] (mm_mk D21 u22 x23) Q)))))) ∧ (¬ ((v1) ≤ 0) → ((¬ (r8) = ((1 : Int))) → mt 80 147 [some (mm_P 0), some (mm_I (v1)), some (mm_I (v2)), some (mm_I (v3)), some (mm_I (v4)), some (mm_I (v5)), o6, o7, o8, o9] [] (mm_mk D5 u6 x7) Q) ∧ (¬ (¬ (r8) = ((1 : Int))) → (((v5) = 0) → mt 59 0 [some (mm_P 0), none, none, none] [] (mm_mk D5 u6 x7) (mm_pI fun r28 D25 u26 x27 => ((¬ (r28) = (v3)) → mt 80 147 [some (mm_P 0), some (mm_I (v1)), some (mm_I (v2)), some (mm_I (v3)), some (mm_I (v4)), some (mm_I (v5)), o6, o7, o8, o9] [] (mm_mk D25 u26 x27) Q) ∧ (¬ (¬ (r28) = (v3)) → mt 60 0 [some (mm_P 0), none, none] [] (mm_mk D25 u26 x27) (mm_pI fun r32 D29 u30 x31 => ((¬ (r32) = (v4)) → mt 80 147 [some (mm_P 0), some (mm_I (v1)), some (mm_I (v2)), some (mm_I (v3)), some (mm_I (v4)), some (mm_I (v5)), o6, o7, o8, o9] [] (mm_mk D29 u30 x31) Q) ∧ (¬ (¬ (r32) = (v4)) → mt 80 145 [some (mm_P 0), some (mm_I (v1)), some (mm_I (v2)), some (mm_I (v3)), some (mm_I (v4)), some (mm_I (v5)), o6, o7, o8, o9] [] (mm_mk D29 u30 x31) Q))))) ∧ (¬ ((v5) = 0) → mt 59 0 [some (mm_P 0), none, none, none] [] (mm_mk D5 u6 x7) (mm_pI fun r36 D33 u34 x35 => mt 60 0 [some (mm_P 0), none, none] [] (mm_mk D33 u34 x35) (mm_pI fun r40 D37 u38 x39 => ((¬ (r36) = (r40)) → mt 80 147 [some (mm_P 0), some (mm_I (v1)), some (mm_I (v2)), some (mm_I (v3)), some (mm_I (v4)), some (mm_I (v5)), o6, o7, o8, o9] [] (mm_mk D37 u38 x39) Q) ∧ (¬ (¬ (r36) = (r40)) → mt 80 145 [some (mm_P 0), some (mm_I (v1)), some (mm_I (v2)), some (mm_I (v3)), some (mm_I (v4)), some (mm_I (v5)), o6, o7, o8, o9] [] (mm_mk D37 u38 x39) Q))))))))))) : mt 80 115 [some (mm_P 0), some (mm_I (v1)), some (mm_I (v2)), some (mm_I (v3)), some (mm_I (v4)), some (mm_I (v5)), o6, o7, o8, o9] [] (mm_mk D u x) Q := by
  refine mu_load mc_80_115 (by decide) rfl ?_
  refine mu_if_eq mc_80_116 (fun c => ?_) (fun c => ?_)
  · replace H := H.1 c
    exact H
  · replace H := H.2 c
    refine mu_aload (r := some (0)) mc_80_117 (by decide) rfl ?_
    refine mt_call (args := [mm_P 0]) (rest := []) mc_80_118 (by decide) rfl rfl rfl ⟨Or.inl (by simp), rfl, by decide⟩ (mu_rcv (by decide) rfl (by decide)) H ?_
    rintro _ _ ⟨r4, D1, u2, x3, rfl, rfl, H⟩
    refine Or.inl ⟨_, rfl, ?_⟩
    refine mu_load mc_80_119 (by decide) rfl ?_
    refine mu_ic_ne mc_80_120 (fun c => ?_) (fun c => ?_)
    · replace H := H.1 c
      exact H
    · replace H := H.2 c
      refine mu_aload (r := some (0)) mc_80_121 (by decide) rfl ?_
      refine mt_call (args := [mm_P 0]) (rest := []) mc_80_122 (by decide) rfl rfl rfl ⟨Or.inl (by simp), rfl, by decide⟩ (mu_rcv (by decide) rfl (by decide)) H ?_
      rintro _ _ ⟨r8, D5, u6, x7, rfl, rfl, H⟩
      refine Or.inl ⟨_, rfl, ?_⟩
      refine mu_load mc_80_123 (by decide) rfl ?_
      refine mu_if_le mc_80_124 (fun c => ?_) (fun c => ?_)
      · replace H := H.1 c
        refine mu_const mc_80_127 (by decide) (by decide) ?_
        refine mu_ic_ne mc_80_128 (fun c => ?_) (fun c => ?_)
        · replace H := H.1 c
          exact H
        · replace H := H.2 c
          refine mu_load mc_80_129 (by decide) rfl ?_
          refine mu_if_eq mc_80_130 (fun c => ?_) (fun c => ?_)
          · replace H := H.1 c
            refine mu_aload (r := some (0)) mc_80_137 (by decide) rfl ?_
            refine mt_call (args := [mm_P 0]) (rest := []) mc_80_138 (by decide) rfl rfl rfl ⟨Or.inl (by simp), rfl, by decide⟩ (mu_rcv (by decide) rfl (by decide)) H ?_
            rintro _ _ ⟨r12, D9, u10, x11, rfl, rfl, H⟩
            refine Or.inl ⟨_, rfl, ?_⟩
            refine mu_load mc_80_139 (by decide) rfl ?_
            refine mu_ic_ne mc_80_140 (fun c => ?_) (fun c => ?_)
            · replace H := H.1 c
              exact H
            · replace H := H.2 c
              refine mu_aload (r := some (0)) mc_80_141 (by decide) rfl ?_
              refine mt_call (args := [mm_P 0]) (rest := []) mc_80_142 (by decide) rfl rfl rfl ⟨Or.inl (by simp), rfl, by decide⟩ (mu_rcv (by decide) rfl (by decide)) H ?_
              rintro _ _ ⟨r16, D13, u14, x15, rfl, rfl, H⟩
              refine Or.inl ⟨_, rfl, ?_⟩
              refine mu_load mc_80_143 (by decide) rfl ?_
              refine mu_ic_ne mc_80_144 (fun c => ?_) (fun c => ?_)
              · replace H := H.1 c
                exact H
              · replace H := H.2 c
                exact H
          · replace H := H.2 c
            refine mu_aload (r := some (0)) mc_80_131 (by decide) rfl ?_
            refine mt_call (args := [mm_P 0]) (rest := []) mc_80_132 (by decide) rfl rfl rfl ⟨Or.inl (by simp), rfl, by decide⟩ (mu_rcv (by decide) rfl (by decide)) H ?_
            rintro _ _ ⟨r20, D17, u18, x19, rfl, rfl, H⟩
            refine Or.inl ⟨_, rfl, ?_⟩
            refine mu_aload (r := some (0)) mc_80_133 (by decide) rfl ?_
            refine mt_call (args := [mm_P 0]) (rest := [mm_I (r20)]) mc_80_134 (by decide) rfl rfl rfl ⟨Or.inl (by simp), rfl, by decide⟩ (mu_rcv (by decide) rfl (by decide)) H ?_
            rintro _ _ ⟨r24, D21, u22, x23, rfl, rfl, H⟩
            refine Or.inl ⟨_, rfl, ?_⟩
            refine mu_ic_ne mc_80_135 (fun c => ?_) (fun c => ?_)
            · replace H := H.1 c
              exact H
            · replace H := H.2 c
              refine mu_rfl (n := 145) mc_80_136 (by decide) rfl rfl ?_
              exact H
      · replace H := H.2 c
        refine mu_const mc_80_125 (by decide) (by decide) ?_
        refine mu_rfl (n := 128) mc_80_126 (by decide) rfl rfl ?_
        refine mu_ic_ne mc_80_128 (fun c => ?_) (fun c => ?_)
        · replace H := H.1 c
          exact H
        · replace H := H.2 c
          refine mu_load mc_80_129 (by decide) rfl ?_
          refine mu_if_eq mc_80_130 (fun c => ?_) (fun c => ?_)
          · replace H := H.1 c
            refine mu_aload (r := some (0)) mc_80_137 (by decide) rfl ?_
            refine mt_call (args := [mm_P 0]) (rest := []) mc_80_138 (by decide) rfl rfl rfl ⟨Or.inl (by simp), rfl, by decide⟩ (mu_rcv (by decide) rfl (by decide)) H ?_
            rintro _ _ ⟨r28, D25, u26, x27, rfl, rfl, H⟩
            refine Or.inl ⟨_, rfl, ?_⟩
            refine mu_load mc_80_139 (by decide) rfl ?_
            refine mu_ic_ne mc_80_140 (fun c => ?_) (fun c => ?_)
            · replace H := H.1 c
              exact H
            · replace H := H.2 c
              refine mu_aload (r := some (0)) mc_80_141 (by decide) rfl ?_
              refine mt_call (args := [mm_P 0]) (rest := []) mc_80_142 (by decide) rfl rfl rfl ⟨Or.inl (by simp), rfl, by decide⟩ (mu_rcv (by decide) rfl (by decide)) H ?_
              rintro _ _ ⟨r32, D29, u30, x31, rfl, rfl, H⟩
              refine Or.inl ⟨_, rfl, ?_⟩
              refine mu_load mc_80_143 (by decide) rfl ?_
              refine mu_ic_ne mc_80_144 (fun c => ?_) (fun c => ?_)
              · replace H := H.1 c
                exact H
              · replace H := H.2 c
                exact H
          · replace H := H.2 c
            refine mu_aload (r := some (0)) mc_80_131 (by decide) rfl ?_
            refine mt_call (args := [mm_P 0]) (rest := []) mc_80_132 (by decide) rfl rfl rfl ⟨Or.inl (by simp), rfl, by decide⟩ (mu_rcv (by decide) rfl (by decide)) H ?_
            rintro _ _ ⟨r36, D33, u34, x35, rfl, rfl, H⟩
            refine Or.inl ⟨_, rfl, ?_⟩
            refine mu_aload (r := some (0)) mc_80_133 (by decide) rfl ?_
            refine mt_call (args := [mm_P 0]) (rest := [mm_I (r36)]) mc_80_134 (by decide) rfl rfl rfl ⟨Or.inl (by simp), rfl, by decide⟩ (mu_rcv (by decide) rfl (by decide)) H ?_
            rintro _ _ ⟨r40, D37, u38, x39, rfl, rfl, H⟩
            refine Or.inl ⟨_, rfl, ?_⟩
            refine mu_ic_ne mc_80_135 (fun c => ?_) (fun c => ?_)
            · replace H := H.1 c
              exact H
            · replace H := H.2 c
              refine mu_rfl (n := 145) mc_80_136 (by decide) rfl rfl ?_
              exact H
theorem q_L_arePlaces_145 {D : mm_D} {u : Int} {x : Nat × (Nat × List Int)} {Q : mm_O → mm_H → Prop} (v1 v2 v3 v4 v5 : Int) (o6 o7 o8 o9 : Option mm_V) (H : mt 80 149 [some (mm_P 0), some (mm_I (v1)), some (mm_I ((1 : Int))), some (mm_I (v3)), some (mm_I (v4)), some (mm_I (v5)), o6, o7, o8, o9] [] (mm_mk D u x) Q) : mt 80 145 [some (mm_P 0), some (mm_I (v1)), some (mm_I (v2)), some (mm_I (v3)), some (mm_I (v4)), some (mm_I (v5)), o6, o7, o8, o9] [] (mm_mk D u x) Q := by
  refine mu_const mc_80_145 (by decide) (by decide) ?_
  refine mu_rfl (n := 148) mc_80_146 (by decide) rfl rfl ?_
  refine mu_store mc_80_148 (by decide) (by simp) (ls' := [some (mm_P 0), some (mm_I (v1)), some (mm_I ((1 : Int))), some (mm_I (v3)), some (mm_I (v4)), some (mm_I (v5)), o6, o7, o8, o9]) rfl ?_
  exact H
theorem q_L_arePlaces_147 {D : mm_D} {u : Int} {x : Nat × (Nat × List Int)} {Q : mm_O → mm_H → Prop} (v1 v2 v3 v4 v5 : Int) (o6 o7 o8 o9 : Option mm_V) (H : mt 80 149 [some (mm_P 0), some (mm_I (v1)), some (mm_I ((0 : Int))), some (mm_I (v3)), some (mm_I (v4)), some (mm_I (v5)), o6, o7, o8, o9] [] (mm_mk D u x) Q) : mt 80 147 [some (mm_P 0), some (mm_I (v1)), some (mm_I (v2)), some (mm_I (v3)), some (mm_I (v4)), some (mm_I (v5)), o6, o7, o8, o9] [] (mm_mk D u x) Q := by
  refine mu_const mc_80_147 (by decide) (by decide) ?_
  refine mu_store mc_80_148 (by decide) (by simp) (ls' := [some (mm_P 0), some (mm_I (v1)), some (mm_I ((0 : Int))), some (mm_I (v3)), some (mm_I (v4)), some (mm_I (v5)), o6, o7, o8, o9]) rfl ?_
  exact H
theorem q_L_arePlaces_149 {D : mm_D} {u : Int} {x : Nat × (Nat × List Int)} {Q : mm_O → mm_H → Prop} (v1 v2 v3 v4 v5 : Int) (o6 o7 o8 o9 : Option mm_V) (H : (((v2) = 0) → mt 80 178 [some (mm_P 0), some (mm_I (v1)), some (mm_I (v2)), some (mm_I (v3)), some (mm_I (v4)), some (mm_I (v5)), o6, o7, o8, o9] [] (mm_mk D u x) Q) ∧ (¬ ((v2) = 0) → ((¬ (v1) = 0) → mt 62 0 [some (mm_P 0), none] [] (mm_mk D u x) (mm_pI fun r4 D1 u2 x3 => mt 52 0 [some (mm_P 0)] [] (mm_mk D1 u2 x3) (mm_pI fun r8 D5 u6 x7 => (((r4) < (r8)) → mt 80 178 [some (mm_P 0), some (mm_I (v1)), some (mm_I (v2)), some (mm_I (v3)), some (mm_I (v4)), some (mm_I (v5)), o6, o7, o8, o9] [] (mm_mk D5 u6 x7) Q) ∧ (¬ ((r4) < (r8)) → mt 63 0 [some (mm_P 0), none] [] (mm_mk D5 u6 x7) (mm_pI fun r12 D9 u10 x11 => mt 52 0 [some (mm_P 0)] [] (mm_mk D9 u10 x11) (mm_pI fun r16 D13 u14 x15 => (((r16) < (r12)) → mt 80 178 [some (mm_P 0), some (mm_I (v1)), some (mm_I (v2)), some (mm_I (v3)), some (mm_I (v4)), some (mm_I (v5)), o6, o7, o8, o9] [] (mm_mk D13 u14 x15) Q) ∧ (¬ ((r16) < (r12)) → mt 63 0 [some (mm_P 0), none] [] (mm_mk D13 u14 x15) (mm_pI fun r20 D17 u18 x19 => (((r20) < ((1 : Int))) → mt 80 178 [some (mm_P 0), some (mm_I (v1)), some (mm_I (v2)), some (mm_I (v3)), some (mm_I (v4)), some (mm_I (v5)), o6, o7, o8, o9] [] (mm_mk D17 u18 x19) Q) ∧ (¬ ((r20) < ((1 : Int))) → mt 80 176 [some (mm_P 0), some (mm_I (v1)), some (mm_I (v2)), some (mm_I (v3)), some (mm_I (v4)), some (mm_I (v5)), o6, o7, o8, o9] [] (mm_mk D17 u18 x19) Q))))))))) ∧ (¬ (¬ (v1) = 0) → mt 62 0 [some (mm_P 0), none] [] (mm_mk D u x) (mm_pI fun r24 D21 u22 x23 => ((¬ (r24) = ((-1 : Int))) → mt 80 178 [some (mm_P 0), some (mm_I (v1)), some (mm_I (v2)), some (mm_I (v3)), some (mm_I (v4)), some (mm_I (v5)), o6, o7, o8, o9] [] (mm_mk D21 u22 x23) Q) ∧ (¬ (¬ (r24) = ((-1 : Int))) → mt 63 0 [some (mm_P 0), none] [] (mm_mk D21 u22 x23) (mm_pI fun r28 D25 u26 x27 => ((¬ (r28) = ((-1 : Int))) → mt 80 178 [some (mm_P 0), some (mm_I (v1)), some (mm_I (v2)), some (mm_I (v3)), some (mm_I (v4)), some (mm_I (v5)), o6, o7, o8, o9] [] (mm_mk D25 u26 x27) Q) ∧ (¬ (¬ (r28) = ((-1 : Int))) → mt 80 176 [some (mm_P 0), some (mm_I (v1)), some (mm_I (v2)), some (mm_I (v3)), some (mm_I (v4)), some (mm_I (v5)), o6, o7, o8, o9] [] (mm_mk D25 u26 x27) Q))))))) : mt 80 149 [some (mm_P 0), some (mm_I (v1)), some (mm_I (v2)), some (mm_I (v3)), some (mm_I (v4)), some (mm_I (v5)), o6, o7, o8, o9] [] (mm_mk D u x) Q := by
  refine mu_load mc_80_149 (by decide) rfl ?_
  refine mu_if_eq mc_80_150 (fun c => ?_) (fun c => ?_)
  · replace H := H.1 c
    exact H
  · replace H := H.2 c
    refine mu_load mc_80_151 (by decide) rfl ?_
    refine mu_if_ne mc_80_152 (fun c => ?_) (fun c => ?_)
    · replace H := H.1 c
      refine mu_aload (r := some (0)) mc_80_162 (by decide) rfl ?_
      refine mt_call (args := [mm_P 0]) (rest := []) mc_80_163 (by decide) rfl rfl rfl ⟨Or.inl (by simp), rfl, by decide⟩ (mu_rcv (by decide) rfl (by decide)) H ?_
      rintro _ _ ⟨r4, D1, u2, x3, rfl, rfl, H⟩
      refine Or.inl ⟨_, rfl, ?_⟩
      refine mu_aload (r := some (0)) mc_80_164 (by decide) rfl ?_
      refine mt_call (args := [mm_P 0]) (rest := [mm_I (r4)]) mc_80_165 (by decide) rfl rfl rfl ⟨Or.inl (by simp), rfl, by decide⟩ (mu_rcv (by decide) rfl (by decide)) H ?_
      rintro _ _ ⟨r8, D5, u6, x7, rfl, rfl, H⟩
      refine Or.inl ⟨_, rfl, ?_⟩
      refine mu_ic_lt mc_80_166 (fun c => ?_) (fun c => ?_)
      · replace H := H.1 c
        exact H
      · replace H := H.2 c
        refine mu_aload (r := some (0)) mc_80_167 (by decide) rfl ?_
        refine mt_call (args := [mm_P 0]) (rest := []) mc_80_168 (by decide) rfl rfl rfl ⟨Or.inl (by simp), rfl, by decide⟩ (mu_rcv (by decide) rfl (by decide)) H ?_
        rintro _ _ ⟨r12, D9, u10, x11, rfl, rfl, H⟩
        refine Or.inl ⟨_, rfl, ?_⟩
        refine mu_aload (r := some (0)) mc_80_169 (by decide) rfl ?_
        refine mt_call (args := [mm_P 0]) (rest := [mm_I (r12)]) mc_80_170 (by decide) rfl rfl rfl ⟨Or.inl (by simp), rfl, by decide⟩ (mu_rcv (by decide) rfl (by decide)) H ?_
        rintro _ _ ⟨r16, D13, u14, x15, rfl, rfl, H⟩
        refine Or.inl ⟨_, rfl, ?_⟩
        refine mu_ic_gt mc_80_171 (fun c => ?_) (fun c => ?_)
        · replace H := H.1 c
          exact H
        · replace H := H.2 c
          refine mu_aload (r := some (0)) mc_80_172 (by decide) rfl ?_
          refine mt_call (args := [mm_P 0]) (rest := []) mc_80_173 (by decide) rfl rfl rfl ⟨Or.inl (by simp), rfl, by decide⟩ (mu_rcv (by decide) rfl (by decide)) H ?_
          rintro _ _ ⟨r20, D17, u18, x19, rfl, rfl, H⟩
          refine Or.inl ⟨_, rfl, ?_⟩
          refine mu_const mc_80_174 (by decide) (by decide) ?_
          refine mu_ic_lt mc_80_175 (fun c => ?_) (fun c => ?_)
          · replace H := H.1 c
            exact H
          · replace H := H.2 c
            exact H
    · replace H := H.2 c
      refine mu_aload (r := some (0)) mc_80_153 (by decide) rfl ?_
      refine mt_call (args := [mm_P 0]) (rest := []) mc_80_154 (by decide) rfl rfl rfl ⟨Or.inl (by simp), rfl, by decide⟩ (mu_rcv (by decide) rfl (by decide)) H ?_
      rintro _ _ ⟨r24, D21, u22, x23, rfl, rfl, H⟩
      refine Or.inl ⟨_, rfl, ?_⟩
      refine mu_const mc_80_155 (by decide) (by decide) ?_
      refine mu_ic_ne mc_80_156 (fun c => ?_) (fun c => ?_)
      · replace H := H.1 c
        exact H
      · replace H := H.2 c
        refine mu_aload (r := some (0)) mc_80_157 (by decide) rfl ?_
        refine mt_call (args := [mm_P 0]) (rest := []) mc_80_158 (by decide) rfl rfl rfl ⟨Or.inl (by simp), rfl, by decide⟩ (mu_rcv (by decide) rfl (by decide)) H ?_
        rintro _ _ ⟨r28, D25, u26, x27, rfl, rfl, H⟩
        refine Or.inl ⟨_, rfl, ?_⟩
        refine mu_const mc_80_159 (by decide) (by decide) ?_
        refine mu_ic_ne mc_80_160 (fun c => ?_) (fun c => ?_)
        · replace H := H.1 c
          exact H
        · replace H := H.2 c
          refine mu_rfl (n := 176) mc_80_161 (by decide) rfl rfl ?_
          exact H
theorem q_L_arePlaces_176 {D : mm_D} {u : Int} {x : Nat × (Nat × List Int)} {Q : mm_O → mm_H → Prop} (v1 v2 v3 v4 v5 : Int) (o6 o7 o8 o9 : Option mm_V) (H : Q (.inl (some (mm_I ((1 : Int))))) (mm_mk D u x)) : mt 80 176 [some (mm_P 0), some (mm_I (v1)), some (mm_I (v2)), some (mm_I (v3)), some (mm_I (v4)), some (mm_I (v5)), o6, o7, o8, o9] [] (mm_mk D u x) Q := by
  refine mu_const mc_80_176 (by decide) (by decide) ?_
  refine mu_rfl (n := 179) mc_80_177 (by decide) rfl rfl ?_
  exact mt_retB mc_80_179 (by decide) H
theorem q_L_arePlaces_178 {D : mm_D} {u : Int} {x : Nat × (Nat × List Int)} {Q : mm_O → mm_H → Prop} (v1 v2 v3 v4 v5 : Int) (o6 o7 o8 o9 : Option mm_V) (H : Q (.inl (some (mm_I ((0 : Int))))) (mm_mk D u x)) : mt 80 178 [some (mm_P 0), some (mm_I (v1)), some (mm_I (v2)), some (mm_I (v3)), some (mm_I (v4)), some (mm_I (v5)), o6, o7, o8, o9] [] (mm_mk D u x) Q := by
  refine mu_const mc_80_178 (by decide) (by decide) ?_
  exact mt_retB mc_80_179 (by decide) H

theorem q_L_areParts_0 {D : mm_D} {u : Int} {x : Nat × (Nat × List Int)} {Q : mm_O → mm_H → Prop} (H : mt 81 10 [some (mm_P 0), some (mm_I ((0 : Int))), some (mm_I ((0 : Int))), some (mm_I ((1 : Int))), some (mm_I ((0 : Int))), some (mm_I ((0 : Int))), none] [] (mm_mk D u x) Q) : mt 81 0 [some (mm_P 0), none, none, none, none, none, none] [] (mm_mk D u x) Q := by
  refine mu_const mc_81_0 (by decide) (by decide) ?_
  refine mu_store mc_81_1 (by decide) (by simp) (ls' := [some (mm_P 0), some (mm_I ((0 : Int))), none, none, none, none, none]) rfl ?_
  refine mu_const mc_81_2 (by decide) (by decide) ?_
  refine mu_store mc_81_3 (by decide) (by simp) (ls' := [some (mm_P 0), some (mm_I ((0 : Int))), some (mm_I ((0 : Int))), none, none, none, none]) rfl ?_
  refine mu_const mc_81_4 (by decide) (by decide) ?_
  refine mu_store mc_81_5 (by decide) (by simp) (ls' := [some (mm_P 0), some (mm_I ((0 : Int))), some (mm_I ((0 : Int))), some (mm_I ((1 : Int))), none, none, none]) rfl ?_
  refine mu_const mc_81_6 (by decide) (by decide) ?_
  refine mu_store mc_81_7 (by decide) (by simp) (ls' := [some (mm_P 0), some (mm_I ((0 : Int))), some (mm_I ((0 : Int))), some (mm_I ((1 : Int))), some (mm_I ((0 : Int))), none, none]) rfl ?_
  refine mu_const mc_81_8 (by decide) (by decide) ?_
  refine mu_store mc_81_9 (by decide) (by simp) (ls' := [some (mm_P 0), some (mm_I ((0 : Int))), some (mm_I ((0 : Int))), some (mm_I ((1 : Int))), some (mm_I ((0 : Int))), some (mm_I ((0 : Int))), none]) rfl ?_
  exact H
theorem q_L_areParts_10 {D : mm_D} {u : Int} {x : Nat × (Nat × List Int)} {Q : mm_O → mm_H → Prop} (v1 v2 v3 v4 v5 : Int) (o6 : Option mm_V) (H : mt 64 0 [some (mm_P 0)] [] (mm_mk D u x) (mm_pI fun r4 D1 u2 x3 => (((r4) ≤ (v5)) → mt 81 73 [some (mm_P 0), some (mm_I (v1)), some (mm_I (v2)), some (mm_I (v3)), some (mm_I (v4)), some (mm_I (v5)), o6] [] (mm_mk D1 u2 x3) Q) ∧ (¬ ((r4) ≤ (v5)) → (((v3) = 0) → mt 81 73 [some (mm_P 0), some (mm_I (v1)), some (mm_I (v2)), some (mm_I (v3)), some (mm_I (v4)), some (mm_I (v5)), o6] [] (mm_mk D1 u2 x3) Q) ∧ (¬ ((v3) = 0) → mt 66 0 [some (mm_P 0), some (mm_I (v5))] [] (mm_mk D1 u2 x3) (mm_pIx (fun r8 D5 u6 x7 => (((r8) < ((1 : Int))) → mt 81 39 [some (mm_P 0), some (mm_I (v1)), some (mm_I (v2)), some (mm_I (v3)), some (mm_I (v4)), some (mm_I (v5)), some (mm_I (r8))] [] (mm_mk D5 u6 x7) Q) ∧ (¬ ((r8) < ((1 : Int))) → mt 52 0 [some (mm_P 0)] [] (mm_mk D5 u6 x7) (mm_pI fun r16 D13 u14 x15 => ((¬ (r16) = (r8)) → mt 81 39 [some (mm_P 0), some (mm_I (v1)), some (mm_I (v2)), some (mm_I (v3)), some (mm_I (v4)), some (mm_I (v5)), some (mm_I (r8))] [] (mm_mk D13 u14 x15) Q) ∧ (¬ (¬ (r16) = (r8)) → mt 54 0 [some (mm_P 0)] [] (mm_mk D13 u14 x15) (mm_pI fun r20 D17 u18 x19 => (((r20) = 0) → mt 81 39 [some (mm_P 0), some (mm_I (v1)), some (mm_I (v2)), some (mm_I (v3)), some (mm_I (v4)), some (mm_I (v5)), some (mm_I (r8))] [] (mm_mk D17 u18 x19) Q) ∧ (¬ ((r20) = 0) → mt 65 0 [some (mm_P 0)] [] (mm_mk D17 u18 x19) (mm_pI fun r24 D21 u22 x23 => ((¬ (r24) = (v5)) → mt 81 39 [some (mm_P 0), some (mm_I (v1)), some (mm_I (v2)), some (mm_I (v3)), some (mm_I (v4)), some (mm_I (v5)), some (mm_I (r8))] [] (mm_mk D21 u22 x23) Q) ∧ (¬ (¬ (r24) = (v5)) → mt 59 0 [some (mm_P 0), none, none, none] [] (mm_mk D21 u22 x23) (mm_pI fun r28 D25 u26 x27 => (((r28) < 0) → mt 81 39 [some (mm_P 0), some (mm_I (v1)), some (mm_I (v2)), some (mm_I (v3)), some (mm_I (v4)), some (mm_I (v5)), some (mm_I (r8))] [] (mm_mk D25 u26 x27) Q) ∧ (¬ ((r28) < 0) → mt 81 41 [some (mm_P 0), some (mm_I (v1)), some (mm_I (v2)), some (mm_I ((1 : Int))), some (mm_I (v4)), some (mm_I (v5)), some (mm_I (r8))] [] (mm_mk D25 u26 x27) Q)))))))))) (fun E12 D9 u10 x11 => Q (.inr E12) (mm_mk D9 u10 x11))))))) : mt 81 10 [some (mm_P 0), some (mm_I (v1)), some (mm_I (v2)), some (mm_I (v3)), some (mm_I (v4)), some (mm_I (v5)), o6] [] (mm_mk D u x) Q := by
  refine mu_load mc_81_10 (by decide) rfl ?_
  refine mu_aload (r := some (0)) mc_81_11 (by decide) rfl ?_
  refine mt_call (args := [mm_P 0]) (rest := [mm_I (v5)]) mc_81_12 (by decide) rfl rfl rfl ⟨Or.inl (by simp), rfl, by decide⟩ (mu_rcv (by decide) rfl (by decide)) H ?_
  rintro _ _ ⟨r4, D1, u2, x3, rfl, rfl, H⟩
  refine Or.inl ⟨_, rfl, ?_⟩
  refine mu_ic_ge mc_81_13 (fun c => ?_) (fun c => ?_)
  · replace H := H.1 c
    exact H
  · replace H := H.2 c
    refine mu_load mc_81_14 (by decide) rfl ?_
    refine mu_if_eq mc_81_15 (fun c => ?_) (fun c => ?_)
    · replace H := H.1 c
      exact H
    · replace H := H.2 c
      refine mu_aload (r := some (0)) mc_81_16 (by decide) rfl ?_
      refine mu_load mc_81_17 (by decide) rfl ?_
      refine mt_call (args := [mm_P 0, mm_I (v5)]) (rest := []) mc_81_18 (by decide) rfl rfl rfl ⟨Or.inl (by simp), rfl, by decide⟩ (mu_rcv (by decide) rfl (by decide)) H ?_
      rintro _ _ (⟨r8, D5, u6, x7, rfl, rfl, H⟩ | ⟨E12, D9, u10, x11, rfl, rfl, H⟩)
      · refine Or.inl ⟨_, rfl, ?_⟩
        refine mu_store mc_81_19 (by decide) (by simp) (ls' := [some (mm_P 0), some (mm_I (v1)), some (mm_I (v2)), some (mm_I (v3)), some (mm_I (v4)), some (mm_I (v5)), some (mm_I (r8))]) rfl ?_
        refine mu_load mc_81_20 (by decide) rfl ?_
        refine mu_const mc_81_21 (by decide) (by decide) ?_
        refine mu_ic_lt mc_81_22 (fun c => ?_) (fun c => ?_)
        · replace H := H.1 c
          exact H
        · replace H := H.2 c
          refine mu_aload (r := some (0)) mc_81_23 (by decide) rfl ?_
          refine mt_call (args := [mm_P 0]) (rest := []) mc_81_24 (by decide) rfl rfl rfl ⟨Or.inl (by simp), rfl, by decide⟩ (mu_rcv (by decide) rfl (by decide)) H ?_
          rintro _ _ ⟨r16, D13, u14, x15, rfl, rfl, H⟩
          refine Or.inl ⟨_, rfl, ?_⟩
          refine mu_load mc_81_25 (by decide) rfl ?_
          refine mu_ic_ne mc_81_26 (fun c => ?_) (fun c => ?_)
          · replace H := H.1 c
            exact H
          · replace H := H.2 c
            refine mu_aload (r := some (0)) mc_81_27 (by decide) rfl ?_
            refine mt_call (args := [mm_P 0]) (rest := []) mc_81_28 (by decide) rfl rfl rfl ⟨Or.inl (by simp), rfl, by decide⟩ (mu_rcv (by decide) rfl (by decide)) H ?_
            rintro _ _ ⟨r20, D17, u18, x19, rfl, rfl, H⟩
            refine Or.inl ⟨_, rfl, ?_⟩
            refine mu_if_eq mc_81_29 (fun c => ?_) (fun c => ?_)
            · replace H := H.1 c
              exact H
            · replace H := H.2 c
              refine mu_aload (r := some (0)) mc_81_30 (by decide) rfl ?_
              refine mt_call (args := [mm_P 0]) (rest := []) mc_81_31 (by decide) rfl rfl rfl ⟨Or.inl (by simp), rfl, by decide⟩ (mu_rcv (by decide) rfl (by decide)) H ?_
              rintro _ _ ⟨r24, D21, u22, x23, rfl, rfl, H⟩
              refine Or.inl ⟨_, rfl, ?_⟩
              refine mu_load mc_81_32 (by decide) rfl ?_
              refine mu_ic_ne mc_81_33 (fun c => ?_) (fun c => ?_)
              · replace H := H.1 c
                exact H
              · replace H := H.2 c
                refine mu_aload (r := some (0)) mc_81_34 (by decide) rfl ?_
                refine mt_call (args := [mm_P 0]) (rest := []) mc_81_35 (by decide) rfl rfl rfl ⟨Or.inl (by simp), rfl, by decide⟩ (mu_rcv (by decide) rfl (by decide)) H ?_
                rintro _ _ ⟨r28, D25, u26, x27, rfl, rfl, H⟩
                refine Or.inl ⟨_, rfl, ?_⟩
                refine mu_if_lt mc_81_36 (fun c => ?_) (fun c => ?_)
                · replace H := H.1 c
                  exact H
                · replace H := H.2 c
                  refine mu_const mc_81_37 (by decide) (by decide) ?_
                  refine mu_rfl (n := 40) mc_81_38 (by decide) rfl rfl ?_
                  refine mu_store mc_81_40 (by decide) (by simp) (ls' := [some (mm_P 0), some (mm_I (v1)), some (mm_I (v2)), some (mm_I ((1 : Int))), some (mm_I (v4)), some (mm_I (v5)), some (mm_I (r8))]) rfl ?_
                  exact H
      · exact Or.inr ⟨_, rfl, by decide, Or.inr ⟨mm_handN (by decide) _, by decide, H⟩⟩
theorem q_L_areParts_39 {D : mm_D} {u : Int} {x : Nat × (Nat × List Int)} {Q : mm_O → mm_H → Prop} (v1 v2 v3 v4 v5 v6 : Int) (H : mt 81 41 [some (mm_P 0), some (mm_I (v1)), some (mm_I (v2)), some (mm_I ((0 : Int))), some (mm_I (v4)), some (mm_I (v5)), some (mm_I (v6))] [] (mm_mk D u x) Q) : mt 81 39 [some (mm_P 0), some (mm_I (v1)), some (mm_I (v2)), some (mm_I (v3)), some (mm_I (v4)), some (mm_I (v5)), some (mm_I (v6))] [] (mm_mk D u x) Q := by
  refine mu_const mc_81_39 (by decide) (by decide) ?_
  refine mu_store mc_81_40 (by decide) (by simp) (ls' := [some (mm_P 0), some (mm_I (v1)), some (mm_I (v2)), some (mm_I ((0 : Int))), some (mm_I (v4)), some (mm_I (v5)), some (mm_I (v6))]) rfl ?_
  exact H
theorem q_L_areParts_41 {D : mm_D} {u : Int} {x : Nat × (Nat × List Int)} {Q : mm_O → mm_H → Prop} (v1 v2 v3 v4 v5 v6 : Int) (H : (((v3) = 0) → mt 81 50 [some (mm_P 0), some (mm_I (v1)), some (mm_I (v2)), some (mm_I (v3)), some (mm_I (v4)), some (mm_I (v5)), some (mm_I (v6))] [] (mm_mk D u x) Q) ∧ (¬ ((v3) = 0) → (mm_rng ((v4) + ((1 : Int)))) ∧ (((((v4) + ((1 : Int))) < (v6)) → mt 81 50 [some (mm_P 0), some (mm_I (v1)), some (mm_I (v2)), some (mm_I (v3)), some (mm_I (v4)), some (mm_I (v5)), some (mm_I (v6))] [] (mm_mk D u x) Q) ∧ (¬ (((v4) + ((1 : Int))) < (v6)) → mt 81 52 [some (mm_P 0), some (mm_I (v1)), some (mm_I (v2)), some (mm_I ((1 : Int))), some (mm_I (v4)), some (mm_I (v5)), some (mm_I (v6))] [] (mm_mk D u x) Q)))) : mt 81 41 [some (mm_P 0), some (mm_I (v1)), some (mm_I (v2)), some (mm_I (v3)), some (mm_I (v4)), some (mm_I (v5)), some (mm_I (v6))] [] (mm_mk D u x) Q := by
  refine mu_load mc_81_41 (by decide) rfl ?_
  refine mu_if_eq mc_81_42 (fun c => ?_) (fun c => ?_)
  · replace H := H.1 c
    exact H
  · replace H := H.2 c
    refine mu_load mc_81_43 (by decide) rfl ?_
    refine mu_load mc_81_44 (by decide) rfl ?_
    refine mu_const mc_81_45 (by decide) (by decide) ?_
    have h1 := H.1
    replace H := H.2
    refine mu_iadd mc_81_46 h1 ?_
    refine mu_ic_gt mc_81_47 (fun c => ?_) (fun c => ?_)
    · replace H := H.1 c
      exact H
    · replace H := H.2 c
      refine mu_const mc_81_48 (by decide) (by decide) ?_
      refine mu_rfl (n := 51) mc_81_49 (by decide) rfl rfl ?_
      refine mu_store mc_81_51 (by decide) (by simp) (ls' := [some (mm_P 0), some (mm_I (v1)), some (mm_I (v2)), some (mm_I ((1 : Int))), some (mm_I (v4)), some (mm_I (v5)), some (mm_I (v6))]) rfl ?_
      exact H
theorem q_L_areParts_50 {D : mm_D} {u : Int} {x : Nat × (Nat × List Int)} {Q : mm_O → mm_H → Prop} (v1 v2 v3 v4 v5 v6 : Int) (H : mt 81 52 [some (mm_P 0), some (mm_I (v1)), some (mm_I (v2)), some (mm_I ((0 : Int))), some (mm_I (v4)), some (mm_I (v5)), some (mm_I (v6))] [] (mm_mk D u x) Q) : mt 81 50 [some (mm_P 0), some (mm_I (v1)), some (mm_I (v2)), some (mm_I (v3)), some (mm_I (v4)), some (mm_I (v5)), some (mm_I (v6))] [] (mm_mk D u x) Q := by
  refine mu_const mc_81_50 (by decide) (by decide) ?_
  refine mu_store mc_81_51 (by decide) (by simp) (ls' := [some (mm_P 0), some (mm_I (v1)), some (mm_I (v2)), some (mm_I ((0 : Int))), some (mm_I (v4)), some (mm_I (v5)), some (mm_I (v6))]) rfl ?_
  exact H
theorem q_L_areParts_52 {D : mm_D} {u : Int} {x : Nat × (Nat × List Int)} {Q : mm_O → mm_H → Prop} (v1 v2 v3 v4 v5 v6 : Int) (H : mt 62 0 [some (mm_P 0), none] [] (mm_mk D u x) (mm_pI fun r4 D1 u2 x3 => ((¬ (r4) = (v6)) → (mm_rng ((v1) + ((0 : Int)))) ∧ ((((v6) ≤ (v2)) → mt 81 69 [some (mm_P 0), some (mm_I ((v1) + ((0 : Int)))), some (mm_I (v2)), some (mm_I (v3)), some (mm_I (v4)), some (mm_I (v5)), some (mm_I (v6))] [] (mm_mk D1 u2 x3) Q) ∧ (¬ ((v6) ≤ (v2)) → mt 81 69 [some (mm_P 0), some (mm_I ((v1) + ((0 : Int)))), some (mm_I (v6)), some (mm_I (v3)), some (mm_I (v4)), some (mm_I (v5)), some (mm_I (v6))] [] (mm_mk D1 u2 x3) Q))) ∧ (¬ (¬ (r4) = (v6)) → (mm_rng ((v1) + ((1 : Int)))) ∧ ((((v6) ≤ (v2)) → mt 81 69 [some (mm_P 0), some (mm_I ((v1) + ((1 : Int)))), some (mm_I (v2)), some (mm_I (v3)), some (mm_I (v4)), some (mm_I (v5)), some (mm_I (v6))] [] (mm_mk D1 u2 x3) Q) ∧ (¬ ((v6) ≤ (v2)) → mt 81 69 [some (mm_P 0), some (mm_I ((v1) + ((1 : Int)))), some (mm_I (v6)), some (mm_I (v3)), some (mm_I (v4)), some (mm_I (v5)), some (mm_I (v6))] [] (mm_mk D1 u2 x3) Q))))) : mt 81 52 [some (mm_P 0), some (mm_I (v1)), some (mm_I (v2)), some (mm_I (v3)), some (mm_I (v4)), some (mm_I (v5)), some (mm_I (v6))] [] (mm_mk D u x) Q := by
  refine mu_load mc_81_52 (by decide) rfl ?_
  refine mu_aload (r := some (0)) mc_81_53 (by decide) rfl ?_
  refine mt_call (args := [mm_P 0]) (rest := [mm_I (v1)]) mc_81_54 (by decide) rfl rfl rfl ⟨Or.inl (by simp), rfl, by decide⟩ (mu_rcv (by decide) rfl (by decide)) H ?_
  rintro _ _ ⟨r4, D1, u2, x3, rfl, rfl, H⟩
  refine Or.inl ⟨_, rfl, ?_⟩
  refine mu_load mc_81_55 (by decide) rfl ?_
  refine mu_ic_ne mc_81_56 (fun c => ?_) (fun c => ?_)
  · replace H := H.1 c
    refine mu_const mc_81_59 (by decide) (by decide) ?_
    have h5 := H.1
    replace H := H.2
    refine mu_iadd mc_81_60 h5 ?_
    refine mu_store mc_81_61 (by decide) (by simp) (ls' := [some (mm_P 0), some (mm_I ((v1) + ((0 : Int)))), some (mm_I (v2)), some (mm_I (v3)), some (mm_I (v4)), some (mm_I (v5)), some (mm_I (v6))]) rfl ?_
    refine mu_load mc_81_62 (by decide) rfl ?_
    refine mu_load mc_81_63 (by decide) rfl ?_
    refine mu_ic_le mc_81_64 (fun c => ?_) (fun c => ?_)
    · replace H := H.1 c
      refine mu_load mc_81_67 (by decide) rfl ?_
      refine mu_store mc_81_68 (by decide) (by simp) (ls' := [some (mm_P 0), some (mm_I ((v1) + ((0 : Int)))), some (mm_I (v2)), some (mm_I (v3)), some (mm_I (v4)), some (mm_I (v5)), some (mm_I (v6))]) rfl ?_
      exact H
    · replace H := H.2 c
      refine mu_load mc_81_65 (by decide) rfl ?_
      refine mu_rfl (n := 68) mc_81_66 (by decide) rfl rfl ?_
      refine mu_store mc_81_68 (by decide) (by simp) (ls' := [some (mm_P 0), some (mm_I ((v1) + ((0 : Int)))), some (mm_I (v6)), some (mm_I (v3)), some (mm_I (v4)), some (mm_I (v5)), some (mm_I (v6))]) rfl ?_
      exact H
  · replace H := H.2 c
    refine mu_const mc_81_57 (by decide) (by decide) ?_
    refine mu_rfl (n := 60) mc_81_58 (by decide) rfl rfl ?_
    have h6 := H.1
    replace H := H.2
    refine mu_iadd mc_81_60 h6 ?_
    refine mu_store mc_81_61 (by decide) (by simp) (ls' := [some (mm_P 0), some (mm_I ((v1) + ((1 : Int)))), some (mm_I (v2)), some (mm_I (v3)), some (mm_I (v4)), some (mm_I (v5)), some (mm_I (v6))]) rfl ?_
    refine mu_load mc_81_62 (by decide) rfl ?_
    refine mu_load mc_81_63 (by decide) rfl ?_
    refine mu_ic_le mc_81_64 (fun c => ?_) (fun c => ?_)
    · replace H := H.1 c
      refine mu_load mc_81_67 (by decide) rfl ?_
      refine mu_store mc_81_68 (by decide) (by simp) (ls' := [some (mm_P 0), some (mm_I ((v1) + ((1 : Int)))), some (mm_I (v2)), some (mm_I (v3)), some (mm_I (v4)), some (mm_I (v5)), some (mm_I (v6))]) rfl ?_
      exact H
    · replace H := H.2 c
      refine mu_load mc_81_65 (by decide) rfl ?_
      refine mu_rfl (n := 68) mc_81_66 (by decide) rfl rfl ?_
      refine mu_store mc_81_68 (by decide) (by simp) (ls' := [some (mm_P 0), some (mm_I ((v1) + ((1 : Int)))), some (mm_I (v6)), some (mm_I (v3)), some (mm_I (v4)), some (mm_I (v5)), some (mm_I (v6))]) rfl ?_
      exact H
theorem q_L_areParts_69 {D : mm_D} {u : Int} {x : Nat × (Nat × List Int)} {Q : mm_O → mm_H → Prop} (v1 v2 v3 v4 v5 v6 : Int) (H : (mm_rng ((v5) + (1 : Int))) ∧ (mt 81 10 [some (mm_P 0), some (mm_I (v1)), some (mm_I (v2)), some (mm_I (v3)), some (mm_I (v6)), some (mm_I ((v5) + (1 : Int))), some (mm_I (v6))] [] (mm_mk D u x) Q)) : mt 81 69 [some (mm_P 0), some (mm_I (v1)), some (mm_I (v2)), some (mm_I (v3)), some (mm_I (v4)), some (mm_I (v5)), some (mm_I (v6))] [] (mm_mk D u x) Q := by
  refine mu_load mc_81_69 (by decide) rfl ?_
  refine mu_store mc_81_70 (by decide) (by simp) (ls' := [some (mm_P 0), some (mm_I (v1)), some (mm_I (v2)), some (mm_I (v3)), some (mm_I (v6)), some (mm_I (v5)), some (mm_I (v6))]) rfl ?_
  have h1 := H.1
  replace H := H.2
  refine mu_iinc mc_81_71 rfl h1 (ls' := [some (mm_P 0), some (mm_I (v1)), some (mm_I (v2)), some (mm_I (v3)), some (mm_I (v6)), some (mm_I ((v5) + (1 : Int))), some (mm_I (v6))]) rfl ?_
  refine mu_rfl (n := 10) mc_81_72 (by decide) rfl rfl ?_
  exact H
theorem q_L_areParts_73 {D : mm_D} {u : Int} {x : Nat × (Nat × List Int)} {Q : mm_O → mm_H → Prop} (v1 v2 v3 v4 v5 : Int) (o6 : Option mm_V) (H : (((v3) = 0) → mt 81 88 [some (mm_P 0), some (mm_I (v1)), some (mm_I (v2)), some (mm_I (v3)), some (mm_I (v4)), some (mm_I (v5)), o6] [] (mm_mk D u x) Q) ∧ (¬ ((v3) = 0) → mt 61 0 [some (mm_P 0)] [] (mm_mk D u x) (mm_pI fun r4 D1 u2 x3 => ((¬ (r4) = (v1)) → mt 81 88 [some (mm_P 0), some (mm_I (v1)), some (mm_I (v2)), some (mm_I (v3)), some (mm_I (v4)), some (mm_I (v5)), o6] [] (mm_mk D1 u2 x3) Q) ∧ (¬ (¬ (r4) = (v1)) → mt 61 0 [some (mm_P 0)] [] (mm_mk D1 u2 x3) (mm_pI fun r8 D5 u6 x7 => mt 76 0 [some (mm_P 0), none, none] [] (mm_mk D5 u6 x7) (mm_pIx (fun r12 D9 u10 x11 => (mm_rng (((2 : Int)) * (r12))) ∧ ((((((2 : Int)) * (r12)) < (r8)) → mt 81 88 [some (mm_P 0), some (mm_I (v1)), some (mm_I (v2)), some (mm_I (v3)), some (mm_I (v4)), some (mm_I (v5)), o6] [] (mm_mk D9 u10 x11) Q) ∧ (¬ ((((2 : Int)) * (r12)) < (r8)) → mt 81 90 [some (mm_P 0), some (mm_I (v1)), some (mm_I (v2)), some (mm_I ((1 : Int))), some (mm_I (v4)), some (mm_I (v5)), o6] [] (mm_mk D9 u10 x11) Q))) (fun E16 D13 u14 x15 => Q (.inr E16) (mm_mk D13 u14 x15)))))))) : mt 81 73 [some (mm_P 0), some (mm_I (v1)), some (mm_I (v2)), some (mm_I (v3)), some (mm_I (v4)), some (mm_I (v5)), o6] [] (mm_mk D u x) Q := by
  refine mu_load mc_81_73 (by decide) rfl ?_
  refine mu_if_eq mc_81_74 (fun c => ?_) (fun c => ?_)
  · replace H := H.1 c
    exact H
  · replace H := H.2 c
    refine mu_aload (r := some (0)) mc_81_75 (by decide) rfl ?_
    refine mt_call (args := [mm_P 0]) (rest := []) mc_81_76 (by decide) rfl rfl rfl ⟨Or.inl (by simp), rfl, by decide⟩ (mu_rcv (by decide) rfl (by decide)) H ?_
    rintro _ _ ⟨r4, D1, u2, x3, rfl, rfl, H⟩
    refine Or.inl ⟨_, rfl, ?_⟩
    refine mu_load mc_81_77 (by decide) rfl ?_
    refine mu_ic_ne mc_81_78 (fun c => ?_) (fun c => ?_)
    · replace H := H.1 c
      exact H
    · replace H := H.2 c
      refine mu_aload (r := some (0)) mc_81_79 (by decide) rfl ?_
      refine mt_call (args := [mm_P 0]) (rest := []) mc_81_80 (by decide) rfl rfl rfl ⟨Or.inl (by simp), rfl, by decide⟩ (mu_rcv (by decide) rfl (by decide)) H ?_
      rintro _ _ ⟨r8, D5, u6, x7, rfl, rfl, H⟩
      refine Or.inl ⟨_, rfl, ?_⟩
      refine mu_const mc_81_81 (by decide) (by decide) ?_
      refine mu_aload (r := some (0)) mc_81_82 (by decide) rfl ?_
      refine mt_call (args := [mm_P 0]) (rest := [mm_I ((2 : Int)), mm_I (r8)]) mc_81_83 (by decide) rfl rfl rfl ⟨Or.inl (by simp), rfl, by decide⟩ rfl H ?_
      rintro _ _ (⟨r12, D9, u10, x11, rfl, rfl, H⟩ | ⟨E16, D13, u14, x15, rfl, rfl, H⟩)
      · refine Or.inl ⟨_, rfl, ?_⟩
        have h17 := H.1
        replace H := H.2
        refine mu_imul mc_81_84 h17 ?_
        refine mu_ic_gt mc_81_85 (fun c => ?_) (fun c => ?_)
        · replace H := H.1 c
          exact H
        · replace H := H.2 c
          refine mu_const mc_81_86 (by decide) (by decide) ?_
          refine mu_rfl (n := 89) mc_81_87 (by decide) rfl rfl ?_
          refine mu_store mc_81_89 (by decide) (by simp) (ls' := [some (mm_P 0), some (mm_I (v1)), some (mm_I (v2)), some (mm_I ((1 : Int))), some (mm_I (v4)), some (mm_I (v5)), o6]) rfl ?_
          exact H
      · exact Or.inr ⟨_, rfl, by decide, Or.inr ⟨mm_handN (by decide) _, by decide, H⟩⟩
theorem q_L_areParts_88 {D : mm_D} {u : Int} {x : Nat × (Nat × List Int)} {Q : mm_O → mm_H → Prop} (v1 v2 v3 v4 v5 : Int) (o6 : Option mm_V) (H : mt 81 90 [some (mm_P 0), some (mm_I (v1)), some (mm_I (v2)), some (mm_I ((0 : Int))), some (mm_I (v4)), some (mm_I (v5)), o6] [] (mm_mk D u x) Q) : mt 81 88 [some (mm_P 0), some (mm_I (v1)), some (mm_I (v2)), some (mm_I (v3)), some (mm_I (v4)), some (mm_I (v5)), o6] [] (mm_mk D u x) Q := by
  refine mu_const mc_81_88 (by decide) (by decide) ?_
  refine mu_store mc_81_89 (by decide) (by simp) (ls' := [some (mm_P 0), some (mm_I (v1)), some (mm_I (v2)), some (mm_I ((0 : Int))), some (mm_I (v4)), some (mm_I (v5)), o6]) rfl ?_
  exact H
theorem q_L_areParts_90 {D : mm_D} {u : Int} {x : Nat × (Nat × List Int)} {Q : mm_O → mm_H → Prop} (v1 v2 v3 v4 v5 : Int) (o6 : Option mm_V) (H : (((v3) = 0) → mt 81 103 [some (mm_P 0), some (mm_I (v1)), some (mm_I (v2)), some (mm_I (v3)), some (mm_I (v4)), some (mm_I (v5)), o6] [] (mm_mk D u x) Q) ∧ (¬ ((v3) = 0) → mt 68 0 [some (mm_P 0), some (mm_I ((1 : Int)))] [] (mm_mk D u x) (mm_pIx (fun r4 D1 u2 x3 => ((¬ (r4) = (v2)) → mt 81 103 [some (mm_P 0), some (mm_I (v1)), some (mm_I (v2)), some (mm_I (v3)), some (mm_I (v4)), some (mm_I (v5)), o6] [] (mm_mk D1 u2 x3) Q) ∧ (¬ (¬ (r4) = (v2)) → mt 52 0 [some (mm_P 0)] [] (mm_mk D1 u2 x3) (mm_pI fun r12 D9 u10 x11 => ((¬ (r12) = (v2)) → mt 81 103 [some (mm_P 0), some (mm_I (v1)), some (mm_I (v2)), some (mm_I (v3)), some (mm_I (v4)), some (mm_I (v5)), o6] [] (mm_mk D9 u10 x11) Q) ∧ (¬ (¬ (r12) = (v2)) → Q (.inl (some (mm_I ((1 : Int))))) (mm_mk D9 u10 x11))))) (fun E8 D5 u6 x7 => Q (.inr E8) (mm_mk D5 u6 x7))))) : mt 81 90 [some (mm_P 0), some (mm_I (v1)), some (mm_I (v2)), some (mm_I (v3)), some (mm_I (v4)), some (mm_I (v5)), o6] [] (mm_mk D u x) Q := by
  refine mu_load mc_81_90 (by decide) rfl ?_
  refine mu_if_eq mc_81_91 (fun c => ?_) (fun c => ?_)
  · replace H := H.1 c
    exact H
  · replace H := H.2 c
    refine mu_aload (r := some (0)) mc_81_92 (by decide) rfl ?_
    refine mu_const mc_81_93 (by decide) (by decide) ?_
    refine mt_call (args := [mm_P 0, mm_I ((1 : Int))]) (rest := []) mc_81_94 (by decide) rfl rfl rfl ⟨Or.inl (by simp), rfl, by decide⟩ (mu_rcv (by decide) rfl (by decide)) H ?_
    rintro _ _ (⟨r4, D1, u2, x3, rfl, rfl, H⟩ | ⟨E8, D5, u6, x7, rfl, rfl, H⟩)
    · refine Or.inl ⟨_, rfl, ?_⟩
      refine mu_load mc_81_95 (by decide) rfl ?_
      refine mu_ic_ne mc_81_96 (fun c => ?_) (fun c => ?_)
      · replace H := H.1 c
        exact H
      · replace H := H.2 c
        refine mu_aload (r := some (0)) mc_81_97 (by decide) rfl ?_
        refine mt_call (args := [mm_P 0]) (rest := []) mc_81_98 (by decide) rfl rfl rfl ⟨Or.inl (by simp), rfl, by decide⟩ (mu_rcv (by decide) rfl (by decide)) H ?_
        rintro _ _ ⟨r12, D9, u10, x11, rfl, rfl, H⟩
        refine Or.inl ⟨_, rfl, ?_⟩
        refine mu_load mc_81_99 (by decide) rfl ?_
        refine mu_ic_ne mc_81_100 (fun c => ?_) (fun c => ?_)
        · replace H := H.1 c
          exact H
        · replace H := H.2 c
          refine mu_const mc_81_101 (by decide) (by decide) ?_
          refine mu_rfl (n := 104) mc_81_102 (by decide) rfl rfl ?_
          exact mt_retB mc_81_104 (by decide) H
    · exact Or.inr ⟨_, rfl, by decide, Or.inr ⟨mm_handN (by decide) _, by decide, H⟩⟩
theorem q_L_areParts_103 {D : mm_D} {u : Int} {x : Nat × (Nat × List Int)} {Q : mm_O → mm_H → Prop} (v1 v2 v3 v4 v5 : Int) (o6 : Option mm_V) (H : Q (.inl (some (mm_I ((0 : Int))))) (mm_mk D u x)) : mt 81 103 [some (mm_P 0), some (mm_I (v1)), some (mm_I (v2)), some (mm_I (v3)), some (mm_I (v4)), some (mm_I (v5)), o6] [] (mm_mk D u x) Q := by
  refine mu_const mc_81_103 (by decide) (by decide) ?_
  exact mt_retB mc_81_104 (by decide) H

theorem q_L_isFound_0 {D : mm_D} {u : Int} {x : Nat × (Nat × List Int)} {Q : mm_O → mm_H → Prop} (v1 v2 : Int) (H : (((v1) ≤ 0) → mt 68 0 [some (mm_P 0), some (mm_I (v2))] [] (mm_mk D u x) (mm_pIx (fun r4 D1 u2 x3 => mt 82 10 [some (mm_P 0), some (mm_I (v1)), some (mm_I (v2)), some (mm_I (r4)), none, none, none, none, none, none] [] (mm_mk D1 u2 x3) Q) (fun E8 D5 u6 x7 => Q (.inr E8) (mm_mk D5 u6 x7)))) ∧ (¬ ((v1) ≤ 0) → mt 67 0 [some (mm_P 0), some (mm_I (v1))] [] (mm_mk D u x) (mm_pIx (fun r12 D9 u10 x11 => mt 82 10 [some (mm_P 0), some (mm_I (v1)), some (mm_I (v2)), some (mm_I (r12)), none, none, none, none, none, none] [] (mm_mk D9 u10 x11) Q) (fun E16 D13 u14 x15 => Q (.inr E16) (mm_mk D13 u14 x15))))) : mt 82 0 [some (mm_P 0), some (mm_I (v1)), some (mm_I (v2)), none, none, none, none, none, none, none] [] (mm_mk D u x) Q := by
  refine mu_load mc_82_0 (by decide) rfl ?_
  refine mu_if_le mc_82_1 (fun c => ?_) (fun c => ?_)
  · replace H := H.1 c
    refine mu_aload (r := some (0)) mc_82_6 (by decide) rfl ?_
    refine mu_load mc_82_7 (by decide) rfl ?_
    refine mt_call (args := [mm_P 0, mm_I (v2)]) (rest := []) mc_82_8 (by decide) rfl rfl rfl ⟨Or.inl (by simp), rfl, by decide⟩ (mu_rcv (by decide) rfl (by decide)) H ?_
    rintro _ _ (⟨r4, D1, u2, x3, rfl, rfl, H⟩ | ⟨E8, D5, u6, x7, rfl, rfl, H⟩)
    · refine Or.inl ⟨_, rfl, ?_⟩
      refine mu_store mc_82_9 (by decide) (by simp) (ls' := [some (mm_P 0), some (mm_I (v1)), some (mm_I (v2)), some (mm_I (r4)), none, none, none, none, none, none]) rfl ?_
      exact H
    · exact Or.inr ⟨_, rfl, by decide, Or.inr ⟨mm_handN (by decide) _, by decide, H⟩⟩
  · replace H := H.2 c
    refine mu_aload (r := some (0)) mc_82_2 (by decide) rfl ?_
    refine mu_load mc_82_3 (by decide) rfl ?_
    refine mt_call (args := [mm_P 0, mm_I (v1)]) (rest := []) mc_82_4 (by decide) rfl rfl rfl ⟨Or.inl (by simp), rfl, by decide⟩ (mu_rcv (by decide) rfl (by decide)) H ?_
    rintro _ _ (⟨r12, D9, u10, x11, rfl, rfl, H⟩ | ⟨E16, D13, u14, x15, rfl, rfl, H⟩)
    · refine Or.inl ⟨_, rfl, ?_⟩
      refine mu_rfl (n := 9) mc_82_5 (by decide) rfl rfl ?_
      refine mu_store mc_82_9 (by decide) (by simp) (ls' := [some (mm_P 0), some (mm_I (v1)), some (mm_I (v2)), some (mm_I (r12)), none, none, none, none, none, none]) rfl ?_
      exact H
    · exact Or.inr ⟨_, rfl, by decide, Or.inr ⟨mm_handN (by decide) _, by decide, H⟩⟩
theorem q_L_isFound_10 {D : mm_D} {u : Int} {x : Nat × (Nat × List Int)} {Q : mm_O → mm_H → Prop} (v1 v2 v3 : Int) (H : mt 52 0 [some (mm_P 0)] [] (mm_mk D u x) (mm_pI fun r4 D1 u2 x3 => ((¬ (r4) = (v3)) → mt 82 21 [some (mm_P 0), some (mm_I (v1)), some (mm_I (v2)), some (mm_I (v3)), none, none, none, none, none, none] [] (mm_mk D1 u2 x3) Q) ∧ (¬ (¬ (r4) = (v3)) → (((v3) = 0) → mt 82 19 [some (mm_P 0), some (mm_I (v1)), some (mm_I (v2)), some (mm_I (v3)), none, none, none, none, none, none] [] (mm_mk D1 u2 x3) Q) ∧ (¬ ((v3) = 0) → mt 54 0 [some (mm_P 0)] [] (mm_mk D1 u2 x3) (mm_pI fun r8 D5 u6 x7 => (((r8) = 0) → mt 82 21 [some (mm_P 0), some (mm_I (v1)), some (mm_I (v2)), some (mm_I (v3)), none, none, none, none, none, none] [] (mm_mk D5 u6 x7) Q) ∧ (¬ ((r8) = 0) → mt 82 19 [some (mm_P 0), some (mm_I (v1)), some (mm_I (v2)), some (mm_I (v3)), none, none, none, none, none, none] [] (mm_mk D5 u6 x7) Q)))))) : mt 82 10 [some (mm_P 0), some (mm_I (v1)), some (mm_I (v2)), some (mm_I (v3)), none, none, none, none, none, none] [] (mm_mk D u x) Q := by
  refine mu_aload (r := some (0)) mc_82_10 (by decide) rfl ?_
  refine mt_call (args := [mm_P 0]) (rest := []) mc_82_11 (by decide) rfl rfl rfl ⟨Or.inl (by simp), rfl, by decide⟩ (mu_rcv (by decide) rfl (by decide)) H ?_
  rintro _ _ ⟨r4, D1, u2, x3, rfl, rfl, H⟩
  refine Or.inl ⟨_, rfl, ?_⟩
  refine mu_load mc_82_12 (by decide) rfl ?_
  refine mu_ic_ne mc_82_13 (fun c => ?_) (fun c => ?_)
  · replace H := H.1 c
    exact H
  · replace H := H.2 c
    refine mu_load mc_82_14 (by decide) rfl ?_
    refine mu_if_eq mc_82_15 (fun c => ?_) (fun c => ?_)
    · replace H := H.1 c
      exact H
    · replace H := H.2 c
      refine mu_aload (r := some (0)) mc_82_16 (by decide) rfl ?_
      refine mt_call (args := [mm_P 0]) (rest := []) mc_82_17 (by decide) rfl rfl rfl ⟨Or.inl (by simp), rfl, by decide⟩ (mu_rcv (by decide) rfl (by decide)) H ?_
      rintro _ _ ⟨r8, D5, u6, x7, rfl, rfl, H⟩
      refine Or.inl ⟨_, rfl, ?_⟩
      refine mu_if_eq mc_82_18 (fun c => ?_) (fun c => ?_)
      · replace H := H.1 c
        exact H
      · replace H := H.2 c
        exact H
theorem q_L_isFound_19 {D : mm_D} {u : Int} {x : Nat × (Nat × List Int)} {Q : mm_O → mm_H → Prop} (v1 v2 v3 : Int) (H : mt 82 23 [some (mm_P 0), some (mm_I (v1)), some (mm_I (v2)), some (mm_I (v3)), some (mm_I ((1 : Int))), none, none, none, none, none] [] (mm_mk D u x) Q) : mt 82 19 [some (mm_P 0), some (mm_I (v1)), some (mm_I (v2)), some (mm_I (v3)), none, none, none, none, none, none] [] (mm_mk D u x) Q := by
  refine mu_const mc_82_19 (by decide) (by decide) ?_
  refine mu_rfl (n := 22) mc_82_20 (by decide) rfl rfl ?_
  refine mu_store mc_82_22 (by decide) (by simp) (ls' := [some (mm_P 0), some (mm_I (v1)), some (mm_I (v2)), some (mm_I (v3)), some (mm_I ((1 : Int))), none, none, none, none, none]) rfl ?_
  exact H
theorem q_L_isFound_21 {D : mm_D} {u : Int} {x : Nat × (Nat × List Int)} {Q : mm_O → mm_H → Prop} (v1 v2 v3 : Int) (H : mt 82 23 [some (mm_P 0), some (mm_I (v1)), some (mm_I (v2)), some (mm_I (v3)), some (mm_I ((0 : Int))), none, none, none, none, none] [] (mm_mk D u x) Q) : mt 82 21 [some (mm_P 0), some (mm_I (v1)), some (mm_I (v2)), some (mm_I (v3)), none, none, none, none, none, none] [] (mm_mk D u x) Q := by
  refine mu_const mc_82_21 (by decide) (by decide) ?_
  refine mu_store mc_82_22 (by decide) (by simp) (ls' := [some (mm_P 0), some (mm_I (v1)), some (mm_I (v2)), some (mm_I (v3)), some (mm_I ((0 : Int))), none, none, none, none, none]) rfl ?_
  exact H
theorem q_L_isFound_23 {D : mm_D} {u : Int} {x : Nat × (Nat × List Int)} {Q : mm_O → mm_H → Prop} (v1 v2 v3 v4 : Int) (H : mt 82 25 [some (mm_P 0), some (mm_I (v1)), some (mm_I (v2)), some (mm_I (v3)), some (mm_I (v4)), some (mm_I ((0 : Int))), none, none, none, none] [] (mm_mk D u x) Q) : mt 82 23 [some (mm_P 0), some (mm_I (v1)), some (mm_I (v2)), some (mm_I (v3)), some (mm_I (v4)), none, none, none, none, none] [] (mm_mk D u x) Q := by
  refine mu_const mc_82_23 (by decide) (by decide) ?_
  refine mu_store mc_82_24 (by decide) (by simp) (ls' := [some (mm_P 0), some (mm_I (v1)), some (mm_I (v2)), some (mm_I (v3)), some (mm_I (v4)), some (mm_I ((0 : Int))), none, none, none, none]) rfl ?_
  exact H
theorem q_L_isFound_25 {D : mm_D} {u : Int} {x : Nat × (Nat × List Int)} {Q : mm_O → mm_H → Prop} (v1 v2 v3 v4 v5 : Int) (H : mt 45 0 [some (mm_P 0)] [] (mm_mk D u x) (mm_pI fun r4 D1 u2 x3 => (((r4) ≤ (v5)) → (((v4) = 0) → mt 82 61 [some (mm_P 0), some (mm_I (v1)), some (mm_I (v2)), some (mm_I (v3)), some (mm_I (v4)), some (mm_I (v5)), none, none, none, none] [] (mm_mk D1 u2 x3) Q) ∧ (¬ ((v4) = 0) → (((v3) = 0) → mt 82 59 [some (mm_P 0), some (mm_I (v1)), some (mm_I (v2)), some (mm_I (v3)), some (mm_I (v4)), some (mm_I (v5)), none, none, none, none] [] (mm_mk D1 u2 x3) Q) ∧ (¬ ((v3) = 0) → ((0 < (v1)) → mt 82 59 [some (mm_P 0), some (mm_I (v1)), some (mm_I (v2)), some (mm_I (v3)), some (mm_I (v4)), some (mm_I (v5)), none, none, none, none] [] (mm_mk D1 u2 x3) Q) ∧ (¬ (0 < (v1)) → mt 55 0 [some (mm_P 0)] [] (mm_mk D1 u2 x3) (mm_pI fun r8 D5 u6 x7 => (((r8) < (v2)) → mt 82 61 [some (mm_P 0), some (mm_I (v1)), some (mm_I (v2)), some (mm_I (v3)), some (mm_I (v4)), some (mm_I (v5)), none, none, none, none] [] (mm_mk D5 u6 x7) Q) ∧ (¬ ((r8) < (v2)) → mt 82 59 [some (mm_P 0), some (mm_I (v1)), some (mm_I (v2)), some (mm_I (v3)), some (mm_I (v4)), some (mm_I (v5)), none, none, none, none] [] (mm_mk D5 u6 x7) Q)))))) ∧ (¬ ((r4) ≤ (v5)) → (((v4) = 0) → mt 82 45 [some (mm_P 0), some (mm_I (v1)), some (mm_I (v2)), some (mm_I (v3)), some (mm_I (v4)), some (mm_I (v5)), none, none, none, none] [] (mm_mk D1 u2 x3) Q) ∧ (¬ ((v4) = 0) → (((v3) = 0) → mt 82 43 [some (mm_P 0), some (mm_I (v1)), some (mm_I (v2)), some (mm_I (v3)), some (mm_I (v4)), some (mm_I (v5)), none, none, none, none] [] (mm_mk D1 u2 x3) Q) ∧ (¬ ((v3) = 0) → (0 ≤ (v1) ∧ 0 ≤ (v5) ∧ (v5) < 31) ∧ ((mm_rng ((v1) / 2 ^ (v5).toNat)) ∧ ((((mm_and ((v1) / 2 ^ (v5).toNat) ((1 : Int))) = 0) → mt 82 43 [some (mm_P 0), some (mm_I (v1)), some (mm_I (v2)), some (mm_I (v3)), some (mm_I (v4)), some (mm_I (v5)), none, none, none, none] [] (mm_mk D1 u2 x3) Q) ∧ (¬ ((mm_and ((v1) / 2 ^ (v5).toNat) ((1 : Int))) = 0) → mt 56 0 [some (mm_P 0), some (mm_I (v5))] [] (mm_mk D1 u2 x3) (mm_pIx (fun r14 D11 u12 x13 => (((r14) ≤ 0) → mt 82 45 [some (mm_P 0), some (mm_I (v1)), some (mm_I (v2)), some (mm_I (v3)), some (mm_I (v4)), some (mm_I (v5)), none, none, none, none] [] (mm_mk D11 u12 x13) Q) ∧ (¬ ((r14) ≤ 0) → mt 82 43 [some (mm_P 0), some (mm_I (v1)), some (mm_I (v2)), some (mm_I (v3)), some (mm_I (v4)), some (mm_I (v5)), none, none, none, none] [] (mm_mk D11 u12 x13) Q)) (fun E18 D15 u16 x17 => Q (.inr E18) (mm_mk D15 u16 x17))))))))))) : mt 82 25 [some (mm_P 0), some (mm_I (v1)), some (mm_I (v2)), some (mm_I (v3)), some (mm_I (v4)), some (mm_I (v5)), none, none, none, none] [] (mm_mk D u x) Q := by
  refine mu_load mc_82_25 (by decide) rfl ?_
  refine mu_aload (r := some (0)) mc_82_26 (by decide) rfl ?_
  refine mt_call (args := [mm_P 0]) (rest := [mm_I (v5)]) mc_82_27 (by decide) rfl rfl rfl ⟨Or.inl (by simp), rfl, by decide⟩ (mu_rcv (by decide) rfl (by decide)) H ?_
  rintro _ _ ⟨r4, D1, u2, x3, rfl, rfl, H⟩
  refine Or.inl ⟨_, rfl, ?_⟩
  refine mu_ic_ge mc_82_28 (fun c => ?_) (fun c => ?_)
  · replace H := H.1 c
    refine mu_load mc_82_49 (by decide) rfl ?_
    refine mu_if_eq mc_82_50 (fun c => ?_) (fun c => ?_)
    · replace H := H.1 c
      exact H
    · replace H := H.2 c
      refine mu_load mc_82_51 (by decide) rfl ?_
      refine mu_if_eq mc_82_52 (fun c => ?_) (fun c => ?_)
      · replace H := H.1 c
        exact H
      · replace H := H.2 c
        refine mu_load mc_82_53 (by decide) rfl ?_
        refine mu_if_gt mc_82_54 (fun c => ?_) (fun c => ?_)
        · replace H := H.1 c
          exact H
        · replace H := H.2 c
          refine mu_aload (r := some (0)) mc_82_55 (by decide) rfl ?_
          refine mt_call (args := [mm_P 0]) (rest := []) mc_82_56 (by decide) rfl rfl rfl ⟨Or.inl (by simp), rfl, by decide⟩ (mu_rcv (by decide) rfl (by decide)) H ?_
          rintro _ _ ⟨r8, D5, u6, x7, rfl, rfl, H⟩
          refine Or.inl ⟨_, rfl, ?_⟩
          refine mu_load mc_82_57 (by decide) rfl ?_
          refine mu_ic_lt mc_82_58 (fun c => ?_) (fun c => ?_)
          · replace H := H.1 c
            exact H
          · replace H := H.2 c
            exact H
  · replace H := H.2 c
    refine mu_load mc_82_29 (by decide) rfl ?_
    refine mu_if_eq mc_82_30 (fun c => ?_) (fun c => ?_)
    · replace H := H.1 c
      exact H
    · replace H := H.2 c
      refine mu_load mc_82_31 (by decide) rfl ?_
      refine mu_if_eq mc_82_32 (fun c => ?_) (fun c => ?_)
      · replace H := H.1 c
        exact H
      · replace H := H.2 c
        refine mu_load mc_82_33 (by decide) rfl ?_
        refine mu_load mc_82_34 (by decide) rfl ?_
        have h9 := H.1
        replace H := H.2
        have h10 := H.1
        replace H := H.2
        refine mu_ishr mc_82_35 h9 h10 ?_
        refine mu_const mc_82_36 (by decide) (by decide) ?_
        refine mu_iand mc_82_37 ?_
        refine mu_if_eq mc_82_38 (fun c => ?_) (fun c => ?_)
        · replace H := H.1 c
          exact H
        · replace H := H.2 c
          refine mu_aload (r := some (0)) mc_82_39 (by decide) rfl ?_
          refine mu_load mc_82_40 (by decide) rfl ?_
          refine mt_call (args := [mm_P 0, mm_I (v5)]) (rest := []) mc_82_41 (by decide) rfl rfl rfl ⟨Or.inl (by simp), rfl, by decide⟩ (mu_rcv (by decide) rfl (by decide)) H ?_
          rintro _ _ (⟨r14, D11, u12, x13, rfl, rfl, H⟩ | ⟨E18, D15, u16, x17, rfl, rfl, H⟩)
          · refine Or.inl ⟨_, rfl, ?_⟩
            refine mu_if_le mc_82_42 (fun c => ?_) (fun c => ?_)
            · replace H := H.1 c
              exact H
            · replace H := H.2 c
              exact H
          · exact Or.inr ⟨_, rfl, by decide, Or.inr ⟨mm_handN (by decide) _, by decide, H⟩⟩
theorem q_L_isFound_43 {D : mm_D} {u : Int} {x : Nat × (Nat × List Int)} {Q : mm_O → mm_H → Prop} (v1 v2 v3 v4 v5 : Int) (H : mt 82 47 [some (mm_P 0), some (mm_I (v1)), some (mm_I (v2)), some (mm_I (v3)), some (mm_I ((1 : Int))), some (mm_I (v5)), none, none, none, none] [] (mm_mk D u x) Q) : mt 82 43 [some (mm_P 0), some (mm_I (v1)), some (mm_I (v2)), some (mm_I (v3)), some (mm_I (v4)), some (mm_I (v5)), none, none, none, none] [] (mm_mk D u x) Q := by
  refine mu_const mc_82_43 (by decide) (by decide) ?_
  refine mu_rfl (n := 46) mc_82_44 (by decide) rfl rfl ?_
  refine mu_store mc_82_46 (by decide) (by simp) (ls' := [some (mm_P 0), some (mm_I (v1)), some (mm_I (v2)), some (mm_I (v3)), some (mm_I ((1 : Int))), some (mm_I (v5)), none, none, none, none]) rfl ?_
  exact H
theorem q_L_isFound_45 {D : mm_D} {u : Int} {x : Nat × (Nat × List Int)} {Q : mm_O → mm_H → Prop} (v1 v2 v3 v4 v5 : Int) (H : mt 82 47 [some (mm_P 0), some (mm_I (v1)), some (mm_I (v2)), some (mm_I (v3)), some (mm_I ((0 : Int))), some (mm_I (v5)), none, none, none, none] [] (mm_mk D u x) Q) : mt 82 45 [some (mm_P 0), some (mm_I (v1)), some (mm_I (v2)), some (mm_I (v3)), some (mm_I (v4)), some (mm_I (v5)), none, none, none, none] [] (mm_mk D u x) Q := by
  refine mu_const mc_82_45 (by decide) (by decide) ?_
  refine mu_store mc_82_46 (by decide) (by simp) (ls' := [some (mm_P 0), some (mm_I (v1)), some (mm_I (v2)), some (mm_I (v3)), some (mm_I ((0 : Int))), some (mm_I (v5)), none, none, none, none]) rfl ?_
  exact H
theorem q_L_isFound_47 {D : mm_D} {u : Int} {x : Nat × (Nat × List Int)} {Q : mm_O → mm_H → Prop} (v1 v2 v3 v4 v5 : Int) (H : (mm_rng ((v5) + (1 : Int))) ∧ (mt 82 25 [some (mm_P 0), some (mm_I (v1)), some (mm_I (v2)), some (mm_I (v3)), some (mm_I (v4)), some (mm_I ((v5) + (1 : Int))), none, none, none, none] [] (mm_mk D u x) Q)) : mt 82 47 [some (mm_P 0), some (mm_I (v1)), some (mm_I (v2)), some (mm_I (v3)), some (mm_I (v4)), some (mm_I (v5)), none, none, none, none] [] (mm_mk D u x) Q := by
  have h1 := H.1
  replace H := H.2
  refine mu_iinc mc_82_47 rfl h1 (ls' := [some (mm_P 0), some (mm_I (v1)), some (mm_I (v2)), some (mm_I (v3)), some (mm_I (v4)), some (mm_I ((v5) + (1 : Int))), none, none, none, none]) rfl ?_
  refine mu_rfl (n := 25) mc_82_48 (by decide) rfl rfl ?_
  exact H
theorem q_L_isFound_59 {D : mm_D} {u : Int} {x : Nat × (Nat × List Int)} {Q : mm_O → mm_H → Prop} (v1 v2 v3 v4 v5 : Int) (H : mt 82 63 [some (mm_P 0), some (mm_I (v1)), some (mm_I (v2)), some (mm_I (v3)), some (mm_I ((1 : Int))), some (mm_I (v5)), none, none, none, none] [] (mm_mk D u x) Q) : mt 82 59 [some (mm_P 0), some (mm_I (v1)), some (mm_I (v2)), some (mm_I (v3)), some (mm_I (v4)), some (mm_I (v5)), none, none, none, none] [] (mm_mk D u x) Q := by
  refine mu_const mc_82_59 (by decide) (by decide) ?_
  refine mu_rfl (n := 62) mc_82_60 (by decide) rfl rfl ?_
  refine mu_store mc_82_62 (by decide) (by simp) (ls' := [some (mm_P 0), some (mm_I (v1)), some (mm_I (v2)), some (mm_I (v3)), some (mm_I ((1 : Int))), some (mm_I (v5)), none, none, none, none]) rfl ?_
  exact H
theorem q_L_isFound_61 {D : mm_D} {u : Int} {x : Nat × (Nat × List Int)} {Q : mm_O → mm_H → Prop} (v1 v2 v3 v4 v5 : Int) (H : mt 82 63 [some (mm_P 0), some (mm_I (v1)), some (mm_I (v2)), some (mm_I (v3)), some (mm_I ((0 : Int))), some (mm_I (v5)), none, none, none, none] [] (mm_mk D u x) Q) : mt 82 61 [some (mm_P 0), some (mm_I (v1)), some (mm_I (v2)), some (mm_I (v3)), some (mm_I (v4)), some (mm_I (v5)), none, none, none, none] [] (mm_mk D u x) Q := by
  refine mu_const mc_82_61 (by decide) (by decide) ?_
  refine mu_store mc_82_62 (by decide) (by simp) (ls' := [some (mm_P 0), some (mm_I (v1)), some (mm_I (v2)), some (mm_I (v3)), some (mm_I ((0 : Int))), some (mm_I (v5)), none, none, none, none]) rfl ?_
  exact H
theorem q_L_isFound_63 {D : mm_D} {u : Int} {x : Nat × (Nat × List Int)} {Q : mm_O → mm_H → Prop} (v1 v2 v3 v4 v5 : Int) (H : mt 65 0 [some (mm_P 0)] [] (mm_mk D u x) (mm_pI fun r4 D1 u2 x3 => mt 82 68 [some (mm_P 0), some (mm_I (v1)), some (mm_I (v2)), some (mm_I (v3)), some (mm_I (v4)), some (mm_I (r4)), some (mm_I ((0 : Int))), none, none, none] [] (mm_mk D1 u2 x3) Q)) : mt 82 63 [some (mm_P 0), some (mm_I (v1)), some (mm_I (v2)), some (mm_I (v3)), some (mm_I (v4)), some (mm_I (v5)), none, none, none, none] [] (mm_mk D u x) Q := by
  refine mu_aload (r := some (0)) mc_82_63 (by decide) rfl ?_
  refine mt_call (args := [mm_P 0]) (rest := []) mc_82_64 (by decide) rfl rfl rfl ⟨Or.inl (by simp), rfl, by decide⟩ (mu_rcv (by decide) rfl (by decide)) H ?_
  rintro _ _ ⟨r4, D1, u2, x3, rfl, rfl, H⟩
  refine Or.inl ⟨_, rfl, ?_⟩
  refine mu_store mc_82_65 (by decide) (by simp) (ls' := [some (mm_P 0), some (mm_I (v1)), some (mm_I (v2)), some (mm_I (v3)), some (mm_I (v4)), some (mm_I (r4)), none, none, none, none]) rfl ?_
  refine mu_const mc_82_66 (by decide) (by decide) ?_
  refine mu_store mc_82_67 (by decide) (by simp) (ls' := [some (mm_P 0), some (mm_I (v1)), some (mm_I (v2)), some (mm_I (v3)), some (mm_I (v4)), some (mm_I (r4)), some (mm_I ((0 : Int))), none, none, none]) rfl ?_
  exact H
theorem q_L_isFound_68 {D : mm_D} {u : Int} {x : Nat × (Nat × List Int)} {Q : mm_O → mm_H → Prop} (v1 v2 v3 v4 v5 v6 : Int) (o7 o8 o9 : Option mm_V) (H : mt 64 0 [some (mm_P 0)] [] (mm_mk D u x) (mm_pI fun r4 D1 u2 x3 => (((r4) ≤ (v6)) → mt 82 129 [some (mm_P 0), some (mm_I (v1)), some (mm_I (v2)), some (mm_I (v3)), some (mm_I (v4)), some (mm_I (v5)), some (mm_I (v6)), o7, o8, o9] [] (mm_mk D1 u2 x3) Q) ∧ (¬ ((r4) ≤ (v6)) → (((v4) = 0) → mt 82 129 [some (mm_P 0), some (mm_I (v1)), some (mm_I (v2)), some (mm_I (v3)), some (mm_I (v4)), some (mm_I (v5)), some (mm_I (v6)), o7, o8, o9] [] (mm_mk D1 u2 x3) Q) ∧ (¬ ((v4) = 0) → mt 66 0 [some (mm_P 0), some (mm_I (v6))] [] (mm_mk D1 u2 x3) (mm_pIx (fun r8 D5 u6 x7 => ((0 < (v1)) → mt 82 84 [some (mm_P 0), some (mm_I (v1)), some (mm_I (v2)), some (mm_I (v3)), some (mm_I (v4)), some (mm_I (v5)), some (mm_I (v6)), some (mm_I (r8)), o8, o9] [] (mm_mk D5 u6 x7) Q) ∧ (¬ (0 < (v1)) → mt 55 0 [some (mm_P 0)] [] (mm_mk D5 u6 x7) (mm_pI fun r16 D13 u14 x15 => (((r16) < (v2)) → mt 82 88 [some (mm_P 0), some (mm_I (v1)), some (mm_I (v2)), some (mm_I (v3)), some (mm_I (v4)), some (mm_I (v5)), some (mm_I (v6)), some (mm_I (r8)), some (mm_I ((0 : Int))), o9] [] (mm_mk D13 u14 x15) Q) ∧ (¬ ((r16) < (v2)) → mt 82 84 [some (mm_P 0), some (mm_I (v1)), some (mm_I (v2)), some (mm_I (v3)), some (mm_I (v4)), some (mm_I (v5)), some (mm_I (v6)), some (mm_I (r8)), o8, o9] [] (mm_mk D13 u14 x15) Q)))) (fun E12 D9 u10 x11 => Q (.inr E12) (mm_mk D9 u10 x11))))))) : mt 82 68 [some (mm_P 0), some (mm_I (v1)), some (mm_I (v2)), some (mm_I (v3)), some (mm_I (v4)), some (mm_I (v5)), some (mm_I (v6)), o7, o8, o9] [] (mm_mk D u x) Q := by
  refine mu_load mc_82_68 (by decide) rfl ?_
  refine mu_aload (r := some (0)) mc_82_69 (by decide) rfl ?_
  refine mt_call (args := [mm_P 0]) (rest := [mm_I (v6)]) mc_82_70 (by decide) rfl rfl rfl ⟨Or.inl (by simp), rfl, by decide⟩ (mu_rcv (by decide) rfl (by decide)) H ?_
  rintro _ _ ⟨r4, D1, u2, x3, rfl, rfl, H⟩
  refine Or.inl ⟨_, rfl, ?_⟩
  refine mu_ic_ge mc_82_71 (fun c => ?_) (fun c => ?_)
  · replace H := H.1 c
    exact H
  · replace H := H.2 c
    refine mu_load mc_82_72 (by decide) rfl ?_
    refine mu_if_eq mc_82_73 (fun c => ?_) (fun c => ?_)
    · replace H := H.1 c
      exact H
    · replace H := H.2 c
      refine mu_aload (r := some (0)) mc_82_74 (by decide) rfl ?_
      refine mu_load mc_82_75 (by decide) rfl ?_
      refine mt_call (args := [mm_P 0, mm_I (v6)]) (rest := []) mc_82_76 (by decide) rfl rfl rfl ⟨Or.inl (by simp), rfl, by decide⟩ (mu_rcv (by decide) rfl (by decide)) H ?_
      rintro _ _ (⟨r8, D5, u6, x7, rfl, rfl, H⟩ | ⟨E12, D9, u10, x11, rfl, rfl, H⟩)
      · refine Or.inl ⟨_, rfl, ?_⟩
        refine mu_store mc_82_77 (by decide) (by simp) (ls' := [some (mm_P 0), some (mm_I (v1)), some (mm_I (v2)), some (mm_I (v3)), some (mm_I (v4)), some (mm_I (v5)), some (mm_I (v6)), some (mm_I (r8)), o8, o9]) rfl ?_
        refine mu_load mc_82_78 (by decide) rfl ?_
        refine mu_if_gt mc_82_79 (fun c => ?_) (fun c => ?_)
        · replace H := H.1 c
          exact H
        · replace H := H.2 c
          refine mu_aload (r := some (0)) mc_82_80 (by decide) rfl ?_
          refine mt_call (args := [mm_P 0]) (rest := []) mc_82_81 (by decide) rfl rfl rfl ⟨Or.inl (by simp), rfl, by decide⟩ (mu_rcv (by decide) rfl (by decide)) H ?_
          rintro _ _ ⟨r16, D13, u14, x15, rfl, rfl, H⟩
          refine Or.inl ⟨_, rfl, ?_⟩
          refine mu_load mc_82_82 (by decide) rfl ?_
          refine mu_ic_lt mc_82_83 (fun c => ?_) (fun c => ?_)
          · replace H := H.1 c
            refine mu_const mc_82_86 (by decide) (by decide) ?_
            refine mu_store mc_82_87 (by decide) (by simp) (ls' := [some (mm_P 0), some (mm_I (v1)), some (mm_I (v2)), some (mm_I (v3)), some (mm_I (v4)), some (mm_I (v5)), some (mm_I (v6)), some (mm_I (r8)), some (mm_I ((0 : Int))), o9]) rfl ?_
            exact H
          · replace H := H.2 c
            exact H
      · exact Or.inr ⟨_, rfl, by decide, Or.inr ⟨mm_handN (by decide) _, by decide, H⟩⟩
theorem q_L_isFound_84 {D : mm_D} {u : Int} {x : Nat × (Nat × List Int)} {Q : mm_O → mm_H → Prop} (v1 v2 v3 v4 v5 v6 v7 : Int) (o8 o9 : Option mm_V) (H : mt 82 88 [some (mm_P 0), some (mm_I (v1)), some (mm_I (v2)), some (mm_I (v3)), some (mm_I (v4)), some (mm_I (v5)), some (mm_I (v6)), some (mm_I (v7)), some (mm_I ((1 : Int))), o9] [] (mm_mk D u x) Q) : mt 82 84 [some (mm_P 0), some (mm_I (v1)), some (mm_I (v2)), some (mm_I (v3)), some (mm_I (v4)), some (mm_I (v5)), some (mm_I (v6)), some (mm_I (v7)), o8, o9] [] (mm_mk D u x) Q := by
  refine mu_const mc_82_84 (by decide) (by decide) ?_
  refine mu_rfl (n := 87) mc_82_85 (by decide) rfl rfl ?_
  refine mu_store mc_82_87 (by decide) (by simp) (ls' := [some (mm_P 0), some (mm_I (v1)), some (mm_I (v2)), some (mm_I (v3)), some (mm_I (v4)), some (mm_I (v5)), some (mm_I (v6)), some (mm_I (v7)), some (mm_I ((1 : Int))), o9]) rfl ?_
  exact H
theorem q_L_isFound_88 {D : mm_D} {u : Int} {x : Nat × (Nat × List Int)} {Q : mm_O → mm_H → Prop} (v1 v2 v3 v4 v5 v6 v7 v8 : Int) (o9 : Option mm_V) (H : mt 82 90 [some (mm_P 0), some (mm_I (v1)), some (mm_I (v2)), some (mm_I (v3)), some (mm_I (v4)), some (mm_I (v5)), some (mm_I (v6)), some (mm_I (v7)), some (mm_I (v8)), some (mm_I ((0 : Int)))] [] (mm_mk D u x) Q) : mt 82 88 [some (mm_P 0), some (mm_I (v1)), some (mm_I (v2)), some (mm_I (v3)), some (mm_I (v4)), some (mm_I (v5)), some (mm_I (v6)), some (mm_I (v7)), some (mm_I (v8)), o9] [] (mm_mk D u x) Q := by
  refine mu_const mc_82_88 (by decide) (by decide) ?_
  refine mu_store mc_82_89 (by decide) (by simp) (ls' := [some (mm_P 0), some (mm_I (v1)), some (mm_I (v2)), some (mm_I (v3)), some (mm_I (v4)), some (mm_I (v5)), some (mm_I (v6)), some (mm_I (v7)), some (mm_I (v8)), some (mm_I ((0 : Int)))]) rfl ?_
  exact H
theorem q_L_isFound_90 {D : mm_D} {u : Int} {x : Nat × (Nat × List Int)} {Q : mm_O → mm_H → Prop} (v1 v2 v3 v4 v5 v6 v7 v8 v9 : Int) (H : mt 45 0 [some (mm_P 0)] [] (mm_mk D u x) (mm_pI fun r4 D1 u2 x3 => (((r4) ≤ (v9)) → (((v8) = 0) → mt 82 123 [some (mm_P 0), some (mm_I (v1)), some (mm_I (v2)), some (mm_I (v3)), some (mm_I (v4)), some (mm_I (v5)), some (mm_I (v6)), some (mm_I (v7)), some (mm_I (v8)), some (mm_I (v9))] [] (mm_mk D1 u2 x3) Q) ∧ (¬ ((v8) = 0) → (((v7) < (v3)) → mt 82 123 [some (mm_P 0), some (mm_I (v1)), some (mm_I (v2)), some (mm_I (v3)), some (mm_I (v4)), some (mm_I (v5)), some (mm_I (v6)), some (mm_I (v7)), some (mm_I (v8)), some (mm_I (v9))] [] (mm_mk D1 u2 x3) Q) ∧ (¬ ((v7) < (v3)) → ((¬ (v7) = (v3)) → mt 82 125 [some (mm_P 0), some (mm_I (v1)), some (mm_I (v2)), some (mm_I (v3)), some (mm_I (v4)), some (mm_I (v5)), some (mm_I (v6)), some (mm_I (v7)), some (mm_I (v8)), some (mm_I (v9))] [] (mm_mk D1 u2 x3) Q) ∧ (¬ (¬ (v7) = (v3)) → (((v6) < (v5)) → mt 82 125 [some (mm_P 0), some (mm_I (v1)), some (mm_I (v2)), some (mm_I (v3)), some (mm_I (v4)), some (mm_I (v5)), some (mm_I (v6)), some (mm_I (v7)), some (mm_I (v8)), some (mm_I (v9))] [] (mm_mk D1 u2 x3) Q) ∧ (¬ ((v6) < (v5)) → mt 82 123 [some (mm_P 0), some (mm_I (v1)), some (mm_I (v2)), some (mm_I (v3)), some (mm_I (v4)), some (mm_I (v5)), some (mm_I (v6)), some (mm_I (v7)), some (mm_I (v8)), some (mm_I (v9))] [] (mm_mk D1 u2 x3) Q))))) ∧ (¬ ((r4) ≤ (v9)) → (((v8) = 0) → mt 82 108 [some (mm_P 0), some (mm_I (v1)), some (mm_I (v2)), some (mm_I (v3)), some (mm_I (v4)), some (mm_I (v5)), some (mm_I (v6)), some (mm_I (v7)), some (mm_I (v8)), some (mm_I (v9))] [] (mm_mk D1 u2 x3) Q) ∧ (¬ ((v8) = 0) → (0 ≤ (v1) ∧ 0 ≤ (v9) ∧ (v9) < 31) ∧ ((mm_rng ((v1) / 2 ^ (v9).toNat)) ∧ ((((mm_and ((v1) / 2 ^ (v9).toNat) ((1 : Int))) = 0) → mt 82 106 [some (mm_P 0), some (mm_I (v1)), some (mm_I (v2)), some (mm_I (v3)), some (mm_I (v4)), some (mm_I (v5)), some (mm_I (v6)), some (mm_I (v7)), some (mm_I (v8)), some (mm_I (v9))] [] (mm_mk D1 u2 x3) Q) ∧ (¬ ((mm_and ((v1) / 2 ^ (v9).toNat) ((1 : Int))) = 0) → mt 56 0 [some (mm_P 0), some (mm_I (v9))] [] (mm_mk D1 u2 x3) (mm_pIx (fun r10 D7 u8 x9 => (((r10) ≤ 0) → mt 82 108 [some (mm_P 0), some (mm_I (v1)), some (mm_I (v2)), some (mm_I (v3)), some (mm_I (v4)), some (mm_I (v5)), some (mm_I (v6)), some (mm_I (v7)), some (mm_I (v8)), some (mm_I (v9))] [] (mm_mk D7 u8 x9) Q) ∧ (¬ ((r10) ≤ 0) → mt 82 106 [some (mm_P 0), some (mm_I (v1)), some (mm_I (v2)), some (mm_I (v3)), some (mm_I (v4)), some (mm_I (v5)), some (mm_I (v6)), some (mm_I (v7)), some (mm_I (v8)), some (mm_I (v9))] [] (mm_mk D7 u8 x9) Q)) (fun E14 D11 u12 x13 => Q (.inr E14) (mm_mk D11 u12 x13)))))))))) : mt 82 90 [some (mm_P 0), some (mm_I (v1)), some (mm_I (v2)), some (mm_I (v3)), some (mm_I (v4)), some (mm_I (v5)), some (mm_I (v6)), some (mm_I (v7)), some (mm_I (v8)), some (mm_I (v9))] [] (mm_mk D u x) Q := by
  refine mu_load mc_82_90 (by decide) rfl ?_
  refine mu_aload (r := some (0)) mc_82_91 (by decide) rfl ?_
  refine mt_call (args := [mm_P 0]) (rest := [mm_I (v9)]) mc_82_92 (by decide) rfl rfl rfl ⟨Or.inl (by simp), rfl, by decide⟩ (mu_rcv (by decide) rfl (by decide)) H ?_
  rintro _ _ ⟨r4, D1, u2, x3, rfl, rfl, H⟩
  refine Or.inl ⟨_, rfl, ?_⟩
  refine mu_ic_ge mc_82_93 (fun c => ?_) (fun c => ?_)
  · replace H := H.1 c
    refine mu_load mc_82_112 (by decide) rfl ?_
    refine mu_if_eq mc_82_113 (fun c => ?_) (fun c => ?_)
    · replace H := H.1 c
      exact H
    · replace H := H.2 c
      refine mu_load mc_82_114 (by decide) rfl ?_
      refine mu_load mc_82_115 (by decide) rfl ?_
      refine mu_ic_lt mc_82_116 (fun c => ?_) (fun c => ?_)
      · replace H := H.1 c
        exact H
      · replace H := H.2 c
        refine mu_load mc_82_117 (by decide) rfl ?_
        refine mu_load mc_82_118 (by decide) rfl ?_
        refine mu_ic_ne mc_82_119 (fun c => ?_) (fun c => ?_)
        · replace H := H.1 c
          exact H
        · replace H := H.2 c
          refine mu_load mc_82_120 (by decide) rfl ?_
          refine mu_load mc_82_121 (by decide) rfl ?_
          refine mu_ic_lt mc_82_122 (fun c => ?_) (fun c => ?_)
          · replace H := H.1 c
            exact H
          · replace H := H.2 c
            exact H
  · replace H := H.2 c
    refine mu_load mc_82_94 (by decide) rfl ?_
    refine mu_if_eq mc_82_95 (fun c => ?_) (fun c => ?_)
    · replace H := H.1 c
      exact H
    · replace H := H.2 c
      refine mu_load mc_82_96 (by decide) rfl ?_
      refine mu_load mc_82_97 (by decide) rfl ?_
      have h5 := H.1
      replace H := H.2
      have h6 := H.1
      replace H := H.2
      refine mu_ishr mc_82_98 h5 h6 ?_
      refine mu_const mc_82_99 (by decide) (by decide) ?_
      refine mu_iand mc_82_100 ?_
      refine mu_if_eq mc_82_101 (fun c => ?_) (fun c => ?_)
      · replace H := H.1 c
        exact H
      · replace H := H.2 c
        refine mu_aload (r := some (0)) mc_82_102 (by decide) rfl ?_
        refine mu_load mc_82_103 (by decide) rfl ?_
        refine mt_call (args := [mm_P 0, mm_I (v9)]) (rest := []) mc_82_104 (by decide) rfl rfl rfl ⟨Or.inl (by simp), rfl, by decide⟩ (mu_rcv (by decide) rfl (by decide)) H ?_
        rintro _ _ (⟨r10, D7, u8, x9, rfl, rfl, H⟩ | ⟨E14, D11, u12, x13, rfl, rfl, H⟩)
        · refine Or.inl ⟨_, rfl, ?_⟩
          refine mu_if_le mc_82_105 (fun c => ?_) (fun c => ?_)
          · replace H := H.1 c
            exact H
          · replace H := H.2 c
            exact H
        · exact Or.inr ⟨_, rfl, by decide, Or.inr ⟨mm_handN (by decide) _, by decide, H⟩⟩
theorem q_L_isFound_106 {D : mm_D} {u : Int} {x : Nat × (Nat × List Int)} {Q : mm_O → mm_H → Prop} (v1 v2 v3 v4 v5 v6 v7 v8 v9 : Int) (H : mt 82 110 [some (mm_P 0), some (mm_I (v1)), some (mm_I (v2)), some (mm_I (v3)), some (mm_I (v4)), some (mm_I (v5)), some (mm_I (v6)), some (mm_I (v7)), some (mm_I ((1 : Int))), some (mm_I (v9))] [] (mm_mk D u x) Q) : mt 82 106 [some (mm_P 0), some (mm_I (v1)), some (mm_I (v2)), some (mm_I (v3)), some (mm_I (v4)), some (mm_I (v5)), some (mm_I (v6)), some (mm_I (v7)), some (mm_I (v8)), some (mm_I (v9))] [] (mm_mk D u x) Q := by
  refine mu_const mc_82_106 (by decide) (by decide) ?_
  refine mu_rfl (n := 109) mc_82_107 (by decide) rfl rfl ?_
  refine mu_store mc_82_109 (by decide) (by simp) (ls' := [some (mm_P 0), some (mm_I (v1)), some (mm_I (v2)), some (mm_I (v3)), some (mm_I (v4)), some (mm_I (v5)), some (mm_I (v6)), some (mm_I (v7)), some (mm_I ((1 : Int))), some (mm_I (v9))]) rfl ?_
  exact H
theorem q_L_isFound_108 {D : mm_D} {u : Int} {x : Nat × (Nat × List Int)} {Q : mm_O → mm_H → Prop} (v1 v2 v3 v4 v5 v6 v7 v8 v9 : Int) (H : mt 82 110 [some (mm_P 0), some (mm_I (v1)), some (mm_I (v2)), some (mm_I (v3)), some (mm_I (v4)), some (mm_I (v5)), some (mm_I (v6)), some (mm_I (v7)), some (mm_I ((0 : Int))), some (mm_I (v9))] [] (mm_mk D u x) Q) : mt 82 108 [some (mm_P 0), some (mm_I (v1)), some (mm_I (v2)), some (mm_I (v3)), some (mm_I (v4)), some (mm_I (v5)), some (mm_I (v6)), some (mm_I (v7)), some (mm_I (v8)), some (mm_I (v9))] [] (mm_mk D u x) Q := by
  refine mu_const mc_82_108 (by decide) (by decide) ?_
  refine mu_store mc_82_109 (by decide) (by simp) (ls' := [some (mm_P 0), some (mm_I (v1)), some (mm_I (v2)), some (mm_I (v3)), some (mm_I (v4)), some (mm_I (v5)), some (mm_I (v6)), some (mm_I (v7)), some (mm_I ((0 : Int))), some (mm_I (v9))]) rfl ?_
  exact H
theorem q_L_isFound_110 {D : mm_D} {u : Int} {x : Nat × (Nat × List Int)} {Q : mm_O → mm_H → Prop} (v1 v2 v3 v4 v5 v6 v7 v8 v9 : Int) (H : (mm_rng ((v9) + (1 : Int))) ∧ (mt 82 90 [some (mm_P 0), some (mm_I (v1)), some (mm_I (v2)), some (mm_I (v3)), some (mm_I (v4)), some (mm_I (v5)), some (mm_I (v6)), some (mm_I (v7)), some (mm_I (v8)), some (mm_I ((v9) + (1 : Int)))] [] (mm_mk D u x) Q)) : mt 82 110 [some (mm_P 0), some (mm_I (v1)), some (mm_I (v2)), some (mm_I (v3)), some (mm_I (v4)), some (mm_I (v5)), some (mm_I (v6)), some (mm_I (v7)), some (mm_I (v8)), some (mm_I (v9))] [] (mm_mk D u x) Q := by
  have h1 := H.1
  replace H := H.2
  refine mu_iinc mc_82_110 rfl h1 (ls' := [some (mm_P 0), some (mm_I (v1)), some (mm_I (v2)), some (mm_I (v3)), some (mm_I (v4)), some (mm_I (v5)), some (mm_I (v6)), some (mm_I (v7)), some (mm_I (v8)), some (mm_I ((v9) + (1 : Int)))]) rfl ?_
  refine mu_rfl (n := 90) mc_82_111 (by decide) rfl rfl ?_
  exact H
theorem q_L_isFound_123 {D : mm_D} {u : Int} {x : Nat × (Nat × List Int)} {Q : mm_O → mm_H → Prop} (v1 v2 v3 v4 v5 v6 v7 v8 v9 : Int) (H : mt 82 127 [some (mm_P 0), some (mm_I (v1)), some (mm_I (v2)), some (mm_I (v3)), some (mm_I ((1 : Int))), some (mm_I (v5)), some (mm_I (v6)), some (mm_I (v7)), some (mm_I (v8)), some (mm_I (v9))] [] (mm_mk D u x) Q) : mt 82 123 [some (mm_P 0), some (mm_I (v1)), some (mm_I (v2)), some (mm_I (v3)), some (mm_I (v4)), some (mm_I (v5)), some (mm_I (v6)), some (mm_I (v7)), some (mm_I (v8)), some (mm_I (v9))] [] (mm_mk D u x) Q := by
  refine mu_const mc_82_123 (by decide) (by decide) ?_
  refine mu_rfl (n := 126) mc_82_124 (by decide) rfl rfl ?_
  refine mu_store mc_82_126 (by decide) (by simp) (ls' := [some (mm_P 0), some (mm_I (v1)), some (mm_I (v2)), some (mm_I (v3)), some (mm_I ((1 : Int))), some (mm_I (v5)), some (mm_I (v6)), some (mm_I (v7)), some (mm_I (v8)), some (mm_I (v9))]) rfl ?_
  exact H
theorem q_L_isFound_125 {D : mm_D} {u : Int} {x : Nat × (Nat × List Int)} {Q : mm_O → mm_H → Prop} (v1 v2 v3 v4 v5 v6 v7 v8 v9 : Int) (H : mt 82 127 [some (mm_P 0), some (mm_I (v1)), some (mm_I (v2)), some (mm_I (v3)), some (mm_I ((0 : Int))), some (mm_I (v5)), some (mm_I (v6)), some (mm_I (v7)), some (mm_I (v8)), some (mm_I (v9))] [] (mm_mk D u x) Q) : mt 82 125 [some (mm_P 0), some (mm_I (v1)), some (mm_I (v2)), some (mm_I (v3)), some (mm_I (v4)), some (mm_I (v5)), some (mm_I (v6)), some (mm_I (v7)), some (mm_I (v8)), some (mm_I (v9))] [] (mm_mk D u x) Q := by
  refine mu_const mc_82_125 (by decide) (by decide) ?_
  refine mu_store mc_82_126 (by decide) (by simp) (ls' := [some (mm_P 0), some (mm_I (v1)), some (mm_I (v2)), some (mm_I (v3)), some (mm_I ((0 : Int))), some (mm_I (v5)), some (mm_I (v6)), some (mm_I (v7)), some (mm_I (v8)), some (mm_I (v9))]) rfl ?_
  exact H
theorem q_L_isFound_127 {D : mm_D} {u : Int} {x : Nat × (Nat × List Int)} {Q : mm_O → mm_H → Prop} (v1 v2 v3 v4 v5 v6 v7 v8 v9 : Int) (H : (mm_rng ((v6) + (1 : Int))) ∧ (mt 82 68 [some (mm_P 0), some (mm_I (v1)), some (mm_I (v2)), some (mm_I (v3)), some (mm_I (v4)), some (mm_I (v5)), some (mm_I ((v6) + (1 : Int))), some (mm_I (v7)), some (mm_I (v8)), some (mm_I (v9))] [] (mm_mk D u x) Q)) : mt 82 127 [some (mm_P 0), some (mm_I (v1)), some (mm_I (v2)), some (mm_I (v3)), some (mm_I (v4)), some (mm_I (v5)), some (mm_I (v6)), some (mm_I (v7)), some (mm_I (v8)), some (mm_I (v9))] [] (mm_mk D u x) Q := by
  have h1 := H.1
  replace H := H.2
  refine mu_iinc mc_82_127 rfl h1 (ls' := [some (mm_P 0), some (mm_I (v1)), some (mm_I (v2)), some (mm_I (v3)), some (mm_I (v4)), some (mm_I (v5)), some (mm_I ((v6) + (1 : Int))), some (mm_I (v7)), some (mm_I (v8)), some (mm_I (v9))]) rfl ?_
  refine mu_rfl (n := 68) mc_82_128 (by decide) rfl rfl ?_
  exact H
theorem q_L_isFound_129 {D : mm_D} {u : Int} {x : Nat × (Nat × List Int)} {Q : mm_O → mm_H → Prop} (v1 v2 v3 v4 v5 v6 : Int) (o7 o8 o9 : Option mm_V) (H : ((v4) = 0 ∨ (v4) = 1) ∧ (Q (.inl (some (mm_I (v4)))) (mm_mk D u x))) : mt 82 129 [some (mm_P 0), some (mm_I (v1)), some (mm_I (v2)), some (mm_I (v3)), some (mm_I (v4)), some (mm_I (v5)), some (mm_I (v6)), o7, o8, o9] [] (mm_mk D u x) Q := by
  refine mu_load mc_82_129 (by decide) rfl ?_
  have h1 := H.1
  replace H := H.2
  exact mt_retB mc_82_130 h1 H

theorem q_L_isMissing_0 {D : mm_D} {u : Int} {x : Nat × (Nat × List Int)} {Q : mm_O → mm_H → Prop} (v1 : Int) (H : mt 69 0 [some (mm_P 0), some (mm_I (v1))] [] (mm_mk D u x) (mm_pIx (fun r4 D1 u2 x3 => mt 52 0 [some (mm_P 0)] [] (mm_mk D1 u2 x3) (mm_pI fun r12 D9 u10 x11 => ((¬ (r12) = (r4)) → mt 83 16 [some (mm_P 0), some (mm_I (v1)), some (mm_I (r4)), none, none, none] [] (mm_mk D9 u10 x11) Q) ∧ (¬ (¬ (r12) = (r4)) → mt 54 0 [some (mm_P 0)] [] (mm_mk D9 u10 x11) (mm_pI fun r16 D13 u14 x15 => ((¬ (r16) = 0) → mt 83 16 [some (mm_P 0), some (mm_I (v1)), some (mm_I (r4)), none, none, none] [] (mm_mk D13 u14 x15) Q) ∧ (¬ (¬ (r16) = 0) → (((r4) < ((1 : Int))) → mt 83 16 [some (mm_P 0), some (mm_I (v1)), some (mm_I (r4)), none, none, none] [] (mm_mk D13 u14 x15) Q) ∧ (¬ ((r4) < ((1 : Int))) → mt 83 18 [some (mm_P 0), some (mm_I (v1)), some (mm_I (r4)), some (mm_I ((1 : Int))), none, none] [] (mm_mk D13 u14 x15) Q)))))) (fun E8 D5 u6 x7 => Q (.inr E8) (mm_mk D5 u6 x7)))) : mt 83 0 [some (mm_P 0), some (mm_I (v1)), none, none, none, none] [] (mm_mk D u x) Q := by
  refine mu_aload (r := some (0)) mc_83_0 (by decide) rfl ?_
  refine mu_load mc_83_1 (by decide) rfl ?_
  refine mt_call (args := [mm_P 0, mm_I (v1)]) (rest := []) mc_83_2 (by decide) rfl rfl rfl ⟨Or.inl (by simp), rfl, by decide⟩ (mu_rcv (by decide) rfl (by decide)) H ?_
  rintro _ _ (⟨r4, D1, u2, x3, rfl, rfl, H⟩ | ⟨E8, D5, u6, x7, rfl, rfl, H⟩)
  · refine Or.inl ⟨_, rfl, ?_⟩
    refine mu_store mc_83_3 (by decide) (by simp) (ls' := [some (mm_P 0), some (mm_I (v1)), some (mm_I (r4)), none, none, none]) rfl ?_
    refine mu_aload (r := some (0)) mc_83_4 (by decide) rfl ?_
    refine mt_call (args := [mm_P 0]) (rest := []) mc_83_5 (by decide) rfl rfl rfl ⟨Or.inl (by simp), rfl, by decide⟩ (mu_rcv (by decide) rfl (by decide)) H ?_
    rintro _ _ ⟨r12, D9, u10, x11, rfl, rfl, H⟩
    refine Or.inl ⟨_, rfl, ?_⟩
    refine mu_load mc_83_6 (by decide) rfl ?_
    refine mu_ic_ne mc_83_7 (fun c => ?_) (fun c => ?_)
    · replace H := H.1 c
      exact H
    · replace H := H.2 c
      refine mu_aload (r := some (0)) mc_83_8 (by decide) rfl ?_
      refine mt_call (args := [mm_P 0]) (rest := []) mc_83_9 (by decide) rfl rfl rfl ⟨Or.inl (by simp), rfl, by decide⟩ (mu_rcv (by decide) rfl (by decide)) H ?_
      rintro _ _ ⟨r16, D13, u14, x15, rfl, rfl, H⟩
      refine Or.inl ⟨_, rfl, ?_⟩
      refine mu_if_ne mc_83_10 (fun c => ?_) (fun c => ?_)
      · replace H := H.1 c
        exact H
      · replace H := H.2 c
        refine mu_load mc_83_11 (by decide) rfl ?_
        refine mu_const mc_83_12 (by decide) (by decide) ?_
        refine mu_ic_lt mc_83_13 (fun c => ?_) (fun c => ?_)
        · replace H := H.1 c
          exact H
        · replace H := H.2 c
          refine mu_const mc_83_14 (by decide) (by decide) ?_
          refine mu_rfl (n := 17) mc_83_15 (by decide) rfl rfl ?_
          refine mu_store mc_83_17 (by decide) (by simp) (ls' := [some (mm_P 0), some (mm_I (v1)), some (mm_I (r4)), some (mm_I ((1 : Int))), none, none]) rfl ?_
          exact H
  · exact Or.inr ⟨_, rfl, by decide, Or.inr ⟨mm_handN (by decide) _, by decide, H⟩⟩
theorem q_L_isMissing_16 {D : mm_D} {u : Int} {x : Nat × (Nat × List Int)} {Q : mm_O → mm_H → Prop} (v1 v2 : Int) (H : mt 83 18 [some (mm_P 0), some (mm_I (v1)), some (mm_I (v2)), some (mm_I ((0 : Int))), none, none] [] (mm_mk D u x) Q) : mt 83 16 [some (mm_P 0), some (mm_I (v1)), some (mm_I (v2)), none, none, none] [] (mm_mk D u x) Q := by
  refine mu_const mc_83_16 (by decide) (by decide) ?_
  refine mu_store mc_83_17 (by decide) (by simp) (ls' := [some (mm_P 0), some (mm_I (v1)), some (mm_I (v2)), some (mm_I ((0 : Int))), none, none]) rfl ?_
  exact H
theorem q_L_isMissing_18 {D : mm_D} {u : Int} {x : Nat × (Nat × List Int)} {Q : mm_O → mm_H → Prop} (v1 v2 v3 : Int) (H : mt 83 20 [some (mm_P 0), some (mm_I (v1)), some (mm_I (v2)), some (mm_I (v3)), some (mm_I ((0 : Int))), none] [] (mm_mk D u x) Q) : mt 83 18 [some (mm_P 0), some (mm_I (v1)), some (mm_I (v2)), some (mm_I (v3)), none, none] [] (mm_mk D u x) Q := by
  refine mu_const mc_83_18 (by decide) (by decide) ?_
  refine mu_store mc_83_19 (by decide) (by simp) (ls' := [some (mm_P 0), some (mm_I (v1)), some (mm_I (v2)), some (mm_I (v3)), some (mm_I ((0 : Int))), none]) rfl ?_
  exact H
theorem q_L_isMissing_20 {D : mm_D} {u : Int} {x : Nat × (Nat × List Int)} {Q : mm_O → mm_H → Prop} (v1 v2 v3 v4 : Int) (H : (((v2) ≤ (v4)) → mt 49 0 [some (mm_P 0), none] [] (mm_mk D u x) (mm_pIx (fun r4 D1 u2 x3 => (((v3) = 0) → mt 83 49 [some (mm_P 0), some (mm_I (v1)), some (mm_I (v2)), some (mm_I (v3)), some (mm_I (r4)), none] [] (mm_mk D1 u2 x3) Q) ∧ (¬ ((v3) = 0) → (((v2) = ((1 : Int))) → mt 83 47 [some (mm_P 0), some (mm_I (v1)), some (mm_I (v2)), some (mm_I (v3)), some (mm_I (r4)), none] [] (mm_mk D1 u2 x3) Q) ∧ (¬ ((v2) = ((1 : Int))) → mt 54 0 [some (mm_P 0)] [] (mm_mk D1 u2 x3) (mm_pI fun r12 D9 u10 x11 => (((r12) = 0) → mt 83 49 [some (mm_P 0), some (mm_I (v1)), some (mm_I (v2)), some (mm_I (v3)), some (mm_I (r4)), none] [] (mm_mk D9 u10 x11) Q) ∧ (¬ ((r12) = 0) → mt 83 47 [some (mm_P 0), some (mm_I (v1)), some (mm_I (v2)), some (mm_I (v3)), some (mm_I (r4)), none] [] (mm_mk D9 u10 x11) Q))))) (fun E8 D5 u6 x7 => Q (.inr E8) (mm_mk D5 u6 x7)))) ∧ (¬ ((v2) ≤ (v4)) → (((v3) = 0) → mt 83 32 [some (mm_P 0), some (mm_I (v1)), some (mm_I (v2)), some (mm_I (v3)), some (mm_I (v4)), none] [] (mm_mk D u x) Q) ∧ (¬ ((v3) = 0) → mt 53 0 [some (mm_P 0), some (mm_I (v4))] [] (mm_mk D u x) (mm_pIx (fun r16 D13 u14 x15 => (((v1) ≤ (r16)) → mt 83 32 [some (mm_P 0), some (mm_I (v1)), some (mm_I (v2)), some (mm_I (v3)), some (mm_I (v4)), none] [] (mm_mk D13 u14 x15) Q) ∧ (¬ ((v1) ≤ (r16)) → mt 83 34 [some (mm_P 0), some (mm_I (v1)), some (mm_I (v2)), some (mm_I ((1 : Int))), some (mm_I (v4)), none] [] (mm_mk D13 u14 x15) Q)) (fun E20 D17 u18 x19 => Q (.inr E20) (mm_mk D17 u18 x19)))))) : mt 83 20 [some (mm_P 0), some (mm_I (v1)), some (mm_I (v2)), some (mm_I (v3)), some (mm_I (v4)), none] [] (mm_mk D u x) Q := by
  refine mu_load mc_83_20 (by decide) rfl ?_
  refine mu_load mc_83_21 (by decide) rfl ?_
  refine mu_ic_ge mc_83_22 (fun c => ?_) (fun c => ?_)
  · replace H := H.1 c
    refine mu_aload (r := some (0)) mc_83_36 (by decide) rfl ?_
    refine mt_call (args := [mm_P 0]) (rest := []) mc_83_37 (by decide) rfl rfl rfl ⟨Or.inl (by simp), rfl, by decide⟩ (mu_rcv (by decide) rfl (by decide)) H ?_
    rintro _ _ (⟨r4, D1, u2, x3, rfl, rfl, H⟩ | ⟨E8, D5, u6, x7, rfl, rfl, H⟩)
    · refine Or.inl ⟨_, rfl, ?_⟩
      refine mu_store mc_83_38 (by decide) (by simp) (ls' := [some (mm_P 0), some (mm_I (v1)), some (mm_I (v2)), some (mm_I (v3)), some (mm_I (r4)), none]) rfl ?_
      refine mu_load mc_83_39 (by decide) rfl ?_
      refine mu_if_eq mc_83_40 (fun c => ?_) (fun c => ?_)
      · replace H := H.1 c
        exact H
      · replace H := H.2 c
        refine mu_load mc_83_41 (by decide) rfl ?_
        refine mu_const mc_83_42 (by decide) (by decide) ?_
        refine mu_ic_eq mc_83_43 (fun c => ?_) (fun c => ?_)
        · replace H := H.1 c
          exact H
        · replace H := H.2 c
          refine mu_aload (r := some (0)) mc_83_44 (by decide) rfl ?_
          refine mt_call (args := [mm_P 0]) (rest := []) mc_83_45 (by decide) rfl rfl rfl ⟨Or.inl (by simp), rfl, by decide⟩ (mu_rcv (by decide) rfl (by decide)) H ?_
          rintro _ _ ⟨r12, D9, u10, x11, rfl, rfl, H⟩
          refine Or.inl ⟨_, rfl, ?_⟩
          refine mu_if_eq mc_83_46 (fun c => ?_) (fun c => ?_)
          · replace H := H.1 c
            exact H
          · replace H := H.2 c
            exact H
    · exact Or.inr ⟨_, rfl, by decide, Or.inr ⟨mm_handN (by decide) _, by decide, H⟩⟩
  · replace H := H.2 c
    refine mu_load mc_83_23 (by decide) rfl ?_
    refine mu_if_eq mc_83_24 (fun c => ?_) (fun c => ?_)
    · replace H := H.1 c
      exact H
    · replace H := H.2 c
      refine mu_aload (r := some (0)) mc_83_25 (by decide) rfl ?_
      refine mu_load mc_83_26 (by decide) rfl ?_
      refine mt_call (args := [mm_P 0, mm_I (v4)]) (rest := []) mc_83_27 (by decide) rfl rfl rfl ⟨Or.inl (by simp), rfl, by decide⟩ (mu_rcv (by decide) rfl (by decide)) H ?_
      rintro _ _ (⟨r16, D13, u14, x15, rfl, rfl, H⟩ | ⟨E20, D17, u18, x19, rfl, rfl, H⟩)
      · refine Or.inl ⟨_, rfl, ?_⟩
        refine mu_load mc_83_28 (by decide) rfl ?_
        refine mu_ic_ge mc_83_29 (fun c => ?_) (fun c => ?_)
        · replace H := H.1 c
          exact H
        · replace H := H.2 c
          refine mu_const mc_83_30 (by decide) (by decide) ?_
          refine mu_rfl (n := 33) mc_83_31 (by decide) rfl rfl ?_
          refine mu_store mc_83_33 (by decide) (by simp) (ls' := [some (mm_P 0), some (mm_I (v1)), some (mm_I (v2)), some (mm_I ((1 : Int))), some (mm_I (v4)), none]) rfl ?_
          exact H
      · exact Or.inr ⟨_, rfl, by decide, Or.inr ⟨mm_handN (by decide) _, by decide, H⟩⟩
theorem q_L_isMissing_32 {D : mm_D} {u : Int} {x : Nat × (Nat × List Int)} {Q : mm_O → mm_H → Prop} (v1 v2 v3 v4 : Int) (H : mt 83 34 [some (mm_P 0), some (mm_I (v1)), some (mm_I (v2)), some (mm_I ((0 : Int))), some (mm_I (v4)), none] [] (mm_mk D u x) Q) : mt 83 32 [some (mm_P 0), some (mm_I (v1)), some (mm_I (v2)), some (mm_I (v3)), some (mm_I (v4)), none] [] (mm_mk D u x) Q := by
  refine mu_const mc_83_32 (by decide) (by decide) ?_
  refine mu_store mc_83_33 (by decide) (by simp) (ls' := [some (mm_P 0), some (mm_I (v1)), some (mm_I (v2)), some (mm_I ((0 : Int))), some (mm_I (v4)), none]) rfl ?_
  exact H
theorem q_L_isMissing_34 {D : mm_D} {u : Int} {x : Nat × (Nat × List Int)} {Q : mm_O → mm_H → Prop} (v1 v2 v3 v4 : Int) (H : (mm_rng ((v4) + (1 : Int))) ∧ (mt 83 20 [some (mm_P 0), some (mm_I (v1)), some (mm_I (v2)), some (mm_I (v3)), some (mm_I ((v4) + (1 : Int))), none] [] (mm_mk D u x) Q)) : mt 83 34 [some (mm_P 0), some (mm_I (v1)), some (mm_I (v2)), some (mm_I (v3)), some (mm_I (v4)), none] [] (mm_mk D u x) Q := by
  have h1 := H.1
  replace H := H.2
  refine mu_iinc mc_83_34 rfl h1 (ls' := [some (mm_P 0), some (mm_I (v1)), some (mm_I (v2)), some (mm_I (v3)), some (mm_I ((v4) + (1 : Int))), none]) rfl ?_
  refine mu_rfl (n := 20) mc_83_35 (by decide) rfl rfl ?_
  exact H
theorem q_L_isMissing_47 {D : mm_D} {u : Int} {x : Nat × (Nat × List Int)} {Q : mm_O → mm_H → Prop} (v1 v2 v3 v4 : Int) (H : mt 83 51 [some (mm_P 0), some (mm_I (v1)), some (mm_I (v2)), some (mm_I ((1 : Int))), some (mm_I (v4)), none] [] (mm_mk D u x) Q) : mt 83 47 [some (mm_P 0), some (mm_I (v1)), some (mm_I (v2)), some (mm_I (v3)), some (mm_I (v4)), none] [] (mm_mk D u x) Q := by
  refine mu_const mc_83_47 (by decide) (by decide) ?_
  refine mu_rfl (n := 50) mc_83_48 (by decide) rfl rfl ?_
  refine mu_store mc_83_50 (by decide) (by simp) (ls' := [some (mm_P 0), some (mm_I (v1)), some (mm_I (v2)), some (mm_I ((1 : Int))), some (mm_I (v4)), none]) rfl ?_
  exact H
theorem q_L_isMissing_49 {D : mm_D} {u : Int} {x : Nat × (Nat × List Int)} {Q : mm_O → mm_H → Prop} (v1 v2 v3 v4 : Int) (H : mt 83 51 [some (mm_P 0), some (mm_I (v1)), some (mm_I (v2)), some (mm_I ((0 : Int))), some (mm_I (v4)), none] [] (mm_mk D u x) Q) : mt 83 49 [some (mm_P 0), some (mm_I (v1)), some (mm_I (v2)), some (mm_I (v3)), some (mm_I (v4)), none] [] (mm_mk D u x) Q := by
  refine mu_const mc_83_49 (by decide) (by decide) ?_
  refine mu_store mc_83_50 (by decide) (by simp) (ls' := [some (mm_P 0), some (mm_I (v1)), some (mm_I (v2)), some (mm_I ((0 : Int))), some (mm_I (v4)), none]) rfl ?_
  exact H
theorem q_L_isMissing_51 {D : mm_D} {u : Int} {x : Nat × (Nat × List Int)} {Q : mm_O → mm_H → Prop} (v1 v2 v3 v4 : Int) (H : (((v4) ≤ 0) → mt 83 61 [some (mm_P 0), some (mm_I (v1)), some (mm_I (v2)), some (mm_I (v3)), some (mm_I (v4)), some (mm_I ((0 : Int)))] [] (mm_mk D u x) Q) ∧ (¬ ((v4) ≤ 0) → (mm_rng ((v4) - ((1 : Int)))) ∧ (mt 48 0 [some (mm_P 0), some (mm_I ((v4) - ((1 : Int))))] [] (mm_mk D u x) (mm_pIx (fun r5 D2 u3 x4 => mt 83 61 [some (mm_P 0), some (mm_I (v1)), some (mm_I (v2)), some (mm_I (v3)), some (mm_I (v4)), some (mm_I (r5))] [] (mm_mk D2 u3 x4) Q) (fun E9 D6 u7 x8 => Q (.inr E9) (mm_mk D6 u7 x8)))))) : mt 83 51 [some (mm_P 0), some (mm_I (v1)), some (mm_I (v2)), some (mm_I (v3)), some (mm_I (v4)), none] [] (mm_mk D u x) Q := by
  refine mu_load mc_83_51 (by decide) rfl ?_
  refine mu_if_le mc_83_52 (fun c => ?_) (fun c => ?_)
  · replace H := H.1 c
    refine mu_const mc_83_59 (by decide) (by decide) ?_
    refine mu_store mc_83_60 (by decide) (by simp) (ls' := [some (mm_P 0), some (mm_I (v1)), some (mm_I (v2)), some (mm_I (v3)), some (mm_I (v4)), some (mm_I ((0 : Int)))]) rfl ?_
    exact H
  · replace H := H.2 c
    refine mu_aload (r := some (0)) mc_83_53 (by decide) rfl ?_
    refine mu_load mc_83_54 (by decide) rfl ?_
    refine mu_const mc_83_55 (by decide) (by decide) ?_
    have h1 := H.1
    replace H := H.2
    refine mu_isub mc_83_56 h1 ?_
    refine mt_call (args := [mm_P 0, mm_I ((v4) - ((1 : Int)))]) (rest := []) mc_83_57 (by decide) rfl rfl rfl ⟨Or.inl (by simp), rfl, by decide⟩ (mu_rcv (by decide) rfl (by decide)) H ?_
    rintro _ _ (⟨r5, D2, u3, x4, rfl, rfl, H⟩ | ⟨E9, D6, u7, x8, rfl, rfl, H⟩)
    · refine Or.inl ⟨_, rfl, ?_⟩
      refine mu_rfl (n := 60) mc_83_58 (by decide) rfl rfl ?_
      refine mu_store mc_83_60 (by decide) (by simp) (ls' := [some (mm_P 0), some (mm_I (v1)), some (mm_I (v2)), some (mm_I (v3)), some (mm_I (v4)), some (mm_I (r5))]) rfl ?_
      exact H
    · exact Or.inr ⟨_, rfl, by decide, Or.inr ⟨mm_handN (by decide) _, by decide, H⟩⟩
theorem q_L_isMissing_61 {D : mm_D} {u : Int} {x : Nat × (Nat × List Int)} {Q : mm_O → mm_H → Prop} (v1 v2 v3 v4 v5 : Int) (H : (((v3) = 0) → mt 83 70 [some (mm_P 0), some (mm_I (v1)), some (mm_I (v2)), some (mm_I (v3)), some (mm_I (v4)), some (mm_I (v5))] [] (mm_mk D u x) Q) ∧ (¬ ((v3) = 0) → (((v4) = 0) → mt 83 68 [some (mm_P 0), some (mm_I (v1)), some (mm_I (v2)), some (mm_I (v3)), some (mm_I (v4)), some (mm_I (v5))] [] (mm_mk D u x) Q) ∧ (¬ ((v4) = 0) → mt 54 0 [some (mm_P 0)] [] (mm_mk D u x) (mm_pI fun r4 D1 u2 x3 => (((r4) = 0) → mt 83 70 [some (mm_P 0), some (mm_I (v1)), some (mm_I (v2)), some (mm_I (v3)), some (mm_I (v4)), some (mm_I (v5))] [] (mm_mk D1 u2 x3) Q) ∧ (¬ ((r4) = 0) → mt 83 68 [some (mm_P 0), some (mm_I (v1)), some (mm_I (v2)), some (mm_I (v3)), some (mm_I (v4)), some (mm_I (v5))] [] (mm_mk D1 u2 x3) Q))))) : mt 83 61 [some (mm_P 0), some (mm_I (v1)), some (mm_I (v2)), some (mm_I (v3)), some (mm_I (v4)), some (mm_I (v5))] [] (mm_mk D u x) Q := by
  refine mu_load mc_83_61 (by decide) rfl ?_
  refine mu_if_eq mc_83_62 (fun c => ?_) (fun c => ?_)
  · replace H := H.1 c
    exact H
  · replace H := H.2 c
    refine mu_load mc_83_63 (by decide) rfl ?_
    refine mu_if_eq mc_83_64 (fun c => ?_) (fun c => ?_)
    · replace H := H.1 c
      exact H
    · replace H := H.2 c
      refine mu_aload (r := some (0)) mc_83_65 (by decide) rfl ?_
      refine mt_call (args := [mm_P 0]) (rest := []) mc_83_66 (by decide) rfl rfl rfl ⟨Or.inl (by simp), rfl, by decide⟩ (mu_rcv (by decide) rfl (by decide)) H ?_
      rintro _ _ ⟨r4, D1, u2, x3, rfl, rfl, H⟩
      refine Or.inl ⟨_, rfl, ?_⟩
      refine mu_if_eq mc_83_67 (fun c => ?_) (fun c => ?_)
      · replace H := H.1 c
        exact H
      · replace H := H.2 c
        exact H
theorem q_L_isMissing_68 {D : mm_D} {u : Int} {x : Nat × (Nat × List Int)} {Q : mm_O → mm_H → Prop} (v1 v2 v3 v4 v5 : Int) (H : Q (.inl (some (mm_I ((1 : Int))))) (mm_mk D u x)) : mt 83 68 [some (mm_P 0), some (mm_I (v1)), some (mm_I (v2)), some (mm_I (v3)), some (mm_I (v4)), some (mm_I (v5))] [] (mm_mk D u x) Q := by
  refine mu_const mc_83_68 (by decide) (by decide) ?_
  refine mu_rfl (n := 71) mc_83_69 (by decide) rfl rfl ?_
  exact mt_retB mc_83_71 (by decide) H
theorem q_L_isMissing_70 {D : mm_D} {u : Int} {x : Nat × (Nat × List Int)} {Q : mm_O → mm_H → Prop} (v1 v2 v3 v4 v5 : Int) (H : Q (.inl (some (mm_I ((0 : Int))))) (mm_mk D u x)) : mt 83 70 [some (mm_P 0), some (mm_I (v1)), some (mm_I (v2)), some (mm_I (v3)), some (mm_I (v4)), some (mm_I (v5))] [] (mm_mk D u x) Q := by
  refine mu_const mc_83_70 (by decide) (by decide) ?_
  exact mt_retB mc_83_71 (by decide) H

theorem q_L_law_4 {D : mm_D} {u : Int} {x : Nat × (Nat × List Int)} {Q : mm_O → mm_H → Prop} (H : mt 64 0 [some (mm_P 0)] [] (mm_mk D u x) (mm_pI fun r4 D1 u2 x3 => ((¬ (r4) = 0) → mt 84 24 [some (mm_P 999), some (mm_P 0), none, none, none, none] [] (mm_mk D1 u2 x3) Q) ∧ (¬ (¬ (r4) = 0) → mt 61 0 [some (mm_P 0)] [] (mm_mk D1 u2 x3) (mm_pI fun r8 D5 u6 x7 => ((¬ (r8) = 0) → mt 84 24 [some (mm_P 999), some (mm_P 0), none, none, none, none] [] (mm_mk D5 u6 x7) Q) ∧ (¬ (¬ (r8) = 0) → mt 69 0 [some (mm_P 0), some (mm_I ((3 : Int)))] [] (mm_mk D5 u6 x7) (mm_pIx (fun r12 D9 u10 x11 => ((¬ (r12) = ((1 : Int))) → mt 84 24 [some (mm_P 999), some (mm_P 0), none, none, none, none] [] (mm_mk D9 u10 x11) Q) ∧ (¬ (¬ (r12) = ((1 : Int))) → mt 50 0 [some (mm_P 0), none] [] (mm_mk D9 u10 x11) (mm_pI fun r20 D17 u18 x19 => ((¬ (r20) = ((1 : Int))) → mt 84 24 [some (mm_P 999), some (mm_P 0), none, none, none, none] [] (mm_mk D17 u18 x19) Q) ∧ (¬ (¬ (r20) = ((1 : Int))) → mt 80 0 [some (mm_P 0), none, none, none, none, none, none, none, none, none] [] (mm_mk D17 u18 x19) (mm_pIx (fun r24 D21 u22 x23 => (((r24) = 0) → mt 84 24 [some (mm_P 999), some (mm_P 0), none, none, none, none] [] (mm_mk D21 u22 x23) Q) ∧ (¬ ((r24) = 0) → mt 84 26 [some (mm_P 999), some (mm_P 0), some (mm_I ((1 : Int))), none, none, none] [] (mm_mk D21 u22 x23) Q)) (fun E28 D25 u26 x27 => Q (.inr E28) (mm_mk D25 u26 x27))))))) (fun E16 D13 u14 x15 => Q (.inr E16) (mm_mk D13 u14 x15)))))))) : mt 84 4 [some (mm_P 999), some (mm_P 0), none, none, none, none] [] (mm_mk D u x) Q := by
  refine mu_aload (r := some (0)) mc_84_4 (by decide) rfl ?_
  refine mt_call (args := [mm_P 0]) (rest := []) mc_84_5 (by decide) rfl rfl rfl ⟨Or.inl (by simp), rfl, by decide⟩ (mu_rcv (by decide) rfl (by decide)) H ?_
  rintro _ _ ⟨r4, D1, u2, x3, rfl, rfl, H⟩
  refine Or.inl ⟨_, rfl, ?_⟩
  refine mu_if_ne mc_84_6 (fun c => ?_) (fun c => ?_)
  · replace H := H.1 c
    exact H
  · replace H := H.2 c
    refine mu_aload (r := some (0)) mc_84_7 (by decide) rfl ?_
    refine mt_call (args := [mm_P 0]) (rest := []) mc_84_8 (by decide) rfl rfl rfl ⟨Or.inl (by simp), rfl, by decide⟩ (mu_rcv (by decide) rfl (by decide)) H ?_
    rintro _ _ ⟨r8, D5, u6, x7, rfl, rfl, H⟩
    refine Or.inl ⟨_, rfl, ?_⟩
    refine mu_if_ne mc_84_9 (fun c => ?_) (fun c => ?_)
    · replace H := H.1 c
      exact H
    · replace H := H.2 c
      refine mu_aload (r := some (0)) mc_84_10 (by decide) rfl ?_
      refine mu_const mc_84_11 (by decide) (by decide) ?_
      refine mt_call (args := [mm_P 0, mm_I ((3 : Int))]) (rest := []) mc_84_12 (by decide) rfl rfl rfl ⟨Or.inl (by simp), rfl, by decide⟩ (mu_rcv (by decide) rfl (by decide)) H ?_
      rintro _ _ (⟨r12, D9, u10, x11, rfl, rfl, H⟩ | ⟨E16, D13, u14, x15, rfl, rfl, H⟩)
      · refine Or.inl ⟨_, rfl, ?_⟩
        refine mu_const mc_84_13 (by decide) (by decide) ?_
        refine mu_ic_ne mc_84_14 (fun c => ?_) (fun c => ?_)
        · replace H := H.1 c
          exact H
        · replace H := H.2 c
          refine mu_aload (r := some (0)) mc_84_15 (by decide) rfl ?_
          refine mt_call (args := [mm_P 0]) (rest := []) mc_84_16 (by decide) rfl rfl rfl ⟨Or.inl (by simp), rfl, by decide⟩ (mu_rcv (by decide) rfl (by decide)) H ?_
          rintro _ _ ⟨r20, D17, u18, x19, rfl, rfl, H⟩
          refine Or.inl ⟨_, rfl, ?_⟩
          refine mu_const mc_84_17 (by decide) (by decide) ?_
          refine mu_ic_ne mc_84_18 (fun c => ?_) (fun c => ?_)
          · replace H := H.1 c
            exact H
          · replace H := H.2 c
            refine mu_aload (r := some (0)) mc_84_19 (by decide) rfl ?_
            refine mt_call (args := [mm_P 0]) (rest := []) mc_84_20 (by decide) rfl rfl rfl ⟨Or.inl (by simp), rfl, by decide⟩ rfl H ?_
            rintro _ _ (⟨r24, D21, u22, x23, rfl, rfl, H⟩ | ⟨E28, D25, u26, x27, rfl, rfl, H⟩)
            · refine Or.inl ⟨_, rfl, ?_⟩
              refine mu_if_eq mc_84_21 (fun c => ?_) (fun c => ?_)
              · replace H := H.1 c
                exact H
              · replace H := H.2 c
                refine mu_const mc_84_22 (by decide) (by decide) ?_
                refine mu_rfl (n := 25) mc_84_23 (by decide) rfl rfl ?_
                refine mu_store mc_84_25 (by decide) (by simp) (ls' := [some (mm_P 999), some (mm_P 0), some (mm_I ((1 : Int))), none, none, none]) rfl ?_
                exact H
            · exact Or.inr ⟨_, rfl, by decide, Or.inr ⟨mm_handN (by decide) _, by decide, H⟩⟩
      · exact Or.inr ⟨_, rfl, by decide, Or.inr ⟨mm_handN (by decide) _, by decide, H⟩⟩
theorem q_L_law_24 {D : mm_D} {u : Int} {x : Nat × (Nat × List Int)} {Q : mm_O → mm_H → Prop} (H : mt 84 26 [some (mm_P 999), some (mm_P 0), some (mm_I ((0 : Int))), none, none, none] [] (mm_mk D u x) Q) : mt 84 24 [some (mm_P 999), some (mm_P 0), none, none, none, none] [] (mm_mk D u x) Q := by
  refine mu_const mc_84_24 (by decide) (by decide) ?_
  refine mu_store mc_84_25 (by decide) (by simp) (ls' := [some (mm_P 999), some (mm_P 0), some (mm_I ((0 : Int))), none, none, none]) rfl ?_
  exact H
theorem q_L_law_26 {D : mm_D} {u : Int} {x : Nat × (Nat × List Int)} {Q : mm_O → mm_H → Prop} (v2 : Int) (H : ∃ (z1 : Int) (t2 : List Int), x.2.2 = z1 :: t2 ∧ ((0 ≤ ((t2.length : Int)) ∧ 0 < ((3 : Int))) ∧ ((mm_rng (((t2.length : Int)) / ((3 : Int)))) ∧ ((((((t2.length : Int)) / ((3 : Int))) ≤ ((40 : Int))) → ∃ (z6 : Int) (t7 : List Int), x.2.2 = z6 :: t7 ∧ ((0 ≤ ((t7.length : Int)) ∧ 0 < ((3 : Int))) ∧ ((mm_rng (((t7.length : Int)) / ((3 : Int)))) ∧ (mt 84 39 [some (mm_P 999), some (mm_P 0), some (mm_I (v2)), some (mm_I (((t7.length : Int)) / ((3 : Int)))), none, none] [] (mm_mk D u x) Q)))) ∧ (¬ ((((t2.length : Int)) / ((3 : Int))) ≤ ((40 : Int))) → mt 84 39 [some (mm_P 999), some (mm_P 0), some (mm_I (v2)), some (mm_I ((40 : Int))), none, none] [] (mm_mk D u x) Q))))) : mt 84 26 [some (mm_P 999), some (mm_P 0), some (mm_I (v2)), none, none, none] [] (mm_mk D u x) Q := by
  refine mu_aload (r := some (999)) mc_84_26 (by decide) rfl ?_
  obtain ⟨z1, t2, h3, H⟩ := H
  refine mu_alenS mc_84_27 h3 ?_
  refine mu_const mc_84_28 (by decide) (by decide) ?_
  have h4 := H.1
  replace H := H.2
  have h5 := H.1
  replace H := H.2
  refine mu_idiv mc_84_29 h4 h5 ?_
  refine mu_const mc_84_30 (by decide) (by decide) ?_
  refine mu_ic_le mc_84_31 (fun c => ?_) (fun c => ?_)
  · replace H := H.1 c
    refine mu_aload (r := some (999)) mc_84_34 (by decide) rfl ?_
    obtain ⟨z6, t7, h8, H⟩ := H
    refine mu_alenS mc_84_35 h8 ?_
    refine mu_const mc_84_36 (by decide) (by decide) ?_
    have h9 := H.1
    replace H := H.2
    have h10 := H.1
    replace H := H.2
    refine mu_idiv mc_84_37 h9 h10 ?_
    refine mu_store mc_84_38 (by decide) (by simp) (ls' := [some (mm_P 999), some (mm_P 0), some (mm_I (v2)), some (mm_I (((t7.length : Int)) / ((3 : Int)))), none, none]) rfl ?_
    exact H
  · replace H := H.2 c
    refine mu_const mc_84_32 (by decide) (by decide) ?_
    refine mu_rfl (n := 38) mc_84_33 (by decide) rfl rfl ?_
    refine mu_store mc_84_38 (by decide) (by simp) (ls' := [some (mm_P 999), some (mm_P 0), some (mm_I (v2)), some (mm_I ((40 : Int))), none, none]) rfl ?_
    exact H
theorem q_L_law_39 {D : mm_D} {u : Int} {x : Nat × (Nat × List Int)} {Q : mm_O → mm_H → Prop} (v2 v3 : Int) (H : mt 84 41 [some (mm_P 999), some (mm_P 0), some (mm_I (v2)), some (mm_I (v3)), some (mm_I ((0 : Int))), none] [] (mm_mk D u x) Q) : mt 84 39 [some (mm_P 999), some (mm_P 0), some (mm_I (v2)), some (mm_I (v3)), none, none] [] (mm_mk D u x) Q := by
  refine mu_const mc_84_39 (by decide) (by decide) ?_
  refine mu_store mc_84_40 (by decide) (by simp) (ls' := [some (mm_P 999), some (mm_P 0), some (mm_I (v2)), some (mm_I (v3)), some (mm_I ((0 : Int))), none]) rfl ?_
  exact H
theorem q_L_law_41 {D : mm_D} {u : Int} {x : Nat × (Nat × List Int)} {Q : mm_O → mm_H → Prop} (v2 v3 v4 : Int) (o5 : Option mm_V) (H : (((v3) ≤ (v4)) → mt 84 124 [some (mm_P 999), some (mm_P 0), some (mm_I (v2)), some (mm_I (v3)), some (mm_I (v4)), o5] [] (mm_mk D u x) Q) ∧ (¬ ((v3) ≤ (v4)) → (((v2) = 0) → mt 84 124 [some (mm_P 999), some (mm_P 0), some (mm_I (v2)), some (mm_I (v3)), some (mm_I (v4)), o5] [] (mm_mk D u x) Q) ∧ (¬ ((v2) = 0) → (mm_rng (((3 : Int)) * (v4))) ∧ ((mm_rng ((((3 : Int)) * (v4)) + ((2 : Int)))) ∧ (mt 42 0 [some (mm_P 999), some (mm_I ((((3 : Int)) * (v4)) + ((2 : Int))))] [] (mm_mk D u x) (mm_pI fun r6 D3 u4 x5 => (mm_rng (((3 : Int)) * (v4))) ∧ (mt 42 0 [some (mm_P 999), some (mm_I (((3 : Int)) * (v4)))] [] (mm_mk D3 u4 x5) (mm_pI fun r11 D8 u9 x10 => (mm_rng (((3 : Int)) * (v4))) ∧ ((mm_rng ((((3 : Int)) * (v4)) + ((1 : Int)))) ∧ (mt 42 0 [some (mm_P 999), some (mm_I ((((3 : Int)) * (v4)) + ((1 : Int))))] [] (mm_mk D8 u9 x10) (mm_pI fun r17 D14 u15 x16 => mt 77 0 [some (mm_P 0), some (mm_I (r11)), some (mm_I (r17)), some (mm_I (r6)), none, none, none, none] [] (mm_mk D14 u15 x16) (mm_pIx (fun r21 D18 u19 x20 => (((r21) = 0) → mt 84 75 [some (mm_P 999), some (mm_P 0), some (mm_I (v2)), some (mm_I (v3)), some (mm_I (v4)), some (mm_I (r6))] [] (mm_mk D18 u19 x20) Q) ∧ (¬ ((r21) = 0) → mt 80 0 [some (mm_P 0), none, none, none, none, none, none, none, none, none] [] (mm_mk D18 u19 x20) (mm_pIx (fun r29 D26 u27 x28 => (((r29) = 0) → mt 84 75 [some (mm_P 999), some (mm_P 0), some (mm_I (v2)), some (mm_I (v3)), some (mm_I (v4)), some (mm_I (r6))] [] (mm_mk D26 u27 x28) Q) ∧ (¬ ((r29) = 0) → mt 84 77 [some (mm_P 999), some (mm_P 0), some (mm_I ((1 : Int))), some (mm_I (v3)), some (mm_I (v4)), some (mm_I (r6))] [] (mm_mk D26 u27 x28) Q)) (fun E33 D30 u31 x32 => Q (.inr E33) (mm_mk D30 u31 x32))))) (fun E25 D22 u23 x24 => Q (.inr E25) (mm_mk D22 u23 x24)))))))))))))) : mt 84 41 [some (mm_P 999), some (mm_P 0), some (mm_I (v2)), some (mm_I (v3)), some (mm_I (v4)), o5] [] (mm_mk D u x) Q := by
  refine mu_load mc_84_41 (by decide) rfl ?_
  refine mu_load mc_84_42 (by decide) rfl ?_
  refine mu_ic_ge mc_84_43 (fun c => ?_) (fun c => ?_)
  · replace H := H.1 c
    exact H
  · replace H := H.2 c
    refine mu_load mc_84_44 (by decide) rfl ?_
    refine mu_if_eq mc_84_45 (fun c => ?_) (fun c => ?_)
    · replace H := H.1 c
      exact H
    · replace H := H.2 c
      refine mu_aload (r := some (999)) mc_84_46 (by decide) rfl ?_
      refine mu_const mc_84_47 (by decide) (by decide) ?_
      refine mu_load mc_84_48 (by decide) rfl ?_
      have h1 := H.1
      replace H := H.2
      refine mu_imul mc_84_49 h1 ?_
      refine mu_const mc_84_50 (by decide) (by decide) ?_
      have h2 := H.1
      replace H := H.2
      refine mu_iadd mc_84_51 h2 ?_
      refine mt_call (args := [mm_P 999, mm_I ((((3 : Int)) * (v4)) + ((2 : Int)))]) (rest := []) mc_84_52 (by decide) rfl rfl rfl ⟨Or.inl (by simp), rfl, by decide⟩ rfl H ?_
      rintro _ _ ⟨r6, D3, u4, x5, rfl, rfl, H⟩
      refine Or.inl ⟨_, rfl, ?_⟩
      refine mu_store mc_84_53 (by decide) (by simp) (ls' := [some (mm_P 999), some (mm_P 0), some (mm_I (v2)), some (mm_I (v3)), some (mm_I (v4)), some (mm_I (r6))]) rfl ?_
      refine mu_aload (r := some (0)) mc_84_54 (by decide) rfl ?_
      refine mu_aload (r := some (999)) mc_84_55 (by decide) rfl ?_
      refine mu_const mc_84_56 (by decide) (by decide) ?_
      refine mu_load mc_84_57 (by decide) rfl ?_
      have h7 := H.1
      replace H := H.2
      refine mu_imul mc_84_58 h7 ?_
      refine mt_call (args := [mm_P 999, mm_I (((3 : Int)) * (v4))]) (rest := [mm_P 0]) mc_84_59 (by decide) rfl rfl rfl ⟨Or.inl (by simp), rfl, by decide⟩ rfl H ?_
      rintro _ _ ⟨r11, D8, u9, x10, rfl, rfl, H⟩
      refine Or.inl ⟨_, rfl, ?_⟩
      refine mu_aload (r := some (999)) mc_84_60 (by decide) rfl ?_
      refine mu_const mc_84_61 (by decide) (by decide) ?_
      refine mu_load mc_84_62 (by decide) rfl ?_
      have h12 := H.1
      replace H := H.2
      refine mu_imul mc_84_63 h12 ?_
      refine mu_const mc_84_64 (by decide) (by decide) ?_
      have h13 := H.1
      replace H := H.2
      refine mu_iadd mc_84_65 h13 ?_
      refine mt_call (args := [mm_P 999, mm_I ((((3 : Int)) * (v4)) + ((1 : Int)))]) (rest := [mm_I (r11), mm_P 0]) mc_84_66 (by decide) rfl rfl rfl ⟨Or.inl (by simp), rfl, by decide⟩ rfl H ?_
      rintro _ _ ⟨r17, D14, u15, x16, rfl, rfl, H⟩
      refine Or.inl ⟨_, rfl, ?_⟩
      refine mu_load mc_84_67 (by decide) rfl ?_
      refine mt_call (args := [mm_P 0, mm_I (r11), mm_I (r17), mm_I (r6)]) (rest := []) mc_84_68 (by decide) rfl rfl rfl ⟨Or.inl (by simp), rfl, by decide⟩ rfl H ?_
      rintro _ _ (⟨r21, D18, u19, x20, rfl, rfl, H⟩ | ⟨E25, D22, u23, x24, rfl, rfl, H⟩)
      · refine Or.inl ⟨_, rfl, ?_⟩
        refine mu_if_eq mc_84_69 (fun c => ?_) (fun c => ?_)
        · replace H := H.1 c
          exact H
        · replace H := H.2 c
          refine mu_aload (r := some (0)) mc_84_70 (by decide) rfl ?_
          refine mt_call (args := [mm_P 0]) (rest := []) mc_84_71 (by decide) rfl rfl rfl ⟨Or.inl (by simp), rfl, by decide⟩ rfl H ?_
          rintro _ _ (⟨r29, D26, u27, x28, rfl, rfl, H⟩ | ⟨E33, D30, u31, x32, rfl, rfl, H⟩)
          · refine Or.inl ⟨_, rfl, ?_⟩
            refine mu_if_eq mc_84_72 (fun c => ?_) (fun c => ?_)
            · replace H := H.1 c
              exact H
            · replace H := H.2 c
              refine mu_const mc_84_73 (by decide) (by decide) ?_
              refine mu_rfl (n := 76) mc_84_74 (by decide) rfl rfl ?_
              refine mu_store mc_84_76 (by decide) (by simp) (ls' := [some (mm_P 999), some (mm_P 0), some (mm_I ((1 : Int))), some (mm_I (v3)), some (mm_I (v4)), some (mm_I (r6))]) rfl ?_
              exact H
          · exact Or.inr ⟨_, rfl, by decide, Or.inr ⟨mm_handN (by decide) _, by decide, H⟩⟩
      · exact Or.inr ⟨_, rfl, by decide, Or.inr ⟨mm_handN (by decide) _, by decide, H⟩⟩
theorem q_L_law_75 {D : mm_D} {u : Int} {x : Nat × (Nat × List Int)} {Q : mm_O → mm_H → Prop} (v2 v3 v4 v5 : Int) (H : mt 84 77 [some (mm_P 999), some (mm_P 0), some (mm_I ((0 : Int))), some (mm_I (v3)), some (mm_I (v4)), some (mm_I (v5))] [] (mm_mk D u x) Q) : mt 84 75 [some (mm_P 999), some (mm_P 0), some (mm_I (v2)), some (mm_I (v3)), some (mm_I (v4)), some (mm_I (v5))] [] (mm_mk D u x) Q := by
  refine mu_const mc_84_75 (by decide) (by decide) ?_
  refine mu_store mc_84_76 (by decide) (by simp) (ls' := [some (mm_P 999), some (mm_P 0), some (mm_I ((0 : Int))), some (mm_I (v3)), some (mm_I (v4)), some (mm_I (v5))]) rfl ?_
  exact H
theorem q_L_law_77 {D : mm_D} {u : Int} {x : Nat × (Nat × List Int)} {Q : mm_O → mm_H → Prop} (v2 v3 v4 v5 : Int) (H : (((v2) = 0) → mt 84 122 [some (mm_P 999), some (mm_P 0), some (mm_I (v2)), some (mm_I (v3)), some (mm_I (v4)), some (mm_I (v5))] [] (mm_mk D u x) Q) ∧ (¬ ((v2) = 0) → (0 ≤ (v4) ∧ 0 < ((8 : Int))) ∧ ((mm_rng ((v4) % ((8 : Int)))) ∧ (((¬ ((v4) % ((8 : Int))) = ((7 : Int))) → mt 84 122 [some (mm_P 999), some (mm_P 0), some (mm_I (v2)), some (mm_I (v3)), some (mm_I (v4)), some (mm_I (v5))] [] (mm_mk D u x) Q) ∧ (¬ (¬ ((v4) % ((8 : Int))) = ((7 : Int))) → mt 81 0 [some (mm_P 0), none, none, none, none, none, none] [] (mm_mk D u x) (mm_pIx (fun r6 D3 u4 x5 => (((r6) = 0) → mt 84 120 [some (mm_P 999), some (mm_P 0), some (mm_I (v2)), some (mm_I (v3)), some (mm_I (v4)), some (mm_I (v5))] [] (mm_mk D3 u4 x5) Q) ∧ (¬ ((r6) = 0) → mt 45 0 [some (mm_P 0)] [] (mm_mk D3 u4 x5) (mm_pI fun r14 D11 u12 x13 => (0 ≤ ((1 : Int)) ∧ 0 ≤ (r14) ∧ (r14) < 31) ∧ ((mm_rng (((1 : Int)) * 2 ^ (r14).toNat)) ∧ ((mm_rng ((((1 : Int)) * 2 ^ (r14).toNat) - ((1 : Int)))) ∧ ((0 ≤ (v5) ∧ 0 < ((((1 : Int)) * 2 ^ (r14).toNat) - ((1 : Int)))) ∧ ((mm_rng ((v5) % ((((1 : Int)) * 2 ^ (r14).toNat) - ((1 : Int))))) ∧ ((mm_rng (((1 : Int)) + ((v5) % ((((1 : Int)) * 2 ^ (r14).toNat) - ((1 : Int)))))) ∧ (mt 82 0 [some (mm_P 0), some (mm_I (((1 : Int)) + ((v5) % ((((1 : Int)) * 2 ^ (r14).toNat) - ((1 : Int)))))), some (mm_I ((0 : Int))), none, none, none, none, none, none, none] [] (mm_mk D11 u12 x13) (mm_pIx (fun r24 D21 u22 x23 => (((r24) = 0) → mt 84 120 [some (mm_P 999), some (mm_P 0), some (mm_I (v2)), some (mm_I (v3)), some (mm_I (v4)), some (mm_I (v5))] [] (mm_mk D21 u22 x23) Q) ∧ (¬ ((r24) = 0) → (0 ≤ (v5) ∧ 0 < ((4 : Int))) ∧ ((mm_rng ((v5) % ((4 : Int)))) ∧ ((mm_rng (((1 : Int)) + ((v5) % ((4 : Int))))) ∧ (mt 82 0 [some (mm_P 0), some (mm_I ((0 : Int))), some (mm_I (((1 : Int)) + ((v5) % ((4 : Int))))), none, none, none, none, none, none, none] [] (mm_mk D21 u22 x23) (mm_pIx (fun r35 D32 u33 x34 => (((r35) = 0) → mt 84 120 [some (mm_P 999), some (mm_P 0), some (mm_I (v2)), some (mm_I (v3)), some (mm_I (v4)), some (mm_I (v5))] [] (mm_mk D32 u33 x34) Q) ∧ (¬ ((r35) = 0) → (0 ≤ (v5) ∧ 0 < ((4 : Int))) ∧ ((mm_rng ((v5) % ((4 : Int)))) ∧ ((mm_rng (((1 : Int)) + ((v5) % ((4 : Int))))) ∧ (mt 83 0 [some (mm_P 0), some (mm_I (((1 : Int)) + ((v5) % ((4 : Int))))), none, none, none, none] [] (mm_mk D32 u33 x34) (mm_pIx (fun r46 D43 u44 x45 => (((r46) = 0) → mt 84 120 [some (mm_P 999), some (mm_P 0), some (mm_I (v2)), some (mm_I (v3)), some (mm_I (v4)), some (mm_I (v5))] [] (mm_mk D43 u44 x45) Q) ∧ (¬ ((r46) = 0) → mt 84 122 [some (mm_P 999), some (mm_P 0), some (mm_I ((1 : Int))), some (mm_I (v3)), some (mm_I (v4)), some (mm_I (v5))] [] (mm_mk D43 u44 x45) Q)) (fun E50 D47 u48 x49 => Q (.inr E50) (mm_mk D47 u48 x49)))))))) (fun E39 D36 u37 x38 => Q (.inr E39) (mm_mk D36 u37 x38)))))))) (fun E28 D25 u26 x27 => Q (.inr E28) (mm_mk D25 u26 x27)))))))))))) (fun E10 D7 u8 x9 => Q (.inr E10) (mm_mk D7 u8 x9)))))))) : mt 84 77 [some (mm_P 999), some (mm_P 0), some (mm_I (v2)), some (mm_I (v3)), some (mm_I (v4)), some (mm_I (v5))] [] (mm_mk D u x) Q := by
  refine mu_load mc_84_77 (by decide) rfl ?_
  refine mu_if_eq mc_84_78 (fun c => ?_) (fun c => ?_)
  · replace H := H.1 c
    exact H
  · replace H := H.2 c
    refine mu_load mc_84_79 (by decide) rfl ?_
    refine mu_const mc_84_80 (by decide) (by decide) ?_
    have h1 := H.1
    replace H := H.2
    have h2 := H.1
    replace H := H.2
    refine mu_irem mc_84_81 h1 h2 ?_
    refine mu_const mc_84_82 (by decide) (by decide) ?_
    refine mu_ic_ne mc_84_83 (fun c => ?_) (fun c => ?_)
    · replace H := H.1 c
      exact H
    · replace H := H.2 c
      refine mu_aload (r := some (0)) mc_84_84 (by decide) rfl ?_
      refine mt_call (args := [mm_P 0]) (rest := []) mc_84_85 (by decide) rfl rfl rfl ⟨Or.inl (by simp), rfl, by decide⟩ rfl H ?_
      rintro _ _ (⟨r6, D3, u4, x5, rfl, rfl, H⟩ | ⟨E10, D7, u8, x9, rfl, rfl, H⟩)
      · refine Or.inl ⟨_, rfl, ?_⟩
        refine mu_if_eq mc_84_86 (fun c => ?_) (fun c => ?_)
        · replace H := H.1 c
          exact H
        · replace H := H.2 c
          refine mu_aload (r := some (0)) mc_84_87 (by decide) rfl ?_
          refine mu_const mc_84_88 (by decide) (by decide) ?_
          refine mu_load mc_84_89 (by decide) rfl ?_
          refine mu_const mc_84_90 (by decide) (by decide) ?_
          refine mu_aload (r := some (0)) mc_84_91 (by decide) rfl ?_
          refine mt_call (args := [mm_P 0]) (rest := [mm_I ((1 : Int)), mm_I (v5), mm_I ((1 : Int)), mm_P 0]) mc_84_92 (by decide) rfl rfl rfl ⟨Or.inl (by simp), rfl, by decide⟩ (mu_rcv (by decide) rfl (by decide)) H ?_
          rintro _ _ ⟨r14, D11, u12, x13, rfl, rfl, H⟩
          refine Or.inl ⟨_, rfl, ?_⟩
          have h15 := H.1
          replace H := H.2
          have h16 := H.1
          replace H := H.2
          refine mu_ishl mc_84_93 h15 h16 ?_
          refine mu_const mc_84_94 (by decide) (by decide) ?_
          have h17 := H.1
          replace H := H.2
          refine mu_isub mc_84_95 h17 ?_
          have h18 := H.1
          replace H := H.2
          have h19 := H.1
          replace H := H.2
          refine mu_irem mc_84_96 h18 h19 ?_
          have h20 := H.1
          replace H := H.2
          refine mu_iadd mc_84_97 h20 ?_
          refine mu_const mc_84_98 (by decide) (by decide) ?_
          refine mt_call (args := [mm_P 0, mm_I (((1 : Int)) + ((v5) % ((((1 : Int)) * 2 ^ (r14).toNat) - ((1 : Int))))), mm_I ((0 : Int))]) (rest := []) mc_84_99 (by decide) rfl rfl rfl ⟨Or.inl (by simp), rfl, by decide⟩ rfl H ?_
          rintro _ _ (⟨r24, D21, u22, x23, rfl, rfl, H⟩ | ⟨E28, D25, u26, x27, rfl, rfl, H⟩)
          · refine Or.inl ⟨_, rfl, ?_⟩
            refine mu_if_eq mc_84_100 (fun c => ?_) (fun c => ?_)
            · replace H := H.1 c
              exact H
            · replace H := H.2 c
              refine mu_aload (r := some (0)) mc_84_101 (by decide) rfl ?_
              refine mu_const mc_84_102 (by decide) (by decide) ?_
              refine mu_const mc_84_103 (by decide) (by decide) ?_
              refine mu_load mc_84_104 (by decide) rfl ?_
              refine mu_const mc_84_105 (by decide) (by decide) ?_
              have h29 := H.1
              replace H := H.2
              have h30 := H.1
              replace H := H.2
              refine mu_irem mc_84_106 h29 h30 ?_
              have h31 := H.1
              replace H := H.2
              refine mu_iadd mc_84_107 h31 ?_
              refine mt_call (args := [mm_P 0, mm_I ((0 : Int)), mm_I (((1 : Int)) + ((v5) % ((4 : Int))))]) (rest := []) mc_84_108 (by decide) rfl rfl rfl ⟨Or.inl (by simp), rfl, by decide⟩ rfl H ?_
              rintro _ _ (⟨r35, D32, u33, x34, rfl, rfl, H⟩ | ⟨E39, D36, u37, x38, rfl, rfl, H⟩)
              · refine Or.inl ⟨_, rfl, ?_⟩
                refine mu_if_eq mc_84_109 (fun c => ?_) (fun c => ?_)
                · replace H := H.1 c
                  exact H
                · replace H := H.2 c
                  refine mu_aload (r := some (0)) mc_84_110 (by decide) rfl ?_
                  refine mu_const mc_84_111 (by decide) (by decide) ?_
                  refine mu_load mc_84_112 (by decide) rfl ?_
                  refine mu_const mc_84_113 (by decide) (by decide) ?_
                  have h40 := H.1
                  replace H := H.2
                  have h41 := H.1
                  replace H := H.2
                  refine mu_irem mc_84_114 h40 h41 ?_
                  have h42 := H.1
                  replace H := H.2
                  refine mu_iadd mc_84_115 h42 ?_
                  refine mt_call (args := [mm_P 0, mm_I (((1 : Int)) + ((v5) % ((4 : Int))))]) (rest := []) mc_84_116 (by decide) rfl rfl rfl ⟨Or.inl (by simp), rfl, by decide⟩ rfl H ?_
                  rintro _ _ (⟨r46, D43, u44, x45, rfl, rfl, H⟩ | ⟨E50, D47, u48, x49, rfl, rfl, H⟩)
                  · refine Or.inl ⟨_, rfl, ?_⟩
                    refine mu_if_eq mc_84_117 (fun c => ?_) (fun c => ?_)
                    · replace H := H.1 c
                      exact H
                    · replace H := H.2 c
                      refine mu_const mc_84_118 (by decide) (by decide) ?_
                      refine mu_rfl (n := 121) mc_84_119 (by decide) rfl rfl ?_
                      refine mu_store mc_84_121 (by decide) (by simp) (ls' := [some (mm_P 999), some (mm_P 0), some (mm_I ((1 : Int))), some (mm_I (v3)), some (mm_I (v4)), some (mm_I (v5))]) rfl ?_
                      exact H
                  · exact Or.inr ⟨_, rfl, by decide, Or.inr ⟨mm_handN (by decide) _, by decide, H⟩⟩
              · exact Or.inr ⟨_, rfl, by decide, Or.inr ⟨mm_handN (by decide) _, by decide, H⟩⟩
          · exact Or.inr ⟨_, rfl, by decide, Or.inr ⟨mm_handN (by decide) _, by decide, H⟩⟩
      · exact Or.inr ⟨_, rfl, by decide, Or.inr ⟨mm_handN (by decide) _, by decide, H⟩⟩
theorem q_L_law_120 {D : mm_D} {u : Int} {x : Nat × (Nat × List Int)} {Q : mm_O → mm_H → Prop} (v2 v3 v4 v5 : Int) (H : mt 84 122 [some (mm_P 999), some (mm_P 0), some (mm_I ((0 : Int))), some (mm_I (v3)), some (mm_I (v4)), some (mm_I (v5))] [] (mm_mk D u x) Q) : mt 84 120 [some (mm_P 999), some (mm_P 0), some (mm_I (v2)), some (mm_I (v3)), some (mm_I (v4)), some (mm_I (v5))] [] (mm_mk D u x) Q := by
  refine mu_const mc_84_120 (by decide) (by decide) ?_
  refine mu_store mc_84_121 (by decide) (by simp) (ls' := [some (mm_P 999), some (mm_P 0), some (mm_I ((0 : Int))), some (mm_I (v3)), some (mm_I (v4)), some (mm_I (v5))]) rfl ?_
  exact H
theorem q_L_law_122 {D : mm_D} {u : Int} {x : Nat × (Nat × List Int)} {Q : mm_O → mm_H → Prop} (v2 v3 v4 v5 : Int) (H : (mm_rng ((v4) + (1 : Int))) ∧ (mt 84 41 [some (mm_P 999), some (mm_P 0), some (mm_I (v2)), some (mm_I (v3)), some (mm_I ((v4) + (1 : Int))), some (mm_I (v5))] [] (mm_mk D u x) Q)) : mt 84 122 [some (mm_P 999), some (mm_P 0), some (mm_I (v2)), some (mm_I (v3)), some (mm_I (v4)), some (mm_I (v5))] [] (mm_mk D u x) Q := by
  have h1 := H.1
  replace H := H.2
  refine mu_iinc mc_84_122 rfl h1 (ls' := [some (mm_P 999), some (mm_P 0), some (mm_I (v2)), some (mm_I (v3)), some (mm_I ((v4) + (1 : Int))), some (mm_I (v5))]) rfl ?_
  refine mu_rfl (n := 41) mc_84_123 (by decide) rfl rfl ?_
  exact H
theorem q_L_law_124 {D : mm_D} {u : Int} {x : Nat × (Nat × List Int)} {Q : mm_O → mm_H → Prop} (v2 v3 v4 : Int) (o5 : Option mm_V) (H : ((v2) = 0 ∨ (v2) = 1) ∧ (Q (.inl (some (mm_I (v2)))) (mm_mk D u x))) : mt 84 124 [some (mm_P 999), some (mm_P 0), some (mm_I (v2)), some (mm_I (v3)), some (mm_I (v4)), o5] [] (mm_mk D u x) Q := by
  refine mu_load mc_84_124 (by decide) rfl ?_
  have h1 := H.1
  replace H := H.2
  exact mt_retB mc_84_125 h1 H
