/-! printed by wip/p31/gen22.py -/
theorem q_X1_countOf_0 {D : mm_D} {u : Int} {x : Nat × (Nat × List Int)} {Q : mm_O → mm_H → Prop} (v1 v2 : Int) (H : mt 24 0 [some (mm_I (v1)), some (mm_I (v2)), none] [] (mm_mk D u x) (mm_pI fun r4 D1 u2 x3 => ((¬ (r4) = ((-1 : Int))) → (0 ≤ (r4)) ∧ (((r4) < 804) ∧ (Q (.inl (some (mm_I (D1 15 (r4))))) (mm_mk D1 u2 x3)))) ∧ (¬ (¬ (r4) = ((-1 : Int))) → Q (.inl (some (mm_I ((0 : Int))))) (mm_mk D1 u2 x3)))) : mt 17 0 [some (mm_P 14), some (mm_I (v1)), some (mm_I (v2)), none] [] (mm_mk D u x) Q := by
  refine mu_load mc_17_0 (by decide) rfl ?_
  refine mu_load mc_17_1 (by decide) rfl ?_
  refine mt_call (args := [mm_I (v1), mm_I (v2)]) (rest := []) mc_17_2 (by decide) rfl rfl rfl ⟨Or.inl (by simp), rfl, by decide⟩ rfl H ?_
  rintro _ _ ⟨r4, D1, u2, x3, rfl, rfl, H⟩
  refine Or.inl ⟨_, rfl, ?_⟩
  refine mu_store mc_17_3 (by decide) (by simp) (ls' := [some (mm_P 14), some (mm_I (v1)), some (mm_I (v2)), some (mm_I (r4))]) rfl ?_
  refine mu_load mc_17_4 (by decide) rfl ?_
  refine mu_const mc_17_5 (by decide) (by decide) ?_
  refine mu_ic_ne mc_17_6 (fun c => ?_) (fun c => ?_)
  · replace H := H.1 c
    refine mu_aload (r := some (14)) mc_17_9 (by decide) rfl ?_
    refine mu_get mc_17_10 rfl ?_
    refine mu_load mc_17_11 (by decide) rfl ?_
    have h5 := H.1
    replace H := H.2
    have h6 := H.1
    replace H := H.2
    refine mu_iald mc_17_12 rfl h5 h6 ?_
    exact mt_ret mc_17_13 H
  · replace H := H.2 c
    refine mu_const mc_17_7 (by decide) (by decide) ?_
    refine mu_rfl (n := 13) mc_17_8 (by decide) rfl rfl ?_
    exact mt_ret mc_17_13 H

theorem q_X1_firstOf_0 {D : mm_D} {u : Int} {x : Nat × (Nat × List Int)} {Q : mm_O → mm_H → Prop} (v1 v2 : Int) (H : mt 24 0 [some (mm_I (v1)), some (mm_I (v2)), none] [] (mm_mk D u x) (mm_pI fun r4 D1 u2 x3 => ((¬ (r4) = ((-1 : Int))) → (0 ≤ (r4)) ∧ (((r4) < 804) ∧ (Q (.inl (some (mm_I (D1 16 (r4))))) (mm_mk D1 u2 x3)))) ∧ (¬ (¬ (r4) = ((-1 : Int))) → Q (.inl (some (mm_I ((-1 : Int))))) (mm_mk D1 u2 x3)))) : mt 18 0 [some (mm_P 14), some (mm_I (v1)), some (mm_I (v2)), none] [] (mm_mk D u x) Q := by
  refine mu_load mc_18_0 (by decide) rfl ?_
  refine mu_load mc_18_1 (by decide) rfl ?_
  refine mt_call (args := [mm_I (v1), mm_I (v2)]) (rest := []) mc_18_2 (by decide) rfl rfl rfl ⟨Or.inl (by simp), rfl, by decide⟩ rfl H ?_
  rintro _ _ ⟨r4, D1, u2, x3, rfl, rfl, H⟩
  refine Or.inl ⟨_, rfl, ?_⟩
  refine mu_store mc_18_3 (by decide) (by simp) (ls' := [some (mm_P 14), some (mm_I (v1)), some (mm_I (v2)), some (mm_I (r4))]) rfl ?_
  refine mu_load mc_18_4 (by decide) rfl ?_
  refine mu_const mc_18_5 (by decide) (by decide) ?_
  refine mu_ic_ne mc_18_6 (fun c => ?_) (fun c => ?_)
  · replace H := H.1 c
    refine mu_aload (r := some (14)) mc_18_9 (by decide) rfl ?_
    refine mu_get mc_18_10 rfl ?_
    refine mu_load mc_18_11 (by decide) rfl ?_
    have h5 := H.1
    replace H := H.2
    have h6 := H.1
    replace H := H.2
    refine mu_iald mc_18_12 rfl h5 h6 ?_
    exact mt_ret mc_18_13 H
  · replace H := H.2 c
    refine mu_const mc_18_7 (by decide) (by decide) ?_
    refine mu_rfl (n := 13) mc_18_8 (by decide) rfl rfl ?_
    exact mt_ret mc_18_13 H

theorem q_X1_lastOf_0 {D : mm_D} {u : Int} {x : Nat × (Nat × List Int)} {Q : mm_O → mm_H → Prop} (v1 v2 : Int) (H : mt 24 0 [some (mm_I (v1)), some (mm_I (v2)), none] [] (mm_mk D u x) (mm_pI fun r4 D1 u2 x3 => ((¬ (r4) = ((-1 : Int))) → (0 ≤ (r4)) ∧ (((r4) < 804) ∧ (Q (.inl (some (mm_I (D1 17 (r4))))) (mm_mk D1 u2 x3)))) ∧ (¬ (¬ (r4) = ((-1 : Int))) → Q (.inl (some (mm_I ((-1 : Int))))) (mm_mk D1 u2 x3)))) : mt 19 0 [some (mm_P 14), some (mm_I (v1)), some (mm_I (v2)), none] [] (mm_mk D u x) Q := by
  refine mu_load mc_19_0 (by decide) rfl ?_
  refine mu_load mc_19_1 (by decide) rfl ?_
  refine mt_call (args := [mm_I (v1), mm_I (v2)]) (rest := []) mc_19_2 (by decide) rfl rfl rfl ⟨Or.inl (by simp), rfl, by decide⟩ rfl H ?_
  rintro _ _ ⟨r4, D1, u2, x3, rfl, rfl, H⟩
  refine Or.inl ⟨_, rfl, ?_⟩
  refine mu_store mc_19_3 (by decide) (by simp) (ls' := [some (mm_P 14), some (mm_I (v1)), some (mm_I (v2)), some (mm_I (r4))]) rfl ?_
  refine mu_load mc_19_4 (by decide) rfl ?_
  refine mu_const mc_19_5 (by decide) (by decide) ?_
  refine mu_ic_ne mc_19_6 (fun c => ?_) (fun c => ?_)
  · replace H := H.1 c
    refine mu_aload (r := some (14)) mc_19_9 (by decide) rfl ?_
    refine mu_get mc_19_10 rfl ?_
    refine mu_load mc_19_11 (by decide) rfl ?_
    have h5 := H.1
    replace H := H.2
    have h6 := H.1
    replace H := H.2
    refine mu_iald mc_19_12 rfl h5 h6 ?_
    exact mt_ret mc_19_13 H
  · replace H := H.2 c
    refine mu_const mc_19_7 (by decide) (by decide) ?_
    refine mu_rfl (n := 13) mc_19_8 (by decide) rfl rfl ?_
    exact mt_ret mc_19_13 H

theorem q_X1_countInAll_0 {D : mm_D} {u : Int} {x : Nat × (Nat × List Int)} {Q : mm_O → mm_H → Prop} (v1 : Int) (H : mt 20 4 [some (mm_P 14), some (mm_I (v1)), some (mm_I ((0 : Int))), some (mm_I ((0 : Int)))] [] (mm_mk D u x) Q) : mt 20 0 [some (mm_P 14), some (mm_I (v1)), none, none] [] (mm_mk D u x) Q := by
  refine mu_const mc_20_0 (by decide) (by decide) ?_
  refine mu_store mc_20_1 (by decide) (by simp) (ls' := [some (mm_P 14), some (mm_I (v1)), some (mm_I ((0 : Int))), none]) rfl ?_
  refine mu_const mc_20_2 (by decide) (by decide) ?_
  refine mu_store mc_20_3 (by decide) (by simp) (ls' := [some (mm_P 14), some (mm_I (v1)), some (mm_I ((0 : Int))), some (mm_I ((0 : Int)))]) rfl ?_
  exact H
theorem q_X1_countInAll_4 {D : mm_D} {u : Int} {x : Nat × (Nat × List Int)} {Q : mm_O → mm_H → Prop} (v1 v2 v3 : Int) (H : ((((4 : Int)) ≤ (v3)) → Q (.inl (some (mm_I (v2)))) (mm_mk D u x)) ∧ (¬ (((4 : Int)) ≤ (v3)) → mt 17 0 [some (mm_P 14), some (mm_I (v1)), some (mm_I (v3)), none] [] (mm_mk D u x) (mm_pI fun r4 D1 u2 x3 => (mm_rng ((v2) + (r4))) ∧ ((mm_rng ((v3) + (1 : Int))) ∧ (mt 20 4 [some (mm_P 14), some (mm_I (v1)), some (mm_I ((v2) + (r4))), some (mm_I ((v3) + (1 : Int)))] [] (mm_mk D1 u2 x3) Q))))) : mt 20 4 [some (mm_P 14), some (mm_I (v1)), some (mm_I (v2)), some (mm_I (v3))] [] (mm_mk D u x) Q := by
  refine mu_load mc_20_4 (by decide) rfl ?_
  refine mu_const mc_20_5 (by decide) (by decide) ?_
  refine mu_ic_ge mc_20_6 (fun c => ?_) (fun c => ?_)
  · replace H := H.1 c
    refine mu_load mc_20_16 (by decide) rfl ?_
    exact mt_ret mc_20_17 H
  · replace H := H.2 c
    refine mu_load mc_20_7 (by decide) rfl ?_
    refine mu_aload (r := some (14)) mc_20_8 (by decide) rfl ?_
    refine mu_load mc_20_9 (by decide) rfl ?_
    refine mu_load mc_20_10 (by decide) rfl ?_
    refine mt_call (args := [mm_P 14, mm_I (v1), mm_I (v3)]) (rest := [mm_I (v2)]) mc_20_11 (by decide) rfl rfl rfl ⟨Or.inl (by simp), rfl, by decide⟩ (mu_rcv (by decide) rfl (by decide)) H ?_
    rintro _ _ ⟨r4, D1, u2, x3, rfl, rfl, H⟩
    refine Or.inl ⟨_, rfl, ?_⟩
    have h5 := H.1
    replace H := H.2
    refine mu_iadd mc_20_12 h5 ?_
    refine mu_store mc_20_13 (by decide) (by simp) (ls' := [some (mm_P 14), some (mm_I (v1)), some (mm_I ((v2) + (r4))), some (mm_I (v3))]) rfl ?_
    have h6 := H.1
    replace H := H.2
    refine mu_iinc mc_20_14 rfl h6 (ls' := [some (mm_P 14), some (mm_I (v1)), some (mm_I ((v2) + (r4))), some (mm_I ((v3) + (1 : Int)))]) rfl ?_
    refine mu_rfl (n := 4) mc_20_15 (by decide) rfl rfl ?_
    exact H

theorem q_X1_standInEach_0 {D : mm_D} {u : Int} {x : Nat × (Nat × List Int)} {Q : mm_O → mm_H → Prop} (v1 v2 : Int) (H : mt 21 2 [some (mm_P 14), some (mm_I (v1)), some (mm_I (v2)), some (mm_I ((0 : Int))), none] [] (mm_mk D u x) Q) : mt 21 0 [some (mm_P 14), some (mm_I (v1)), some (mm_I (v2)), none, none] [] (mm_mk D u x) Q := by
  refine mu_const mc_21_0 (by decide) (by decide) ?_
  refine mu_store mc_21_1 (by decide) (by simp) (ls' := [some (mm_P 14), some (mm_I (v1)), some (mm_I (v2)), some (mm_I ((0 : Int))), none]) rfl ?_
  exact H
theorem q_X1_standInEach_2 {D : mm_D} {u : Int} {x : Nat × (Nat × List Int)} {Q : mm_O → mm_H → Prop} (v1 v2 v3 : Int) (o4 : Option mm_V) (H : ((((4 : Int)) ≤ (v3)) → Q (.inl (some (mm_I ((1 : Int))))) (mm_mk D u x)) ∧ (¬ (((4 : Int)) ≤ (v3)) → (0 ≤ (v2) ∧ 0 ≤ (v3) ∧ (v3) < 31) ∧ ((mm_rng ((v2) / 2 ^ (v3).toNat)) ∧ (((¬ (mm_and ((v2) / 2 ^ (v3).toNat) ((1 : Int))) = ((1 : Int))) → (mm_rng ((v3) + (1 : Int))) ∧ (mt 21 2 [some (mm_P 14), some (mm_I (v1)), some (mm_I (v2)), some (mm_I ((v3) + (1 : Int))), some (mm_I ((0 : Int)))] [] (mm_mk D u x) Q)) ∧ (¬ (¬ (mm_and ((v2) / 2 ^ (v3).toNat) ((1 : Int))) = ((1 : Int))) → mt 17 0 [some (mm_P 14), some (mm_I (v1)), some (mm_I (v3)), none] [] (mm_mk D u x) (mm_pI fun r7 D4 u5 x6 => ((¬ (r7) = 0) → (mm_rng ((v3) + (1 : Int))) ∧ (mt 21 2 [some (mm_P 14), some (mm_I (v1)), some (mm_I (v2)), some (mm_I ((v3) + (1 : Int))), some (mm_I ((1 : Int)))] [] (mm_mk D4 u5 x6) Q)) ∧ (¬ (¬ (r7) = 0) → Q (.inl (some (mm_I ((0 : Int))))) (mm_mk D4 u5 x6)))))))) : mt 21 2 [some (mm_P 14), some (mm_I (v1)), some (mm_I (v2)), some (mm_I (v3)), o4] [] (mm_mk D u x) Q := by
  refine mu_load mc_21_2 (by decide) rfl ?_
  refine mu_const mc_21_3 (by decide) (by decide) ?_
  refine mu_ic_ge mc_21_4 (fun c => ?_) (fun c => ?_)
  · replace H := H.1 c
    refine mu_const mc_21_27 (by decide) (by decide) ?_
    exact mt_retB mc_21_28 (by decide) H
  · replace H := H.2 c
    refine mu_load mc_21_5 (by decide) rfl ?_
    refine mu_load mc_21_6 (by decide) rfl ?_
    have h1 := H.1
    replace H := H.2
    have h2 := H.1
    replace H := H.2
    refine mu_ishr mc_21_7 h1 h2 ?_
    refine mu_const mc_21_8 (by decide) (by decide) ?_
    refine mu_iand mc_21_9 ?_
    refine mu_const mc_21_10 (by decide) (by decide) ?_
    refine mu_ic_ne mc_21_11 (fun c => ?_) (fun c => ?_)
    · replace H := H.1 c
      refine mu_const mc_21_14 (by decide) (by decide) ?_
      refine mu_store mc_21_15 (by decide) (by simp) (ls' := [some (mm_P 14), some (mm_I (v1)), some (mm_I (v2)), some (mm_I (v3)), some (mm_I ((0 : Int)))]) rfl ?_
      refine mu_load mc_21_16 (by decide) rfl ?_
      refine mu_if_eq mc_21_17 (fun _ => ?_) (fun c => absurd (by decide) c)
      have h3 := H.1
      replace H := H.2
      refine mu_iinc mc_21_25 rfl h3 (ls' := [some (mm_P 14), some (mm_I (v1)), some (mm_I (v2)), some (mm_I ((v3) + (1 : Int))), some (mm_I ((0 : Int)))]) rfl ?_
      refine mu_rfl (n := 2) mc_21_26 (by decide) rfl rfl ?_
      exact H
    · replace H := H.2 c
      refine mu_const mc_21_12 (by decide) (by decide) ?_
      refine mu_rfl (n := 15) mc_21_13 (by decide) rfl rfl ?_
      refine mu_store mc_21_15 (by decide) (by simp) (ls' := [some (mm_P 14), some (mm_I (v1)), some (mm_I (v2)), some (mm_I (v3)), some (mm_I ((1 : Int)))]) rfl ?_
      refine mu_load mc_21_16 (by decide) rfl ?_
      refine mu_if_eq mc_21_17 (fun c => absurd c (by decide)) (fun _ => ?_)
      refine mu_aload (r := some (14)) mc_21_18 (by decide) rfl ?_
      refine mu_load mc_21_19 (by decide) rfl ?_
      refine mu_load mc_21_20 (by decide) rfl ?_
      refine mt_call (args := [mm_P 14, mm_I (v1), mm_I (v3)]) (rest := []) mc_21_21 (by decide) rfl rfl rfl ⟨Or.inl (by simp), rfl, by decide⟩ (mu_rcv (by decide) rfl (by decide)) H ?_
      rintro _ _ ⟨r7, D4, u5, x6, rfl, rfl, H⟩
      refine Or.inl ⟨_, rfl, ?_⟩
      refine mu_if_ne mc_21_22 (fun c => ?_) (fun c => ?_)
      · replace H := H.1 c
        have h8 := H.1
        replace H := H.2
        refine mu_iinc mc_21_25 rfl h8 (ls' := [some (mm_P 14), some (mm_I (v1)), some (mm_I (v2)), some (mm_I ((v3) + (1 : Int))), some (mm_I ((1 : Int)))]) rfl ?_
        refine mu_rfl (n := 2) mc_21_26 (by decide) rfl rfl ?_
        exact H
      · replace H := H.2 c
        refine mu_const mc_21_23 (by decide) (by decide) ?_
        exact mt_retB mc_21_24 (by decide) H

theorem q_X1_note_0 {D : mm_D} {u : Int} {x : Nat × (Nat × List Int)} {Q : mm_O → mm_H → Prop} (v1 v2 v3 : Int) (H : mt 24 0 [some (mm_I (v1)), some (mm_I (v2)), none] [] (mm_mk D u x) (mm_pI fun r4 D1 u2 x3 => ((¬ (r4) = ((-1 : Int))) → (0 ≤ (r4)) ∧ (((r4) < 804) ∧ (((¬ (D1 15 (r4)) = 0) → (0 ≤ (r4)) ∧ (((r4) < 804) ∧ (∀ D9 : mm_D, D9 = mm_wr D1 17 (r4) (v3) → ((0 ≤ (r4)) ∧ (((r4) < 804) ∧ ((mm_rng ((D9 15 (r4)) + ((1 : Int)))) ∧ ((0 ≤ (r4)) ∧ (((r4) < 804) ∧ (∀ D15 : mm_D, D15 = mm_wr D9 15 (r4) ((D9 15 (r4)) + ((1 : Int))) → (Q (.inl none) (mm_mk D15 u2 x3))))))))))) ∧ (¬ (¬ (D1 15 (r4)) = 0) → (0 ≤ (r4)) ∧ (((r4) < 804) ∧ (∀ D18 : mm_D, D18 = mm_wr D1 16 (r4) (v3) → ((0 ≤ (r4)) ∧ (((r4) < 804) ∧ (∀ D21 : mm_D, D21 = mm_wr D18 17 (r4) (v3) → ((0 ≤ (r4)) ∧ (((r4) < 804) ∧ ((mm_rng ((D21 15 (r4)) + ((1 : Int)))) ∧ ((0 ≤ (r4)) ∧ (((r4) < 804) ∧ (∀ D27 : mm_D, D27 = mm_wr D21 15 (r4) ((D21 15 (r4)) + ((1 : Int))) → (Q (.inl none) (mm_mk D27 u2 x3))))))))))))))))) ∧ (¬ (¬ (r4) = ((-1 : Int))) → Q (.inl none) (mm_mk D1 u2 x3)))) : mt 22 0 [some (mm_P 14), some (mm_I (v1)), some (mm_I (v2)), some (mm_I (v3)), none] [] (mm_mk D u x) Q := by
  refine mu_load mc_22_0 (by decide) rfl ?_
  refine mu_load mc_22_1 (by decide) rfl ?_
  refine mt_call (args := [mm_I (v1), mm_I (v2)]) (rest := []) mc_22_2 (by decide) rfl rfl rfl ⟨Or.inl (by simp), rfl, by decide⟩ rfl H ?_
  rintro _ _ ⟨r4, D1, u2, x3, rfl, rfl, H⟩
  refine Or.inl ⟨_, rfl, ?_⟩
  refine mu_store mc_22_3 (by decide) (by simp) (ls' := [some (mm_P 14), some (mm_I (v1)), some (mm_I (v2)), some (mm_I (v3)), some (mm_I (r4))]) rfl ?_
  refine mu_load mc_22_4 (by decide) rfl ?_
  refine mu_const mc_22_5 (by decide) (by decide) ?_
  refine mu_ic_ne mc_22_6 (fun c => ?_) (fun c => ?_)
  · replace H := H.1 c
    refine mu_aload (r := some (14)) mc_22_8 (by decide) rfl ?_
    refine mu_get mc_22_9 rfl ?_
    refine mu_load mc_22_10 (by decide) rfl ?_
    have h5 := H.1
    replace H := H.2
    have h6 := H.1
    replace H := H.2
    refine mu_iald mc_22_11 rfl h5 h6 ?_
    refine mu_if_ne mc_22_12 (fun c => ?_) (fun c => ?_)
    · replace H := H.1 c
      refine mu_aload (r := some (14)) mc_22_18 (by decide) rfl ?_
      refine mu_get mc_22_19 rfl ?_
      refine mu_load mc_22_20 (by decide) rfl ?_
      refine mu_load mc_22_21 (by decide) rfl ?_
      have h7 := H.1
      replace H := H.2
      have h8 := H.1
      replace H := H.2
      refine mu_iast mc_22_22 rfl h7 h8 ?_
      obtain ⟨D9, eD9⟩ : ∃ z, z = mm_wr D1 17 (r4) (v3) := ⟨_, rfl⟩
      replace H := H D9 eD9
      rw [← eD9]
      refine mu_aload (r := some (14)) mc_22_23 (by decide) rfl ?_
      refine mu_get mc_22_24 rfl ?_
      refine mu_load mc_22_25 (by decide) rfl ?_
      refine mu_rfl mc_22_26 (by decide) rfl rfl ?_
      have h10 := H.1
      replace H := H.2
      have h11 := H.1
      replace H := H.2
      refine mu_iald mc_22_27 rfl h10 h11 ?_
      refine mu_const mc_22_28 (by decide) (by decide) ?_
      have h12 := H.1
      replace H := H.2
      refine mu_iadd mc_22_29 h12 ?_
      have h13 := H.1
      replace H := H.2
      have h14 := H.1
      replace H := H.2
      refine mu_iast mc_22_30 rfl h13 h14 ?_
      obtain ⟨D15, eD15⟩ : ∃ z, z = mm_wr D9 15 (r4) ((D9 15 (r4)) + ((1 : Int))) := ⟨_, rfl⟩
      replace H := H D15 eD15
      rw [← eD15]
      exact mt_retV mc_22_31 H
    · replace H := H.2 c
      refine mu_aload (r := some (14)) mc_22_13 (by decide) rfl ?_
      refine mu_get mc_22_14 rfl ?_
      refine mu_load mc_22_15 (by decide) rfl ?_
      refine mu_load mc_22_16 (by decide) rfl ?_
      have h16 := H.1
      replace H := H.2
      have h17 := H.1
      replace H := H.2
      refine mu_iast mc_22_17 rfl h16 h17 ?_
      obtain ⟨D18, eD18⟩ : ∃ z, z = mm_wr D1 16 (r4) (v3) := ⟨_, rfl⟩
      replace H := H D18 eD18
      rw [← eD18]
      refine mu_aload (r := some (14)) mc_22_18 (by decide) rfl ?_
      refine mu_get mc_22_19 rfl ?_
      refine mu_load mc_22_20 (by decide) rfl ?_
      refine mu_load mc_22_21 (by decide) rfl ?_
      have h19 := H.1
      replace H := H.2
      have h20 := H.1
      replace H := H.2
      refine mu_iast mc_22_22 rfl h19 h20 ?_
      obtain ⟨D21, eD21⟩ : ∃ z, z = mm_wr D18 17 (r4) (v3) := ⟨_, rfl⟩
      replace H := H D21 eD21
      rw [← eD21]
      refine mu_aload (r := some (14)) mc_22_23 (by decide) rfl ?_
      refine mu_get mc_22_24 rfl ?_
      refine mu_load mc_22_25 (by decide) rfl ?_
      refine mu_rfl mc_22_26 (by decide) rfl rfl ?_
      have h22 := H.1
      replace H := H.2
      have h23 := H.1
      replace H := H.2
      refine mu_iald mc_22_27 rfl h22 h23 ?_
      refine mu_const mc_22_28 (by decide) (by decide) ?_
      have h24 := H.1
      replace H := H.2
      refine mu_iadd mc_22_29 h24 ?_
      have h25 := H.1
      replace H := H.2
      have h26 := H.1
      replace H := H.2
      refine mu_iast mc_22_30 rfl h25 h26 ?_
      obtain ⟨D27, eD27⟩ : ∃ z, z = mm_wr D21 15 (r4) ((D21 15 (r4)) + ((1 : Int))) := ⟨_, rfl⟩
      replace H := H D27 eD27
      rw [← eD27]
      exact mt_retV mc_22_31 H
  · replace H := H.2 c
    exact mt_retV mc_22_7 H

theorem q_X1_takeOver_0 {D : mm_D} {u : Int} {x : Nat × (Nat × List Int)} {Q : mm_O → mm_H → Prop} (v1 v2 : Int) (H : mt 23 2 [some (mm_P 14), some (mm_I (v1)), some (mm_I (v2)), some (mm_I ((0 : Int))), none, none] [] (mm_mk D u x) Q) : mt 23 0 [some (mm_P 14), some (mm_I (v1)), some (mm_I (v2)), none, none, none] [] (mm_mk D u x) Q := by
  refine mu_const mc_23_0 (by decide) (by decide) ?_
  refine mu_store mc_23_1 (by decide) (by simp) (ls' := [some (mm_P 14), some (mm_I (v1)), some (mm_I (v2)), some (mm_I ((0 : Int))), none, none]) rfl ?_
  exact H
theorem q_X1_takeOver_2 {D : mm_D} {u : Int} {x : Nat × (Nat × List Int)} {Q : mm_O → mm_H → Prop} (v1 v2 v3 : Int) (o4 o5 : Option mm_V) (H : ((((4 : Int)) ≤ (v3)) → Q (.inl none) (mm_mk D u x)) ∧ (¬ (((4 : Int)) ≤ (v3)) → mt 24 0 [some (mm_I (v1)), some (mm_I (v3)), none] [] (mm_mk D u x) (mm_pI fun r4 D1 u2 x3 => mt 24 0 [some (mm_I (v2)), some (mm_I (v3)), none] [] (mm_mk D1 u2 x3) (mm_pI fun r8 D5 u6 x7 => (((r4) = ((-1 : Int))) → (mm_rng ((v3) + (1 : Int))) ∧ (mt 23 2 [some (mm_P 14), some (mm_I (v1)), some (mm_I (v2)), some (mm_I ((v3) + (1 : Int))), some (mm_I (r4)), some (mm_I (r8))] [] (mm_mk D5 u6 x7) Q)) ∧ (¬ ((r4) = ((-1 : Int))) → ((¬ (r8) = ((-1 : Int))) → (0 ≤ (r8)) ∧ (((r8) < 804) ∧ ((0 ≤ (r4)) ∧ (((r4) < 804) ∧ (∀ D14 : mm_D, D14 = mm_wr D5 15 (r4) (D5 15 (r8)) → (((¬ (r8) = ((-1 : Int))) → (0 ≤ (r8)) ∧ (((r8) < 804) ∧ ((0 ≤ (r4)) ∧ (((r4) < 804) ∧ (∀ D19 : mm_D, D19 = mm_wr D14 16 (r4) (D14 16 (r8)) → (((¬ (r8) = ((-1 : Int))) → (0 ≤ (r8)) ∧ (((r8) < 804) ∧ ((0 ≤ (r4)) ∧ (((r4) < 804) ∧ (∀ D24 : mm_D, D24 = mm_wr D19 17 (r4) (D19 17 (r8)) → ((mm_rng ((v3) + (1 : Int))) ∧ (mt 23 2 [some (mm_P 14), some (mm_I (v1)), some (mm_I (v2)), some (mm_I ((v3) + (1 : Int))), some (mm_I (r4)), some (mm_I (r8))] [] (mm_mk D24 u6 x7) Q))))))) ∧ (¬ (¬ (r8) = ((-1 : Int))) → (0 ≤ (r4)) ∧ (((r4) < 804) ∧ (∀ D28 : mm_D, D28 = mm_wr D19 17 (r4) ((-1 : Int)) → ((mm_rng ((v3) + (1 : Int))) ∧ (mt 23 2 [some (mm_P 14), some (mm_I (v1)), some (mm_I (v2)), some (mm_I ((v3) + (1 : Int))), some (mm_I (r4)), some (mm_I (r8))] [] (mm_mk D28 u6 x7) Q))))))))))) ∧ (¬ (¬ (r8) = ((-1 : Int))) → (0 ≤ (r4)) ∧ (((r4) < 804) ∧ (∀ D32 : mm_D, D32 = mm_wr D14 16 (r4) ((-1 : Int)) → (((¬ (r8) = ((-1 : Int))) → (0 ≤ (r8)) ∧ (((r8) < 804) ∧ ((0 ≤ (r4)) ∧ (((r4) < 804) ∧ (∀ D37 : mm_D, D37 = mm_wr D32 17 (r4) (D32 17 (r8)) → ((mm_rng ((v3) + (1 : Int))) ∧ (mt 23 2 [some (mm_P 14), some (mm_I (v1)), some (mm_I (v2)), some (mm_I ((v3) + (1 : Int))), some (mm_I (r4)), some (mm_I (r8))] [] (mm_mk D37 u6 x7) Q))))))) ∧ (¬ (¬ (r8) = ((-1 : Int))) → (0 ≤ (r4)) ∧ (((r4) < 804) ∧ (∀ D41 : mm_D, D41 = mm_wr D32 17 (r4) ((-1 : Int)) → ((mm_rng ((v3) + (1 : Int))) ∧ (mt 23 2 [some (mm_P 14), some (mm_I (v1)), some (mm_I (v2)), some (mm_I ((v3) + (1 : Int))), some (mm_I (r4)), some (mm_I (r8))] [] (mm_mk D41 u6 x7) Q))))))))))))))) ∧ (¬ (¬ (r8) = ((-1 : Int))) → (0 ≤ (r4)) ∧ (((r4) < 804) ∧ (∀ D45 : mm_D, D45 = mm_wr D5 15 (r4) ((0 : Int)) → (((¬ (r8) = ((-1 : Int))) → (0 ≤ (r8)) ∧ (((r8) < 804) ∧ ((0 ≤ (r4)) ∧ (((r4) < 804) ∧ (∀ D50 : mm_D, D50 = mm_wr D45 16 (r4) (D45 16 (r8)) → (((¬ (r8) = ((-1 : Int))) → (0 ≤ (r8)) ∧ (((r8) < 804) ∧ ((0 ≤ (r4)) ∧ (((r4) < 804) ∧ (∀ D55 : mm_D, D55 = mm_wr D50 17 (r4) (D50 17 (r8)) → ((mm_rng ((v3) + (1 : Int))) ∧ (mt 23 2 [some (mm_P 14), some (mm_I (v1)), some (mm_I (v2)), some (mm_I ((v3) + (1 : Int))), some (mm_I (r4)), some (mm_I (r8))] [] (mm_mk D55 u6 x7) Q))))))) ∧ (¬ (¬ (r8) = ((-1 : Int))) → (0 ≤ (r4)) ∧ (((r4) < 804) ∧ (∀ D59 : mm_D, D59 = mm_wr D50 17 (r4) ((-1 : Int)) → ((mm_rng ((v3) + (1 : Int))) ∧ (mt 23 2 [some (mm_P 14), some (mm_I (v1)), some (mm_I (v2)), some (mm_I ((v3) + (1 : Int))), some (mm_I (r4)), some (mm_I (r8))] [] (mm_mk D59 u6 x7) Q))))))))))) ∧ (¬ (¬ (r8) = ((-1 : Int))) → (0 ≤ (r4)) ∧ (((r4) < 804) ∧ (∀ D63 : mm_D, D63 = mm_wr D45 16 (r4) ((-1 : Int)) → (((¬ (r8) = ((-1 : Int))) → (0 ≤ (r8)) ∧ (((r8) < 804) ∧ ((0 ≤ (r4)) ∧ (((r4) < 804) ∧ (∀ D68 : mm_D, D68 = mm_wr D63 17 (r4) (D63 17 (r8)) → ((mm_rng ((v3) + (1 : Int))) ∧ (mt 23 2 [some (mm_P 14), some (mm_I (v1)), some (mm_I (v2)), some (mm_I ((v3) + (1 : Int))), some (mm_I (r4)), some (mm_I (r8))] [] (mm_mk D68 u6 x7) Q))))))) ∧ (¬ (¬ (r8) = ((-1 : Int))) → (0 ≤ (r4)) ∧ (((r4) < 804) ∧ (∀ D72 : mm_D, D72 = mm_wr D63 17 (r4) ((-1 : Int)) → ((mm_rng ((v3) + (1 : Int))) ∧ (mt 23 2 [some (mm_P 14), some (mm_I (v1)), some (mm_I (v2)), some (mm_I ((v3) + (1 : Int))), some (mm_I (r4)), some (mm_I (r8))] [] (mm_mk D72 u6 x7) Q)))))))))))))))))) : mt 23 2 [some (mm_P 14), some (mm_I (v1)), some (mm_I (v2)), some (mm_I (v3)), o4, o5] [] (mm_mk D u x) Q := by
  refine mu_load mc_23_2 (by decide) rfl ?_
  refine mu_const mc_23_3 (by decide) (by decide) ?_
  refine mu_ic_ge mc_23_4 (fun c => ?_) (fun c => ?_)
  · replace H := H.1 c
    exact mt_retV mc_23_57 H
  · replace H := H.2 c
    refine mu_load mc_23_5 (by decide) rfl ?_
    refine mu_load mc_23_6 (by decide) rfl ?_
    refine mt_call (args := [mm_I (v1), mm_I (v3)]) (rest := []) mc_23_7 (by decide) rfl rfl rfl ⟨Or.inl (by simp), rfl, by decide⟩ rfl H ?_
    rintro _ _ ⟨r4, D1, u2, x3, rfl, rfl, H⟩
    refine Or.inl ⟨_, rfl, ?_⟩
    refine mu_store mc_23_8 (by decide) (by simp) (ls' := [some (mm_P 14), some (mm_I (v1)), some (mm_I (v2)), some (mm_I (v3)), some (mm_I (r4)), o5]) rfl ?_
    refine mu_load mc_23_9 (by decide) rfl ?_
    refine mu_load mc_23_10 (by decide) rfl ?_
    refine mt_call (args := [mm_I (v2), mm_I (v3)]) (rest := []) mc_23_11 (by decide) rfl rfl rfl ⟨Or.inl (by simp), rfl, by decide⟩ rfl H ?_
    rintro _ _ ⟨r8, D5, u6, x7, rfl, rfl, H⟩
    refine Or.inl ⟨_, rfl, ?_⟩
    refine mu_store mc_23_12 (by decide) (by simp) (ls' := [some (mm_P 14), some (mm_I (v1)), some (mm_I (v2)), some (mm_I (v3)), some (mm_I (r4)), some (mm_I (r8))]) rfl ?_
    refine mu_load mc_23_13 (by decide) rfl ?_
    refine mu_const mc_23_14 (by decide) (by decide) ?_
    refine mu_ic_eq mc_23_15 (fun c => ?_) (fun c => ?_)
    · replace H := H.1 c
      have h9 := H.1
      replace H := H.2
      refine mu_iinc mc_23_55 rfl h9 (ls' := [some (mm_P 14), some (mm_I (v1)), some (mm_I (v2)), some (mm_I ((v3) + (1 : Int))), some (mm_I (r4)), some (mm_I (r8))]) rfl ?_
      refine mu_rfl (n := 2) mc_23_56 (by decide) rfl rfl ?_
      exact H
    · replace H := H.2 c
      refine mu_aload (r := some (14)) mc_23_16 (by decide) rfl ?_
      refine mu_get mc_23_17 rfl ?_
      refine mu_load mc_23_18 (by decide) rfl ?_
      refine mu_load mc_23_19 (by decide) rfl ?_
      refine mu_const mc_23_20 (by decide) (by decide) ?_
      refine mu_ic_ne mc_23_21 (fun c => ?_) (fun c => ?_)
      · replace H := H.1 c
        refine mu_aload (r := some (14)) mc_23_24 (by decide) rfl ?_
        refine mu_get mc_23_25 rfl ?_
        refine mu_load mc_23_26 (by decide) rfl ?_
        have h10 := H.1
        replace H := H.2
        have h11 := H.1
        replace H := H.2
        refine mu_iald mc_23_27 rfl h10 h11 ?_
        have h12 := H.1
        replace H := H.2
        have h13 := H.1
        replace H := H.2
        refine mu_iast mc_23_28 rfl h12 h13 ?_
        obtain ⟨D14, eD14⟩ : ∃ z, z = mm_wr D5 15 (r4) (D5 15 (r8)) := ⟨_, rfl⟩
        replace H := H D14 eD14
        rw [← eD14]
        refine mu_aload (r := some (14)) mc_23_29 (by decide) rfl ?_
        refine mu_get mc_23_30 rfl ?_
        refine mu_load mc_23_31 (by decide) rfl ?_
        refine mu_load mc_23_32 (by decide) rfl ?_
        refine mu_const mc_23_33 (by decide) (by decide) ?_
        refine mu_ic_ne mc_23_34 (fun c => ?_) (fun c => ?_)
        · replace H := H.1 c
          refine mu_aload (r := some (14)) mc_23_37 (by decide) rfl ?_
          refine mu_get mc_23_38 rfl ?_
          refine mu_load mc_23_39 (by decide) rfl ?_
          have h15 := H.1
          replace H := H.2
          have h16 := H.1
          replace H := H.2
          refine mu_iald mc_23_40 rfl h15 h16 ?_
          have h17 := H.1
          replace H := H.2
          have h18 := H.1
          replace H := H.2
          refine mu_iast mc_23_41 rfl h17 h18 ?_
          obtain ⟨D19, eD19⟩ : ∃ z, z = mm_wr D14 16 (r4) (D14 16 (r8)) := ⟨_, rfl⟩
          replace H := H D19 eD19
          rw [← eD19]
          refine mu_aload (r := some (14)) mc_23_42 (by decide) rfl ?_
          refine mu_get mc_23_43 rfl ?_
          refine mu_load mc_23_44 (by decide) rfl ?_
          refine mu_load mc_23_45 (by decide) rfl ?_
          refine mu_const mc_23_46 (by decide) (by decide) ?_
          refine mu_ic_ne mc_23_47 (fun c => ?_) (fun c => ?_)
          · replace H := H.1 c
            refine mu_aload (r := some (14)) mc_23_50 (by decide) rfl ?_
            refine mu_get mc_23_51 rfl ?_
            refine mu_load mc_23_52 (by decide) rfl ?_
            have h20 := H.1
            replace H := H.2
            have h21 := H.1
            replace H := H.2
            refine mu_iald mc_23_53 rfl h20 h21 ?_
            have h22 := H.1
            replace H := H.2
            have h23 := H.1
            replace H := H.2
            refine mu_iast mc_23_54 rfl h22 h23 ?_
            obtain ⟨D24, eD24⟩ : ∃ z, z = mm_wr D19 17 (r4) (D19 17 (r8)) := ⟨_, rfl⟩
            replace H := H D24 eD24
            rw [← eD24]
            have h25 := H.1
            replace H := H.2
            refine mu_iinc mc_23_55 rfl h25 (ls' := [some (mm_P 14), some (mm_I (v1)), some (mm_I (v2)), some (mm_I ((v3) + (1 : Int))), some (mm_I (r4)), some (mm_I (r8))]) rfl ?_
            refine mu_rfl (n := 2) mc_23_56 (by decide) rfl rfl ?_
            exact H
          · replace H := H.2 c
            refine mu_const mc_23_48 (by decide) (by decide) ?_
            refine mu_rfl (n := 54) mc_23_49 (by decide) rfl rfl ?_
            have h26 := H.1
            replace H := H.2
            have h27 := H.1
            replace H := H.2
            refine mu_iast mc_23_54 rfl h26 h27 ?_
            obtain ⟨D28, eD28⟩ : ∃ z, z = mm_wr D19 17 (r4) ((-1 : Int)) := ⟨_, rfl⟩
            replace H := H D28 eD28
            rw [← eD28]
            have h29 := H.1
            replace H := H.2
            refine mu_iinc mc_23_55 rfl h29 (ls' := [some (mm_P 14), some (mm_I (v1)), some (mm_I (v2)), some (mm_I ((v3) + (1 : Int))), some (mm_I (r4)), some (mm_I (r8))]) rfl ?_
            refine mu_rfl (n := 2) mc_23_56 (by decide) rfl rfl ?_
            exact H
        · replace H := H.2 c
          refine mu_const mc_23_35 (by decide) (by decide) ?_
          refine mu_rfl (n := 41) mc_23_36 (by decide) rfl rfl ?_
          have h30 := H.1
          replace H := H.2
          have h31 := H.1
          replace H := H.2
          refine mu_iast mc_23_41 rfl h30 h31 ?_
          obtain ⟨D32, eD32⟩ : ∃ z, z = mm_wr D14 16 (r4) ((-1 : Int)) := ⟨_, rfl⟩
          replace H := H D32 eD32
          rw [← eD32]
          refine mu_aload (r := some (14)) mc_23_42 (by decide) rfl ?_
          refine mu_get mc_23_43 rfl ?_
          refine mu_load mc_23_44 (by decide) rfl ?_
          refine mu_load mc_23_45 (by decide) rfl ?_
          refine mu_const mc_23_46 (by decide) (by decide) ?_
          refine mu_ic_ne mc_23_47 (fun c => ?_) (fun c => ?_)
          · replace H := H.1 c
            refine mu_aload (r := some (14)) mc_23_50 (by decide) rfl ?_
            refine mu_get mc_23_51 rfl ?_
            refine mu_load mc_23_52 (by decide) rfl ?_
            have h33 := H.1
            replace H := H.2
            have h34 := H.1
            replace H := H.2
            refine mu_iald mc_23_53 rfl h33 h34 ?_
            have h35 := H.1
            replace H := H.2
            have h36 := H.1
            replace H := H.2
            refine mu_iast mc_23_54 rfl h35 h36 ?_
            obtain ⟨D37, eD37⟩ : ∃ z, z = mm_wr D32 17 (r4) (D32 17 (r8)) := ⟨_, rfl⟩
            replace H := H D37 eD37
            rw [← eD37]
            have h38 := H.1
            replace H := H.2
            refine mu_iinc mc_23_55 rfl h38 (ls' := [some (mm_P 14), some (mm_I (v1)), some (mm_I (v2)), some (mm_I ((v3) + (1 : Int))), some (mm_I (r4)), some (mm_I (r8))]) rfl ?_
            refine mu_rfl (n := 2) mc_23_56 (by decide) rfl rfl ?_
            exact H
          · replace H := H.2 c
            refine mu_const mc_23_48 (by decide) (by decide) ?_
            refine mu_rfl (n := 54) mc_23_49 (by decide) rfl rfl ?_
            have h39 := H.1
            replace H := H.2
            have h40 := H.1
            replace H := H.2
            refine mu_iast mc_23_54 rfl h39 h40 ?_
            obtain ⟨D41, eD41⟩ : ∃ z, z = mm_wr D32 17 (r4) ((-1 : Int)) := ⟨_, rfl⟩
            replace H := H D41 eD41
            rw [← eD41]
            have h42 := H.1
            replace H := H.2
            refine mu_iinc mc_23_55 rfl h42 (ls' := [some (mm_P 14), some (mm_I (v1)), some (mm_I (v2)), some (mm_I ((v3) + (1 : Int))), some (mm_I (r4)), some (mm_I (r8))]) rfl ?_
            refine mu_rfl (n := 2) mc_23_56 (by decide) rfl rfl ?_
            exact H
      · replace H := H.2 c
        refine mu_const mc_23_22 (by decide) (by decide) ?_
        refine mu_rfl (n := 28) mc_23_23 (by decide) rfl rfl ?_
        have h43 := H.1
        replace H := H.2
        have h44 := H.1
        replace H := H.2
        refine mu_iast mc_23_28 rfl h43 h44 ?_
        obtain ⟨D45, eD45⟩ : ∃ z, z = mm_wr D5 15 (r4) ((0 : Int)) := ⟨_, rfl⟩
        replace H := H D45 eD45
        rw [← eD45]
        refine mu_aload (r := some (14)) mc_23_29 (by decide) rfl ?_
        refine mu_get mc_23_30 rfl ?_
        refine mu_load mc_23_31 (by decide) rfl ?_
        refine mu_load mc_23_32 (by decide) rfl ?_
        refine mu_const mc_23_33 (by decide) (by decide) ?_
        refine mu_ic_ne mc_23_34 (fun c => ?_) (fun c => ?_)
        · replace H := H.1 c
          refine mu_aload (r := some (14)) mc_23_37 (by decide) rfl ?_
          refine mu_get mc_23_38 rfl ?_
          refine mu_load mc_23_39 (by decide) rfl ?_
          have h46 := H.1
          replace H := H.2
          have h47 := H.1
          replace H := H.2
          refine mu_iald mc_23_40 rfl h46 h47 ?_
          have h48 := H.1
          replace H := H.2
          have h49 := H.1
          replace H := H.2
          refine mu_iast mc_23_41 rfl h48 h49 ?_
          obtain ⟨D50, eD50⟩ : ∃ z, z = mm_wr D45 16 (r4) (D45 16 (r8)) := ⟨_, rfl⟩
          replace H := H D50 eD50
          rw [← eD50]
          refine mu_aload (r := some (14)) mc_23_42 (by decide) rfl ?_
          refine mu_get mc_23_43 rfl ?_
          refine mu_load mc_23_44 (by decide) rfl ?_
          refine mu_load mc_23_45 (by decide) rfl ?_
          refine mu_const mc_23_46 (by decide) (by decide) ?_
          refine mu_ic_ne mc_23_47 (fun c => ?_) (fun c => ?_)
          · replace H := H.1 c
            refine mu_aload (r := some (14)) mc_23_50 (by decide) rfl ?_
            refine mu_get mc_23_51 rfl ?_
            refine mu_load mc_23_52 (by decide) rfl ?_
            have h51 := H.1
            replace H := H.2
            have h52 := H.1
            replace H := H.2
            refine mu_iald mc_23_53 rfl h51 h52 ?_
            have h53 := H.1
            replace H := H.2
            have h54 := H.1
            replace H := H.2
            refine mu_iast mc_23_54 rfl h53 h54 ?_
            obtain ⟨D55, eD55⟩ : ∃ z, z = mm_wr D50 17 (r4) (D50 17 (r8)) := ⟨_, rfl⟩
            replace H := H D55 eD55
            rw [← eD55]
            have h56 := H.1
            replace H := H.2
            refine mu_iinc mc_23_55 rfl h56 (ls' := [some (mm_P 14), some (mm_I (v1)), some (mm_I (v2)), some (mm_I ((v3) + (1 : Int))), some (mm_I (r4)), some (mm_I (r8))]) rfl ?_
            refine mu_rfl (n := 2) mc_23_56 (by decide) rfl rfl ?_
            exact H
          · replace H := H.2 c
            refine mu_const mc_23_48 (by decide) (by decide) ?_
            refine mu_rfl (n := 54) mc_23_49 (by decide) rfl rfl ?_
            have h57 := H.1
            replace H := H.2
            have h58 := H.1
            replace H := H.2
            refine mu_iast mc_23_54 rfl h57 h58 ?_
            obtain ⟨D59, eD59⟩ : ∃ z, z = mm_wr D50 17 (r4) ((-1 : Int)) := ⟨_, rfl⟩
            replace H := H D59 eD59
            rw [← eD59]
            have h60 := H.1
            replace H := H.2
            refine mu_iinc mc_23_55 rfl h60 (ls' := [some (mm_P 14), some (mm_I (v1)), some (mm_I (v2)), some (mm_I ((v3) + (1 : Int))), some (mm_I (r4)), some (mm_I (r8))]) rfl ?_
            refine mu_rfl (n := 2) mc_23_56 (by decide) rfl rfl ?_
            exact H
        · replace H := H.2 c
          refine mu_const mc_23_35 (by decide) (by decide) ?_
          refine mu_rfl (n := 41) mc_23_36 (by decide) rfl rfl ?_
          have h61 := H.1
          replace H := H.2
          have h62 := H.1
          replace H := H.2
          refine mu_iast mc_23_41 rfl h61 h62 ?_
          obtain ⟨D63, eD63⟩ : ∃ z, z = mm_wr D45 16 (r4) ((-1 : Int)) := ⟨_, rfl⟩
          replace H := H D63 eD63
          rw [← eD63]
          refine mu_aload (r := some (14)) mc_23_42 (by decide) rfl ?_
          refine mu_get mc_23_43 rfl ?_
          refine mu_load mc_23_44 (by decide) rfl ?_
          refine mu_load mc_23_45 (by decide) rfl ?_
          refine mu_const mc_23_46 (by decide) (by decide) ?_
          refine mu_ic_ne mc_23_47 (fun c => ?_) (fun c => ?_)
          · replace H := H.1 c
            refine mu_aload (r := some (14)) mc_23_50 (by decide) rfl ?_
            refine mu_get mc_23_51 rfl ?_
            refine mu_load mc_23_52 (by decide) rfl ?_
            have h64 := H.1
            replace H := H.2
            have h65 := H.1
            replace H := H.2
            refine mu_iald mc_23_53 rfl h64 h65 ?_
            have h66 := H.1
            replace H := H.2
            have h67 := H.1
            replace H := H.2
            refine mu_iast mc_23_54 rfl h66 h67 ?_
            obtain ⟨D68, eD68⟩ : ∃ z, z = mm_wr D63 17 (r4) (D63 17 (r8)) := ⟨_, rfl⟩
            replace H := H D68 eD68
            rw [← eD68]
            have h69 := H.1
            replace H := H.2
            refine mu_iinc mc_23_55 rfl h69 (ls' := [some (mm_P 14), some (mm_I (v1)), some (mm_I (v2)), some (mm_I ((v3) + (1 : Int))), some (mm_I (r4)), some (mm_I (r8))]) rfl ?_
            refine mu_rfl (n := 2) mc_23_56 (by decide) rfl rfl ?_
            exact H
          · replace H := H.2 c
            refine mu_const mc_23_48 (by decide) (by decide) ?_
            refine mu_rfl (n := 54) mc_23_49 (by decide) rfl rfl ?_
            have h70 := H.1
            replace H := H.2
            have h71 := H.1
            replace H := H.2
            refine mu_iast mc_23_54 rfl h70 h71 ?_
            obtain ⟨D72, eD72⟩ : ∃ z, z = mm_wr D63 17 (r4) ((-1 : Int)) := ⟨_, rfl⟩
            replace H := H D72 eD72
            rw [← eD72]
            have h73 := H.1
            replace H := H.2
            refine mu_iinc mc_23_55 rfl h73 (ls' := [some (mm_P 14), some (mm_I (v1)), some (mm_I (v2)), some (mm_I ((v3) + (1 : Int))), some (mm_I (r4)), some (mm_I (r8))]) rfl ?_
            refine mu_rfl (n := 2) mc_23_56 (by decide) rfl rfl ?_
            exact H

theorem q_X1_placeOf_0 {D : mm_D} {u : Int} {x : Nat × (Nat × List Int)} {Q : mm_O → mm_H → Prop} (v0 v1 : Int) (H : (((v0) < 0) → Q (.inl (some (mm_I ((-1 : Int))))) (mm_mk D u x)) ∧ (¬ ((v0) < 0) → ((((201 : Int)) ≤ (v0)) → Q (.inl (some (mm_I ((-1 : Int))))) (mm_mk D u x)) ∧ (¬ (((201 : Int)) ≤ (v0)) → (((v1) < 0) → Q (.inl (some (mm_I ((-1 : Int))))) (mm_mk D u x)) ∧ (¬ ((v1) < 0) → ((((4 : Int)) ≤ (v1)) → Q (.inl (some (mm_I ((-1 : Int))))) (mm_mk D u x)) ∧ (¬ (((4 : Int)) ≤ (v1)) → (mm_rng ((v0) * ((4 : Int)))) ∧ ((mm_rng (((v0) * ((4 : Int))) + (v1))) ∧ (Q (.inl (some (mm_I (((v0) * ((4 : Int))) + (v1))))) (mm_mk D u x)))))))) : mt 24 0 [some (mm_I (v0)), some (mm_I (v1)), none] [] (mm_mk D u x) Q := by
  refine mu_load mc_24_0 (by decide) rfl ?_
  refine mu_if_lt mc_24_1 (fun c => ?_) (fun c => ?_)
  · replace H := H.1 c
    refine mu_const mc_24_12 (by decide) (by decide) ?_
    refine mu_store mc_24_13 (by decide) (by simp) (ls' := [some (mm_I (v0)), some (mm_I (v1)), some (mm_I ((0 : Int)))]) rfl ?_
    refine mu_load mc_24_14 (by decide) rfl ?_
    refine mu_if_eq mc_24_15 (fun _ => ?_) (fun c => absurd (by decide) c)
    refine mu_const mc_24_22 (by decide) (by decide) ?_
    exact mt_ret mc_24_23 H
  · replace H := H.2 c
    refine mu_load mc_24_2 (by decide) rfl ?_
    refine mu_const mc_24_3 (by decide) (by decide) ?_
    refine mu_ic_ge mc_24_4 (fun c => ?_) (fun c => ?_)
    · replace H := H.1 c
      refine mu_const mc_24_12 (by decide) (by decide) ?_
      refine mu_store mc_24_13 (by decide) (by simp) (ls' := [some (mm_I (v0)), some (mm_I (v1)), some (mm_I ((0 : Int)))]) rfl ?_
      refine mu_load mc_24_14 (by decide) rfl ?_
      refine mu_if_eq mc_24_15 (fun _ => ?_) (fun c => absurd (by decide) c)
      refine mu_const mc_24_22 (by decide) (by decide) ?_
      exact mt_ret mc_24_23 H
    · replace H := H.2 c
      refine mu_load mc_24_5 (by decide) rfl ?_
      refine mu_if_lt mc_24_6 (fun c => ?_) (fun c => ?_)
      · replace H := H.1 c
        refine mu_const mc_24_12 (by decide) (by decide) ?_
        refine mu_store mc_24_13 (by decide) (by simp) (ls' := [some (mm_I (v0)), some (mm_I (v1)), some (mm_I ((0 : Int)))]) rfl ?_
        refine mu_load mc_24_14 (by decide) rfl ?_
        refine mu_if_eq mc_24_15 (fun _ => ?_) (fun c => absurd (by decide) c)
        refine mu_const mc_24_22 (by decide) (by decide) ?_
        exact mt_ret mc_24_23 H
      · replace H := H.2 c
        refine mu_load mc_24_7 (by decide) rfl ?_
        refine mu_const mc_24_8 (by decide) (by decide) ?_
        refine mu_ic_ge mc_24_9 (fun c => ?_) (fun c => ?_)
        · replace H := H.1 c
          refine mu_const mc_24_12 (by decide) (by decide) ?_
          refine mu_store mc_24_13 (by decide) (by simp) (ls' := [some (mm_I (v0)), some (mm_I (v1)), some (mm_I ((0 : Int)))]) rfl ?_
          refine mu_load mc_24_14 (by decide) rfl ?_
          refine mu_if_eq mc_24_15 (fun _ => ?_) (fun c => absurd (by decide) c)
          refine mu_const mc_24_22 (by decide) (by decide) ?_
          exact mt_ret mc_24_23 H
        · replace H := H.2 c
          refine mu_const mc_24_10 (by decide) (by decide) ?_
          refine mu_rfl (n := 13) mc_24_11 (by decide) rfl rfl ?_
          refine mu_store mc_24_13 (by decide) (by simp) (ls' := [some (mm_I (v0)), some (mm_I (v1)), some (mm_I ((1 : Int)))]) rfl ?_
          refine mu_load mc_24_14 (by decide) rfl ?_
          refine mu_if_eq mc_24_15 (fun c => absurd c (by decide)) (fun _ => ?_)
          refine mu_load mc_24_16 (by decide) rfl ?_
          refine mu_const mc_24_17 (by decide) (by decide) ?_
          have h1 := H.1
          replace H := H.2
          refine mu_imul mc_24_18 h1 ?_
          refine mu_load mc_24_19 (by decide) rfl ?_
          have h2 := H.1
          replace H := H.2
          refine mu_iadd mc_24_20 h2 ?_
          refine mu_rfl (n := 23) mc_24_21 (by decide) rfl rfl ?_
          exact mt_ret mc_24_23 H
