/-! printed by wip/p31/gen22.py -/
theorem q_X2_countWords_0 {D : mm_D} {u : Int} {x : Nat × (Nat × List Int)} {Q : mm_O → mm_H → Prop} (H : ∀ D1 : mm_D, D1 = mm_wr D 12 2 ((0 : Int)) → (mt 2 0 [some (mm_P 13)] [] (mm_mk D1 u x) (mm_pI fun r5 D2 u3 x4 => (mm_rng ((r5) - ((1 : Int)))) ∧ (mt 26 9 [some (mm_P 12), some (mm_I ((r5) - ((1 : Int)))), none, none, none] [] (mm_mk D2 u3 x4) Q)))) : mt 26 0 [some (mm_P 12), none, none, none, none] [] (mm_mk D u x) Q := by
  refine mu_aload (r := some (12)) mc_26_0 (by decide) rfl ?_
  refine mu_const mc_26_1 (by decide) (by decide) ?_
  refine mu_put mc_26_2 (by decide) (Or.inl rfl) ?_
  obtain ⟨D1, eD1⟩ : ∃ z, z = mm_wr D 12 2 ((0 : Int)) := ⟨_, rfl⟩
  replace H := H D1 eD1
  show mt _ _ _ _ (mm_mk (mm_wr D 12 2 ((0 : Int))) _ _) _
  rw [← eD1]
  refine mu_aload (r := some (12)) mc_26_3 (by decide) rfl ?_
  refine mu_get mc_26_4 rfl ?_
  refine mt_call (args := [mm_P 13]) (rest := []) mc_26_5 (by decide) rfl rfl rfl ⟨Or.inl (by simp), rfl, by decide⟩ (mu_rcv (by decide) rfl (by decide)) H ?_
  rintro _ _ ⟨r5, D2, u3, x4, rfl, rfl, H⟩
  refine Or.inl ⟨_, rfl, ?_⟩
  refine mu_const mc_26_6 (by decide) (by decide) ?_
  have h6 := H.1
  replace H := H.2
  refine mu_isub mc_26_7 h6 ?_
  refine mu_store mc_26_8 (by decide) (by simp) (ls' := [some (mm_P 12), some (mm_I ((r5) - ((1 : Int)))), none, none, none]) rfl ?_
  exact H
theorem q_X2_countWords_9 {D : mm_D} {u : Int} {x : Nat × (Nat × List Int)} {Q : mm_O → mm_H → Prop} (v1 : Int) (o2 o3 o4 : Option mm_V) (H : (((v1) < 0) → Q (.inl none) (mm_mk D u x)) ∧ (¬ ((v1) < 0) → mt 3 0 [some (mm_P 13), some (mm_I (v1))] [] (mm_mk D u x) (mm_pI fun r4 D1 u2 x3 => mt 26 20 [some (mm_P 12), some (mm_I (v1)), some (mm_I (r4)), some (mm_I ((1 : Int))), some (mm_I ((0 : Int)))] [] (mm_mk D1 u2 x3) Q))) : mt 26 9 [some (mm_P 12), some (mm_I (v1)), o2, o3, o4] [] (mm_mk D u x) Q := by
  refine mu_load mc_26_9 (by decide) rfl ?_
  refine mu_if_lt mc_26_10 (fun c => ?_) (fun c => ?_)
  · replace H := H.1 c
    exact mt_retV mc_26_41 H
  · replace H := H.2 c
    refine mu_aload (r := some (12)) mc_26_11 (by decide) rfl ?_
    refine mu_get mc_26_12 rfl ?_
    refine mu_load mc_26_13 (by decide) rfl ?_
    refine mt_call (args := [mm_P 13, mm_I (v1)]) (rest := []) mc_26_14 (by decide) rfl rfl rfl ⟨Or.inl (by simp), rfl, by decide⟩ (mu_rcv (by decide) rfl (by decide)) H ?_
    rintro _ _ ⟨r4, D1, u2, x3, rfl, rfl, H⟩
    refine Or.inl ⟨_, rfl, ?_⟩
    refine mu_store mc_26_15 (by decide) (by simp) (ls' := [some (mm_P 12), some (mm_I (v1)), some (mm_I (r4)), o3, o4]) rfl ?_
    refine mu_const mc_26_16 (by decide) (by decide) ?_
    refine mu_store mc_26_17 (by decide) (by simp) (ls' := [some (mm_P 12), some (mm_I (v1)), some (mm_I (r4)), some (mm_I ((1 : Int))), o4]) rfl ?_
    refine mu_const mc_26_18 (by decide) (by decide) ?_
    refine mu_store mc_26_19 (by decide) (by simp) (ls' := [some (mm_P 12), some (mm_I (v1)), some (mm_I (r4)), some (mm_I ((1 : Int))), some (mm_I ((0 : Int)))]) rfl ?_
    exact H
theorem q_X2_countWords_20 {D : mm_D} {u : Int} {x : Nat × (Nat × List Int)} {Q : mm_O → mm_H → Prop} (v1 v2 v3 v4 : Int) (H : ((((26 : Int)) ≤ (v4)) → mt 34 0 [some (mm_P 12), some (mm_I (v2)), some (mm_I (v3))] [] (mm_mk D u x) (mm_pV fun D1 u2 x3 => (mm_rng ((v1) + (-1 : Int))) ∧ (mt 26 9 [some (mm_P 12), some (mm_I ((v1) + (-1 : Int))), some (mm_I (v2)), some (mm_I (v3)), some (mm_I (v4))] [] (mm_mk D1 u2 x3) Q))) ∧ (¬ (((26 : Int)) ≤ (v4)) → mt 7 0 [some (mm_P 13), some (mm_I (v2)), some (mm_I (v4)), none] [] (mm_mk D u x) (mm_pI fun r9 D6 u7 x8 => mt 33 0 [some (mm_P 12), some (mm_I (r9))] [] (mm_mk D6 u7 x8) (mm_pI fun r13 D10 u11 x12 => (mm_rng ((v3) + (r13))) ∧ ((mm_rng ((v4) + (1 : Int))) ∧ (mt 26 20 [some (mm_P 12), some (mm_I (v1)), some (mm_I (v2)), some (mm_I ((v3) + (r13))), some (mm_I ((v4) + (1 : Int)))] [] (mm_mk D10 u11 x12) Q)))))) : mt 26 20 [some (mm_P 12), some (mm_I (v1)), some (mm_I (v2)), some (mm_I (v3)), some (mm_I (v4))] [] (mm_mk D u x) Q := by
  refine mu_load mc_26_20 (by decide) rfl ?_
  refine mu_const mc_26_21 (by decide) (by decide) ?_
  refine mu_ic_ge mc_26_22 (fun c => ?_) (fun c => ?_)
  · replace H := H.1 c
    refine mu_aload (r := some (12)) mc_26_35 (by decide) rfl ?_
    refine mu_load mc_26_36 (by decide) rfl ?_
    refine mu_load mc_26_37 (by decide) rfl ?_
    refine mt_call (args := [mm_P 12, mm_I (v2), mm_I (v3)]) (rest := []) mc_26_38 (by decide) rfl rfl rfl ⟨Or.inl (by simp), rfl, by decide⟩ (mu_rcv (by decide) rfl (by decide)) H ?_
    rintro _ _ ⟨D1, u2, x3, rfl, rfl, H⟩
    refine Or.inl ⟨_, rfl, ?_⟩
    have h5 := H.1
    replace H := H.2
    refine mu_iinc mc_26_39 rfl h5 (ls' := [some (mm_P 12), some (mm_I ((v1) + (-1 : Int))), some (mm_I (v2)), some (mm_I (v3)), some (mm_I (v4))]) rfl ?_
    refine mu_rfl (n := 9) mc_26_40 (by decide) rfl rfl ?_
    exact H
  · replace H := H.2 c
    refine mu_load mc_26_23 (by decide) rfl ?_
    refine mu_aload (r := some (12)) mc_26_24 (by decide) rfl ?_
    refine mu_aload (r := some (12)) mc_26_25 (by decide) rfl ?_
    refine mu_get mc_26_26 rfl ?_
    refine mu_load mc_26_27 (by decide) rfl ?_
    refine mu_load mc_26_28 (by decide) rfl ?_
    refine mt_call (args := [mm_P 13, mm_I (v2), mm_I (v4)]) (rest := [mm_P 12, mm_I (v3)]) mc_26_29 (by decide) rfl rfl rfl ⟨Or.inl (by simp), rfl, by decide⟩ (mu_rcv (by decide) rfl (by decide)) H ?_
    rintro _ _ ⟨r9, D6, u7, x8, rfl, rfl, H⟩
    refine Or.inl ⟨_, rfl, ?_⟩
    refine mt_call (args := [mm_P 12, mm_I (r9)]) (rest := [mm_I (v3)]) mc_26_30 (by decide) rfl rfl rfl ⟨Or.inl (by simp), rfl, by decide⟩ (mu_rcv (by decide) rfl (by decide)) H ?_
    rintro _ _ ⟨r13, D10, u11, x12, rfl, rfl, H⟩
    refine Or.inl ⟨_, rfl, ?_⟩
    have h14 := H.1
    replace H := H.2
    refine mu_iadd mc_26_31 h14 ?_
    refine mu_store mc_26_32 (by decide) (by simp) (ls' := [some (mm_P 12), some (mm_I (v1)), some (mm_I (v2)), some (mm_I ((v3) + (r13))), some (mm_I (v4))]) rfl ?_
    have h15 := H.1
    replace H := H.2
    refine mu_iinc mc_26_33 rfl h15 (ls' := [some (mm_P 12), some (mm_I (v1)), some (mm_I (v2)), some (mm_I ((v3) + (r13))), some (mm_I ((v4) + (1 : Int)))]) rfl ?_
    refine mu_rfl (n := 20) mc_26_34 (by decide) rfl rfl ?_
    exact H

theorem q_X2_measureReach_0 {D : mm_D} {u : Int} {x : Nat × (Nat × List Int)} {Q : mm_O → mm_H → Prop} (v1 v2 : Int) (H : ∀ D1 : mm_D, D1 = mm_wr D 12 2 ((-1 : Int)) → (mt 2 0 [some (mm_P 13)] [] (mm_mk D1 u x) (mm_pI fun r5 D2 u3 x4 => (mm_rng ((r5) - ((1 : Int)))) ∧ (mt 27 9 [some (mm_P 12), some (mm_I (v1)), some (mm_I (v2)), some (mm_I ((r5) - ((1 : Int)))), none, none, none] [] (mm_mk D2 u3 x4) Q)))) : mt 27 0 [some (mm_P 12), some (mm_I (v1)), some (mm_I (v2)), none, none, none, none] [] (mm_mk D u x) Q := by
  refine mu_aload (r := some (12)) mc_27_0 (by decide) rfl ?_
  refine mu_const mc_27_1 (by decide) (by decide) ?_
  refine mu_put mc_27_2 (by decide) (Or.inl rfl) ?_
  obtain ⟨D1, eD1⟩ : ∃ z, z = mm_wr D 12 2 ((-1 : Int)) := ⟨_, rfl⟩
  replace H := H D1 eD1
  show mt _ _ _ _ (mm_mk (mm_wr D 12 2 ((-1 : Int))) _ _) _
  rw [← eD1]
  refine mu_aload (r := some (12)) mc_27_3 (by decide) rfl ?_
  refine mu_get mc_27_4 rfl ?_
  refine mt_call (args := [mm_P 13]) (rest := []) mc_27_5 (by decide) rfl rfl rfl ⟨Or.inl (by simp), rfl, by decide⟩ (mu_rcv (by decide) rfl (by decide)) H ?_
  rintro _ _ ⟨r5, D2, u3, x4, rfl, rfl, H⟩
  refine Or.inl ⟨_, rfl, ?_⟩
  refine mu_const mc_27_6 (by decide) (by decide) ?_
  have h6 := H.1
  replace H := H.2
  refine mu_isub mc_27_7 h6 ?_
  refine mu_store mc_27_8 (by decide) (by simp) (ls' := [some (mm_P 12), some (mm_I (v1)), some (mm_I (v2)), some (mm_I ((r5) - ((1 : Int)))), none, none, none]) rfl ?_
  exact H
theorem q_X2_measureReach_9 {D : mm_D} {u : Int} {x : Nat × (Nat × List Int)} {Q : mm_O → mm_H → Prop} (v1 v2 v3 : Int) (o4 o5 o6 : Option mm_V) (H : (((v3) < 0) → Q (.inl none) (mm_mk D u x)) ∧ (¬ ((v3) < 0) → mt 3 0 [some (mm_P 13), some (mm_I (v3))] [] (mm_mk D u x) (mm_pI fun r4 D1 u2 x3 => mt 27 20 [some (mm_P 12), some (mm_I (v1)), some (mm_I (v2)), some (mm_I (v3)), some (mm_I (r4)), some (mm_I ((-1 : Int))), some (mm_I ((0 : Int)))] [] (mm_mk D1 u2 x3) Q))) : mt 27 9 [some (mm_P 12), some (mm_I (v1)), some (mm_I (v2)), some (mm_I (v3)), o4, o5, o6] [] (mm_mk D u x) Q := by
  refine mu_load mc_27_9 (by decide) rfl ?_
  refine mu_if_lt mc_27_10 (fun c => ?_) (fun c => ?_)
  · replace H := H.1 c
    exact mt_retV mc_27_51 H
  · replace H := H.2 c
    refine mu_aload (r := some (12)) mc_27_11 (by decide) rfl ?_
    refine mu_get mc_27_12 rfl ?_
    refine mu_load mc_27_13 (by decide) rfl ?_
    refine mt_call (args := [mm_P 13, mm_I (v3)]) (rest := []) mc_27_14 (by decide) rfl rfl rfl ⟨Or.inl (by simp), rfl, by decide⟩ (mu_rcv (by decide) rfl (by decide)) H ?_
    rintro _ _ ⟨r4, D1, u2, x3, rfl, rfl, H⟩
    refine Or.inl ⟨_, rfl, ?_⟩
    refine mu_store mc_27_15 (by decide) (by simp) (ls' := [some (mm_P 12), some (mm_I (v1)), some (mm_I (v2)), some (mm_I (v3)), some (mm_I (r4)), o5, o6]) rfl ?_
    refine mu_const mc_27_16 (by decide) (by decide) ?_
    refine mu_store mc_27_17 (by decide) (by simp) (ls' := [some (mm_P 12), some (mm_I (v1)), some (mm_I (v2)), some (mm_I (v3)), some (mm_I (r4)), some (mm_I ((-1 : Int))), o6]) rfl ?_
    refine mu_const mc_27_18 (by decide) (by decide) ?_
    refine mu_store mc_27_19 (by decide) (by simp) (ls' := [some (mm_P 12), some (mm_I (v1)), some (mm_I (v2)), some (mm_I (v3)), some (mm_I (r4)), some (mm_I ((-1 : Int))), some (mm_I ((0 : Int)))]) rfl ?_
    exact H
theorem q_X2_measureReach_20 {D : mm_D} {u : Int} {x : Nat × (Nat × List Int)} {Q : mm_O → mm_H → Prop} (v1 v2 v3 v4 v5 v6 : Int) (H : ((((26 : Int)) ≤ (v6)) → mt 32 0 [some (mm_P 12), some (mm_I (v4)), some (mm_I (v1)), some (mm_I (v2))] [] (mm_mk D u x) (mm_pI fun r4 D1 u2 x3 => (((r4) = 0) → mt 34 0 [some (mm_P 12), some (mm_I (v4)), some (mm_I ((-1 : Int)))] [] (mm_mk D1 u2 x3) (mm_pV fun D5 u6 x7 => (mm_rng ((v3) + (-1 : Int))) ∧ (mt 27 9 [some (mm_P 12), some (mm_I (v1)), some (mm_I (v2)), some (mm_I ((v3) + (-1 : Int))), some (mm_I (v4)), some (mm_I (v5)), some (mm_I (v6))] [] (mm_mk D5 u6 x7) Q))) ∧ (¬ ((r4) = 0) → (mm_rng ((v5) + ((1 : Int)))) ∧ (mt 34 0 [some (mm_P 12), some (mm_I (v4)), some (mm_I ((v5) + ((1 : Int))))] [] (mm_mk D1 u2 x3) (mm_pV fun D11 u12 x13 => (mm_rng ((v3) + (-1 : Int))) ∧ (mt 27 9 [some (mm_P 12), some (mm_I (v1)), some (mm_I (v2)), some (mm_I ((v3) + (-1 : Int))), some (mm_I (v4)), some (mm_I (v5)), some (mm_I (v6))] [] (mm_mk D11 u12 x13) Q)))))) ∧ (¬ (((26 : Int)) ≤ (v6)) → mt 7 0 [some (mm_P 13), some (mm_I (v4)), some (mm_I (v6)), none] [] (mm_mk D u x) (mm_pI fun r19 D16 u17 x18 => mt 33 0 [some (mm_P 12), some (mm_I (r19))] [] (mm_mk D16 u17 x18) (mm_pI fun r23 D20 u21 x22 => (mm_rng ((v6) + (1 : Int))) ∧ (mt 27 20 [some (mm_P 12), some (mm_I (v1)), some (mm_I (v2)), some (mm_I (v3)), some (mm_I (v4)), some (mm_I ((if (v5) < (r23) then (r23) else (v5)))), some (mm_I ((v6) + (1 : Int)))] [] (mm_mk D20 u21 x22) Q))))) : mt 27 20 [some (mm_P 12), some (mm_I (v1)), some (mm_I (v2)), some (mm_I (v3)), some (mm_I (v4)), some (mm_I (v5)), some (mm_I (v6))] [] (mm_mk D u x) Q := by
  refine mu_load mc_27_20 (by decide) rfl ?_
  refine mu_const mc_27_21 (by decide) (by decide) ?_
  refine mu_ic_ge mc_27_22 (fun c => ?_) (fun c => ?_)
  · replace H := H.1 c
    refine mu_aload (r := some (12)) mc_27_35 (by decide) rfl ?_
    refine mu_load mc_27_36 (by decide) rfl ?_
    refine mu_aload (r := some (12)) mc_27_37 (by decide) rfl ?_
    refine mu_load mc_27_38 (by decide) rfl ?_
    refine mu_load mc_27_39 (by decide) rfl ?_
    refine mu_load mc_27_40 (by decide) rfl ?_
    refine mt_call (args := [mm_P 12, mm_I (v4), mm_I (v1), mm_I (v2)]) (rest := [mm_I (v4), mm_P 12]) mc_27_41 (by decide) rfl rfl rfl ⟨Or.inl (by simp), rfl, by decide⟩ (mu_rcv (by decide) rfl (by decide)) H ?_
    rintro _ _ ⟨r4, D1, u2, x3, rfl, rfl, H⟩
    refine Or.inl ⟨_, rfl, ?_⟩
    refine mu_if_eq mc_27_42 (fun c => ?_) (fun c => ?_)
    · replace H := H.1 c
      refine mu_const mc_27_47 (by decide) (by decide) ?_
      refine mt_call (args := [mm_P 12, mm_I (v4), mm_I ((-1 : Int))]) (rest := []) mc_27_48 (by decide) rfl rfl rfl ⟨Or.inl (by simp), rfl, by decide⟩ (mu_rcv (by decide) rfl (by decide)) H ?_
      rintro _ _ ⟨D5, u6, x7, rfl, rfl, H⟩
      refine Or.inl ⟨_, rfl, ?_⟩
      have h9 := H.1
      replace H := H.2
      refine mu_iinc mc_27_49 rfl h9 (ls' := [some (mm_P 12), some (mm_I (v1)), some (mm_I (v2)), some (mm_I ((v3) + (-1 : Int))), some (mm_I (v4)), some (mm_I (v5)), some (mm_I (v6))]) rfl ?_
      refine mu_rfl (n := 9) mc_27_50 (by decide) rfl rfl ?_
      exact H
    · replace H := H.2 c
      refine mu_load mc_27_43 (by decide) rfl ?_
      refine mu_const mc_27_44 (by decide) (by decide) ?_
      have h10 := H.1
      replace H := H.2
      refine mu_iadd mc_27_45 h10 ?_
      refine mu_rfl (n := 48) mc_27_46 (by decide) rfl rfl ?_
      refine mt_call (args := [mm_P 12, mm_I (v4), mm_I ((v5) + ((1 : Int)))]) (rest := []) mc_27_48 (by decide) rfl rfl rfl ⟨Or.inl (by simp), rfl, by decide⟩ (mu_rcv (by decide) rfl (by decide)) H ?_
      rintro _ _ ⟨D11, u12, x13, rfl, rfl, H⟩
      refine Or.inl ⟨_, rfl, ?_⟩
      have h15 := H.1
      replace H := H.2
      refine mu_iinc mc_27_49 rfl h15 (ls' := [some (mm_P 12), some (mm_I (v1)), some (mm_I (v2)), some (mm_I ((v3) + (-1 : Int))), some (mm_I (v4)), some (mm_I (v5)), some (mm_I (v6))]) rfl ?_
      refine mu_rfl (n := 9) mc_27_50 (by decide) rfl rfl ?_
      exact H
  · replace H := H.2 c
    refine mu_load mc_27_23 (by decide) rfl ?_
    refine mu_aload (r := some (12)) mc_27_24 (by decide) rfl ?_
    refine mu_aload (r := some (12)) mc_27_25 (by decide) rfl ?_
    refine mu_get mc_27_26 rfl ?_
    refine mu_load mc_27_27 (by decide) rfl ?_
    refine mu_load mc_27_28 (by decide) rfl ?_
    refine mt_call (args := [mm_P 13, mm_I (v4), mm_I (v6)]) (rest := [mm_P 12, mm_I (v5)]) mc_27_29 (by decide) rfl rfl rfl ⟨Or.inl (by simp), rfl, by decide⟩ (mu_rcv (by decide) rfl (by decide)) H ?_
    rintro _ _ ⟨r19, D16, u17, x18, rfl, rfl, H⟩
    refine Or.inl ⟨_, rfl, ?_⟩
    refine mt_call (args := [mm_P 12, mm_I (r19)]) (rest := [mm_I (v5)]) mc_27_30 (by decide) rfl rfl rfl ⟨Or.inl (by simp), rfl, by decide⟩ (mu_rcv (by decide) rfl (by decide)) H ?_
    rintro _ _ ⟨r23, D20, u21, x22, rfl, rfl, H⟩
    refine Or.inl ⟨_, rfl, ?_⟩
    refine mu_max mc_27_31 (by simp) ?_
    refine mu_store mc_27_32 (by decide) (by simp) (ls' := [some (mm_P 12), some (mm_I (v1)), some (mm_I (v2)), some (mm_I (v3)), some (mm_I (v4)), some (mm_I ((if (v5) < (r23) then (r23) else (v5)))), some (mm_I (v6))]) rfl ?_
    have h24 := H.1
    replace H := H.2
    refine mu_iinc mc_27_33 rfl h24 (ls' := [some (mm_P 12), some (mm_I (v1)), some (mm_I (v2)), some (mm_I (v3)), some (mm_I (v4)), some (mm_I ((if (v5) < (r23) then (r23) else (v5)))), some (mm_I ((v6) + (1 : Int)))]) rfl ?_
    refine mu_rfl (n := 20) mc_27_34 (by decide) rfl rfl ?_
    exact H

theorem q_X2_measureGaps_0 {D : mm_D} {u : Int} {x : Nat × (Nat × List Int)} {Q : mm_O → mm_H → Prop} (v1 : Int) (H : ∀ D1 : mm_D, D1 = mm_wr D 12 2 ((0 : Int)) → (mt 2 0 [some (mm_P 13)] [] (mm_mk D1 u x) (mm_pI fun r5 D2 u3 x4 => (mm_rng ((r5) - ((1 : Int)))) ∧ (mt 28 9 [some (mm_P 12), some (mm_I (v1)), some (mm_I ((r5) - ((1 : Int)))), none, none, none] [] (mm_mk D2 u3 x4) Q)))) : mt 28 0 [some (mm_P 12), some (mm_I (v1)), none, none, none, none] [] (mm_mk D u x) Q := by
  refine mu_aload (r := some (12)) mc_28_0 (by decide) rfl ?_
  refine mu_const mc_28_1 (by decide) (by decide) ?_
  refine mu_put mc_28_2 (by decide) (Or.inl rfl) ?_
  obtain ⟨D1, eD1⟩ : ∃ z, z = mm_wr D 12 2 ((0 : Int)) := ⟨_, rfl⟩
  replace H := H D1 eD1
  show mt _ _ _ _ (mm_mk (mm_wr D 12 2 ((0 : Int))) _ _) _
  rw [← eD1]
  refine mu_aload (r := some (12)) mc_28_3 (by decide) rfl ?_
  refine mu_get mc_28_4 rfl ?_
  refine mt_call (args := [mm_P 13]) (rest := []) mc_28_5 (by decide) rfl rfl rfl ⟨Or.inl (by simp), rfl, by decide⟩ (mu_rcv (by decide) rfl (by decide)) H ?_
  rintro _ _ ⟨r5, D2, u3, x4, rfl, rfl, H⟩
  refine Or.inl ⟨_, rfl, ?_⟩
  refine mu_const mc_28_6 (by decide) (by decide) ?_
  have h6 := H.1
  replace H := H.2
  refine mu_isub mc_28_7 h6 ?_
  refine mu_store mc_28_8 (by decide) (by simp) (ls' := [some (mm_P 12), some (mm_I (v1)), some (mm_I ((r5) - ((1 : Int)))), none, none, none]) rfl ?_
  exact H
theorem q_X2_measureGaps_9 {D : mm_D} {u : Int} {x : Nat × (Nat × List Int)} {Q : mm_O → mm_H → Prop} (v1 v2 : Int) (o3 o4 o5 : Option mm_V) (H : (((v2) < 0) → Q (.inl none) (mm_mk D u x)) ∧ (¬ ((v2) < 0) → mt 3 0 [some (mm_P 13), some (mm_I (v2))] [] (mm_mk D u x) (mm_pI fun r4 D1 u2 x3 => mt 28 20 [some (mm_P 12), some (mm_I (v1)), some (mm_I (v2)), some (mm_I (r4)), some (mm_I ((100 : Int))), some (mm_I ((0 : Int)))] [] (mm_mk D1 u2 x3) Q))) : mt 28 9 [some (mm_P 12), some (mm_I (v1)), some (mm_I (v2)), o3, o4, o5] [] (mm_mk D u x) Q := by
  refine mu_load mc_28_9 (by decide) rfl ?_
  refine mu_if_lt mc_28_10 (fun c => ?_) (fun c => ?_)
  · replace H := H.1 c
    exact mt_retV mc_28_43 H
  · replace H := H.2 c
    refine mu_aload (r := some (12)) mc_28_11 (by decide) rfl ?_
    refine mu_get mc_28_12 rfl ?_
    refine mu_load mc_28_13 (by decide) rfl ?_
    refine mt_call (args := [mm_P 13, mm_I (v2)]) (rest := []) mc_28_14 (by decide) rfl rfl rfl ⟨Or.inl (by simp), rfl, by decide⟩ (mu_rcv (by decide) rfl (by decide)) H ?_
    rintro _ _ ⟨r4, D1, u2, x3, rfl, rfl, H⟩
    refine Or.inl ⟨_, rfl, ?_⟩
    refine mu_store mc_28_15 (by decide) (by simp) (ls' := [some (mm_P 12), some (mm_I (v1)), some (mm_I (v2)), some (mm_I (r4)), o4, o5]) rfl ?_
    refine mu_const mc_28_16 (by decide) (by decide) ?_
    refine mu_store mc_28_17 (by decide) (by simp) (ls' := [some (mm_P 12), some (mm_I (v1)), some (mm_I (v2)), some (mm_I (r4)), some (mm_I ((100 : Int))), o5]) rfl ?_
    refine mu_const mc_28_18 (by decide) (by decide) ?_
    refine mu_store mc_28_19 (by decide) (by simp) (ls' := [some (mm_P 12), some (mm_I (v1)), some (mm_I (v2)), some (mm_I (r4)), some (mm_I ((100 : Int))), some (mm_I ((0 : Int)))]) rfl ?_
    exact H
theorem q_X2_measureGaps_20 {D : mm_D} {u : Int} {x : Nat × (Nat × List Int)} {Q : mm_O → mm_H → Prop} (v1 v2 v3 v4 v5 : Int) (H : (((v1) ≤ (v5)) → (mm_rng ((v4) + ((1 : Int)))) ∧ (mt 34 0 [some (mm_P 12), some (mm_I (v3)), some (mm_I ((v4) + ((1 : Int))))] [] (mm_mk D u x) (mm_pV fun D2 u3 x4 => (mm_rng ((v2) + (-1 : Int))) ∧ (mt 28 9 [some (mm_P 12), some (mm_I (v1)), some (mm_I ((v2) + (-1 : Int))), some (mm_I (v3)), some (mm_I (v4)), some (mm_I (v5))] [] (mm_mk D2 u3 x4) Q)))) ∧ (¬ ((v1) ≤ (v5)) → mt 7 0 [some (mm_P 13), some (mm_I (v3)), some (mm_I (v5)), none] [] (mm_mk D u x) (mm_pI fun r10 D7 u8 x9 => mt 33 0 [some (mm_P 12), some (mm_I (r10))] [] (mm_mk D7 u8 x9) (mm_pI fun r14 D11 u12 x13 => (mm_rng ((v5) + (1 : Int))) ∧ (mt 28 20 [some (mm_P 12), some (mm_I (v1)), some (mm_I (v2)), some (mm_I (v3)), some (mm_I ((if (r14) < (v4) then (r14) else (v4)))), some (mm_I ((v5) + (1 : Int)))] [] (mm_mk D11 u12 x13) Q))))) : mt 28 20 [some (mm_P 12), some (mm_I (v1)), some (mm_I (v2)), some (mm_I (v3)), some (mm_I (v4)), some (mm_I (v5))] [] (mm_mk D u x) Q := by
  refine mu_load mc_28_20 (by decide) rfl ?_
  refine mu_load mc_28_21 (by decide) rfl ?_
  refine mu_ic_ge mc_28_22 (fun c => ?_) (fun c => ?_)
  · replace H := H.1 c
    refine mu_aload (r := some (12)) mc_28_35 (by decide) rfl ?_
    refine mu_load mc_28_36 (by decide) rfl ?_
    refine mu_load mc_28_37 (by decide) rfl ?_
    refine mu_const mc_28_38 (by decide) (by decide) ?_
    have h1 := H.1
    replace H := H.2
    refine mu_iadd mc_28_39 h1 ?_
    refine mt_call (args := [mm_P 12, mm_I (v3), mm_I ((v4) + ((1 : Int)))]) (rest := []) mc_28_40 (by decide) rfl rfl rfl ⟨Or.inl (by simp), rfl, by decide⟩ (mu_rcv (by decide) rfl (by decide)) H ?_
    rintro _ _ ⟨D2, u3, x4, rfl, rfl, H⟩
    refine Or.inl ⟨_, rfl, ?_⟩
    have h6 := H.1
    replace H := H.2
    refine mu_iinc mc_28_41 rfl h6 (ls' := [some (mm_P 12), some (mm_I (v1)), some (mm_I ((v2) + (-1 : Int))), some (mm_I (v3)), some (mm_I (v4)), some (mm_I (v5))]) rfl ?_
    refine mu_rfl (n := 9) mc_28_42 (by decide) rfl rfl ?_
    exact H
  · replace H := H.2 c
    refine mu_load mc_28_23 (by decide) rfl ?_
    refine mu_aload (r := some (12)) mc_28_24 (by decide) rfl ?_
    refine mu_aload (r := some (12)) mc_28_25 (by decide) rfl ?_
    refine mu_get mc_28_26 rfl ?_
    refine mu_load mc_28_27 (by decide) rfl ?_
    refine mu_load mc_28_28 (by decide) rfl ?_
    refine mt_call (args := [mm_P 13, mm_I (v3), mm_I (v5)]) (rest := [mm_P 12, mm_I (v4)]) mc_28_29 (by decide) rfl rfl rfl ⟨Or.inl (by simp), rfl, by decide⟩ (mu_rcv (by decide) rfl (by decide)) H ?_
    rintro _ _ ⟨r10, D7, u8, x9, rfl, rfl, H⟩
    refine Or.inl ⟨_, rfl, ?_⟩
    refine mt_call (args := [mm_P 12, mm_I (r10)]) (rest := [mm_I (v4)]) mc_28_30 (by decide) rfl rfl rfl ⟨Or.inl (by simp), rfl, by decide⟩ (mu_rcv (by decide) rfl (by decide)) H ?_
    rintro _ _ ⟨r14, D11, u12, x13, rfl, rfl, H⟩
    refine Or.inl ⟨_, rfl, ?_⟩
    refine mu_min mc_28_31 (by simp) ?_
    refine mu_store mc_28_32 (by decide) (by simp) (ls' := [some (mm_P 12), some (mm_I (v1)), some (mm_I (v2)), some (mm_I (v3)), some (mm_I ((if (r14) < (v4) then (r14) else (v4)))), some (mm_I (v5))]) rfl ?_
    have h15 := H.1
    replace H := H.2
    refine mu_iinc mc_28_33 rfl h15 (ls' := [some (mm_P 12), some (mm_I (v1)), some (mm_I (v2)), some (mm_I (v3)), some (mm_I ((if (r14) < (v4) then (r14) else (v4)))), some (mm_I ((v5) + (1 : Int)))]) rfl ?_
    refine mu_rfl (n := 20) mc_28_34 (by decide) rfl rfl ?_
    exact H

theorem q_X2_partsAheadOf_0 {D : mm_D} {u : Int} {x : Nat × (Nat × List Int)} {Q : mm_O → mm_H → Prop} (H : mt 36 0 [some (mm_P 10)] [] (mm_mk D u x) (mm_pI fun r4 D1 u2 x3 => mt 29 13 [some (mm_P 12), some (mm_P 10), some (mm_I ((0 : Int))), some (mm_I ((0 : Int))), some (mm_I (r4)), some (mm_I ((0 : Int))), none, none] [] (mm_mk D1 u2 x3) Q)) : mt 29 0 [some (mm_P 12), some (mm_P 10), none, none, none, none, none, none] [] (mm_mk D u x) Q := by
  refine mu_const mc_29_0 (by decide) (by decide) ?_
  refine mu_store mc_29_1 (by decide) (by simp) (ls' := [some (mm_P 12), some (mm_P 10), some (mm_I ((0 : Int))), none, none, none, none, none]) rfl ?_
  refine mu_const mc_29_2 (by decide) (by decide) ?_
  refine mu_store mc_29_3 (by decide) (by simp) (ls' := [some (mm_P 12), some (mm_P 10), some (mm_I ((0 : Int))), some (mm_I ((0 : Int))), none, none, none, none]) rfl ?_
  refine mu_aload (r := some (10)) mc_29_4 (by decide) rfl ?_
  refine mu_rfl (n := 8) mc_29_5 (by decide) rfl rfl ?_
  refine mu_aload (r := some (10)) mc_29_8 (by decide) rfl ?_
  refine mt_call (args := [mm_P 10]) (rest := []) mc_29_9 (by decide) rfl rfl rfl ⟨Or.inl (by simp), rfl, by decide⟩ (mu_rcv (by decide) rfl (by decide)) H ?_
  rintro _ _ ⟨r4, D1, u2, x3, rfl, rfl, H⟩
  refine Or.inl ⟨_, rfl, ?_⟩
  refine mu_store mc_29_10 (by decide) (by simp) (ls' := [some (mm_P 12), some (mm_P 10), some (mm_I ((0 : Int))), some (mm_I ((0 : Int))), some (mm_I (r4)), none, none, none]) rfl ?_
  refine mu_const mc_29_11 (by decide) (by decide) ?_
  refine mu_store mc_29_12 (by decide) (by simp) (ls' := [some (mm_P 12), some (mm_P 10), some (mm_I ((0 : Int))), some (mm_I ((0 : Int))), some (mm_I (r4)), some (mm_I ((0 : Int))), none, none]) rfl ?_
  exact H
theorem q_X2_partsAheadOf_13 {D : mm_D} {u : Int} {x : Nat × (Nat × List Int)} {Q : mm_O → mm_H → Prop} (v2 v3 v4 v5 : Int) (o6 o7 : Option mm_V) (H : (((v4) ≤ (v5)) → Q (.inl (some (mm_I (v2)))) (mm_mk D u x)) ∧ (¬ ((v4) ≤ (v5)) → (((v3) = ((-1 : Int))) → Q (.inl (some (mm_I (v2)))) (mm_mk D u x)) ∧ (¬ ((v3) = ((-1 : Int))) → mt 37 0 [some (mm_P 10), some (mm_I (v5))] [] (mm_mk D u x) (mm_pI fun r4 D1 u2 x3 => mt 29 25 [some (mm_P 12), some (mm_P 10), some (mm_I (v2)), some (mm_I (v3)), some (mm_I (v4)), some (mm_I (v5)), some (mm_I (r4)), some (mm_I ((0 : Int)))] [] (mm_mk D1 u2 x3) Q)))) : mt 29 13 [some (mm_P 12), some (mm_P 10), some (mm_I (v2)), some (mm_I (v3)), some (mm_I (v4)), some (mm_I (v5)), o6, o7] [] (mm_mk D u x) Q := by
  refine mu_load mc_29_13 (by decide) rfl ?_
  refine mu_load mc_29_14 (by decide) rfl ?_
  refine mu_ic_ge mc_29_15 (fun c => ?_) (fun c => ?_)
  · replace H := H.1 c
    refine mu_load mc_29_57 (by decide) rfl ?_
    exact mt_ret mc_29_58 H
  · replace H := H.2 c
    refine mu_load mc_29_16 (by decide) rfl ?_
    refine mu_const mc_29_17 (by decide) (by decide) ?_
    refine mu_ic_eq mc_29_18 (fun c => ?_) (fun c => ?_)
    · replace H := H.1 c
      refine mu_load mc_29_57 (by decide) rfl ?_
      exact mt_ret mc_29_58 H
    · replace H := H.2 c
      refine mu_aload (r := some (10)) mc_29_19 (by decide) rfl ?_
      refine mu_load mc_29_20 (by decide) rfl ?_
      refine mt_call (args := [mm_P 10, mm_I (v5)]) (rest := []) mc_29_21 (by decide) rfl rfl rfl ⟨Or.inl (by simp), rfl, by decide⟩ (mu_rcv (by decide) rfl (by decide)) H ?_
      rintro _ _ ⟨r4, D1, u2, x3, rfl, rfl, H⟩
      refine Or.inl ⟨_, rfl, ?_⟩
      refine mu_store mc_29_22 (by decide) (by simp) (ls' := [some (mm_P 12), some (mm_P 10), some (mm_I (v2)), some (mm_I (v3)), some (mm_I (v4)), some (mm_I (v5)), some (mm_I (r4)), o7]) rfl ?_
      refine mu_const mc_29_23 (by decide) (by decide) ?_
      refine mu_store mc_29_24 (by decide) (by simp) (ls' := [some (mm_P 12), some (mm_P 10), some (mm_I (v2)), some (mm_I (v3)), some (mm_I (v4)), some (mm_I (v5)), some (mm_I (r4)), some (mm_I ((0 : Int)))]) rfl ?_
      exact H
theorem q_X2_partsAheadOf_25 {D : mm_D} {u : Int} {x : Nat × (Nat × List Int)} {Q : mm_O → mm_H → Prop} (v2 v3 v4 v5 v6 v7 : Int) (H : (((v6) ≤ (v7)) → mt 7 0 [some (mm_P 13), some (mm_I (v3)), some (mm_I (v6)), none] [] (mm_mk D u x) (mm_pI fun r4 D1 u2 x3 => (((r4) = ((-1 : Int))) → (mm_rng ((v5) + (1 : Int))) ∧ (mt 29 13 [some (mm_P 12), some (mm_P 10), some (mm_I (v2)), some (mm_I (r4)), some (mm_I (v4)), some (mm_I ((v5) + (1 : Int))), some (mm_I (v6)), some (mm_I (v7))] [] (mm_mk D1 u2 x3) Q)) ∧ (¬ ((r4) = ((-1 : Int))) → (mm_rng ((v4) - ((1 : Int)))) ∧ (((((v4) - ((1 : Int))) ≤ (v5)) → (mm_rng ((v5) + (1 : Int))) ∧ (mt 29 13 [some (mm_P 12), some (mm_P 10), some (mm_I (v2)), some (mm_I (r4)), some (mm_I (v4)), some (mm_I ((v5) + (1 : Int))), some (mm_I (v6)), some (mm_I (v7))] [] (mm_mk D1 u2 x3) Q)) ∧ (¬ (((v4) - ((1 : Int))) ≤ (v5)) → (mm_rng ((v2) + (1 : Int))) ∧ ((mm_rng ((v5) + (1 : Int))) ∧ (mt 29 13 [some (mm_P 12), some (mm_P 10), some (mm_I ((v2) + (1 : Int))), some (mm_I (r4)), some (mm_I (v4)), some (mm_I ((v5) + (1 : Int))), some (mm_I (v6)), some (mm_I (v7))] [] (mm_mk D1 u2 x3) Q))))))) ∧ (¬ ((v6) ≤ (v7)) → mt 7 0 [some (mm_P 13), some (mm_I (v3)), some (mm_I (v7)), none] [] (mm_mk D u x) (mm_pI fun r13 D10 u11 x12 => mt 33 0 [some (mm_P 12), some (mm_I (r13))] [] (mm_mk D10 u11 x12) (mm_pI fun r17 D14 u15 x16 => (mm_rng ((v2) + (r17))) ∧ ((mm_rng ((v7) + (1 : Int))) ∧ (mt 29 25 [some (mm_P 12), some (mm_P 10), some (mm_I ((v2) + (r17))), some (mm_I (v3)), some (mm_I (v4)), some (mm_I (v5)), some (mm_I (v6)), some (mm_I ((v7) + (1 : Int)))] [] (mm_mk D14 u15 x16) Q)))))) : mt 29 25 [some (mm_P 12), some (mm_P 10), some (mm_I (v2)), some (mm_I (v3)), some (mm_I (v4)), some (mm_I (v5)), some (mm_I (v6)), some (mm_I (v7))] [] (mm_mk D u x) Q := by
  refine mu_load mc_29_25 (by decide) rfl ?_
  refine mu_load mc_29_26 (by decide) rfl ?_
  refine mu_ic_ge mc_29_27 (fun c => ?_) (fun c => ?_)
  · replace H := H.1 c
    refine mu_aload (r := some (12)) mc_29_40 (by decide) rfl ?_
    refine mu_get mc_29_41 rfl ?_
    refine mu_load mc_29_42 (by decide) rfl ?_
    refine mu_load mc_29_43 (by decide) rfl ?_
    refine mt_call (args := [mm_P 13, mm_I (v3), mm_I (v6)]) (rest := []) mc_29_44 (by decide) rfl rfl rfl ⟨Or.inl (by simp), rfl, by decide⟩ (mu_rcv (by decide) rfl (by decide)) H ?_
    rintro _ _ ⟨r4, D1, u2, x3, rfl, rfl, H⟩
    refine Or.inl ⟨_, rfl, ?_⟩
    refine mu_store mc_29_45 (by decide) (by simp) (ls' := [some (mm_P 12), some (mm_P 10), some (mm_I (v2)), some (mm_I (r4)), some (mm_I (v4)), some (mm_I (v5)), some (mm_I (v6)), some (mm_I (v7))]) rfl ?_
    refine mu_load mc_29_46 (by decide) rfl ?_
    refine mu_const mc_29_47 (by decide) (by decide) ?_
    refine mu_ic_eq mc_29_48 (fun c => ?_) (fun c => ?_)
    · replace H := H.1 c
      have h5 := H.1
      replace H := H.2
      refine mu_iinc mc_29_55 rfl h5 (ls' := [some (mm_P 12), some (mm_P 10), some (mm_I (v2)), some (mm_I (r4)), some (mm_I (v4)), some (mm_I ((v5) + (1 : Int))), some (mm_I (v6)), some (mm_I (v7))]) rfl ?_
      refine mu_rfl (n := 13) mc_29_56 (by decide) rfl rfl ?_
      exact H
    · replace H := H.2 c
      refine mu_load mc_29_49 (by decide) rfl ?_
      refine mu_load mc_29_50 (by decide) rfl ?_
      refine mu_const mc_29_51 (by decide) (by decide) ?_
      have h6 := H.1
      replace H := H.2
      refine mu_isub mc_29_52 h6 ?_
      refine mu_ic_ge mc_29_53 (fun c => ?_) (fun c => ?_)
      · replace H := H.1 c
        have h7 := H.1
        replace H := H.2
        refine mu_iinc mc_29_55 rfl h7 (ls' := [some (mm_P 12), some (mm_P 10), some (mm_I (v2)), some (mm_I (r4)), some (mm_I (v4)), some (mm_I ((v5) + (1 : Int))), some (mm_I (v6)), some (mm_I (v7))]) rfl ?_
        refine mu_rfl (n := 13) mc_29_56 (by decide) rfl rfl ?_
        exact H
      · replace H := H.2 c
        have h8 := H.1
        replace H := H.2
        refine mu_iinc mc_29_54 rfl h8 (ls' := [some (mm_P 12), some (mm_P 10), some (mm_I ((v2) + (1 : Int))), some (mm_I (r4)), some (mm_I (v4)), some (mm_I (v5)), some (mm_I (v6)), some (mm_I (v7))]) rfl ?_
        have h9 := H.1
        replace H := H.2
        refine mu_iinc mc_29_55 rfl h9 (ls' := [some (mm_P 12), some (mm_P 10), some (mm_I ((v2) + (1 : Int))), some (mm_I (r4)), some (mm_I (v4)), some (mm_I ((v5) + (1 : Int))), some (mm_I (v6)), some (mm_I (v7))]) rfl ?_
        refine mu_rfl (n := 13) mc_29_56 (by decide) rfl rfl ?_
        exact H
  · replace H := H.2 c
    refine mu_load mc_29_28 (by decide) rfl ?_
    refine mu_aload (r := some (12)) mc_29_29 (by decide) rfl ?_
    refine mu_aload (r := some (12)) mc_29_30 (by decide) rfl ?_
    refine mu_get mc_29_31 rfl ?_
    refine mu_load mc_29_32 (by decide) rfl ?_
    refine mu_load mc_29_33 (by decide) rfl ?_
    refine mt_call (args := [mm_P 13, mm_I (v3), mm_I (v7)]) (rest := [mm_P 12, mm_I (v2)]) mc_29_34 (by decide) rfl rfl rfl ⟨Or.inl (by simp), rfl, by decide⟩ (mu_rcv (by decide) rfl (by decide)) H ?_
    rintro _ _ ⟨r13, D10, u11, x12, rfl, rfl, H⟩
    refine Or.inl ⟨_, rfl, ?_⟩
    refine mt_call (args := [mm_P 12, mm_I (r13)]) (rest := [mm_I (v2)]) mc_29_35 (by decide) rfl rfl rfl ⟨Or.inl (by simp), rfl, by decide⟩ (mu_rcv (by decide) rfl (by decide)) H ?_
    rintro _ _ ⟨r17, D14, u15, x16, rfl, rfl, H⟩
    refine Or.inl ⟨_, rfl, ?_⟩
    have h18 := H.1
    replace H := H.2
    refine mu_iadd mc_29_36 h18 ?_
    refine mu_store mc_29_37 (by decide) (by simp) (ls' := [some (mm_P 12), some (mm_P 10), some (mm_I ((v2) + (r17))), some (mm_I (v3)), some (mm_I (v4)), some (mm_I (v5)), some (mm_I (v6)), some (mm_I (v7))]) rfl ?_
    have h19 := H.1
    replace H := H.2
    refine mu_iinc mc_29_38 rfl h19 (ls' := [some (mm_P 12), some (mm_P 10), some (mm_I ((v2) + (r17))), some (mm_I (v3)), some (mm_I (v4)), some (mm_I (v5)), some (mm_I (v6)), some (mm_I ((v7) + (1 : Int)))]) rfl ?_
    refine mu_rfl (n := 25) mc_29_39 (by decide) rfl rfl ?_
    exact H

theorem q_X2_spellPart_0 {D : mm_D} {u : Int} {x : Nat × (Nat × List Int)} {Q : mm_O → mm_H → Prop} (v1 : Int) (H : mt 40 0 [some (mm_P 10)] [] (mm_mk D u x) (mm_pV fun D1 u2 x3 => mt 30 11 [some (mm_P 12), some (mm_I (v1)), some (mm_P 10), some (mm_I ((0 : Int))), some (mm_I (v1)), some (mm_I ((0 : Int))), none, none] [] (mm_mk D1 u2 x3) Q)) : mt 30 0 [some (mm_P 12), some (mm_I (v1)), some (mm_P 10), none, none, none, none, none] [] (mm_mk D u x) Q := by
  refine mu_aload (r := some (10)) mc_30_0 (by decide) rfl ?_
  refine mu_rfl (n := 3) mc_30_1 (by decide) rfl rfl ?_
  refine mu_aload (r := some (10)) mc_30_3 (by decide) rfl ?_
  refine mt_call (args := [mm_P 10]) (rest := []) mc_30_4 (by decide) rfl rfl rfl ⟨Or.inl (by simp), rfl, by decide⟩ (mu_rcv (by decide) rfl (by decide)) H ?_
  rintro _ _ ⟨D1, u2, x3, rfl, rfl, H⟩
  refine Or.inl ⟨_, rfl, ?_⟩
  refine mu_const mc_30_5 (by decide) (by decide) ?_
  refine mu_store mc_30_6 (by decide) (by simp) (ls' := [some (mm_P 12), some (mm_I (v1)), some (mm_P 10), some (mm_I ((0 : Int))), none, none, none, none]) rfl ?_
  refine mu_load mc_30_7 (by decide) rfl ?_
  refine mu_store mc_30_8 (by decide) (by simp) (ls' := [some (mm_P 12), some (mm_I (v1)), some (mm_P 10), some (mm_I ((0 : Int))), some (mm_I (v1)), none, none, none]) rfl ?_
  refine mu_const mc_30_9 (by decide) (by decide) ?_
  refine mu_store mc_30_10 (by decide) (by simp) (ls' := [some (mm_P 12), some (mm_I (v1)), some (mm_P 10), some (mm_I ((0 : Int))), some (mm_I (v1)), some (mm_I ((0 : Int))), none, none]) rfl ?_
  exact H
theorem q_X2_spellPart_11 {D : mm_D} {u : Int} {x : Nat × (Nat × List Int)} {Q : mm_O → mm_H → Prop} (v1 v3 v4 v5 : Int) (o6 o7 : Option mm_V) (H : ((((100 : Int)) ≤ (v5)) → Q (.inl none) (mm_mk D u x)) ∧ (¬ (((100 : Int)) ≤ (v5)) → (((v4) < 0) → Q (.inl none) (mm_mk D u x)) ∧ (¬ ((v4) < 0) → (((v3) = ((-1 : Int))) → Q (.inl none) (mm_mk D u x)) ∧ (¬ ((v3) = ((-1 : Int))) → mt 7 0 [some (mm_P 13), some (mm_I (v3)), some (mm_I ((0 : Int))), none] [] (mm_mk D u x) (mm_pI fun r4 D1 u2 x3 => mt 33 0 [some (mm_P 12), some (mm_I (r4))] [] (mm_mk D1 u2 x3) (mm_pI fun r8 D5 u6 x7 => mt 30 29 [some (mm_P 12), some (mm_I (v1)), some (mm_P 10), some (mm_I (v3)), some (mm_I (v4)), some (mm_I (v5)), some (mm_I ((0 : Int))), some (mm_I (r8))] [] (mm_mk D5 u6 x7) Q)))))) : mt 30 11 [some (mm_P 12), some (mm_I (v1)), some (mm_P 10), some (mm_I (v3)), some (mm_I (v4)), some (mm_I (v5)), o6, o7] [] (mm_mk D u x) Q := by
  refine mu_load mc_30_11 (by decide) rfl ?_
  refine mu_const mc_30_12 (by decide) (by decide) ?_
  refine mu_ic_ge mc_30_13 (fun c => ?_) (fun c => ?_)
  · replace H := H.1 c
    exact mt_retV mc_30_61 H
  · replace H := H.2 c
    refine mu_load mc_30_14 (by decide) rfl ?_
    refine mu_if_lt mc_30_15 (fun c => ?_) (fun c => ?_)
    · replace H := H.1 c
      exact mt_retV mc_30_61 H
    · replace H := H.2 c
      refine mu_load mc_30_16 (by decide) rfl ?_
      refine mu_const mc_30_17 (by decide) (by decide) ?_
      refine mu_ic_eq mc_30_18 (fun c => ?_) (fun c => ?_)
      · replace H := H.1 c
        exact mt_retV mc_30_61 H
      · replace H := H.2 c
        refine mu_const mc_30_19 (by decide) (by decide) ?_
        refine mu_store mc_30_20 (by decide) (by simp) (ls' := [some (mm_P 12), some (mm_I (v1)), some (mm_P 10), some (mm_I (v3)), some (mm_I (v4)), some (mm_I (v5)), some (mm_I ((0 : Int))), o7]) rfl ?_
        refine mu_aload (r := some (12)) mc_30_21 (by decide) rfl ?_
        refine mu_aload (r := some (12)) mc_30_22 (by decide) rfl ?_
        refine mu_get mc_30_23 rfl ?_
        refine mu_load mc_30_24 (by decide) rfl ?_
        refine mu_load mc_30_25 (by decide) rfl ?_
        refine mt_call (args := [mm_P 13, mm_I (v3), mm_I ((0 : Int))]) (rest := [mm_P 12]) mc_30_26 (by decide) rfl rfl rfl ⟨Or.inl (by simp), rfl, by decide⟩ (mu_rcv (by decide) rfl (by decide)) H ?_
        rintro _ _ ⟨r4, D1, u2, x3, rfl, rfl, H⟩
        refine Or.inl ⟨_, rfl, ?_⟩
        refine mt_call (args := [mm_P 12, mm_I (r4)]) (rest := []) mc_30_27 (by decide) rfl rfl rfl ⟨Or.inl (by simp), rfl, by decide⟩ (mu_rcv (by decide) rfl (by decide)) H ?_
        rintro _ _ ⟨r8, D5, u6, x7, rfl, rfl, H⟩
        refine Or.inl ⟨_, rfl, ?_⟩
        refine mu_store mc_30_28 (by decide) (by simp) (ls' := [some (mm_P 12), some (mm_I (v1)), some (mm_P 10), some (mm_I (v3)), some (mm_I (v4)), some (mm_I (v5)), some (mm_I ((0 : Int))), some (mm_I (r8))]) rfl ?_
        exact H
theorem q_X2_spellPart_29 {D : mm_D} {u : Int} {x : Nat × (Nat × List Int)} {Q : mm_O → mm_H → Prop} (v1 v3 v4 v5 v6 v7 : Int) (H : ((((26 : Int)) ≤ (v6)) → mt 38 0 [some (mm_P 10), some (mm_I (v6))] [] (mm_mk D u x) (mm_pV fun D1 u2 x3 => mt 7 0 [some (mm_P 13), some (mm_I (v3)), some (mm_I (v6)), none] [] (mm_mk D1 u2 x3) (mm_pI fun r8 D5 u6 x7 => (mm_rng ((v4) + (-1 : Int))) ∧ ((mm_rng ((v5) + (1 : Int))) ∧ (mt 30 11 [some (mm_P 12), some (mm_I (v1)), some (mm_P 10), some (mm_I (r8)), some (mm_I ((v4) + (-1 : Int))), some (mm_I ((v5) + (1 : Int))), some (mm_I (v6)), some (mm_I (v7))] [] (mm_mk D5 u6 x7) Q))))) ∧ (¬ (((26 : Int)) ≤ (v6)) → (((v4) < (v7)) → mt 38 0 [some (mm_P 10), some (mm_I (v6))] [] (mm_mk D u x) (mm_pV fun D11 u12 x13 => mt 7 0 [some (mm_P 13), some (mm_I (v3)), some (mm_I (v6)), none] [] (mm_mk D11 u12 x13) (mm_pI fun r18 D15 u16 x17 => (mm_rng ((v4) + (-1 : Int))) ∧ ((mm_rng ((v5) + (1 : Int))) ∧ (mt 30 11 [some (mm_P 12), some (mm_I (v1)), some (mm_P 10), some (mm_I (r18)), some (mm_I ((v4) + (-1 : Int))), some (mm_I ((v5) + (1 : Int))), some (mm_I (v6)), some (mm_I (v7))] [] (mm_mk D15 u16 x17) Q))))) ∧ (¬ ((v4) < (v7)) → (mm_rng ((v4) - (v7))) ∧ ((mm_rng ((v6) + (1 : Int))) ∧ (mt 7 0 [some (mm_P 13), some (mm_I (v3)), some (mm_I ((v6) + (1 : Int))), none] [] (mm_mk D u x) (mm_pI fun r26 D23 u24 x25 => mt 33 0 [some (mm_P 12), some (mm_I (r26))] [] (mm_mk D23 u24 x25) (mm_pI fun r30 D27 u28 x29 => mt 30 29 [some (mm_P 12), some (mm_I (v1)), some (mm_P 10), some (mm_I (v3)), some (mm_I ((v4) - (v7))), some (mm_I (v5)), some (mm_I ((v6) + (1 : Int))), some (mm_I (r30))] [] (mm_mk D27 u28 x29) Q))))))) : mt 30 29 [some (mm_P 12), some (mm_I (v1)), some (mm_P 10), some (mm_I (v3)), some (mm_I (v4)), some (mm_I (v5)), some (mm_I (v6)), some (mm_I (v7))] [] (mm_mk D u x) Q := by
  refine mu_load mc_30_29 (by decide) rfl ?_
  refine mu_const mc_30_30 (by decide) (by decide) ?_
  refine mu_ic_ge mc_30_31 (fun c => ?_) (fun c => ?_)
  · replace H := H.1 c
    refine mu_aload (r := some (10)) mc_30_49 (by decide) rfl ?_
    refine mu_load mc_30_50 (by decide) rfl ?_
    refine mt_call (args := [mm_P 10, mm_I (v6)]) (rest := []) mc_30_51 (by decide) rfl rfl rfl ⟨Or.inl (by simp), rfl, by decide⟩ (mu_rcv (by decide) rfl (by decide)) H ?_
    rintro _ _ ⟨D1, u2, x3, rfl, rfl, H⟩
    refine Or.inl ⟨_, rfl, ?_⟩
    refine mu_aload (r := some (12)) mc_30_52 (by decide) rfl ?_
    refine mu_get mc_30_53 rfl ?_
    refine mu_load mc_30_54 (by decide) rfl ?_
    refine mu_load mc_30_55 (by decide) rfl ?_
    refine mt_call (args := [mm_P 13, mm_I (v3), mm_I (v6)]) (rest := []) mc_30_56 (by decide) rfl rfl rfl ⟨Or.inl (by simp), rfl, by decide⟩ (mu_rcv (by decide) rfl (by decide)) H ?_
    rintro _ _ ⟨r8, D5, u6, x7, rfl, rfl, H⟩
    refine Or.inl ⟨_, rfl, ?_⟩
    refine mu_store mc_30_57 (by decide) (by simp) (ls' := [some (mm_P 12), some (mm_I (v1)), some (mm_P 10), some (mm_I (r8)), some (mm_I (v4)), some (mm_I (v5)), some (mm_I (v6)), some (mm_I (v7))]) rfl ?_
    have h9 := H.1
    replace H := H.2
    refine mu_iinc mc_30_58 rfl h9 (ls' := [some (mm_P 12), some (mm_I (v1)), some (mm_P 10), some (mm_I (r8)), some (mm_I ((v4) + (-1 : Int))), some (mm_I (v5)), some (mm_I (v6)), some (mm_I (v7))]) rfl ?_
    have h10 := H.1
    replace H := H.2
    refine mu_iinc mc_30_59 rfl h10 (ls' := [some (mm_P 12), some (mm_I (v1)), some (mm_P 10), some (mm_I (r8)), some (mm_I ((v4) + (-1 : Int))), some (mm_I ((v5) + (1 : Int))), some (mm_I (v6)), some (mm_I (v7))]) rfl ?_
    refine mu_rfl (n := 11) mc_30_60 (by decide) rfl rfl ?_
    exact H
  · replace H := H.2 c
    refine mu_load mc_30_32 (by decide) rfl ?_
    refine mu_load mc_30_33 (by decide) rfl ?_
    refine mu_ic_gt mc_30_34 (fun c => ?_) (fun c => ?_)
    · replace H := H.1 c
      refine mu_aload (r := some (10)) mc_30_49 (by decide) rfl ?_
      refine mu_load mc_30_50 (by decide) rfl ?_
      refine mt_call (args := [mm_P 10, mm_I (v6)]) (rest := []) mc_30_51 (by decide) rfl rfl rfl ⟨Or.inl (by simp), rfl, by decide⟩ (mu_rcv (by decide) rfl (by decide)) H ?_
      rintro _ _ ⟨D11, u12, x13, rfl, rfl, H⟩
      refine Or.inl ⟨_, rfl, ?_⟩
      refine mu_aload (r := some (12)) mc_30_52 (by decide) rfl ?_
      refine mu_get mc_30_53 rfl ?_
      refine mu_load mc_30_54 (by decide) rfl ?_
      refine mu_load mc_30_55 (by decide) rfl ?_
      refine mt_call (args := [mm_P 13, mm_I (v3), mm_I (v6)]) (rest := []) mc_30_56 (by decide) rfl rfl rfl ⟨Or.inl (by simp), rfl, by decide⟩ (mu_rcv (by decide) rfl (by decide)) H ?_
      rintro _ _ ⟨r18, D15, u16, x17, rfl, rfl, H⟩
      refine Or.inl ⟨_, rfl, ?_⟩
      refine mu_store mc_30_57 (by decide) (by simp) (ls' := [some (mm_P 12), some (mm_I (v1)), some (mm_P 10), some (mm_I (r18)), some (mm_I (v4)), some (mm_I (v5)), some (mm_I (v6)), some (mm_I (v7))]) rfl ?_
      have h19 := H.1
      replace H := H.2
      refine mu_iinc mc_30_58 rfl h19 (ls' := [some (mm_P 12), some (mm_I (v1)), some (mm_P 10), some (mm_I (r18)), some (mm_I ((v4) + (-1 : Int))), some (mm_I (v5)), some (mm_I (v6)), some (mm_I (v7))]) rfl ?_
      have h20 := H.1
      replace H := H.2
      refine mu_iinc mc_30_59 rfl h20 (ls' := [some (mm_P 12), some (mm_I (v1)), some (mm_P 10), some (mm_I (r18)), some (mm_I ((v4) + (-1 : Int))), some (mm_I ((v5) + (1 : Int))), some (mm_I (v6)), some (mm_I (v7))]) rfl ?_
      refine mu_rfl (n := 11) mc_30_60 (by decide) rfl rfl ?_
      exact H
    · replace H := H.2 c
      refine mu_load mc_30_35 (by decide) rfl ?_
      refine mu_load mc_30_36 (by decide) rfl ?_
      have h21 := H.1
      replace H := H.2
      refine mu_isub mc_30_37 h21 ?_
      refine mu_store mc_30_38 (by decide) (by simp) (ls' := [some (mm_P 12), some (mm_I (v1)), some (mm_P 10), some (mm_I (v3)), some (mm_I ((v4) - (v7))), some (mm_I (v5)), some (mm_I (v6)), some (mm_I (v7))]) rfl ?_
      have h22 := H.1
      replace H := H.2
      refine mu_iinc mc_30_39 rfl h22 (ls' := [some (mm_P 12), some (mm_I (v1)), some (mm_P 10), some (mm_I (v3)), some (mm_I ((v4) - (v7))), some (mm_I (v5)), some (mm_I ((v6) + (1 : Int))), some (mm_I (v7))]) rfl ?_
      refine mu_aload (r := some (12)) mc_30_40 (by decide) rfl ?_
      refine mu_aload (r := some (12)) mc_30_41 (by decide) rfl ?_
      refine mu_get mc_30_42 rfl ?_
      refine mu_load mc_30_43 (by decide) rfl ?_
      refine mu_load mc_30_44 (by decide) rfl ?_
      refine mt_call (args := [mm_P 13, mm_I (v3), mm_I ((v6) + (1 : Int))]) (rest := [mm_P 12]) mc_30_45 (by decide) rfl rfl rfl ⟨Or.inl (by simp), rfl, by decide⟩ (mu_rcv (by decide) rfl (by decide)) H ?_
      rintro _ _ ⟨r26, D23, u24, x25, rfl, rfl, H⟩
      refine Or.inl ⟨_, rfl, ?_⟩
      refine mt_call (args := [mm_P 12, mm_I (r26)]) (rest := []) mc_30_46 (by decide) rfl rfl rfl ⟨Or.inl (by simp), rfl, by decide⟩ (mu_rcv (by decide) rfl (by decide)) H ?_
      rintro _ _ ⟨r30, D27, u28, x29, rfl, rfl, H⟩
      refine Or.inl ⟨_, rfl, ?_⟩
      refine mu_store mc_30_47 (by decide) (by simp) (ls' := [some (mm_P 12), some (mm_I (v1)), some (mm_P 10), some (mm_I (v3)), some (mm_I ((v4) - (v7))), some (mm_I (v5)), some (mm_I ((v6) + (1 : Int))), some (mm_I (r30))]) rfl ?_
      refine mu_rfl (n := 29) mc_30_48 (by decide) rfl rfl ?_
      exact H

theorem q_X2_spellWay_0 {D : mm_D} {u : Int} {x : Nat × (Nat × List Int)} {Q : mm_O → mm_H → Prop} (H : mt 40 0 [some (mm_P 10)] [] (mm_mk D u x) (mm_pV fun D1 u2 x3 => mt 33 0 [some (mm_P 12), some (mm_I ((0 : Int)))] [] (mm_mk D1 u2 x3) (mm_pI fun r8 D5 u6 x7 => (mm_rng ((r8) - ((1 : Int)))) ∧ (mt 31 13 [some (mm_P 12), some (mm_P 10), some (mm_I ((0 : Int))), some (mm_I ((r8) - ((1 : Int)))), none] [] (mm_mk D5 u6 x7) Q)))) : mt 31 0 [some (mm_P 12), some (mm_P 10), none, none, none] [] (mm_mk D u x) Q := by
  refine mu_aload (r := some (10)) mc_31_0 (by decide) rfl ?_
  refine mu_rfl (n := 3) mc_31_1 (by decide) rfl rfl ?_
  refine mu_aload (r := some (10)) mc_31_3 (by decide) rfl ?_
  refine mt_call (args := [mm_P 10]) (rest := []) mc_31_4 (by decide) rfl rfl rfl ⟨Or.inl (by simp), rfl, by decide⟩ (mu_rcv (by decide) rfl (by decide)) H ?_
  rintro _ _ ⟨D1, u2, x3, rfl, rfl, H⟩
  refine Or.inl ⟨_, rfl, ?_⟩
  refine mu_const mc_31_5 (by decide) (by decide) ?_
  refine mu_store mc_31_6 (by decide) (by simp) (ls' := [some (mm_P 12), some (mm_P 10), some (mm_I ((0 : Int))), none, none]) rfl ?_
  refine mu_aload (r := some (12)) mc_31_7 (by decide) rfl ?_
  refine mu_const mc_31_8 (by decide) (by decide) ?_
  refine mt_call (args := [mm_P 12, mm_I ((0 : Int))]) (rest := []) mc_31_9 (by decide) rfl rfl rfl ⟨Or.inl (by simp), rfl, by decide⟩ (mu_rcv (by decide) rfl (by decide)) H ?_
  rintro _ _ ⟨r8, D5, u6, x7, rfl, rfl, H⟩
  refine Or.inl ⟨_, rfl, ?_⟩
  refine mu_const mc_31_10 (by decide) (by decide) ?_
  have h9 := H.1
  replace H := H.2
  refine mu_isub mc_31_11 h9 ?_
  refine mu_store mc_31_12 (by decide) (by simp) (ls' := [some (mm_P 12), some (mm_P 10), some (mm_I ((0 : Int))), some (mm_I ((r8) - ((1 : Int)))), none]) rfl ?_
  exact H
theorem q_X2_spellWay_13 {D : mm_D} {u : Int} {x : Nat × (Nat × List Int)} {Q : mm_O → mm_H → Prop} (v2 v3 : Int) (o4 : Option mm_V) (H : (((v3) < 0) → Q (.inl none) (mm_mk D u x)) ∧ (¬ ((v3) < 0) → mt 31 17 [some (mm_P 12), some (mm_P 10), some (mm_I (v2)), some (mm_I (v3)), some (mm_I ((0 : Int)))] [] (mm_mk D u x) Q)) : mt 31 13 [some (mm_P 12), some (mm_P 10), some (mm_I (v2)), some (mm_I (v3)), o4] [] (mm_mk D u x) Q := by
  refine mu_load mc_31_13 (by decide) rfl ?_
  refine mu_if_lt mc_31_14 (fun c => ?_) (fun c => ?_)
  · replace H := H.1 c
    exact mt_retV mc_31_42 H
  · replace H := H.2 c
    refine mu_const mc_31_15 (by decide) (by decide) ?_
    refine mu_store mc_31_16 (by decide) (by simp) (ls' := [some (mm_P 12), some (mm_P 10), some (mm_I (v2)), some (mm_I (v3)), some (mm_I ((0 : Int)))]) rfl ?_
    exact H
theorem q_X2_spellWay_17 {D : mm_D} {u : Int} {x : Nat × (Nat × List Int)} {Q : mm_O → mm_H → Prop} (v2 v3 v4 : Int) (H : ((((26 : Int)) ≤ (v4)) → mt 38 0 [some (mm_P 10), some (mm_I (v4))] [] (mm_mk D u x) (mm_pV fun D1 u2 x3 => mt 7 0 [some (mm_P 13), some (mm_I (v2)), some (mm_I (v4)), none] [] (mm_mk D1 u2 x3) (mm_pI fun r8 D5 u6 x7 => (mm_rng ((v3) + (-1 : Int))) ∧ (mt 31 13 [some (mm_P 12), some (mm_P 10), some (mm_I (r8)), some (mm_I ((v3) + (-1 : Int))), some (mm_I (v4))] [] (mm_mk D5 u6 x7) Q)))) ∧ (¬ (((26 : Int)) ≤ (v4)) → mt 7 0 [some (mm_P 13), some (mm_I (v2)), some (mm_I (v4)), none] [] (mm_mk D u x) (mm_pI fun r13 D10 u11 x12 => mt 33 0 [some (mm_P 12), some (mm_I (r13))] [] (mm_mk D10 u11 x12) (mm_pI fun r17 D14 u15 x16 => (((r17) = (v3)) → mt 38 0 [some (mm_P 10), some (mm_I (v4))] [] (mm_mk D14 u15 x16) (mm_pV fun D18 u19 x20 => mt 7 0 [some (mm_P 13), some (mm_I (v2)), some (mm_I (v4)), none] [] (mm_mk D18 u19 x20) (mm_pI fun r25 D22 u23 x24 => (mm_rng ((v3) + (-1 : Int))) ∧ (mt 31 13 [some (mm_P 12), some (mm_P 10), some (mm_I (r25)), some (mm_I ((v3) + (-1 : Int))), some (mm_I (v4))] [] (mm_mk D22 u23 x24) Q)))) ∧ (¬ ((r17) = (v3)) → (mm_rng ((v4) + (1 : Int))) ∧ (mt 31 17 [some (mm_P 12), some (mm_P 10), some (mm_I (v2)), some (mm_I (v3)), some (mm_I ((v4) + (1 : Int)))] [] (mm_mk D14 u15 x16) Q)))))) : mt 31 17 [some (mm_P 12), some (mm_P 10), some (mm_I (v2)), some (mm_I (v3)), some (mm_I (v4))] [] (mm_mk D u x) Q := by
  refine mu_load mc_31_17 (by decide) rfl ?_
  refine mu_const mc_31_18 (by decide) (by decide) ?_
  refine mu_ic_ge mc_31_19 (fun c => ?_) (fun c => ?_)
  · replace H := H.1 c
    refine mu_aload (r := some (10)) mc_31_31 (by decide) rfl ?_
    refine mu_load mc_31_32 (by decide) rfl ?_
    refine mt_call (args := [mm_P 10, mm_I (v4)]) (rest := []) mc_31_33 (by decide) rfl rfl rfl ⟨Or.inl (by simp), rfl, by decide⟩ (mu_rcv (by decide) rfl (by decide)) H ?_
    rintro _ _ ⟨D1, u2, x3, rfl, rfl, H⟩
    refine Or.inl ⟨_, rfl, ?_⟩
    refine mu_aload (r := some (12)) mc_31_34 (by decide) rfl ?_
    refine mu_get mc_31_35 rfl ?_
    refine mu_load mc_31_36 (by decide) rfl ?_
    refine mu_load mc_31_37 (by decide) rfl ?_
    refine mt_call (args := [mm_P 13, mm_I (v2), mm_I (v4)]) (rest := []) mc_31_38 (by decide) rfl rfl rfl ⟨Or.inl (by simp), rfl, by decide⟩ (mu_rcv (by decide) rfl (by decide)) H ?_
    rintro _ _ ⟨r8, D5, u6, x7, rfl, rfl, H⟩
    refine Or.inl ⟨_, rfl, ?_⟩
    refine mu_store mc_31_39 (by decide) (by simp) (ls' := [some (mm_P 12), some (mm_P 10), some (mm_I (r8)), some (mm_I (v3)), some (mm_I (v4))]) rfl ?_
    have h9 := H.1
    replace H := H.2
    refine mu_iinc mc_31_40 rfl h9 (ls' := [some (mm_P 12), some (mm_P 10), some (mm_I (r8)), some (mm_I ((v3) + (-1 : Int))), some (mm_I (v4))]) rfl ?_
    refine mu_rfl (n := 13) mc_31_41 (by decide) rfl rfl ?_
    exact H
  · replace H := H.2 c
    refine mu_aload (r := some (12)) mc_31_20 (by decide) rfl ?_
    refine mu_aload (r := some (12)) mc_31_21 (by decide) rfl ?_
    refine mu_get mc_31_22 rfl ?_
    refine mu_load mc_31_23 (by decide) rfl ?_
    refine mu_load mc_31_24 (by decide) rfl ?_
    refine mt_call (args := [mm_P 13, mm_I (v2), mm_I (v4)]) (rest := [mm_P 12]) mc_31_25 (by decide) rfl rfl rfl ⟨Or.inl (by simp), rfl, by decide⟩ (mu_rcv (by decide) rfl (by decide)) H ?_
    rintro _ _ ⟨r13, D10, u11, x12, rfl, rfl, H⟩
    refine Or.inl ⟨_, rfl, ?_⟩
    refine mt_call (args := [mm_P 12, mm_I (r13)]) (rest := []) mc_31_26 (by decide) rfl rfl rfl ⟨Or.inl (by simp), rfl, by decide⟩ (mu_rcv (by decide) rfl (by decide)) H ?_
    rintro _ _ ⟨r17, D14, u15, x16, rfl, rfl, H⟩
    refine Or.inl ⟨_, rfl, ?_⟩
    refine mu_load mc_31_27 (by decide) rfl ?_
    refine mu_ic_eq mc_31_28 (fun c => ?_) (fun c => ?_)
    · replace H := H.1 c
      refine mu_aload (r := some (10)) mc_31_31 (by decide) rfl ?_
      refine mu_load mc_31_32 (by decide) rfl ?_
      refine mt_call (args := [mm_P 10, mm_I (v4)]) (rest := []) mc_31_33 (by decide) rfl rfl rfl ⟨Or.inl (by simp), rfl, by decide⟩ (mu_rcv (by decide) rfl (by decide)) H ?_
      rintro _ _ ⟨D18, u19, x20, rfl, rfl, H⟩
      refine Or.inl ⟨_, rfl, ?_⟩
      refine mu_aload (r := some (12)) mc_31_34 (by decide) rfl ?_
      refine mu_get mc_31_35 rfl ?_
      refine mu_load mc_31_36 (by decide) rfl ?_
      refine mu_load mc_31_37 (by decide) rfl ?_
      refine mt_call (args := [mm_P 13, mm_I (v2), mm_I (v4)]) (rest := []) mc_31_38 (by decide) rfl rfl rfl ⟨Or.inl (by simp), rfl, by decide⟩ (mu_rcv (by decide) rfl (by decide)) H ?_
      rintro _ _ ⟨r25, D22, u23, x24, rfl, rfl, H⟩
      refine Or.inl ⟨_, rfl, ?_⟩
      refine mu_store mc_31_39 (by decide) (by simp) (ls' := [some (mm_P 12), some (mm_P 10), some (mm_I (r25)), some (mm_I (v3)), some (mm_I (v4))]) rfl ?_
      have h26 := H.1
      replace H := H.2
      refine mu_iinc mc_31_40 rfl h26 (ls' := [some (mm_P 12), some (mm_P 10), some (mm_I (r25)), some (mm_I ((v3) + (-1 : Int))), some (mm_I (v4))]) rfl ?_
      refine mu_rfl (n := 13) mc_31_41 (by decide) rfl rfl ?_
      exact H
    · replace H := H.2 c
      have h27 := H.1
      replace H := H.2
      refine mu_iinc mc_31_29 rfl h27 (ls' := [some (mm_P 12), some (mm_P 10), some (mm_I (v2)), some (mm_I (v3)), some (mm_I ((v4) + (1 : Int)))]) rfl ?_
      refine mu_rfl (n := 17) mc_31_30 (by decide) rfl rfl ?_
      exact H

theorem q_X2_suits_0 {D : mm_D} {u : Int} {x : Nat × (Nat × List Int)} {Q : mm_O → mm_H → Prop} (v1 v2 v3 : Int) (H : (((v1) = 0) → Q (.inl (some (mm_I ((1 : Int))))) (mm_mk D u x)) ∧ (¬ ((v1) = 0) → mt 21 0 [some (mm_P 14), some (mm_I (v1)), some (mm_I (v2)), none, none] [] (mm_mk D u x) (mm_pI fun r4 D1 u2 x3 => (((r4) = 0) → Q (.inl (some (mm_I ((0 : Int))))) (mm_mk D1 u2 x3)) ∧ (¬ ((r4) = 0) → mt 20 0 [some (mm_P 14), some (mm_I (v1)), none, none] [] (mm_mk D1 u2 x3) (mm_pI fun r8 D5 u6 x7 => (((r8) < (v3)) → Q (.inl (some (mm_I ((0 : Int))))) (mm_mk D5 u6 x7)) ∧ (¬ ((r8) < (v3)) → Q (.inl (some (mm_I ((1 : Int))))) (mm_mk D5 u6 x7))))))) : mt 32 0 [some (mm_P 12), some (mm_I (v1)), some (mm_I (v2)), some (mm_I (v3))] [] (mm_mk D u x) Q := by
  refine mu_load mc_32_0 (by decide) rfl ?_
  refine mu_if_eq mc_32_1 (fun c => ?_) (fun c => ?_)
  · replace H := H.1 c
    refine mu_const mc_32_16 (by decide) (by decide) ?_
    refine mu_rfl (n := 19) mc_32_17 (by decide) rfl rfl ?_
    exact mt_retB mc_32_19 (by decide) H
  · replace H := H.2 c
    refine mu_aload (r := some (12)) mc_32_2 (by decide) rfl ?_
    refine mu_get mc_32_3 rfl ?_
    refine mu_get mc_32_4 rfl ?_
    refine mu_load mc_32_5 (by decide) rfl ?_
    refine mu_load mc_32_6 (by decide) rfl ?_
    refine mt_call (args := [mm_P 14, mm_I (v1), mm_I (v2)]) (rest := []) mc_32_7 (by decide) rfl rfl rfl ⟨Or.inl (by simp), rfl, by decide⟩ (mu_rcv (by decide) rfl (by decide)) H ?_
    rintro _ _ ⟨r4, D1, u2, x3, rfl, rfl, H⟩
    refine Or.inl ⟨_, rfl, ?_⟩
    refine mu_if_eq mc_32_8 (fun c => ?_) (fun c => ?_)
    · replace H := H.1 c
      refine mu_const mc_32_18 (by decide) (by decide) ?_
      exact mt_retB mc_32_19 (by decide) H
    · replace H := H.2 c
      refine mu_aload (r := some (12)) mc_32_9 (by decide) rfl ?_
      refine mu_get mc_32_10 rfl ?_
      refine mu_get mc_32_11 rfl ?_
      refine mu_load mc_32_12 (by decide) rfl ?_
      refine mt_call (args := [mm_P 14, mm_I (v1)]) (rest := []) mc_32_13 (by decide) rfl rfl rfl ⟨Or.inl (by simp), rfl, by decide⟩ (mu_rcv (by decide) rfl (by decide)) H ?_
      rintro _ _ ⟨r8, D5, u6, x7, rfl, rfl, H⟩
      refine Or.inl ⟨_, rfl, ?_⟩
      refine mu_load mc_32_14 (by decide) rfl ?_
      refine mu_ic_lt mc_32_15 (fun c => ?_) (fun c => ?_)
      · replace H := H.1 c
        refine mu_const mc_32_18 (by decide) (by decide) ?_
        exact mt_retB mc_32_19 (by decide) H
      · replace H := H.2 c
        refine mu_const mc_32_16 (by decide) (by decide) ?_
        refine mu_rfl (n := 19) mc_32_17 (by decide) rfl rfl ?_
        exact mt_retB mc_32_19 (by decide) H

theorem q_X2_aheadOf_0 {D : mm_D} {u : Int} {x : Nat × (Nat × List Int)} {Q : mm_O → mm_H → Prop} (v1 : Int) (H : mt 70 0 [some (mm_I (v1)), some (mm_I (((201 : Nat) : Int)))] [] (mm_mk D u x) (mm_pI fun r4 D1 u2 x3 => (((r4) = 0) → Q (.inl (some (mm_I (D1 12 2)))) (mm_mk D1 u2 x3)) ∧ (¬ ((r4) = 0) → (0 ≤ (v1)) ∧ (((v1) < 201) ∧ (Q (.inl (some (mm_I (D1 23 (v1))))) (mm_mk D1 u2 x3)))))) : mt 33 0 [some (mm_P 12), some (mm_I (v1))] [] (mm_mk D u x) Q := by
  refine mu_load mc_33_0 (by decide) rfl ?_
  refine mu_aload (r := some (12)) mc_33_1 (by decide) rfl ?_
  refine mu_get mc_33_2 rfl ?_
  refine mu_alen (n := 201) mc_33_3 rfl ?_
  refine mt_call (args := [mm_I (v1), mm_I (((201 : Nat) : Int))]) (rest := []) mc_33_4 (by decide) rfl rfl rfl ⟨Or.inl (by simp), rfl, by decide⟩ rfl H ?_
  rintro _ _ ⟨r4, D1, u2, x3, rfl, rfl, H⟩
  refine Or.inl ⟨_, rfl, ?_⟩
  refine mu_if_eq mc_33_5 (fun c => ?_) (fun c => ?_)
  · replace H := H.1 c
    refine mu_aload (r := some (12)) mc_33_11 (by decide) rfl ?_
    refine mu_get mc_33_12 rfl ?_
    exact mt_ret mc_33_13 H
  · replace H := H.2 c
    refine mu_aload (r := some (12)) mc_33_6 (by decide) rfl ?_
    refine mu_get mc_33_7 rfl ?_
    refine mu_load mc_33_8 (by decide) rfl ?_
    have h5 := H.1
    replace H := H.2
    have h6 := H.1
    replace H := H.2
    refine mu_iald mc_33_9 rfl h5 h6 ?_
    refine mu_rfl (n := 13) mc_33_10 (by decide) rfl rfl ?_
    exact mt_ret mc_33_13 H

theorem q_X2_putAhead_0 {D : mm_D} {u : Int} {x : Nat × (Nat × List Int)} {Q : mm_O → mm_H → Prop} (v1 v2 : Int) (H : mt 70 0 [some (mm_I (v1)), some (mm_I (((201 : Nat) : Int)))] [] (mm_mk D u x) (mm_pI fun r4 D1 u2 x3 => (((r4) = 0) → Q (.inl none) (mm_mk D1 u2 x3)) ∧ (¬ ((r4) = 0) → (0 ≤ (v1)) ∧ (((v1) < 201) ∧ (∀ D7 : mm_D, D7 = mm_wr D1 23 (v1) (v2) → (Q (.inl none) (mm_mk D7 u2 x3))))))) : mt 34 0 [some (mm_P 12), some (mm_I (v1)), some (mm_I (v2))] [] (mm_mk D u x) Q := by
  refine mu_load mc_34_0 (by decide) rfl ?_
  refine mu_aload (r := some (12)) mc_34_1 (by decide) rfl ?_
  refine mu_get mc_34_2 rfl ?_
  refine mu_alen (n := 201) mc_34_3 rfl ?_
  refine mt_call (args := [mm_I (v1), mm_I (((201 : Nat) : Int))]) (rest := []) mc_34_4 (by decide) rfl rfl rfl ⟨Or.inl (by simp), rfl, by decide⟩ rfl H ?_
  rintro _ _ ⟨r4, D1, u2, x3, rfl, rfl, H⟩
  refine Or.inl ⟨_, rfl, ?_⟩
  refine mu_if_eq mc_34_5 (fun c => ?_) (fun c => ?_)
  · replace H := H.1 c
    exact mt_retV mc_34_11 H
  · replace H := H.2 c
    refine mu_aload (r := some (12)) mc_34_6 (by decide) rfl ?_
    refine mu_get mc_34_7 rfl ?_
    refine mu_load mc_34_8 (by decide) rfl ?_
    refine mu_load mc_34_9 (by decide) rfl ?_
    have h5 := H.1
    replace H := H.2
    have h6 := H.1
    replace H := H.2
    refine mu_iast mc_34_10 rfl h5 h6 ?_
    obtain ⟨D7, eD7⟩ : ∃ z, z = mm_wr D1 23 (v1) (v2) := ⟨_, rfl⟩
    replace H := H D7 eD7
    rw [← eD7]
    exact mt_retV mc_34_11 H
