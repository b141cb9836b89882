/-! printed by wip/p31/gen22.py -/
theorem q_X0_forget_0 {D : mm_D} {u : Int} {x : Nat × (Nat × List Int)} {Q : mm_O → mm_H → Prop} (H : ∀ D1 : mm_D, D1 = mm_wr D 13 6 ((0 : Int)) → (mt 11 0 [some (mm_P 13), some (mm_I ((0 : Int))), some (mm_I ((-1 : Int))), none, none] [] (mm_mk D1 u x) (mm_pI fun r5 D2 u3 x4 => mt 1 10 [some (mm_P 13), some (mm_I ((0 : Int)))] [] (mm_mk D2 u3 x4) Q))) : mt 1 0 [some (mm_P 13), none] [] (mm_mk D u x) Q := by
  refine mu_aload (r := some (13)) mc_1_0 (by decide) rfl ?_
  refine mu_const mc_1_1 (by decide) (by decide) ?_
  refine mu_put mc_1_2 (by decide) (Or.inl rfl) ?_
  obtain ⟨D1, eD1⟩ : ∃ z, z = mm_wr D 13 6 ((0 : Int)) := ⟨_, rfl⟩
  replace H := H D1 eD1
  show mt _ _ _ _ (mm_mk (mm_wr D 13 6 ((0 : Int))) _ _) _
  rw [← eD1]
  refine mu_aload (r := some (13)) mc_1_3 (by decide) rfl ?_
  refine mu_const mc_1_4 (by decide) (by decide) ?_
  refine mu_const mc_1_5 (by decide) (by decide) ?_
  refine mt_call (args := [mm_P 13, mm_I ((0 : Int)), mm_I ((-1 : Int))]) (rest := []) mc_1_6 (by decide) rfl rfl rfl ⟨Or.inl (by simp), rfl, by decide⟩ (mu_rcv (by decide) rfl (by decide)) H ?_
  rintro _ _ ⟨r5, D2, u3, x4, rfl, rfl, H⟩
  refine Or.inl ⟨_, rfl, ?_⟩
  refine mu_rfl mc_1_7 (by decide) rfl rfl ?_
  refine mu_const mc_1_8 (by decide) (by decide) ?_
  refine mu_store mc_1_9 (by decide) (by simp) (ls' := [some (mm_P 13), some (mm_I ((0 : Int)))]) rfl ?_
  exact H
theorem q_X0_forget_10 {D : mm_D} {u : Int} {x : Nat × (Nat × List Int)} {Q : mm_O → mm_H → Prop} (v1 : Int) (H : (((((4 : Nat) : Int)) ≤ (v1)) → Q (.inl none) (mm_mk D u x)) ∧ (¬ ((((4 : Nat) : Int)) ≤ (v1)) → (0 ≤ (v1)) ∧ (((v1) < 4) ∧ (∀ D3 : mm_D, D3 = mm_wr D 22 (v1) ((0 : Int)) → ((mm_rng ((v1) + (1 : Int))) ∧ (mt 1 10 [some (mm_P 13), some (mm_I ((v1) + (1 : Int)))] [] (mm_mk D3 u x) Q)))))) : mt 1 10 [some (mm_P 13), some (mm_I (v1))] [] (mm_mk D u x) Q := by
  refine mu_load mc_1_10 (by decide) rfl ?_
  refine mu_aload (r := some (13)) mc_1_11 (by decide) rfl ?_
  refine mu_get mc_1_12 rfl ?_
  refine mu_alen (n := 4) mc_1_13 rfl ?_
  refine mu_ic_ge mc_1_14 (fun c => ?_) (fun c => ?_)
  · replace H := H.1 c
    exact mt_retV mc_1_22 H
  · replace H := H.2 c
    refine mu_aload (r := some (13)) mc_1_15 (by decide) rfl ?_
    refine mu_get mc_1_16 rfl ?_
    refine mu_load mc_1_17 (by decide) rfl ?_
    refine mu_const mc_1_18 (by decide) (by decide) ?_
    have h1 := H.1
    replace H := H.2
    have h2 := H.1
    replace H := H.2
    refine mu_iast mc_1_19 rfl h1 h2 ?_
    obtain ⟨D3, eD3⟩ : ∃ z, z = mm_wr D 22 (v1) ((0 : Int)) := ⟨_, rfl⟩
    replace H := H D3 eD3
    rw [← eD3]
    have h4 := H.1
    replace H := H.2
    refine mu_iinc mc_1_20 rfl h4 (ls' := [some (mm_P 13), some (mm_I ((v1) + (1 : Int)))]) rfl ?_
    refine mu_rfl (n := 10) mc_1_21 (by decide) rfl rfl ?_
    exact H

theorem q_X0_stateCount_0 {D : mm_D} {u : Int} {x : Nat × (Nat × List Int)} {Q : mm_O → mm_H → Prop} (H : Q (.inl (some (mm_I (D 13 6)))) (mm_mk D u x)) : mt 2 0 [some (mm_P 13)] [] (mm_mk D u x) Q := by
  refine mu_aload (r := some (13)) mc_2_0 (by decide) rfl ?_
  refine mu_get mc_2_1 rfl ?_
  exact mt_ret mc_2_2 H

theorem q_X0_stateAt_0 {D : mm_D} {u : Int} {x : Nat × (Nat × List Int)} {Q : mm_O → mm_H → Prop} (v1 : Int) (H : mt 70 0 [some (mm_I (v1)), some (mm_I (D 13 6))] [] (mm_mk D u x) (mm_pI fun r4 D1 u2 x3 => (((r4) = 0) → Q (.inl (some (mm_I ((-1 : Int))))) (mm_mk D1 u2 x3)) ∧ (¬ ((r4) = 0) → (((((201 : Nat) : Int)) ≤ (v1)) → Q (.inl (some (mm_I ((-1 : Int))))) (mm_mk D1 u2 x3)) ∧ (¬ ((((201 : Nat) : Int)) ≤ (v1)) → (0 ≤ (v1)) ∧ (((v1) < 201) ∧ (Q (.inl (some (mm_I (D1 21 (v1))))) (mm_mk D1 u2 x3))))))) : mt 3 0 [some (mm_P 13), some (mm_I (v1))] [] (mm_mk D u x) Q := by
  refine mu_load mc_3_0 (by decide) rfl ?_
  refine mu_aload (r := some (13)) mc_3_1 (by decide) rfl ?_
  refine mu_get mc_3_2 rfl ?_
  refine mt_call (args := [mm_I (v1), mm_I (D 13 6)]) (rest := []) mc_3_3 (by decide) rfl rfl rfl ⟨Or.inl (by simp), rfl, by decide⟩ rfl H ?_
  rintro _ _ ⟨r4, D1, u2, x3, rfl, rfl, H⟩
  refine Or.inl ⟨_, rfl, ?_⟩
  refine mu_if_eq mc_3_4 (fun c => ?_) (fun c => ?_)
  · replace H := H.1 c
    refine mu_const mc_3_15 (by decide) (by decide) ?_
    exact mt_ret mc_3_16 H
  · replace H := H.2 c
    refine mu_load mc_3_5 (by decide) rfl ?_
    refine mu_aload (r := some (13)) mc_3_6 (by decide) rfl ?_
    refine mu_get mc_3_7 rfl ?_
    refine mu_alen (n := 201) mc_3_8 rfl ?_
    refine mu_ic_ge mc_3_9 (fun c => ?_) (fun c => ?_)
    · replace H := H.1 c
      refine mu_const mc_3_15 (by decide) (by decide) ?_
      exact mt_ret mc_3_16 H
    · replace H := H.2 c
      refine mu_aload (r := some (13)) mc_3_10 (by decide) rfl ?_
      refine mu_get mc_3_11 rfl ?_
      refine mu_load mc_3_12 (by decide) rfl ?_
      have h5 := H.1
      replace H := H.2
      have h6 := H.1
      replace H := H.2
      refine mu_iald mc_3_13 rfl h5 h6 ?_
      refine mu_rfl (n := 16) mc_3_14 (by decide) rfl rfl ?_
      exact mt_ret mc_3_16 H

theorem q_X0_partCount_0 {D : mm_D} {u : Int} {x : Nat × (Nat × List Int)} {Q : mm_O → mm_H → Prop} (H : mt 4 4 [some (mm_P 13), some (mm_I ((0 : Int))), some (mm_I ((1 : Int)))] [] (mm_mk D u x) Q) : mt 4 0 [some (mm_P 13), none, none] [] (mm_mk D u x) Q := by
  refine mu_const mc_4_0 (by decide) (by decide) ?_
  refine mu_store mc_4_1 (by decide) (by simp) (ls' := [some (mm_P 13), some (mm_I ((0 : Int))), none]) rfl ?_
  refine mu_const mc_4_2 (by decide) (by decide) ?_
  refine mu_store mc_4_3 (by decide) (by simp) (ls' := [some (mm_P 13), some (mm_I ((0 : Int))), some (mm_I ((1 : Int)))]) rfl ?_
  exact H
theorem q_X0_partCount_4 {D : mm_D} {u : Int} {x : Nat × (Nat × List Int)} {Q : mm_O → mm_H → Prop} (v1 v2 : Int) (H : (((D 13 6) ≤ (v2)) → Q (.inl (some (mm_I (v1)))) (mm_mk D u x)) ∧ (¬ ((D 13 6) ≤ (v2)) → mt 5 0 [some (mm_P 13), some (mm_I (v2))] [] (mm_mk D u x) (mm_pI fun r4 D1 u2 x3 => mt 6 0 [some (mm_P 13), some (mm_I (v2))] [] (mm_mk D1 u2 x3) (mm_pI fun r8 D5 u6 x7 => (mm_rng ((r4) - (r8))) ∧ ((mm_rng (((r4) - (r8)) + ((1 : Int)))) ∧ ((mm_rng ((v1) + (((r4) - (r8)) + ((1 : Int))))) ∧ ((mm_rng ((v2) + (1 : Int))) ∧ (mt 4 4 [some (mm_P 13), some (mm_I ((v1) + (((r4) - (r8)) + ((1 : Int))))), some (mm_I ((v2) + (1 : Int)))] [] (mm_mk D5 u6 x7) Q)))))))) : mt 4 4 [some (mm_P 13), some (mm_I (v1)), some (mm_I (v2))] [] (mm_mk D u x) Q := by
  refine mu_load mc_4_4 (by decide) rfl ?_
  refine mu_aload (r := some (13)) mc_4_5 (by decide) rfl ?_
  refine mu_get mc_4_6 rfl ?_
  refine mu_ic_ge mc_4_7 (fun c => ?_) (fun c => ?_)
  · replace H := H.1 c
    refine mu_load mc_4_22 (by decide) rfl ?_
    exact mt_ret mc_4_23 H
  · replace H := H.2 c
    refine mu_load mc_4_8 (by decide) rfl ?_
    refine mu_aload (r := some (13)) mc_4_9 (by decide) rfl ?_
    refine mu_load mc_4_10 (by decide) rfl ?_
    refine mt_call (args := [mm_P 13, mm_I (v2)]) (rest := [mm_I (v1)]) mc_4_11 (by decide) rfl rfl rfl ⟨Or.inl (by simp), rfl, by decide⟩ (mu_rcv (by decide) rfl (by decide)) H ?_
    rintro _ _ ⟨r4, D1, u2, x3, rfl, rfl, H⟩
    refine Or.inl ⟨_, rfl, ?_⟩
    refine mu_aload (r := some (13)) mc_4_12 (by decide) rfl ?_
    refine mu_load mc_4_13 (by decide) rfl ?_
    refine mt_call (args := [mm_P 13, mm_I (v2)]) (rest := [mm_I (r4), mm_I (v1)]) mc_4_14 (by decide) rfl rfl rfl ⟨Or.inl (by simp), rfl, by decide⟩ (mu_rcv (by decide) rfl (by decide)) H ?_
    rintro _ _ ⟨r8, D5, u6, x7, rfl, rfl, H⟩
    refine Or.inl ⟨_, rfl, ?_⟩
    have h9 := H.1
    replace H := H.2
    refine mu_isub mc_4_15 h9 ?_
    refine mu_const mc_4_16 (by decide) (by decide) ?_
    have h10 := H.1
    replace H := H.2
    refine mu_iadd mc_4_17 h10 ?_
    have h11 := H.1
    replace H := H.2
    refine mu_iadd mc_4_18 h11 ?_
    refine mu_store mc_4_19 (by decide) (by simp) (ls' := [some (mm_P 13), some (mm_I ((v1) + (((r4) - (r8)) + ((1 : Int))))), some (mm_I (v2))]) rfl ?_
    have h12 := H.1
    replace H := H.2
    refine mu_iinc mc_4_20 rfl h12 (ls' := [some (mm_P 13), some (mm_I ((v1) + (((r4) - (r8)) + ((1 : Int))))), some (mm_I ((v2) + (1 : Int)))]) rfl ?_
    refine mu_rfl (n := 4) mc_4_21 (by decide) rfl rfl ?_
    exact H

theorem q_X0_longestOf_0 {D : mm_D} {u : Int} {x : Nat × (Nat × List Int)} {Q : mm_O → mm_H → Prop} (v1 : Int) (H : (((v1) < 0) → Q (.inl (some (mm_I ((0 : Int))))) (mm_mk D u x)) ∧ (¬ ((v1) < 0) → ((((201 : Int)) ≤ (v1)) → Q (.inl (some (mm_I ((0 : Int))))) (mm_mk D u x)) ∧ (¬ (((201 : Int)) ≤ (v1)) → (0 ≤ (v1)) ∧ (((v1) < 201) ∧ (Q (.inl (some (mm_I (D 19 (v1))))) (mm_mk D u x)))))) : mt 5 0 [some (mm_P 13), some (mm_I (v1))] [] (mm_mk D u x) Q := by
  refine mu_load mc_5_0 (by decide) rfl ?_
  refine mu_if_lt mc_5_1 (fun c => ?_) (fun c => ?_)
  · replace H := H.1 c
    refine mu_const mc_5_10 (by decide) (by decide) ?_
    exact mt_ret mc_5_11 H
  · replace H := H.2 c
    refine mu_load mc_5_2 (by decide) rfl ?_
    refine mu_const mc_5_3 (by decide) (by decide) ?_
    refine mu_ic_ge mc_5_4 (fun c => ?_) (fun c => ?_)
    · replace H := H.1 c
      refine mu_const mc_5_10 (by decide) (by decide) ?_
      exact mt_ret mc_5_11 H
    · replace H := H.2 c
      refine mu_aload (r := some (13)) mc_5_5 (by decide) rfl ?_
      refine mu_get mc_5_6 rfl ?_
      refine mu_load mc_5_7 (by decide) rfl ?_
      have h1 := H.1
      replace H := H.2
      have h2 := H.1
      replace H := H.2
      refine mu_iald mc_5_8 rfl h1 h2 ?_
      refine mu_rfl (n := 11) mc_5_9 (by decide) rfl rfl ?_
      exact mt_ret mc_5_11 H

theorem q_X0_shortestOf_0 {D : mm_D} {u : Int} {x : Nat × (Nat × List Int)} {Q : mm_O → mm_H → Prop} (v1 : Int) (H : mt 13 0 [some (mm_P 13), some (mm_I (v1))] [] (mm_mk D u x) (mm_pI fun r4 D1 u2 x3 => mt 5 0 [some (mm_P 13), some (mm_I (r4))] [] (mm_mk D1 u2 x3) (mm_pI fun r8 D5 u6 x7 => (mm_rng ((r8) + ((1 : Int)))) ∧ (Q (.inl (some (mm_I ((r8) + ((1 : Int)))))) (mm_mk D5 u6 x7))))) : mt 6 0 [some (mm_P 13), some (mm_I (v1))] [] (mm_mk D u x) Q := by
  refine mu_aload (r := some (13)) mc_6_0 (by decide) rfl ?_
  refine mu_aload (r := some (13)) mc_6_1 (by decide) rfl ?_
  refine mu_load mc_6_2 (by decide) rfl ?_
  refine mt_call (args := [mm_P 13, mm_I (v1)]) (rest := [mm_P 13]) mc_6_3 (by decide) rfl rfl rfl ⟨Or.inl (by simp), rfl, by decide⟩ (mu_rcv (by decide) rfl (by decide)) H ?_
  rintro _ _ ⟨r4, D1, u2, x3, rfl, rfl, H⟩
  refine Or.inl ⟨_, rfl, ?_⟩
  refine mt_call (args := [mm_P 13, mm_I (r4)]) (rest := []) mc_6_4 (by decide) rfl rfl rfl ⟨Or.inl (by simp), rfl, by decide⟩ (mu_rcv (by decide) rfl (by decide)) H ?_
  rintro _ _ ⟨r8, D5, u6, x7, rfl, rfl, H⟩
  refine Or.inl ⟨_, rfl, ?_⟩
  refine mu_const mc_6_5 (by decide) (by decide) ?_
  have h9 := H.1
  replace H := H.2
  refine mu_iadd mc_6_6 h9 ?_
  exact mt_ret mc_6_7 H

theorem q_X0_step_0 {D : mm_D} {u : Int} {x : Nat × (Nat × List Int)} {Q : mm_O → mm_H → Prop} (v1 v2 : Int) (H : (((v1) < 0) → Q (.inl (some (mm_I ((-1 : Int))))) (mm_mk D u x)) ∧ (¬ ((v1) < 0) → ((((201 : Int)) ≤ (v1)) → Q (.inl (some (mm_I ((-1 : Int))))) (mm_mk D u x)) ∧ (¬ (((201 : Int)) ≤ (v1)) → (((v2) < 0) → Q (.inl (some (mm_I ((-1 : Int))))) (mm_mk D u x)) ∧ (¬ ((v2) < 0) → ((((26 : Int)) ≤ (v2)) → Q (.inl (some (mm_I ((-1 : Int))))) (mm_mk D u x)) ∧ (¬ (((26 : Int)) ≤ (v2)) → (mm_rng ((v1) * ((26 : Int)))) ∧ ((mm_rng (((v1) * ((26 : Int))) + (v2))) ∧ ((0 ≤ (((v1) * ((26 : Int))) + (v2))) ∧ (((((v1) * ((26 : Int))) + (v2)) < 5226) ∧ (Q (.inl (some (mm_I (D 18 (((v1) * ((26 : Int))) + (v2)))))) (mm_mk D u x)))))))))) : mt 7 0 [some (mm_P 13), some (mm_I (v1)), some (mm_I (v2)), none] [] (mm_mk D u x) Q := by
  refine mu_load mc_7_0 (by decide) rfl ?_
  refine mu_if_lt mc_7_1 (fun c => ?_) (fun c => ?_)
  · replace H := H.1 c
    refine mu_const mc_7_12 (by decide) (by decide) ?_
    refine mu_store mc_7_13 (by decide) (by simp) (ls' := [some (mm_P 13), some (mm_I (v1)), some (mm_I (v2)), some (mm_I ((0 : Int)))]) rfl ?_
    refine mu_load mc_7_14 (by decide) rfl ?_
    refine mu_if_eq mc_7_15 (fun _ => ?_) (fun c => absurd (by decide) c)
    refine mu_const mc_7_25 (by decide) (by decide) ?_
    exact mt_ret mc_7_26 H
  · replace H := H.2 c
    refine mu_load mc_7_2 (by decide) rfl ?_
    refine mu_const mc_7_3 (by decide) (by decide) ?_
    refine mu_ic_ge mc_7_4 (fun c => ?_) (fun c => ?_)
    · replace H := H.1 c
      refine mu_const mc_7_12 (by decide) (by decide) ?_
      refine mu_store mc_7_13 (by decide) (by simp) (ls' := [some (mm_P 13), some (mm_I (v1)), some (mm_I (v2)), some (mm_I ((0 : Int)))]) rfl ?_
      refine mu_load mc_7_14 (by decide) rfl ?_
      refine mu_if_eq mc_7_15 (fun _ => ?_) (fun c => absurd (by decide) c)
      refine mu_const mc_7_25 (by decide) (by decide) ?_
      exact mt_ret mc_7_26 H
    · replace H := H.2 c
      refine mu_load mc_7_5 (by decide) rfl ?_
      refine mu_if_lt mc_7_6 (fun c => ?_) (fun c => ?_)
      · replace H := H.1 c
        refine mu_const mc_7_12 (by decide) (by decide) ?_
        refine mu_store mc_7_13 (by decide) (by simp) (ls' := [some (mm_P 13), some (mm_I (v1)), some (mm_I (v2)), some (mm_I ((0 : Int)))]) rfl ?_
        refine mu_load mc_7_14 (by decide) rfl ?_
        refine mu_if_eq mc_7_15 (fun _ => ?_) (fun c => absurd (by decide) c)
        refine mu_const mc_7_25 (by decide) (by decide) ?_
        exact mt_ret mc_7_26 H
      · replace H := H.2 c
        refine mu_load mc_7_7 (by decide) rfl ?_
        refine mu_const mc_7_8 (by decide) (by decide) ?_
        refine mu_ic_ge mc_7_9 (fun c => ?_) (fun c => ?_)
        · replace H := H.1 c
          refine mu_const mc_7_12 (by decide) (by decide) ?_
          refine mu_store mc_7_13 (by decide) (by simp) (ls' := [some (mm_P 13), some (mm_I (v1)), some (mm_I (v2)), some (mm_I ((0 : Int)))]) rfl ?_
          refine mu_load mc_7_14 (by decide) rfl ?_
          refine mu_if_eq mc_7_15 (fun _ => ?_) (fun c => absurd (by decide) c)
          refine mu_const mc_7_25 (by decide) (by decide) ?_
          exact mt_ret mc_7_26 H
        · replace H := H.2 c
          refine mu_const mc_7_10 (by decide) (by decide) ?_
          refine mu_rfl (n := 13) mc_7_11 (by decide) rfl rfl ?_
          refine mu_store mc_7_13 (by decide) (by simp) (ls' := [some (mm_P 13), some (mm_I (v1)), some (mm_I (v2)), some (mm_I ((1 : Int)))]) rfl ?_
          refine mu_load mc_7_14 (by decide) rfl ?_
          refine mu_if_eq mc_7_15 (fun c => absurd c (by decide)) (fun _ => ?_)
          refine mu_aload (r := some (13)) mc_7_16 (by decide) rfl ?_
          refine mu_get mc_7_17 rfl ?_
          refine mu_load mc_7_18 (by decide) rfl ?_
          refine mu_const mc_7_19 (by decide) (by decide) ?_
          have h1 := H.1
          replace H := H.2
          refine mu_imul mc_7_20 h1 ?_
          refine mu_load mc_7_21 (by decide) rfl ?_
          have h2 := H.1
          replace H := H.2
          refine mu_iadd mc_7_22 h2 ?_
          have h3 := H.1
          replace H := H.2
          have h4 := H.1
          replace H := H.2
          refine mu_iald mc_7_23 rfl h3 h4 ?_
          refine mu_rfl (n := 26) mc_7_24 (by decide) rfl rfl ?_
          exact mt_ret mc_7_26 H

theorem q_X0_grow_0 {D : mm_D} {u : Int} {x : Nat × (Nat × List Int)} {Q : mm_O → mm_H → Prop} (v1 v2 v3 : Int) (H : mt 70 0 [some (mm_I (v1)), some (mm_I (((4 : Nat) : Int)))] [] (mm_mk D u x) (mm_pI fun r4 D1 u2 x3 => ((¬ (r4) = 0) → (0 ≤ (v1)) ∧ (((v1) < 4) ∧ (mt 9 0 [some (mm_P 13), some (mm_I (D1 22 (v1))), some (mm_I (v3)), none, none, none] [] (mm_mk D1 u2 x3) (mm_pI fun r10 D7 u8 x9 => (0 ≤ (v1)) ∧ (((v1) < 4) ∧ (∀ D13 : mm_D, D13 = mm_wr D7 22 (v1) (r10) → (mt 8 24 [some (mm_P 13), some (mm_I (v1)), some (mm_I (v2)), some (mm_I (v3)), some (mm_I (r10)), some (mm_I (r10)), some (mm_I ((0 : Int)))] [] (mm_mk D13 u8 x9) Q))))))) ∧ (¬ (¬ (r4) = 0) → Q (.inl none) (mm_mk D1 u2 x3)))) : mt 8 0 [some (mm_P 13), some (mm_I (v1)), some (mm_I (v2)), some (mm_I (v3)), none, none, none] [] (mm_mk D u x) Q := by
  refine mu_load mc_8_0 (by decide) rfl ?_
  refine mu_aload (r := some (13)) mc_8_1 (by decide) rfl ?_
  refine mu_get mc_8_2 rfl ?_
  refine mu_alen (n := 4) mc_8_3 rfl ?_
  refine mt_call (args := [mm_I (v1), mm_I (((4 : Nat) : Int))]) (rest := []) mc_8_4 (by decide) rfl rfl rfl ⟨Or.inl (by simp), rfl, by decide⟩ rfl H ?_
  rintro _ _ ⟨r4, D1, u2, x3, rfl, rfl, H⟩
  refine Or.inl ⟨_, rfl, ?_⟩
  refine mu_if_ne mc_8_5 (fun c => ?_) (fun c => ?_)
  · replace H := H.1 c
    refine mu_aload (r := some (13)) mc_8_7 (by decide) rfl ?_
    refine mu_aload (r := some (13)) mc_8_8 (by decide) rfl ?_
    refine mu_get mc_8_9 rfl ?_
    refine mu_load mc_8_10 (by decide) rfl ?_
    have h5 := H.1
    replace H := H.2
    have h6 := H.1
    replace H := H.2
    refine mu_iald mc_8_11 rfl h5 h6 ?_
    refine mu_load mc_8_12 (by decide) rfl ?_
    refine mt_call (args := [mm_P 13, mm_I (D1 22 (v1)), mm_I (v3)]) (rest := []) mc_8_13 (by decide) rfl rfl rfl ⟨Or.inl (by simp), rfl, by decide⟩ (mu_rcv (by decide) rfl (by decide)) H ?_
    rintro _ _ ⟨r10, D7, u8, x9, rfl, rfl, H⟩
    refine Or.inl ⟨_, rfl, ?_⟩
    refine mu_store mc_8_14 (by decide) (by simp) (ls' := [some (mm_P 13), some (mm_I (v1)), some (mm_I (v2)), some (mm_I (v3)), some (mm_I (r10)), none, none]) rfl ?_
    refine mu_aload (r := some (13)) mc_8_15 (by decide) rfl ?_
    refine mu_get mc_8_16 rfl ?_
    refine mu_load mc_8_17 (by decide) rfl ?_
    refine mu_load mc_8_18 (by decide) rfl ?_
    have h11 := H.1
    replace H := H.2
    have h12 := H.1
    replace H := H.2
    refine mu_iast mc_8_19 rfl h11 h12 ?_
    obtain ⟨D13, eD13⟩ : ∃ z, z = mm_wr D7 22 (v1) (r10) := ⟨_, rfl⟩
    replace H := H D13 eD13
    rw [← eD13]
    refine mu_load mc_8_20 (by decide) rfl ?_
    refine mu_store mc_8_21 (by decide) (by simp) (ls' := [some (mm_P 13), some (mm_I (v1)), some (mm_I (v2)), some (mm_I (v3)), some (mm_I (r10)), some (mm_I (r10)), none]) rfl ?_
    refine mu_const mc_8_22 (by decide) (by decide) ?_
    refine mu_store mc_8_23 (by decide) (by simp) (ls' := [some (mm_P 13), some (mm_I (v1)), some (mm_I (v2)), some (mm_I (v3)), some (mm_I (r10)), some (mm_I (r10)), some (mm_I ((0 : Int)))]) rfl ?_
    exact H
  · replace H := H.2 c
    exact mt_retV mc_8_6 H
theorem q_X0_grow_24 {D : mm_D} {u : Int} {x : Nat × (Nat × List Int)} {Q : mm_O → mm_H → Prop} (v1 v2 v3 v4 v5 v6 : Int) (H : ((((201 : Int)) ≤ (v6)) → Q (.inl none) (mm_mk D u x)) ∧ (¬ (((201 : Int)) ≤ (v6)) → (((v5) ≤ 0) → Q (.inl none) (mm_mk D u x)) ∧ (¬ ((v5) ≤ 0) → mt 22 0 [some (mm_P 14), some (mm_I (v5)), some (mm_I (v1)), some (mm_I (v2)), none] [] (mm_mk D u x) (mm_pV fun D1 u2 x3 => mt 13 0 [some (mm_P 13), some (mm_I (v5))] [] (mm_mk D1 u2 x3) (mm_pI fun r8 D5 u6 x7 => (mm_rng ((v6) + (1 : Int))) ∧ (mt 8 24 [some (mm_P 13), some (mm_I (v1)), some (mm_I (v2)), some (mm_I (v3)), some (mm_I (v4)), some (mm_I (r8)), some (mm_I ((v6) + (1 : Int)))] [] (mm_mk D5 u6 x7) Q)))))) : mt 8 24 [some (mm_P 13), some (mm_I (v1)), some (mm_I (v2)), some (mm_I (v3)), some (mm_I (v4)), some (mm_I (v5)), some (mm_I (v6))] [] (mm_mk D u x) Q := by
  refine mu_load mc_8_24 (by decide) rfl ?_
  refine mu_const mc_8_25 (by decide) (by decide) ?_
  refine mu_ic_ge mc_8_26 (fun c => ?_) (fun c => ?_)
  · replace H := H.1 c
    exact mt_retV mc_8_41 H
  · replace H := H.2 c
    refine mu_load mc_8_27 (by decide) rfl ?_
    refine mu_if_le mc_8_28 (fun c => ?_) (fun c => ?_)
    · replace H := H.1 c
      exact mt_retV mc_8_41 H
    · replace H := H.2 c
      refine mu_aload (r := some (13)) mc_8_29 (by decide) rfl ?_
      refine mu_get mc_8_30 rfl ?_
      refine mu_load mc_8_31 (by decide) rfl ?_
      refine mu_load mc_8_32 (by decide) rfl ?_
      refine mu_load mc_8_33 (by decide) rfl ?_
      refine mt_call (args := [mm_P 14, mm_I (v5), mm_I (v1), mm_I (v2)]) (rest := []) mc_8_34 (by decide) rfl rfl rfl ⟨Or.inl (by simp), rfl, by decide⟩ (mu_rcv (by decide) rfl (by decide)) H ?_
      rintro _ _ ⟨D1, u2, x3, rfl, rfl, H⟩
      refine Or.inl ⟨_, rfl, ?_⟩
      refine mu_aload (r := some (13)) mc_8_35 (by decide) rfl ?_
      refine mu_load mc_8_36 (by decide) rfl ?_
      refine mt_call (args := [mm_P 13, mm_I (v5)]) (rest := []) mc_8_37 (by decide) rfl rfl rfl ⟨Or.inl (by simp), rfl, by decide⟩ (mu_rcv (by decide) rfl (by decide)) H ?_
      rintro _ _ ⟨r8, D5, u6, x7, rfl, rfl, H⟩
      refine Or.inl ⟨_, rfl, ?_⟩
      refine mu_store mc_8_38 (by decide) (by simp) (ls' := [some (mm_P 13), some (mm_I (v1)), some (mm_I (v2)), some (mm_I (v3)), some (mm_I (v4)), some (mm_I (r8)), some (mm_I (v6))]) rfl ?_
      have h9 := H.1
      replace H := H.2
      refine mu_iinc mc_8_39 rfl h9 (ls' := [some (mm_P 13), some (mm_I (v1)), some (mm_I (v2)), some (mm_I (v3)), some (mm_I (v4)), some (mm_I (r8)), some (mm_I ((v6) + (1 : Int)))]) rfl ?_
      refine mu_rfl (n := 24) mc_8_40 (by decide) rfl rfl ?_
      exact H

theorem q_X0_extend_0 {D : mm_D} {u : Int} {x : Nat × (Nat × List Int)} {Q : mm_O → mm_H → Prop} (v1 v2 : Int) (H : mt 7 0 [some (mm_P 13), some (mm_I (v1)), some (mm_I (v2)), none] [] (mm_mk D u x) (mm_pI fun r4 D1 u2 x3 => (((r4) = ((-1 : Int))) → mt 5 0 [some (mm_P 13), some (mm_I (v1))] [] (mm_mk D1 u2 x3) (mm_pI fun r8 D5 u6 x7 => (mm_rng ((r8) + ((1 : Int)))) ∧ (mt 11 0 [some (mm_P 13), some (mm_I ((r8) + ((1 : Int)))), some (mm_I ((-1 : Int))), none, none] [] (mm_mk D5 u6 x7) (mm_pI fun r13 D10 u11 x12 => mt 9 24 [some (mm_P 13), some (mm_I (v1)), some (mm_I (v2)), some (mm_I (r13)), some (mm_I (v1)), some (mm_I ((0 : Int)))] [] (mm_mk D10 u11 x12) Q)))) ∧ (¬ ((r4) = ((-1 : Int))) → mt 10 0 [some (mm_P 13), some (mm_I (v1)), some (mm_I (v2)), none, none, none, none, none] [] (mm_mk D1 u2 x3) (mm_pI fun r17 D14 u15 x16 => Q (.inl (some (mm_I (r17)))) (mm_mk D14 u15 x16))))) : mt 9 0 [some (mm_P 13), some (mm_I (v1)), some (mm_I (v2)), none, none, none] [] (mm_mk D u x) Q := by
  refine mu_aload (r := some (13)) mc_9_0 (by decide) rfl ?_
  refine mu_load mc_9_1 (by decide) rfl ?_
  refine mu_load mc_9_2 (by decide) rfl ?_
  refine mt_call (args := [mm_P 13, mm_I (v1), mm_I (v2)]) (rest := []) mc_9_3 (by decide) rfl rfl rfl ⟨Or.inl (by simp), rfl, by decide⟩ (mu_rcv (by decide) rfl (by decide)) H ?_
  rintro _ _ ⟨r4, D1, u2, x3, rfl, rfl, H⟩
  refine Or.inl ⟨_, rfl, ?_⟩
  refine mu_const mc_9_4 (by decide) (by decide) ?_
  refine mu_ic_eq mc_9_5 (fun c => ?_) (fun c => ?_)
  · replace H := H.1 c
    refine mu_aload (r := some (13)) mc_9_11 (by decide) rfl ?_
    refine mu_aload (r := some (13)) mc_9_12 (by decide) rfl ?_
    refine mu_load mc_9_13 (by decide) rfl ?_
    refine mt_call (args := [mm_P 13, mm_I (v1)]) (rest := [mm_P 13]) mc_9_14 (by decide) rfl rfl rfl ⟨Or.inl (by simp), rfl, by decide⟩ (mu_rcv (by decide) rfl (by decide)) H ?_
    rintro _ _ ⟨r8, D5, u6, x7, rfl, rfl, H⟩
    refine Or.inl ⟨_, rfl, ?_⟩
    refine mu_const mc_9_15 (by decide) (by decide) ?_
    have h9 := H.1
    replace H := H.2
    refine mu_iadd mc_9_16 h9 ?_
    refine mu_const mc_9_17 (by decide) (by decide) ?_
    refine mt_call (args := [mm_P 13, mm_I ((r8) + ((1 : Int))), mm_I ((-1 : Int))]) (rest := []) mc_9_18 (by decide) rfl rfl rfl ⟨Or.inl (by simp), rfl, by decide⟩ (mu_rcv (by decide) rfl (by decide)) H ?_
    rintro _ _ ⟨r13, D10, u11, x12, rfl, rfl, H⟩
    refine Or.inl ⟨_, rfl, ?_⟩
    refine mu_store mc_9_19 (by decide) (by simp) (ls' := [some (mm_P 13), some (mm_I (v1)), some (mm_I (v2)), some (mm_I (r13)), none, none]) rfl ?_
    refine mu_load mc_9_20 (by decide) rfl ?_
    refine mu_store mc_9_21 (by decide) (by simp) (ls' := [some (mm_P 13), some (mm_I (v1)), some (mm_I (v2)), some (mm_I (r13)), some (mm_I (v1)), none]) rfl ?_
    refine mu_const mc_9_22 (by decide) (by decide) ?_
    refine mu_store mc_9_23 (by decide) (by simp) (ls' := [some (mm_P 13), some (mm_I (v1)), some (mm_I (v2)), some (mm_I (r13)), some (mm_I (v1)), some (mm_I ((0 : Int)))]) rfl ?_
    exact H
  · replace H := H.2 c
    refine mu_aload (r := some (13)) mc_9_6 (by decide) rfl ?_
    refine mu_load mc_9_7 (by decide) rfl ?_
    refine mu_load mc_9_8 (by decide) rfl ?_
    refine mt_call (args := [mm_P 13, mm_I (v1), mm_I (v2)]) (rest := []) mc_9_9 (by decide) rfl rfl rfl ⟨Or.inl (by simp), rfl, by decide⟩ (mu_rcv (by decide) rfl (by decide)) H ?_
    rintro _ _ ⟨r17, D14, u15, x16, rfl, rfl, H⟩
    refine Or.inl ⟨_, rfl, ?_⟩
    exact mt_ret mc_9_10 H
theorem q_X0_extend_24 {D : mm_D} {u : Int} {x : Nat × (Nat × List Int)} {Q : mm_O → mm_H → Prop} (v1 v2 v3 v4 v5 : Int) (H : ((((201 : Int)) ≤ (v5)) → ((¬ (v4) = ((-1 : Int))) → mt 10 0 [some (mm_P 13), some (mm_I (v4)), some (mm_I (v2)), none, none, none, none, none] [] (mm_mk D u x) (mm_pI fun r4 D1 u2 x3 => mt 14 0 [some (mm_P 13), some (mm_I (v3)), some (mm_I (r4))] [] (mm_mk D1 u2 x3) (mm_pV fun D5 u6 x7 => Q (.inl (some (mm_I (v3)))) (mm_mk D5 u6 x7)))) ∧ (¬ (¬ (v4) = ((-1 : Int))) → mt 14 0 [some (mm_P 13), some (mm_I (v3)), some (mm_I ((0 : Int)))] [] (mm_mk D u x) (mm_pV fun D9 u10 x11 => Q (.inl (some (mm_I (v3)))) (mm_mk D9 u10 x11)))) ∧ (¬ (((201 : Int)) ≤ (v5)) → (((v4) = ((-1 : Int))) → ((¬ (v4) = ((-1 : Int))) → mt 10 0 [some (mm_P 13), some (mm_I (v4)), some (mm_I (v2)), none, none, none, none, none] [] (mm_mk D u x) (mm_pI fun r16 D13 u14 x15 => mt 14 0 [some (mm_P 13), some (mm_I (v3)), some (mm_I (r16))] [] (mm_mk D13 u14 x15) (mm_pV fun D17 u18 x19 => Q (.inl (some (mm_I (v3)))) (mm_mk D17 u18 x19)))) ∧ (¬ (¬ (v4) = ((-1 : Int))) → mt 14 0 [some (mm_P 13), some (mm_I (v3)), some (mm_I ((0 : Int)))] [] (mm_mk D u x) (mm_pV fun D21 u22 x23 => Q (.inl (some (mm_I (v3)))) (mm_mk D21 u22 x23)))) ∧ (¬ ((v4) = ((-1 : Int))) → mt 7 0 [some (mm_P 13), some (mm_I (v4)), some (mm_I (v2)), none] [] (mm_mk D u x) (mm_pI fun r28 D25 u26 x27 => (((r28) = ((-1 : Int))) → mt 15 0 [some (mm_P 13), some (mm_I (v4)), some (mm_I (v2)), some (mm_I (v3)), none] [] (mm_mk D25 u26 x27) (mm_pV fun D29 u30 x31 => mt 13 0 [some (mm_P 13), some (mm_I (v4))] [] (mm_mk D29 u30 x31) (mm_pI fun r36 D33 u34 x35 => (mm_rng ((v5) + (1 : Int))) ∧ (mt 9 24 [some (mm_P 13), some (mm_I (v1)), some (mm_I (v2)), some (mm_I (v3)), some (mm_I (r36)), some (mm_I ((v5) + (1 : Int)))] [] (mm_mk D33 u34 x35) Q)))) ∧ (¬ ((r28) = ((-1 : Int))) → ((¬ (v4) = ((-1 : Int))) → mt 10 0 [some (mm_P 13), some (mm_I (v4)), some (mm_I (v2)), none, none, none, none, none] [] (mm_mk D25 u26 x27) (mm_pI fun r41 D38 u39 x40 => mt 14 0 [some (mm_P 13), some (mm_I (v3)), some (mm_I (r41))] [] (mm_mk D38 u39 x40) (mm_pV fun D42 u43 x44 => Q (.inl (some (mm_I (v3)))) (mm_mk D42 u43 x44)))) ∧ (¬ (¬ (v4) = ((-1 : Int))) → mt 14 0 [some (mm_P 13), some (mm_I (v3)), some (mm_I ((0 : Int)))] [] (mm_mk D25 u26 x27) (mm_pV fun D46 u47 x48 => Q (.inl (some (mm_I (v3)))) (mm_mk D46 u47 x48)))))))) : mt 9 24 [some (mm_P 13), some (mm_I (v1)), some (mm_I (v2)), some (mm_I (v3)), some (mm_I (v4)), some (mm_I (v5))] [] (mm_mk D u x) Q := by
  refine mu_load mc_9_24 (by decide) rfl ?_
  refine mu_const mc_9_25 (by decide) (by decide) ?_
  refine mu_ic_ge mc_9_26 (fun c => ?_) (fun c => ?_)
  · replace H := H.1 c
    refine mu_aload (r := some (13)) mc_9_48 (by decide) rfl ?_
    refine mu_load mc_9_49 (by decide) rfl ?_
    refine mu_load mc_9_50 (by decide) rfl ?_
    refine mu_const mc_9_51 (by decide) (by decide) ?_
    refine mu_ic_ne mc_9_52 (fun c => ?_) (fun c => ?_)
    · replace H := H.1 c
      refine mu_aload (r := some (13)) mc_9_55 (by decide) rfl ?_
      refine mu_load mc_9_56 (by decide) rfl ?_
      refine mu_load mc_9_57 (by decide) rfl ?_
      refine mt_call (args := [mm_P 13, mm_I (v4), mm_I (v2)]) (rest := [mm_I (v3), mm_P 13]) mc_9_58 (by decide) rfl rfl rfl ⟨Or.inl (by simp), rfl, by decide⟩ (mu_rcv (by decide) rfl (by decide)) H ?_
      rintro _ _ ⟨r4, D1, u2, x3, rfl, rfl, H⟩
      refine Or.inl ⟨_, rfl, ?_⟩
      refine mt_call (args := [mm_P 13, mm_I (v3), mm_I (r4)]) (rest := []) mc_9_59 (by decide) rfl rfl rfl ⟨Or.inl (by simp), rfl, by decide⟩ (mu_rcv (by decide) rfl (by decide)) H ?_
      rintro _ _ ⟨D5, u6, x7, rfl, rfl, H⟩
      refine Or.inl ⟨_, rfl, ?_⟩
      refine mu_load mc_9_60 (by decide) rfl ?_
      exact mt_ret mc_9_61 H
    · replace H := H.2 c
      refine mu_const mc_9_53 (by decide) (by decide) ?_
      refine mu_rfl (n := 59) mc_9_54 (by decide) rfl rfl ?_
      refine mt_call (args := [mm_P 13, mm_I (v3), mm_I ((0 : Int))]) (rest := []) mc_9_59 (by decide) rfl rfl rfl ⟨Or.inl (by simp), rfl, by decide⟩ (mu_rcv (by decide) rfl (by decide)) H ?_
      rintro _ _ ⟨D9, u10, x11, rfl, rfl, H⟩
      refine Or.inl ⟨_, rfl, ?_⟩
      refine mu_load mc_9_60 (by decide) rfl ?_
      exact mt_ret mc_9_61 H
  · replace H := H.2 c
    refine mu_load mc_9_27 (by decide) rfl ?_
    refine mu_const mc_9_28 (by decide) (by decide) ?_
    refine mu_ic_eq mc_9_29 (fun c => ?_) (fun c => ?_)
    · replace H := H.1 c
      refine mu_aload (r := some (13)) mc_9_48 (by decide) rfl ?_
      refine mu_load mc_9_49 (by decide) rfl ?_
      refine mu_load mc_9_50 (by decide) rfl ?_
      refine mu_const mc_9_51 (by decide) (by decide) ?_
      refine mu_ic_ne mc_9_52 (fun c => ?_) (fun c => ?_)
      · replace H := H.1 c
        refine mu_aload (r := some (13)) mc_9_55 (by decide) rfl ?_
        refine mu_load mc_9_56 (by decide) rfl ?_
        refine mu_load mc_9_57 (by decide) rfl ?_
        refine mt_call (args := [mm_P 13, mm_I (v4), mm_I (v2)]) (rest := [mm_I (v3), mm_P 13]) mc_9_58 (by decide) rfl rfl rfl ⟨Or.inl (by simp), rfl, by decide⟩ (mu_rcv (by decide) rfl (by decide)) H ?_
        rintro _ _ ⟨r16, D13, u14, x15, rfl, rfl, H⟩
        refine Or.inl ⟨_, rfl, ?_⟩
        refine mt_call (args := [mm_P 13, mm_I (v3), mm_I (r16)]) (rest := []) mc_9_59 (by decide) rfl rfl rfl ⟨Or.inl (by simp), rfl, by decide⟩ (mu_rcv (by decide) rfl (by decide)) H ?_
        rintro _ _ ⟨D17, u18, x19, rfl, rfl, H⟩
        refine Or.inl ⟨_, rfl, ?_⟩
        refine mu_load mc_9_60 (by decide) rfl ?_
        exact mt_ret mc_9_61 H
      · replace H := H.2 c
        refine mu_const mc_9_53 (by decide) (by decide) ?_
        refine mu_rfl (n := 59) mc_9_54 (by decide) rfl rfl ?_
        refine mt_call (args := [mm_P 13, mm_I (v3), mm_I ((0 : Int))]) (rest := []) mc_9_59 (by decide) rfl rfl rfl ⟨Or.inl (by simp), rfl, by decide⟩ (mu_rcv (by decide) rfl (by decide)) H ?_
        rintro _ _ ⟨D21, u22, x23, rfl, rfl, H⟩
        refine Or.inl ⟨_, rfl, ?_⟩
        refine mu_load mc_9_60 (by decide) rfl ?_
        exact mt_ret mc_9_61 H
    · replace H := H.2 c
      refine mu_aload (r := some (13)) mc_9_30 (by decide) rfl ?_
      refine mu_load mc_9_31 (by decide) rfl ?_
      refine mu_load mc_9_32 (by decide) rfl ?_
      refine mt_call (args := [mm_P 13, mm_I (v4), mm_I (v2)]) (rest := []) mc_9_33 (by decide) rfl rfl rfl ⟨Or.inl (by simp), rfl, by decide⟩ (mu_rcv (by decide) rfl (by decide)) H ?_
      rintro _ _ ⟨r28, D25, u26, x27, rfl, rfl, H⟩
      refine Or.inl ⟨_, rfl, ?_⟩
      refine mu_const mc_9_34 (by decide) (by decide) ?_
      refine mu_ic_eq mc_9_35 (fun c => ?_) (fun c => ?_)
      · replace H := H.1 c
        refine mu_aload (r := some (13)) mc_9_37 (by decide) rfl ?_
        refine mu_load mc_9_38 (by decide) rfl ?_
        refine mu_load mc_9_39 (by decide) rfl ?_
        refine mu_load mc_9_40 (by decide) rfl ?_
        refine mt_call (args := [mm_P 13, mm_I (v4), mm_I (v2), mm_I (v3)]) (rest := []) mc_9_41 (by decide) rfl rfl rfl ⟨Or.inl (by simp), rfl, by decide⟩ (mu_rcv (by decide) rfl (by decide)) H ?_
        rintro _ _ ⟨D29, u30, x31, rfl, rfl, H⟩
        refine Or.inl ⟨_, rfl, ?_⟩
        refine mu_aload (r := some (13)) mc_9_42 (by decide) rfl ?_
        refine mu_load mc_9_43 (by decide) rfl ?_
        refine mt_call (args := [mm_P 13, mm_I (v4)]) (rest := []) mc_9_44 (by decide) rfl rfl rfl ⟨Or.inl (by simp), rfl, by decide⟩ (mu_rcv (by decide) rfl (by decide)) H ?_
        rintro _ _ ⟨r36, D33, u34, x35, rfl, rfl, H⟩
        refine Or.inl ⟨_, rfl, ?_⟩
        refine mu_store mc_9_45 (by decide) (by simp) (ls' := [some (mm_P 13), some (mm_I (v1)), some (mm_I (v2)), some (mm_I (v3)), some (mm_I (r36)), some (mm_I (v5))]) rfl ?_
        have h37 := H.1
        replace H := H.2
        refine mu_iinc mc_9_46 rfl h37 (ls' := [some (mm_P 13), some (mm_I (v1)), some (mm_I (v2)), some (mm_I (v3)), some (mm_I (r36)), some (mm_I ((v5) + (1 : Int)))]) rfl ?_
        refine mu_rfl (n := 24) mc_9_47 (by decide) rfl rfl ?_
        exact H
      · replace H := H.2 c
        refine mu_rfl (n := 48) mc_9_36 (by decide) rfl rfl ?_
        refine mu_aload (r := some (13)) mc_9_48 (by decide) rfl ?_
        refine mu_load mc_9_49 (by decide) rfl ?_
        refine mu_load mc_9_50 (by decide) rfl ?_
        refine mu_const mc_9_51 (by decide) (by decide) ?_
        refine mu_ic_ne mc_9_52 (fun c => ?_) (fun c => ?_)
        · replace H := H.1 c
          refine mu_aload (r := some (13)) mc_9_55 (by decide) rfl ?_
          refine mu_load mc_9_56 (by decide) rfl ?_
          refine mu_load mc_9_57 (by decide) rfl ?_
          refine mt_call (args := [mm_P 13, mm_I (v4), mm_I (v2)]) (rest := [mm_I (v3), mm_P 13]) mc_9_58 (by decide) rfl rfl rfl ⟨Or.inl (by simp), rfl, by decide⟩ (mu_rcv (by decide) rfl (by decide)) H ?_
          rintro _ _ ⟨r41, D38, u39, x40, rfl, rfl, H⟩
          refine Or.inl ⟨_, rfl, ?_⟩
          refine mt_call (args := [mm_P 13, mm_I (v3), mm_I (r41)]) (rest := []) mc_9_59 (by decide) rfl rfl rfl ⟨Or.inl (by simp), rfl, by decide⟩ (mu_rcv (by decide) rfl (by decide)) H ?_
          rintro _ _ ⟨D42, u43, x44, rfl, rfl, H⟩
          refine Or.inl ⟨_, rfl, ?_⟩
          refine mu_load mc_9_60 (by decide) rfl ?_
          exact mt_ret mc_9_61 H
        · replace H := H.2 c
          refine mu_const mc_9_53 (by decide) (by decide) ?_
          refine mu_rfl (n := 59) mc_9_54 (by decide) rfl rfl ?_
          refine mt_call (args := [mm_P 13, mm_I (v3), mm_I ((0 : Int))]) (rest := []) mc_9_59 (by decide) rfl rfl rfl ⟨Or.inl (by simp), rfl, by decide⟩ (mu_rcv (by decide) rfl (by decide)) H ?_
          rintro _ _ ⟨D46, u47, x48, rfl, rfl, H⟩
          refine Or.inl ⟨_, rfl, ?_⟩
          refine mu_load mc_9_60 (by decide) rfl ?_
          exact mt_ret mc_9_61 H

theorem q_X0_stateBehind_0 {D : mm_D} {u : Int} {x : Nat × (Nat × List Int)} {Q : mm_O → mm_H → Prop} (v1 v2 : Int) (H : mt 7 0 [some (mm_P 13), some (mm_I (v1)), some (mm_I (v2)), none] [] (mm_mk D u x) (mm_pI fun r4 D1 u2 x3 => mt 5 0 [some (mm_P 13), some (mm_I (v1))] [] (mm_mk D1 u2 x3) (mm_pI fun r8 D5 u6 x7 => (mm_rng ((r8) + ((1 : Int)))) ∧ (mt 5 0 [some (mm_P 13), some (mm_I (r4))] [] (mm_mk D5 u6 x7) (mm_pI fun r13 D10 u11 x12 => ((¬ (r13) = ((r8) + ((1 : Int)))) → mt 11 0 [some (mm_P 13), some (mm_I ((r8) + ((1 : Int)))), some (mm_I (r4)), none, none] [] (mm_mk D10 u11 x12) (mm_pI fun r17 D14 u15 x16 => mt 13 0 [some (mm_P 13), some (mm_I (r4))] [] (mm_mk D14 u15 x16) (mm_pI fun r21 D18 u19 x20 => mt 14 0 [some (mm_P 13), some (mm_I (r17)), some (mm_I (r21))] [] (mm_mk D18 u19 x20) (mm_pV fun D22 u23 x24 => mt 14 0 [some (mm_P 13), some (mm_I (r4)), some (mm_I (r17))] [] (mm_mk D22 u23 x24) (mm_pV fun D26 u27 x28 => mt 10 37 [some (mm_P 13), some (mm_I (v1)), some (mm_I (v2)), some (mm_I (r4)), some (mm_I ((r8) + ((1 : Int)))), some (mm_I (r17)), some (mm_I (v1)), some (mm_I ((0 : Int)))] [] (mm_mk D26 u27 x28) Q))))) ∧ (¬ (¬ (r13) = ((r8) + ((1 : Int)))) → Q (.inl (some (mm_I (r4)))) (mm_mk D10 u11 x12))))))) : mt 10 0 [some (mm_P 13), some (mm_I (v1)), some (mm_I (v2)), none, none, none, none, none] [] (mm_mk D u x) Q := by
  refine mu_aload (r := some (13)) mc_10_0 (by decide) rfl ?_
  refine mu_load mc_10_1 (by decide) rfl ?_
  refine mu_load mc_10_2 (by decide) rfl ?_
  refine mt_call (args := [mm_P 13, mm_I (v1), mm_I (v2)]) (rest := []) mc_10_3 (by decide) rfl rfl rfl ⟨Or.inl (by simp), rfl, by decide⟩ (mu_rcv (by decide) rfl (by decide)) H ?_
  rintro _ _ ⟨r4, D1, u2, x3, rfl, rfl, H⟩
  refine Or.inl ⟨_, rfl, ?_⟩
  refine mu_store mc_10_4 (by decide) (by simp) (ls' := [some (mm_P 13), some (mm_I (v1)), some (mm_I (v2)), some (mm_I (r4)), none, none, none, none]) rfl ?_
  refine mu_aload (r := some (13)) mc_10_5 (by decide) rfl ?_
  refine mu_load mc_10_6 (by decide) rfl ?_
  refine mt_call (args := [mm_P 13, mm_I (v1)]) (rest := []) mc_10_7 (by decide) rfl rfl rfl ⟨Or.inl (by simp), rfl, by decide⟩ (mu_rcv (by decide) rfl (by decide)) H ?_
  rintro _ _ ⟨r8, D5, u6, x7, rfl, rfl, H⟩
  refine Or.inl ⟨_, rfl, ?_⟩
  refine mu_const mc_10_8 (by decide) (by decide) ?_
  have h9 := H.1
  replace H := H.2
  refine mu_iadd mc_10_9 h9 ?_
  refine mu_store mc_10_10 (by decide) (by simp) (ls' := [some (mm_P 13), some (mm_I (v1)), some (mm_I (v2)), some (mm_I (r4)), some (mm_I ((r8) + ((1 : Int)))), none, none, none]) rfl ?_
  refine mu_aload (r := some (13)) mc_10_11 (by decide) rfl ?_
  refine mu_load mc_10_12 (by decide) rfl ?_
  refine mt_call (args := [mm_P 13, mm_I (r4)]) (rest := []) mc_10_13 (by decide) rfl rfl rfl ⟨Or.inl (by simp), rfl, by decide⟩ (mu_rcv (by decide) rfl (by decide)) H ?_
  rintro _ _ ⟨r13, D10, u11, x12, rfl, rfl, H⟩
  refine Or.inl ⟨_, rfl, ?_⟩
  refine mu_load mc_10_14 (by decide) rfl ?_
  refine mu_ic_ne mc_10_15 (fun c => ?_) (fun c => ?_)
  · replace H := H.1 c
    refine mu_aload (r := some (13)) mc_10_18 (by decide) rfl ?_
    refine mu_load mc_10_19 (by decide) rfl ?_
    refine mu_load mc_10_20 (by decide) rfl ?_
    refine mt_call (args := [mm_P 13, mm_I ((r8) + ((1 : Int))), mm_I (r4)]) (rest := []) mc_10_21 (by decide) rfl rfl rfl ⟨Or.inl (by simp), rfl, by decide⟩ (mu_rcv (by decide) rfl (by decide)) H ?_
    rintro _ _ ⟨r17, D14, u15, x16, rfl, rfl, H⟩
    refine Or.inl ⟨_, rfl, ?_⟩
    refine mu_store mc_10_22 (by decide) (by simp) (ls' := [some (mm_P 13), some (mm_I (v1)), some (mm_I (v2)), some (mm_I (r4)), some (mm_I ((r8) + ((1 : Int)))), some (mm_I (r17)), none, none]) rfl ?_
    refine mu_aload (r := some (13)) mc_10_23 (by decide) rfl ?_
    refine mu_load mc_10_24 (by decide) rfl ?_
    refine mu_aload (r := some (13)) mc_10_25 (by decide) rfl ?_
    refine mu_load mc_10_26 (by decide) rfl ?_
    refine mt_call (args := [mm_P 13, mm_I (r4)]) (rest := [mm_I (r17), mm_P 13]) mc_10_27 (by decide) rfl rfl rfl ⟨Or.inl (by simp), rfl, by decide⟩ (mu_rcv (by decide) rfl (by decide)) H ?_
    rintro _ _ ⟨r21, D18, u19, x20, rfl, rfl, H⟩
    refine Or.inl ⟨_, rfl, ?_⟩
    refine mt_call (args := [mm_P 13, mm_I (r17), mm_I (r21)]) (rest := []) mc_10_28 (by decide) rfl rfl rfl ⟨Or.inl (by simp), rfl, by decide⟩ (mu_rcv (by decide) rfl (by decide)) H ?_
    rintro _ _ ⟨D22, u23, x24, rfl, rfl, H⟩
    refine Or.inl ⟨_, rfl, ?_⟩
    refine mu_aload (r := some (13)) mc_10_29 (by decide) rfl ?_
    refine mu_load mc_10_30 (by decide) rfl ?_
    refine mu_load mc_10_31 (by decide) rfl ?_
    refine mt_call (args := [mm_P 13, mm_I (r4), mm_I (r17)]) (rest := []) mc_10_32 (by decide) rfl rfl rfl ⟨Or.inl (by simp), rfl, by decide⟩ (mu_rcv (by decide) rfl (by decide)) H ?_
    rintro _ _ ⟨D26, u27, x28, rfl, rfl, H⟩
    refine Or.inl ⟨_, rfl, ?_⟩
    refine mu_load mc_10_33 (by decide) rfl ?_
    refine mu_store mc_10_34 (by decide) (by simp) (ls' := [some (mm_P 13), some (mm_I (v1)), some (mm_I (v2)), some (mm_I (r4)), some (mm_I ((r8) + ((1 : Int)))), some (mm_I (r17)), some (mm_I (v1)), none]) rfl ?_
    refine mu_const mc_10_35 (by decide) (by decide) ?_
    refine mu_store mc_10_36 (by decide) (by simp) (ls' := [some (mm_P 13), some (mm_I (v1)), some (mm_I (v2)), some (mm_I (r4)), some (mm_I ((r8) + ((1 : Int)))), some (mm_I (r17)), some (mm_I (v1)), some (mm_I ((0 : Int)))]) rfl ?_
    exact H
  · replace H := H.2 c
    refine mu_load mc_10_16 (by decide) rfl ?_
    exact mt_ret mc_10_17 H
theorem q_X0_stateBehind_37 {D : mm_D} {u : Int} {x : Nat × (Nat × List Int)} {Q : mm_O → mm_H → Prop} (v1 v2 v3 v4 v5 v6 v7 : Int) (H : ((((201 : Int)) ≤ (v7)) → Q (.inl (some (mm_I (v5)))) (mm_mk D u x)) ∧ (¬ (((201 : Int)) ≤ (v7)) → mt 7 0 [some (mm_P 13), some (mm_I (v6)), some (mm_I (v2)), none] [] (mm_mk D u x) (mm_pI fun r4 D1 u2 x3 => ((¬ (r4) = (v3)) → Q (.inl (some (mm_I (v5)))) (mm_mk D1 u2 x3)) ∧ (¬ (¬ (r4) = (v3)) → mt 15 0 [some (mm_P 13), some (mm_I (v6)), some (mm_I (v2)), some (mm_I (v5)), none] [] (mm_mk D1 u2 x3) (mm_pV fun D5 u6 x7 => mt 13 0 [some (mm_P 13), some (mm_I (v6))] [] (mm_mk D5 u6 x7) (mm_pI fun r12 D9 u10 x11 => (mm_rng ((v7) + (1 : Int))) ∧ (mt 10 37 [some (mm_P 13), some (mm_I (v1)), some (mm_I (v2)), some (mm_I (v3)), some (mm_I (v4)), some (mm_I (v5)), some (mm_I (r12)), some (mm_I ((v7) + (1 : Int)))] [] (mm_mk D9 u10 x11) Q))))))) : mt 10 37 [some (mm_P 13), some (mm_I (v1)), some (mm_I (v2)), some (mm_I (v3)), some (mm_I (v4)), some (mm_I (v5)), some (mm_I (v6)), some (mm_I (v7))] [] (mm_mk D u x) Q := by
  refine mu_load mc_10_37 (by decide) rfl ?_
  refine mu_const mc_10_38 (by decide) (by decide) ?_
  refine mu_ic_ge mc_10_39 (fun c => ?_) (fun c => ?_)
  · replace H := H.1 c
    refine mu_load mc_10_57 (by decide) rfl ?_
    exact mt_ret mc_10_58 H
  · replace H := H.2 c
    refine mu_aload (r := some (13)) mc_10_40 (by decide) rfl ?_
    refine mu_load mc_10_41 (by decide) rfl ?_
    refine mu_load mc_10_42 (by decide) rfl ?_
    refine mt_call (args := [mm_P 13, mm_I (v6), mm_I (v2)]) (rest := []) mc_10_43 (by decide) rfl rfl rfl ⟨Or.inl (by simp), rfl, by decide⟩ (mu_rcv (by decide) rfl (by decide)) H ?_
    rintro _ _ ⟨r4, D1, u2, x3, rfl, rfl, H⟩
    refine Or.inl ⟨_, rfl, ?_⟩
    refine mu_load mc_10_44 (by decide) rfl ?_
    refine mu_ic_ne mc_10_45 (fun c => ?_) (fun c => ?_)
    · replace H := H.1 c
      refine mu_load mc_10_57 (by decide) rfl ?_
      exact mt_ret mc_10_58 H
    · replace H := H.2 c
      refine mu_aload (r := some (13)) mc_10_46 (by decide) rfl ?_
      refine mu_load mc_10_47 (by decide) rfl ?_
      refine mu_load mc_10_48 (by decide) rfl ?_
      refine mu_load mc_10_49 (by decide) rfl ?_
      refine mt_call (args := [mm_P 13, mm_I (v6), mm_I (v2), mm_I (v5)]) (rest := []) mc_10_50 (by decide) rfl rfl rfl ⟨Or.inl (by simp), rfl, by decide⟩ (mu_rcv (by decide) rfl (by decide)) H ?_
      rintro _ _ ⟨D5, u6, x7, rfl, rfl, H⟩
      refine Or.inl ⟨_, rfl, ?_⟩
      refine mu_aload (r := some (13)) mc_10_51 (by decide) rfl ?_
      refine mu_load mc_10_52 (by decide) rfl ?_
      refine mt_call (args := [mm_P 13, mm_I (v6)]) (rest := []) mc_10_53 (by decide) rfl rfl rfl ⟨Or.inl (by simp), rfl, by decide⟩ (mu_rcv (by decide) rfl (by decide)) H ?_
      rintro _ _ ⟨r12, D9, u10, x11, rfl, rfl, H⟩
      refine Or.inl ⟨_, rfl, ?_⟩
      refine mu_store mc_10_54 (by decide) (by simp) (ls' := [some (mm_P 13), some (mm_I (v1)), some (mm_I (v2)), some (mm_I (v3)), some (mm_I (v4)), some (mm_I (v5)), some (mm_I (r12)), some (mm_I (v7))]) rfl ?_
      have h13 := H.1
      replace H := H.2
      refine mu_iinc mc_10_55 rfl h13 (ls' := [some (mm_P 13), some (mm_I (v1)), some (mm_I (v2)), some (mm_I (v3)), some (mm_I (v4)), some (mm_I (v5)), some (mm_I (r12)), some (mm_I ((v7) + (1 : Int)))]) rfl ?_
      refine mu_rfl (n := 37) mc_10_56 (by decide) rfl rfl ?_
      exact H

theorem q_X0_addState_0 {D : mm_D} {u : Int} {x : Nat × (Nat × List Int)} {Q : mm_O → mm_H → Prop} (v1 v2 : Int) (H : mt 70 0 [some (mm_I (D 13 6)), some (mm_I (((201 : Nat) : Int)))] [] (mm_mk D u x) (mm_pI fun r4 D1 u2 x3 => ((¬ (r4) = 0) → (0 ≤ (D 13 6)) ∧ (((D 13 6) < 201) ∧ (∀ D7 : mm_D, D7 = mm_wr D1 19 (D 13 6) (v1) → (mt 14 0 [some (mm_P 13), some (mm_I (D 13 6)), some (mm_I ((-1 : Int)))] [] (mm_mk D7 u2 x3) (mm_pV fun D8 u9 x10 => mt 11 22 [some (mm_P 13), some (mm_I (v1)), some (mm_I (v2)), some (mm_I (D 13 6)), some (mm_I ((0 : Int)))] [] (mm_mk D8 u9 x10) Q))))) ∧ (¬ (¬ (r4) = 0) → Q (.inl (some (mm_I ((-1 : Int))))) (mm_mk D1 u2 x3)))) : mt 11 0 [some (mm_P 13), some (mm_I (v1)), some (mm_I (v2)), none, none] [] (mm_mk D u x) Q := by
  refine mu_aload (r := some (13)) mc_11_0 (by decide) rfl ?_
  refine mu_get mc_11_1 rfl ?_
  refine mu_store mc_11_2 (by decide) (by simp) (ls' := [some (mm_P 13), some (mm_I (v1)), some (mm_I (v2)), some (mm_I (D 13 6)), none]) rfl ?_
  refine mu_load mc_11_3 (by decide) rfl ?_
  refine mu_aload (r := some (13)) mc_11_4 (by decide) rfl ?_
  refine mu_get mc_11_5 rfl ?_
  refine mu_alen (n := 201) mc_11_6 rfl ?_
  refine mt_call (args := [mm_I (D 13 6), mm_I (((201 : Nat) : Int))]) (rest := []) mc_11_7 (by decide) rfl rfl rfl ⟨Or.inl (by simp), rfl, by decide⟩ rfl H ?_
  rintro _ _ ⟨r4, D1, u2, x3, rfl, rfl, H⟩
  refine Or.inl ⟨_, rfl, ?_⟩
  refine mu_if_ne mc_11_8 (fun c => ?_) (fun c => ?_)
  · replace H := H.1 c
    refine mu_aload (r := some (13)) mc_11_11 (by decide) rfl ?_
    refine mu_get mc_11_12 rfl ?_
    refine mu_load mc_11_13 (by decide) rfl ?_
    refine mu_load mc_11_14 (by decide) rfl ?_
    have h5 := H.1
    replace H := H.2
    have h6 := H.1
    replace H := H.2
    refine mu_iast mc_11_15 rfl h5 h6 ?_
    obtain ⟨D7, eD7⟩ : ∃ z, z = mm_wr D1 19 (D 13 6) (v1) := ⟨_, rfl⟩
    replace H := H D7 eD7
    rw [← eD7]
    refine mu_aload (r := some (13)) mc_11_16 (by decide) rfl ?_
    refine mu_load mc_11_17 (by decide) rfl ?_
    refine mu_const mc_11_18 (by decide) (by decide) ?_
    refine mt_call (args := [mm_P 13, mm_I (D 13 6), mm_I ((-1 : Int))]) (rest := []) mc_11_19 (by decide) rfl rfl rfl ⟨Or.inl (by simp), rfl, by decide⟩ (mu_rcv (by decide) rfl (by decide)) H ?_
    rintro _ _ ⟨D8, u9, x10, rfl, rfl, H⟩
    refine Or.inl ⟨_, rfl, ?_⟩
    refine mu_const mc_11_20 (by decide) (by decide) ?_
    refine mu_store mc_11_21 (by decide) (by simp) (ls' := [some (mm_P 13), some (mm_I (v1)), some (mm_I (v2)), some (mm_I (D 13 6)), some (mm_I ((0 : Int)))]) rfl ?_
    exact H
  · replace H := H.2 c
    refine mu_const mc_11_9 (by decide) (by decide) ?_
    exact mt_ret mc_11_10 H
theorem q_X0_addState_22 {D : mm_D} {u : Int} {x : Nat × (Nat × List Int)} {Q : mm_O → mm_H → Prop} (v1 v2 v3 v4 : Int) (H : ((((26 : Int)) ≤ (v4)) → mt 23 0 [some (mm_P 14), some (mm_I (v3)), some (mm_I (v2)), none, none, none] [] (mm_mk D u x) (mm_pV fun D1 u2 x3 => mt 12 0 [some (mm_P 13), some (mm_I (v3)), none] [] (mm_mk D1 u2 x3) (mm_pV fun D5 u6 x7 => (mm_rng ((D5 13 6) + ((1 : Int)))) ∧ (∀ D10 : mm_D, D10 = mm_wr D5 13 6 ((D5 13 6) + ((1 : Int))) → (Q (.inl (some (mm_I (v3)))) (mm_mk D10 u6 x7)))))) ∧ (¬ (((26 : Int)) ≤ (v4)) → mt 7 0 [some (mm_P 13), some (mm_I (v2)), some (mm_I (v4)), none] [] (mm_mk D u x) (mm_pI fun r14 D11 u12 x13 => mt 15 0 [some (mm_P 13), some (mm_I (v3)), some (mm_I (v4)), some (mm_I (r14)), none] [] (mm_mk D11 u12 x13) (mm_pV fun D15 u16 x17 => (mm_rng ((v4) + (1 : Int))) ∧ (mt 11 22 [some (mm_P 13), some (mm_I (v1)), some (mm_I (v2)), some (mm_I (v3)), some (mm_I ((v4) + (1 : Int)))] [] (mm_mk D15 u16 x17) Q))))) : mt 11 22 [some (mm_P 13), some (mm_I (v1)), some (mm_I (v2)), some (mm_I (v3)), some (mm_I (v4))] [] (mm_mk D u x) Q := by
  refine mu_load mc_11_22 (by decide) rfl ?_
  refine mu_const mc_11_23 (by decide) (by decide) ?_
  refine mu_ic_ge mc_11_24 (fun c => ?_) (fun c => ?_)
  · replace H := H.1 c
    refine mu_aload (r := some (13)) mc_11_35 (by decide) rfl ?_
    refine mu_get mc_11_36 rfl ?_
    refine mu_load mc_11_37 (by decide) rfl ?_
    refine mu_load mc_11_38 (by decide) rfl ?_
    refine mt_call (args := [mm_P 14, mm_I (v3), mm_I (v2)]) (rest := []) mc_11_39 (by decide) rfl rfl rfl ⟨Or.inl (by simp), rfl, by decide⟩ (mu_rcv (by decide) rfl (by decide)) H ?_
    rintro _ _ ⟨D1, u2, x3, rfl, rfl, H⟩
    refine Or.inl ⟨_, rfl, ?_⟩
    refine mu_aload (r := some (13)) mc_11_40 (by decide) rfl ?_
    refine mu_load mc_11_41 (by decide) rfl ?_
    refine mt_call (args := [mm_P 13, mm_I (v3)]) (rest := []) mc_11_42 (by decide) rfl rfl rfl ⟨Or.inl (by simp), rfl, by decide⟩ (mu_rcv (by decide) rfl (by decide)) H ?_
    rintro _ _ ⟨D5, u6, x7, rfl, rfl, H⟩
    refine Or.inl ⟨_, rfl, ?_⟩
    refine mu_aload (r := some (13)) mc_11_43 (by decide) rfl ?_
    refine mu_rfl mc_11_44 (by decide) rfl rfl ?_
    refine mu_get mc_11_45 rfl ?_
    refine mu_const mc_11_46 (by decide) (by decide) ?_
    have h9 := H.1
    replace H := H.2
    refine mu_iadd mc_11_47 h9 ?_
    refine mu_put mc_11_48 (by decide) (Or.inl rfl) ?_
    obtain ⟨D10, eD10⟩ : ∃ z, z = mm_wr D5 13 6 ((D5 13 6) + ((1 : Int))) := ⟨_, rfl⟩
    replace H := H D10 eD10
    show mt _ _ _ _ (mm_mk (mm_wr D5 13 6 ((D5 13 6) + ((1 : Int)))) _ _) _
    rw [← eD10]
    refine mu_load mc_11_49 (by decide) rfl ?_
    exact mt_ret mc_11_50 H
  · replace H := H.2 c
    refine mu_aload (r := some (13)) mc_11_25 (by decide) rfl ?_
    refine mu_load mc_11_26 (by decide) rfl ?_
    refine mu_load mc_11_27 (by decide) rfl ?_
    refine mu_aload (r := some (13)) mc_11_28 (by decide) rfl ?_
    refine mu_load mc_11_29 (by decide) rfl ?_
    refine mu_load mc_11_30 (by decide) rfl ?_
    refine mt_call (args := [mm_P 13, mm_I (v2), mm_I (v4)]) (rest := [mm_I (v4), mm_I (v3), mm_P 13]) mc_11_31 (by decide) rfl rfl rfl ⟨Or.inl (by simp), rfl, by decide⟩ (mu_rcv (by decide) rfl (by decide)) H ?_
    rintro _ _ ⟨r14, D11, u12, x13, rfl, rfl, H⟩
    refine Or.inl ⟨_, rfl, ?_⟩
    refine mt_call (args := [mm_P 13, mm_I (v3), mm_I (v4), mm_I (r14)]) (rest := []) mc_11_32 (by decide) rfl rfl rfl ⟨Or.inl (by simp), rfl, by decide⟩ (mu_rcv (by decide) rfl (by decide)) H ?_
    rintro _ _ ⟨D15, u16, x17, rfl, rfl, H⟩
    refine Or.inl ⟨_, rfl, ?_⟩
    have h19 := H.1
    replace H := H.2
    refine mu_iinc mc_11_33 rfl h19 (ls' := [some (mm_P 13), some (mm_I (v1)), some (mm_I (v2)), some (mm_I (v3)), some (mm_I ((v4) + (1 : Int)))]) rfl ?_
    refine mu_rfl (n := 22) mc_11_34 (by decide) rfl rfl ?_
    exact H

theorem q_X0_sortIn_0 {D : mm_D} {u : Int} {x : Nat × (Nat × List Int)} {Q : mm_O → mm_H → Prop} (v1 : Int) (H : mt 70 0 [some (mm_I (v1)), some (mm_I (((201 : Nat) : Int)))] [] (mm_mk D u x) (mm_pI fun r4 D1 u2 x3 => ((¬ (r4) = 0) → mt 12 9 [some (mm_P 13), some (mm_I (v1)), some (mm_I (v1))] [] (mm_mk D1 u2 x3) Q) ∧ (¬ (¬ (r4) = 0) → Q (.inl none) (mm_mk D1 u2 x3)))) : mt 12 0 [some (mm_P 13), some (mm_I (v1)), none] [] (mm_mk D u x) Q := by
  refine mu_load mc_12_0 (by decide) rfl ?_
  refine mu_store mc_12_1 (by decide) (by simp) (ls' := [some (mm_P 13), some (mm_I (v1)), some (mm_I (v1))]) rfl ?_
  refine mu_load mc_12_2 (by decide) rfl ?_
  refine mu_aload (r := some (13)) mc_12_3 (by decide) rfl ?_
  refine mu_get mc_12_4 rfl ?_
  refine mu_alen (n := 201) mc_12_5 rfl ?_
  refine mt_call (args := [mm_I (v1), mm_I (((201 : Nat) : Int))]) (rest := []) mc_12_6 (by decide) rfl rfl rfl ⟨Or.inl (by simp), rfl, by decide⟩ rfl H ?_
  rintro _ _ ⟨r4, D1, u2, x3, rfl, rfl, H⟩
  refine Or.inl ⟨_, rfl, ?_⟩
  refine mu_if_ne mc_12_7 (fun c => ?_) (fun c => ?_)
  · replace H := H.1 c
    exact H
  · replace H := H.2 c
    exact mt_retV mc_12_8 H
theorem q_X0_sortIn_9 {D : mm_D} {u : Int} {x : Nat × (Nat × List Int)} {Q : mm_O → mm_H → Prop} (v1 v2 : Int) (H : (((v2) ≤ 0) → (0 ≤ (v2)) ∧ (((v2) < 201) ∧ (∀ D3 : mm_D, D3 = mm_wr D 21 (v2) (v1) → (Q (.inl none) (mm_mk D3 u x))))) ∧ (¬ ((v2) ≤ 0) → (mm_rng ((v2) - ((1 : Int)))) ∧ ((0 ≤ ((v2) - ((1 : Int)))) ∧ ((((v2) - ((1 : Int))) < 201) ∧ (mt 5 0 [some (mm_P 13), some (mm_I (D 21 ((v2) - ((1 : Int)))))] [] (mm_mk D u x) (mm_pI fun r10 D7 u8 x9 => mt 5 0 [some (mm_P 13), some (mm_I (v1))] [] (mm_mk D7 u8 x9) (mm_pI fun r14 D11 u12 x13 => (((r10) ≤ (r14)) → (0 ≤ (v2)) ∧ (((v2) < 201) ∧ (∀ D17 : mm_D, D17 = mm_wr D11 21 (v2) (v1) → (Q (.inl none) (mm_mk D17 u12 x13))))) ∧ (¬ ((r10) ≤ (r14)) → (mm_rng ((v2) - ((1 : Int)))) ∧ ((0 ≤ ((v2) - ((1 : Int)))) ∧ ((((v2) - ((1 : Int))) < 201) ∧ ((0 ≤ (v2)) ∧ (((v2) < 201) ∧ (∀ D23 : mm_D, D23 = mm_wr D11 21 (v2) (D11 21 ((v2) - ((1 : Int)))) → ((mm_rng ((v2) + (-1 : Int))) ∧ (mt 12 9 [some (mm_P 13), some (mm_I (v1)), some (mm_I ((v2) + (-1 : Int)))] [] (mm_mk D23 u12 x13) Q))))))))))))))) : mt 12 9 [some (mm_P 13), some (mm_I (v1)), some (mm_I (v2))] [] (mm_mk D u x) Q := by
  refine mu_load mc_12_9 (by decide) rfl ?_
  refine mu_if_le mc_12_10 (fun c => ?_) (fun c => ?_)
  · replace H := H.1 c
    refine mu_aload (r := some (13)) mc_12_35 (by decide) rfl ?_
    refine mu_get mc_12_36 rfl ?_
    refine mu_load mc_12_37 (by decide) rfl ?_
    refine mu_load mc_12_38 (by decide) rfl ?_
    have h1 := H.1
    replace H := H.2
    have h2 := H.1
    replace H := H.2
    refine mu_iast mc_12_39 rfl h1 h2 ?_
    obtain ⟨D3, eD3⟩ : ∃ z, z = mm_wr D 21 (v2) (v1) := ⟨_, rfl⟩
    replace H := H D3 eD3
    rw [← eD3]
    exact mt_retV mc_12_40 H
  · replace H := H.2 c
    refine mu_aload (r := some (13)) mc_12_11 (by decide) rfl ?_
    refine mu_aload (r := some (13)) mc_12_12 (by decide) rfl ?_
    refine mu_get mc_12_13 rfl ?_
    refine mu_load mc_12_14 (by decide) rfl ?_
    refine mu_const mc_12_15 (by decide) (by decide) ?_
    have h4 := H.1
    replace H := H.2
    refine mu_isub mc_12_16 h4 ?_
    have h5 := H.1
    replace H := H.2
    have h6 := H.1
    replace H := H.2
    refine mu_iald mc_12_17 rfl h5 h6 ?_
    refine mt_call (args := [mm_P 13, mm_I (D 21 ((v2) - ((1 : Int))))]) (rest := []) mc_12_18 (by decide) rfl rfl rfl ⟨Or.inl (by simp), rfl, by decide⟩ (mu_rcv (by decide) rfl (by decide)) H ?_
    rintro _ _ ⟨r10, D7, u8, x9, rfl, rfl, H⟩
    refine Or.inl ⟨_, rfl, ?_⟩
    refine mu_aload (r := some (13)) mc_12_19 (by decide) rfl ?_
    refine mu_load mc_12_20 (by decide) rfl ?_
    refine mt_call (args := [mm_P 13, mm_I (v1)]) (rest := [mm_I (r10)]) mc_12_21 (by decide) rfl rfl rfl ⟨Or.inl (by simp), rfl, by decide⟩ (mu_rcv (by decide) rfl (by decide)) H ?_
    rintro _ _ ⟨r14, D11, u12, x13, rfl, rfl, H⟩
    refine Or.inl ⟨_, rfl, ?_⟩
    refine mu_ic_le mc_12_22 (fun c => ?_) (fun c => ?_)
    · replace H := H.1 c
      refine mu_aload (r := some (13)) mc_12_35 (by decide) rfl ?_
      refine mu_get mc_12_36 rfl ?_
      refine mu_load mc_12_37 (by decide) rfl ?_
      refine mu_load mc_12_38 (by decide) rfl ?_
      have h15 := H.1
      replace H := H.2
      have h16 := H.1
      replace H := H.2
      refine mu_iast mc_12_39 rfl h15 h16 ?_
      obtain ⟨D17, eD17⟩ : ∃ z, z = mm_wr D11 21 (v2) (v1) := ⟨_, rfl⟩
      replace H := H D17 eD17
      rw [← eD17]
      exact mt_retV mc_12_40 H
    · replace H := H.2 c
      refine mu_aload (r := some (13)) mc_12_23 (by decide) rfl ?_
      refine mu_get mc_12_24 rfl ?_
      refine mu_load mc_12_25 (by decide) rfl ?_
      refine mu_aload (r := some (13)) mc_12_26 (by decide) rfl ?_
      refine mu_get mc_12_27 rfl ?_
      refine mu_load mc_12_28 (by decide) rfl ?_
      refine mu_const mc_12_29 (by decide) (by decide) ?_
      have h18 := H.1
      replace H := H.2
      refine mu_isub mc_12_30 h18 ?_
      have h19 := H.1
      replace H := H.2
      have h20 := H.1
      replace H := H.2
      refine mu_iald mc_12_31 rfl h19 h20 ?_
      have h21 := H.1
      replace H := H.2
      have h22 := H.1
      replace H := H.2
      refine mu_iast mc_12_32 rfl h21 h22 ?_
      obtain ⟨D23, eD23⟩ : ∃ z, z = mm_wr D11 21 (v2) (D11 21 ((v2) - ((1 : Int)))) := ⟨_, rfl⟩
      replace H := H D23 eD23
      rw [← eD23]
      have h24 := H.1
      replace H := H.2
      refine mu_iinc mc_12_33 rfl h24 (ls' := [some (mm_P 13), some (mm_I (v1)), some (mm_I ((v2) + (-1 : Int)))]) rfl ?_
      refine mu_rfl (n := 9) mc_12_34 (by decide) rfl rfl ?_
      exact H

theorem q_X0_linkOf_0 {D : mm_D} {u : Int} {x : Nat × (Nat × List Int)} {Q : mm_O → mm_H → Prop} (v1 : Int) (H : mt 70 0 [some (mm_I (v1)), some (mm_I (((201 : Nat) : Int)))] [] (mm_mk D u x) (mm_pI fun r4 D1 u2 x3 => (((r4) = 0) → Q (.inl (some (mm_I ((-1 : Int))))) (mm_mk D1 u2 x3)) ∧ (¬ ((r4) = 0) → (0 ≤ (v1)) ∧ (((v1) < 201) ∧ (Q (.inl (some (mm_I (D1 20 (v1))))) (mm_mk D1 u2 x3)))))) : mt 13 0 [some (mm_P 13), some (mm_I (v1))] [] (mm_mk D u x) Q := by
  refine mu_load mc_13_0 (by decide) rfl ?_
  refine mu_aload (r := some (13)) mc_13_1 (by decide) rfl ?_
  refine mu_get mc_13_2 rfl ?_
  refine mu_alen (n := 201) mc_13_3 rfl ?_
  refine mt_call (args := [mm_I (v1), mm_I (((201 : Nat) : Int))]) (rest := []) mc_13_4 (by decide) rfl rfl rfl ⟨Or.inl (by simp), rfl, by decide⟩ rfl H ?_
  rintro _ _ ⟨r4, D1, u2, x3, rfl, rfl, H⟩
  refine Or.inl ⟨_, rfl, ?_⟩
  refine mu_if_eq mc_13_5 (fun c => ?_) (fun c => ?_)
  · replace H := H.1 c
    refine mu_const mc_13_11 (by decide) (by decide) ?_
    exact mt_ret mc_13_12 H
  · replace H := H.2 c
    refine mu_aload (r := some (13)) mc_13_6 (by decide) rfl ?_
    refine mu_get mc_13_7 rfl ?_
    refine mu_load mc_13_8 (by decide) rfl ?_
    have h5 := H.1
    replace H := H.2
    have h6 := H.1
    replace H := H.2
    refine mu_iald mc_13_9 rfl h5 h6 ?_
    refine mu_rfl (n := 12) mc_13_10 (by decide) rfl rfl ?_
    exact mt_ret mc_13_12 H

theorem q_X0_putLink_0 {D : mm_D} {u : Int} {x : Nat × (Nat × List Int)} {Q : mm_O → mm_H → Prop} (v1 v2 : Int) (H : mt 70 0 [some (mm_I (v1)), some (mm_I (((201 : Nat) : Int)))] [] (mm_mk D u x) (mm_pI fun r4 D1 u2 x3 => (((r4) = 0) → Q (.inl none) (mm_mk D1 u2 x3)) ∧ (¬ ((r4) = 0) → (0 ≤ (v1)) ∧ (((v1) < 201) ∧ (∀ D7 : mm_D, D7 = mm_wr D1 20 (v1) (v2) → (Q (.inl none) (mm_mk D7 u2 x3))))))) : mt 14 0 [some (mm_P 13), some (mm_I (v1)), some (mm_I (v2))] [] (mm_mk D u x) Q := by
  refine mu_load mc_14_0 (by decide) rfl ?_
  refine mu_aload (r := some (13)) mc_14_1 (by decide) rfl ?_
  refine mu_get mc_14_2 rfl ?_
  refine mu_alen (n := 201) mc_14_3 rfl ?_
  refine mt_call (args := [mm_I (v1), mm_I (((201 : Nat) : Int))]) (rest := []) mc_14_4 (by decide) rfl rfl rfl ⟨Or.inl (by simp), rfl, by decide⟩ rfl H ?_
  rintro _ _ ⟨r4, D1, u2, x3, rfl, rfl, H⟩
  refine Or.inl ⟨_, rfl, ?_⟩
  refine mu_if_eq mc_14_5 (fun c => ?_) (fun c => ?_)
  · replace H := H.1 c
    exact mt_retV mc_14_11 H
  · replace H := H.2 c
    refine mu_aload (r := some (13)) mc_14_6 (by decide) rfl ?_
    refine mu_get mc_14_7 rfl ?_
    refine mu_load mc_14_8 (by decide) rfl ?_
    refine mu_load mc_14_9 (by decide) rfl ?_
    have h5 := H.1
    replace H := H.2
    have h6 := H.1
    replace H := H.2
    refine mu_iast mc_14_10 rfl h5 h6 ?_
    obtain ⟨D7, eD7⟩ : ∃ z, z = mm_wr D1 20 (v1) (v2) := ⟨_, rfl⟩
    replace H := H D7 eD7
    rw [← eD7]
    exact mt_retV mc_14_11 H

theorem q_X0_putStep_0 {D : mm_D} {u : Int} {x : Nat × (Nat × List Int)} {Q : mm_O → mm_H → Prop} (v1 v2 v3 : Int) (H : (((v1) < 0) → Q (.inl none) (mm_mk D u x)) ∧ (¬ ((v1) < 0) → ((((201 : Int)) ≤ (v1)) → Q (.inl none) (mm_mk D u x)) ∧ (¬ (((201 : Int)) ≤ (v1)) → (((v2) < 0) → Q (.inl none) (mm_mk D u x)) ∧ (¬ ((v2) < 0) → ((((26 : Int)) ≤ (v2)) → Q (.inl none) (mm_mk D u x)) ∧ (¬ (((26 : Int)) ≤ (v2)) → (mm_rng ((v1) * ((26 : Int)))) ∧ ((mm_rng (((v1) * ((26 : Int))) + (v2))) ∧ ((0 ≤ (((v1) * ((26 : Int))) + (v2))) ∧ (((((v1) * ((26 : Int))) + (v2)) < 5226) ∧ (∀ D5 : mm_D, D5 = mm_wr D 18 (((v1) * ((26 : Int))) + (v2)) (v3) → (Q (.inl none) (mm_mk D5 u x))))))))))) : mt 15 0 [some (mm_P 13), some (mm_I (v1)), some (mm_I (v2)), some (mm_I (v3)), none] [] (mm_mk D u x) Q := by
  refine mu_load mc_15_0 (by decide) rfl ?_
  refine mu_if_lt mc_15_1 (fun c => ?_) (fun c => ?_)
  · replace H := H.1 c
    refine mu_const mc_15_12 (by decide) (by decide) ?_
    refine mu_store mc_15_13 (by decide) (by simp) (ls' := [some (mm_P 13), some (mm_I (v1)), some (mm_I (v2)), some (mm_I (v3)), some (mm_I ((0 : Int)))]) rfl ?_
    refine mu_load mc_15_14 (by decide) rfl ?_
    refine mu_if_eq mc_15_15 (fun _ => ?_) (fun c => absurd (by decide) c)
    exact mt_retV mc_15_25 H
  · replace H := H.2 c
    refine mu_load mc_15_2 (by decide) rfl ?_
    refine mu_const mc_15_3 (by decide) (by decide) ?_
    refine mu_ic_ge mc_15_4 (fun c => ?_) (fun c => ?_)
    · replace H := H.1 c
      refine mu_const mc_15_12 (by decide) (by decide) ?_
      refine mu_store mc_15_13 (by decide) (by simp) (ls' := [some (mm_P 13), some (mm_I (v1)), some (mm_I (v2)), some (mm_I (v3)), some (mm_I ((0 : Int)))]) rfl ?_
      refine mu_load mc_15_14 (by decide) rfl ?_
      refine mu_if_eq mc_15_15 (fun _ => ?_) (fun c => absurd (by decide) c)
      exact mt_retV mc_15_25 H
    · replace H := H.2 c
      refine mu_load mc_15_5 (by decide) rfl ?_
      refine mu_if_lt mc_15_6 (fun c => ?_) (fun c => ?_)
      · replace H := H.1 c
        refine mu_const mc_15_12 (by decide) (by decide) ?_
        refine mu_store mc_15_13 (by decide) (by simp) (ls' := [some (mm_P 13), some (mm_I (v1)), some (mm_I (v2)), some (mm_I (v3)), some (mm_I ((0 : Int)))]) rfl ?_
        refine mu_load mc_15_14 (by decide) rfl ?_
        refine mu_if_eq mc_15_15 (fun _ => ?_) (fun c => absurd (by decide) c)
        exact mt_retV mc_15_25 H
      · replace H := H.2 c
        refine mu_load mc_15_7 (by decide) rfl ?_
        refine mu_const mc_15_8 (by decide) (by decide) ?_
        refine mu_ic_ge mc_15_9 (fun c => ?_) (fun c => ?_)
        · replace H := H.1 c
          refine mu_const mc_15_12 (by decide) (by decide) ?_
          refine mu_store mc_15_13 (by decide) (by simp) (ls' := [some (mm_P 13), some (mm_I (v1)), some (mm_I (v2)), some (mm_I (v3)), some (mm_I ((0 : Int)))]) rfl ?_
          refine mu_load mc_15_14 (by decide) rfl ?_
          refine mu_if_eq mc_15_15 (fun _ => ?_) (fun c => absurd (by decide) c)
          exact mt_retV mc_15_25 H
        · replace H := H.2 c
          refine mu_const mc_15_10 (by decide) (by decide) ?_
          refine mu_rfl (n := 13) mc_15_11 (by decide) rfl rfl ?_
          refine mu_store mc_15_13 (by decide) (by simp) (ls' := [some (mm_P 13), some (mm_I (v1)), some (mm_I (v2)), some (mm_I (v3)), some (mm_I ((1 : Int)))]) rfl ?_
          refine mu_load mc_15_14 (by decide) rfl ?_
          refine mu_if_eq mc_15_15 (fun c => absurd c (by decide)) (fun _ => ?_)
          refine mu_aload (r := some (13)) mc_15_16 (by decide) rfl ?_
          refine mu_get mc_15_17 rfl ?_
          refine mu_load mc_15_18 (by decide) rfl ?_
          refine mu_const mc_15_19 (by decide) (by decide) ?_
          have h1 := H.1
          replace H := H.2
          refine mu_imul mc_15_20 h1 ?_
          refine mu_load mc_15_21 (by decide) rfl ?_
          have h2 := H.1
          replace H := H.2
          refine mu_iadd mc_15_22 h2 ?_
          refine mu_load mc_15_23 (by decide) rfl ?_
          have h3 := H.1
          replace H := H.2
          have h4 := H.1
          replace H := H.2
          refine mu_iast mc_15_24 rfl h3 h4 ?_
          obtain ⟨D5, eD5⟩ : ∃ z, z = mm_wr D 18 (((v1) * ((26 : Int))) + (v2)) (v3) := ⟨_, rfl⟩
          replace H := H D5 eD5
          rw [← eD5]
          exact mt_retV mc_15_25 H
