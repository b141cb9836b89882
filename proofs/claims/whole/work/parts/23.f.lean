/-! printed by wip/whole/gen22.py -/
theorem q_X5_thrown_0 {D : mm_D} {u : Int} {x : Nat × (Nat × List Int)} {Q : mm_O → mm_H → Prop} (H : Q (.inl (some (mm_I (D 24 0)))) (mm_mk D u x)) : mt 77 0 [some (mm_P 24)] [] (mm_mk D u x) Q := by
  refine mu_aload (r := some (24)) mc_77_0 (by decide) rfl ?_
  refine mu_get mc_77_1 rfl ?_
  exact mt_ret mc_77_2 H

theorem q_X5_holds_0 {D : mm_D} {u : Int} {x : Nat × (Nat × List Int)} {Q : mm_O → mm_H → Prop} (v1 : Int) (H : ∀ D1 : mm_D, D1 = mm_wr D 24 0 (v1) → (((¬ (v1) = 0) → Q (.inl (some (mm_I ((0 : Int))))) (mm_mk D1 u x)) ∧ (¬ (¬ (v1) = 0) → Q (.inl (some (mm_I ((1 : Int))))) (mm_mk D1 u x)))) : mt 78 0 [some (mm_P 24), some (mm_I (v1))] [] (mm_mk D u x) Q := by
  refine mu_aload (r := some (24)) mc_78_0 (by decide) rfl ?_
  refine mu_load mc_78_1 (by decide) rfl ?_
  refine mu_put mc_78_2 (by decide) (Or.inl rfl) ?_
  obtain ⟨D1, eD1⟩ : ∃ z, z = mm_wr D 24 0 (v1) := ⟨_, rfl⟩
  replace H := H D1 eD1
  show mt _ _ _ _ (mm_mk (mm_wr D 24 0 (v1)) _ _) _
  rw [← eD1]
  refine mu_load mc_78_3 (by decide) rfl ?_
  refine mu_if_ne mc_78_4 (fun c => ?_) (fun c => ?_)
  · replace H := H.1 c
    refine mu_const mc_78_7 (by decide) (by decide) ?_
    exact mt_retB mc_78_8 (by decide) H
  · replace H := H.2 c
    refine mu_const mc_78_5 (by decide) (by decide) ?_
    refine mu_rfl (n := 8) mc_78_6 (by decide) rfl rfl ?_
    exact mt_retB mc_78_8 (by decide) H

theorem q_X5_isText_0 {D : mm_D} {u : Int} {x : Nat × (Nat × List Int)} {Q : mm_O → mm_H → Prop} (v1 : Int) (H : (((v1) < 0) → Q (.inl (some (mm_I ((0 : Int))))) (mm_mk D u x)) ∧ (¬ ((v1) < 0) → (((D 24 3) ≤ (v1)) → Q (.inl (some (mm_I ((0 : Int))))) (mm_mk D u x)) ∧ (¬ ((D 24 3) ≤ (v1)) → Q (.inl (some (mm_I ((1 : Int))))) (mm_mk D u x)))) : mt 79 0 [some (mm_P 24), some (mm_I (v1))] [] (mm_mk D u x) Q := by
  refine mu_load mc_79_0 (by decide) rfl ?_
  refine mu_if_lt mc_79_1 (fun c => ?_) (fun c => ?_)
  · replace H := H.1 c
    refine mu_const mc_79_8 (by decide) (by decide) ?_
    exact mt_retB mc_79_9 (by decide) H
  · replace H := H.2 c
    refine mu_load mc_79_2 (by decide) rfl ?_
    refine mu_aload (r := some (24)) mc_79_3 (by decide) rfl ?_
    refine mu_get mc_79_4 rfl ?_
    refine mu_ic_ge mc_79_5 (fun c => ?_) (fun c => ?_)
    · replace H := H.1 c
      refine mu_const mc_79_8 (by decide) (by decide) ?_
      exact mt_retB mc_79_9 (by decide) H
    · replace H := H.2 c
      refine mu_const mc_79_6 (by decide) (by decide) ?_
      refine mu_rfl (n := 9) mc_79_7 (by decide) rfl rfl ?_
      exact mt_retB mc_79_9 (by decide) H

theorem q_X5_clear_0 {D : mm_D} {u : Int} {x : Nat × (Nat × List Int)} {Q : mm_O → mm_H → Prop} (H : ∀ D1 : mm_D, D1 = mm_wr D 24 0 ((0 : Int)) → (∀ D2 : mm_D, D2 = mm_wr D1 24 3 ((0 : Int)) → (∀ D3 : mm_D, D3 = mm_wr D2 24 4 ((0 : Int)) → (∀ D4 : mm_D, D4 = mm_wr D3 24 6 ((0 : Int)) → (Q (.inl none) (mm_mk D4 u x)))))) : mt 80 0 [some (mm_P 24)] [] (mm_mk D u x) Q := by
  refine mu_aload (r := some (24)) mc_80_0 (by decide) rfl ?_
  refine mu_const mc_80_1 (by decide) (by decide) ?_
  refine mu_put mc_80_2 (by decide) (Or.inl rfl) ?_
  obtain ⟨D1, eD1⟩ : ∃ z, z = mm_wr D 24 0 ((0 : Int)) := ⟨_, rfl⟩
  replace H := H D1 eD1
  show mt _ _ _ _ (mm_mk (mm_wr D 24 0 ((0 : Int))) _ _) _
  rw [← eD1]
  refine mu_aload (r := some (24)) mc_80_3 (by decide) rfl ?_
  refine mu_const mc_80_4 (by decide) (by decide) ?_
  refine mu_put mc_80_5 (by decide) (Or.inl rfl) ?_
  obtain ⟨D2, eD2⟩ : ∃ z, z = mm_wr D1 24 3 ((0 : Int)) := ⟨_, rfl⟩
  replace H := H D2 eD2
  show mt _ _ _ _ (mm_mk (mm_wr D1 24 3 ((0 : Int))) _ _) _
  rw [← eD2]
  refine mu_aload (r := some (24)) mc_80_6 (by decide) rfl ?_
  refine mu_const mc_80_7 (by decide) (by decide) ?_
  refine mu_put mc_80_8 (by decide) (Or.inl rfl) ?_
  obtain ⟨D3, eD3⟩ : ∃ z, z = mm_wr D2 24 4 ((0 : Int)) := ⟨_, rfl⟩
  replace H := H D3 eD3
  show mt _ _ _ _ (mm_mk (mm_wr D2 24 4 ((0 : Int))) _ _) _
  rw [← eD3]
  refine mu_aload (r := some (24)) mc_80_9 (by decide) rfl ?_
  refine mu_const mc_80_10 (by decide) (by decide) ?_
  refine mu_put mc_80_11 (by decide) (Or.inl rfl) ?_
  obtain ⟨D4, eD4⟩ : ∃ z, z = mm_wr D3 24 6 ((0 : Int)) := ⟨_, rfl⟩
  replace H := H D4 eD4
  show mt _ _ _ _ (mm_mk (mm_wr D3 24 6 ((0 : Int))) _ _) _
  rw [← eD4]
  exact mt_retV mc_80_12 H

theorem q_X5_open_0 {D : mm_D} {u : Int} {x : Nat × (Nat × List Int)} {Q : mm_O → mm_H → Prop} (H : ((¬ (D 24 3) = ((4 : Int))) → mt 78 0 [some (mm_P 24), some (mm_I ((0 : Int)))] [] (mm_mk D u x) (mm_pI fun r4 D1 u2 x3 => ((¬ (r4) = 0) → (0 ≤ (D1 24 3)) ∧ (((D1 24 3) < 4) ∧ (∀ D7 : mm_D, D7 = mm_wr D1 26 (D1 24 3) ((0 : Int)) → ((mm_rng ((D7 24 3) + ((1 : Int)))) ∧ (∀ D9 : mm_D, D9 = mm_wr D7 24 3 ((D7 24 3) + ((1 : Int))) → ((mm_rng ((D9 24 3) - ((1 : Int)))) ∧ (Q (.inl (some (mm_I ((D9 24 3) - ((1 : Int)))))) (mm_mk D9 u2 x3)))))))) ∧ (¬ (¬ (r4) = 0) → Q (.inl (some (mm_I ((0 : Int))))) (mm_mk D1 u2 x3)))) ∧ (¬ (¬ (D 24 3) = ((4 : Int))) → mt 78 0 [some (mm_P 24), some (mm_I ((1 : Int)))] [] (mm_mk D u x) (mm_pI fun r14 D11 u12 x13 => ((¬ (r14) = 0) → (0 ≤ (D11 24 3)) ∧ (((D11 24 3) < 4) ∧ (∀ D17 : mm_D, D17 = mm_wr D11 26 (D11 24 3) ((0 : Int)) → ((mm_rng ((D17 24 3) + ((1 : Int)))) ∧ (∀ D19 : mm_D, D19 = mm_wr D17 24 3 ((D17 24 3) + ((1 : Int))) → ((mm_rng ((D19 24 3) - ((1 : Int)))) ∧ (Q (.inl (some (mm_I ((D19 24 3) - ((1 : Int)))))) (mm_mk D19 u12 x13)))))))) ∧ (¬ (¬ (r14) = 0) → Q (.inl (some (mm_I ((0 : Int))))) (mm_mk D11 u12 x13))))) : mt 81 0 [some (mm_P 24)] [] (mm_mk D u x) Q := by
  refine mu_aload (r := some (24)) mc_81_0 (by decide) rfl ?_
  refine mu_aload (r := some (24)) mc_81_1 (by decide) rfl ?_
  refine mu_get mc_81_2 rfl ?_
  refine mu_const mc_81_3 (by decide) (by decide) ?_
  refine mu_ic_ne mc_81_4 (fun c => ?_) (fun c => ?_)
  · replace H := H.1 c
    refine mu_const mc_81_7 (by decide) (by decide) ?_
    refine mt_call (args := [mm_P 24, mm_I ((0 : Int))]) (rest := []) mc_81_8 (by decide) rfl rfl rfl ⟨by simp, rfl, by decide⟩ (mu_rcv (by decide) rfl (by decide)) H ?_
    rintro _ _ ⟨r4, D1, u2, x3, rfl, rfl, H⟩
    refine Or.inl ⟨_, rfl, ?_⟩
    refine mu_if_ne mc_81_9 (fun c => ?_) (fun c => ?_)
    · replace H := H.1 c
      refine mu_aload (r := some (24)) mc_81_12 (by decide) rfl ?_
      refine mu_get mc_81_13 rfl ?_
      refine mu_aload (r := some (24)) mc_81_14 (by decide) rfl ?_
      refine mu_get mc_81_15 rfl ?_
      refine mu_const mc_81_16 (by decide) (by decide) ?_
      have h5 := H.1
      replace H := H.2
      have h6 := H.1
      replace H := H.2
      refine mu_iast mc_81_17 rfl h5 h6 ?_
      obtain ⟨D7, eD7⟩ : ∃ z, z = mm_wr D1 26 (D1 24 3) ((0 : Int)) := ⟨_, rfl⟩
      replace H := H D7 eD7
      rw [← eD7]
      refine mu_aload (r := some (24)) mc_81_18 (by decide) rfl ?_
      refine mu_rfl mc_81_19 (by decide) rfl rfl ?_
      refine mu_get mc_81_20 rfl ?_
      refine mu_const mc_81_21 (by decide) (by decide) ?_
      have h8 := H.1
      replace H := H.2
      refine mu_iadd mc_81_22 h8 ?_
      refine mu_put mc_81_23 (by decide) (Or.inl rfl) ?_
      obtain ⟨D9, eD9⟩ : ∃ z, z = mm_wr D7 24 3 ((D7 24 3) + ((1 : Int))) := ⟨_, rfl⟩
      replace H := H D9 eD9
      show mt _ _ _ _ (mm_mk (mm_wr D7 24 3 ((D7 24 3) + ((1 : Int)))) _ _) _
      rw [← eD9]
      refine mu_aload (r := some (24)) mc_81_24 (by decide) rfl ?_
      refine mu_get mc_81_25 rfl ?_
      refine mu_const mc_81_26 (by decide) (by decide) ?_
      have h10 := H.1
      replace H := H.2
      refine mu_isub mc_81_27 h10 ?_
      exact mt_ret mc_81_28 H
    · replace H := H.2 c
      refine mu_const mc_81_10 (by decide) (by decide) ?_
      exact mt_ret mc_81_11 H
  · replace H := H.2 c
    refine mu_const mc_81_5 (by decide) (by decide) ?_
    refine mu_rfl (n := 8) mc_81_6 (by decide) rfl rfl ?_
    refine mt_call (args := [mm_P 24, mm_I ((1 : Int))]) (rest := []) mc_81_8 (by decide) rfl rfl rfl ⟨by simp, rfl, by decide⟩ (mu_rcv (by decide) rfl (by decide)) H ?_
    rintro _ _ ⟨r14, D11, u12, x13, rfl, rfl, H⟩
    refine Or.inl ⟨_, rfl, ?_⟩
    refine mu_if_ne mc_81_9 (fun c => ?_) (fun c => ?_)
    · replace H := H.1 c
      refine mu_aload (r := some (24)) mc_81_12 (by decide) rfl ?_
      refine mu_get mc_81_13 rfl ?_
      refine mu_aload (r := some (24)) mc_81_14 (by decide) rfl ?_
      refine mu_get mc_81_15 rfl ?_
      refine mu_const mc_81_16 (by decide) (by decide) ?_
      have h15 := H.1
      replace H := H.2
      have h16 := H.1
      replace H := H.2
      refine mu_iast mc_81_17 rfl h15 h16 ?_
      obtain ⟨D17, eD17⟩ : ∃ z, z = mm_wr D11 26 (D11 24 3) ((0 : Int)) := ⟨_, rfl⟩
      replace H := H D17 eD17
      rw [← eD17]
      refine mu_aload (r := some (24)) mc_81_18 (by decide) rfl ?_
      refine mu_rfl mc_81_19 (by decide) rfl rfl ?_
      refine mu_get mc_81_20 rfl ?_
      refine mu_const mc_81_21 (by decide) (by decide) ?_
      have h18 := H.1
      replace H := H.2
      refine mu_iadd mc_81_22 h18 ?_
      refine mu_put mc_81_23 (by decide) (Or.inl rfl) ?_
      obtain ⟨D19, eD19⟩ : ∃ z, z = mm_wr D17 24 3 ((D17 24 3) + ((1 : Int))) := ⟨_, rfl⟩
      replace H := H D19 eD19
      show mt _ _ _ _ (mm_mk (mm_wr D17 24 3 ((D17 24 3) + ((1 : Int)))) _ _) _
      rw [← eD19]
      refine mu_aload (r := some (24)) mc_81_24 (by decide) rfl ?_
      refine mu_get mc_81_25 rfl ?_
      refine mu_const mc_81_26 (by decide) (by decide) ?_
      have h20 := H.1
      replace H := H.2
      refine mu_isub mc_81_27 h20 ?_
      exact mt_ret mc_81_28 H
    · replace H := H.2 c
      refine mu_const mc_81_10 (by decide) (by decide) ?_
      exact mt_ret mc_81_11 H

theorem q_X5_isLetter_0 {D : mm_D} {u : Int} {x : Nat × (Nat × List Int)} {Q : mm_O → mm_H → Prop} (v0 : Int) (H : (((v0) < 0) → Q (.inl (some (mm_I ((0 : Int))))) (mm_mk D u x)) ∧ (¬ ((v0) < 0) → ((((26 : Int)) ≤ (v0)) → Q (.inl (some (mm_I ((0 : Int))))) (mm_mk D u x)) ∧ (¬ (((26 : Int)) ≤ (v0)) → Q (.inl (some (mm_I ((1 : Int))))) (mm_mk D u x)))) : mt 82 0 [some (mm_I (v0))] [] (mm_mk D u x) Q := by
  refine mu_load mc_82_0 (by decide) rfl ?_
  refine mu_if_lt mc_82_1 (fun c => ?_) (fun c => ?_)
  · replace H := H.1 c
    refine mu_const mc_82_7 (by decide) (by decide) ?_
    exact mt_retB mc_82_8 (by decide) H
  · replace H := H.2 c
    refine mu_load mc_82_2 (by decide) rfl ?_
    refine mu_const mc_82_3 (by decide) (by decide) ?_
    refine mu_ic_ge mc_82_4 (fun c => ?_) (fun c => ?_)
    · replace H := H.1 c
      refine mu_const mc_82_7 (by decide) (by decide) ?_
      exact mt_retB mc_82_8 (by decide) H
    · replace H := H.2 c
      refine mu_const mc_82_5 (by decide) (by decide) ?_
      refine mu_rfl (n := 8) mc_82_6 (by decide) rfl rfl ?_
      exact mt_retB mc_82_8 (by decide) H

theorem q_X5_append_0 {D : mm_D} {u : Int} {x : Nat × (Nat × List Int)} {Q : mm_O → mm_H → Prop} (v1 v2 : Int) (H : mt 79 0 [some (mm_P 24), some (mm_I (v1))] [] (mm_mk D u x) (mm_pI fun r4 D1 u2 x3 => ((¬ (r4) = 0) → mt 82 0 [some (mm_I (v2))] [] (mm_mk D1 u2 x3) (mm_pI fun r8 D5 u6 x7 => ((¬ (r8) = 0) → ((¬ (D5 24 4) = ((100 : Int))) → mt 78 0 [some (mm_P 24), some (mm_I ((0 : Int)))] [] (mm_mk D5 u6 x7) (mm_pI fun r12 D9 u10 x11 => ((¬ (r12) = 0) → (mm_rng (((100 : Int)) * (v1))) ∧ ((0 ≤ (v1)) ∧ (((v1) < 4) ∧ ((mm_rng ((((100 : Int)) * (v1)) + (D9 26 (v1)))) ∧ ((0 ≤ ((((100 : Int)) * (v1)) + (D9 26 (v1)))) ∧ ((((((100 : Int)) * (v1)) + (D9 26 (v1))) < 400) ∧ (∀ D19 : mm_D, D19 = mm_wr D9 25 ((((100 : Int)) * (v1)) + (D9 26 (v1))) (v2) → ((0 ≤ (v1)) ∧ (((v1) < 4) ∧ ((mm_rng ((D19 26 (v1)) + ((1 : Int)))) ∧ ((0 ≤ (v1)) ∧ (((v1) < 4) ∧ (∀ D25 : mm_D, D25 = mm_wr D19 26 (v1) ((D19 26 (v1)) + ((1 : Int))) → ((mm_rng ((D25 24 4) + ((1 : Int)))) ∧ (∀ D27 : mm_D, D27 = mm_wr D25 24 4 ((D25 24 4) + ((1 : Int))) → ((0 ≤ (v1)) ∧ (((v1) < 4) ∧ (Q (.inl (some (mm_I (D27 26 (v1))))) (mm_mk D27 u10 x11))))))))))))))))))) ∧ (¬ (¬ (r12) = 0) → Q (.inl (some (mm_I ((0 : Int))))) (mm_mk D9 u10 x11)))) ∧ (¬ (¬ (D5 24 4) = ((100 : Int))) → mt 78 0 [some (mm_P 24), some (mm_I ((3 : Int)))] [] (mm_mk D5 u6 x7) (mm_pI fun r33 D30 u31 x32 => ((¬ (r33) = 0) → (mm_rng (((100 : Int)) * (v1))) ∧ ((0 ≤ (v1)) ∧ (((v1) < 4) ∧ ((mm_rng ((((100 : Int)) * (v1)) + (D30 26 (v1)))) ∧ ((0 ≤ ((((100 : Int)) * (v1)) + (D30 26 (v1)))) ∧ ((((((100 : Int)) * (v1)) + (D30 26 (v1))) < 400) ∧ (∀ D40 : mm_D, D40 = mm_wr D30 25 ((((100 : Int)) * (v1)) + (D30 26 (v1))) (v2) → ((0 ≤ (v1)) ∧ (((v1) < 4) ∧ ((mm_rng ((D40 26 (v1)) + ((1 : Int)))) ∧ ((0 ≤ (v1)) ∧ (((v1) < 4) ∧ (∀ D46 : mm_D, D46 = mm_wr D40 26 (v1) ((D40 26 (v1)) + ((1 : Int))) → ((mm_rng ((D46 24 4) + ((1 : Int)))) ∧ (∀ D48 : mm_D, D48 = mm_wr D46 24 4 ((D46 24 4) + ((1 : Int))) → ((0 ≤ (v1)) ∧ (((v1) < 4) ∧ (Q (.inl (some (mm_I (D48 26 (v1))))) (mm_mk D48 u31 x32))))))))))))))))))) ∧ (¬ (¬ (r33) = 0) → Q (.inl (some (mm_I ((0 : Int))))) (mm_mk D30 u31 x32))))) ∧ (¬ (¬ (r8) = 0) → mt 78 0 [some (mm_P 24), some (mm_I ((2 : Int)))] [] (mm_mk D5 u6 x7) (mm_pI fun r54 D51 u52 x53 => ((¬ (r54) = 0) → (mm_rng (((100 : Int)) * (v1))) ∧ ((0 ≤ (v1)) ∧ (((v1) < 4) ∧ ((mm_rng ((((100 : Int)) * (v1)) + (D51 26 (v1)))) ∧ ((0 ≤ ((((100 : Int)) * (v1)) + (D51 26 (v1)))) ∧ ((((((100 : Int)) * (v1)) + (D51 26 (v1))) < 400) ∧ (∀ D61 : mm_D, D61 = mm_wr D51 25 ((((100 : Int)) * (v1)) + (D51 26 (v1))) (v2) → ((0 ≤ (v1)) ∧ (((v1) < 4) ∧ ((mm_rng ((D61 26 (v1)) + ((1 : Int)))) ∧ ((0 ≤ (v1)) ∧ (((v1) < 4) ∧ (∀ D67 : mm_D, D67 = mm_wr D61 26 (v1) ((D61 26 (v1)) + ((1 : Int))) → ((mm_rng ((D67 24 4) + ((1 : Int)))) ∧ (∀ D69 : mm_D, D69 = mm_wr D67 24 4 ((D67 24 4) + ((1 : Int))) → ((0 ≤ (v1)) ∧ (((v1) < 4) ∧ (Q (.inl (some (mm_I (D69 26 (v1))))) (mm_mk D69 u52 x53))))))))))))))))))) ∧ (¬ (¬ (r54) = 0) → Q (.inl (some (mm_I ((0 : Int))))) (mm_mk D51 u52 x53)))))) ∧ (¬ (¬ (r4) = 0) → mt 78 0 [some (mm_P 24), some (mm_I ((1 : Int)))] [] (mm_mk D1 u2 x3) (mm_pI fun r75 D72 u73 x74 => ((¬ (r75) = 0) → (mm_rng (((100 : Int)) * (v1))) ∧ ((0 ≤ (v1)) ∧ (((v1) < 4) ∧ ((mm_rng ((((100 : Int)) * (v1)) + (D72 26 (v1)))) ∧ ((0 ≤ ((((100 : Int)) * (v1)) + (D72 26 (v1)))) ∧ ((((((100 : Int)) * (v1)) + (D72 26 (v1))) < 400) ∧ (∀ D82 : mm_D, D82 = mm_wr D72 25 ((((100 : Int)) * (v1)) + (D72 26 (v1))) (v2) → ((0 ≤ (v1)) ∧ (((v1) < 4) ∧ ((mm_rng ((D82 26 (v1)) + ((1 : Int)))) ∧ ((0 ≤ (v1)) ∧ (((v1) < 4) ∧ (∀ D88 : mm_D, D88 = mm_wr D82 26 (v1) ((D82 26 (v1)) + ((1 : Int))) → ((mm_rng ((D88 24 4) + ((1 : Int)))) ∧ (∀ D90 : mm_D, D90 = mm_wr D88 24 4 ((D88 24 4) + ((1 : Int))) → ((0 ≤ (v1)) ∧ (((v1) < 4) ∧ (Q (.inl (some (mm_I (D90 26 (v1))))) (mm_mk D90 u73 x74))))))))))))))))))) ∧ (¬ (¬ (r75) = 0) → Q (.inl (some (mm_I ((0 : Int))))) (mm_mk D72 u73 x74)))))) : mt 83 0 [some (mm_P 24), some (mm_I (v1)), some (mm_I (v2))] [] (mm_mk D u x) Q := by
  refine mu_aload (r := some (24)) mc_83_0 (by decide) rfl ?_
  refine mu_aload (r := some (24)) mc_83_1 (by decide) rfl ?_
  refine mu_load mc_83_2 (by decide) rfl ?_
  refine mt_call (args := [mm_P 24, mm_I (v1)]) (rest := [mm_P 24]) mc_83_3 (by decide) rfl rfl rfl ⟨by simp, rfl, by decide⟩ (mu_rcv (by decide) rfl (by decide)) H ?_
  rintro _ _ ⟨r4, D1, u2, x3, rfl, rfl, H⟩
  refine Or.inl ⟨_, rfl, ?_⟩
  refine mu_if_ne mc_83_4 (fun c => ?_) (fun c => ?_)
  · replace H := H.1 c
    refine mu_load mc_83_7 (by decide) rfl ?_
    refine mt_call (args := [mm_I (v2)]) (rest := [mm_P 24]) mc_83_8 (by decide) rfl rfl rfl ⟨by simp, rfl, by decide⟩ rfl H ?_
    rintro _ _ ⟨r8, D5, u6, x7, rfl, rfl, H⟩
    refine Or.inl ⟨_, rfl, ?_⟩
    refine mu_if_ne mc_83_9 (fun c => ?_) (fun c => ?_)
    · replace H := H.1 c
      refine mu_aload (r := some (24)) mc_83_12 (by decide) rfl ?_
      refine mu_get mc_83_13 rfl ?_
      refine mu_const mc_83_14 (by decide) (by decide) ?_
      refine mu_ic_ne mc_83_15 (fun c => ?_) (fun c => ?_)
      · replace H := H.1 c
        refine mu_const mc_83_18 (by decide) (by decide) ?_
        refine mt_call (args := [mm_P 24, mm_I ((0 : Int))]) (rest := []) mc_83_19 (by decide) rfl rfl rfl ⟨by simp, rfl, by decide⟩ (mu_rcv (by decide) rfl (by decide)) H ?_
        rintro _ _ ⟨r12, D9, u10, x11, rfl, rfl, H⟩
        refine Or.inl ⟨_, rfl, ?_⟩
        refine mu_if_ne mc_83_20 (fun c => ?_) (fun c => ?_)
        · replace H := H.1 c
          refine mu_aload (r := some (24)) mc_83_23 (by decide) rfl ?_
          refine mu_get mc_83_24 rfl ?_
          refine mu_const mc_83_25 (by decide) (by decide) ?_
          refine mu_load mc_83_26 (by decide) rfl ?_
          have h13 := H.1
          replace H := H.2
          refine mu_imul mc_83_27 h13 ?_
          refine mu_aload (r := some (24)) mc_83_28 (by decide) rfl ?_
          refine mu_get mc_83_29 rfl ?_
          refine mu_load mc_83_30 (by decide) rfl ?_
          have h14 := H.1
          replace H := H.2
          have h15 := H.1
          replace H := H.2
          refine mu_iald mc_83_31 rfl h14 h15 ?_
          have h16 := H.1
          replace H := H.2
          refine mu_iadd mc_83_32 h16 ?_
          refine mu_load mc_83_33 (by decide) rfl ?_
          have h17 := H.1
          replace H := H.2
          have h18 := H.1
          replace H := H.2
          refine mu_iast mc_83_34 rfl h17 h18 ?_
          obtain ⟨D19, eD19⟩ : ∃ z, z = mm_wr D9 25 ((((100 : Int)) * (v1)) + (D9 26 (v1))) (v2) := ⟨_, rfl⟩
          replace H := H D19 eD19
          rw [← eD19]
          refine mu_aload (r := some (24)) mc_83_35 (by decide) rfl ?_
          refine mu_get mc_83_36 rfl ?_
          refine mu_load mc_83_37 (by decide) rfl ?_
          refine mu_rfl mc_83_38 (by decide) rfl rfl ?_
          have h20 := H.1
          replace H := H.2
          have h21 := H.1
          replace H := H.2
          refine mu_iald mc_83_39 rfl h20 h21 ?_
          refine mu_const mc_83_40 (by decide) (by decide) ?_
          have h22 := H.1
          replace H := H.2
          refine mu_iadd mc_83_41 h22 ?_
          have h23 := H.1
          replace H := H.2
          have h24 := H.1
          replace H := H.2
          refine mu_iast mc_83_42 rfl h23 h24 ?_
          obtain ⟨D25, eD25⟩ : ∃ z, z = mm_wr D19 26 (v1) ((D19 26 (v1)) + ((1 : Int))) := ⟨_, rfl⟩
          replace H := H D25 eD25
          rw [← eD25]
          refine mu_aload (r := some (24)) mc_83_43 (by decide) rfl ?_
          refine mu_rfl mc_83_44 (by decide) rfl rfl ?_
          refine mu_get mc_83_45 rfl ?_
          refine mu_const mc_83_46 (by decide) (by decide) ?_
          have h26 := H.1
          replace H := H.2
          refine mu_iadd mc_83_47 h26 ?_
          refine mu_put mc_83_48 (by decide) (Or.inl rfl) ?_
          obtain ⟨D27, eD27⟩ : ∃ z, z = mm_wr D25 24 4 ((D25 24 4) + ((1 : Int))) := ⟨_, rfl⟩
          replace H := H D27 eD27
          show mt _ _ _ _ (mm_mk (mm_wr D25 24 4 ((D25 24 4) + ((1 : Int)))) _ _) _
          rw [← eD27]
          refine mu_aload (r := some (24)) mc_83_49 (by decide) rfl ?_
          refine mu_get mc_83_50 rfl ?_
          refine mu_load mc_83_51 (by decide) rfl ?_
          have h28 := H.1
          replace H := H.2
          have h29 := H.1
          replace H := H.2
          refine mu_iald mc_83_52 rfl h28 h29 ?_
          exact mt_ret mc_83_53 H
        · replace H := H.2 c
          refine mu_const mc_83_21 (by decide) (by decide) ?_
          exact mt_ret mc_83_22 H
      · replace H := H.2 c
        refine mu_const mc_83_16 (by decide) (by decide) ?_
        refine mu_rfl (n := 19) mc_83_17 (by decide) rfl rfl ?_
        refine mt_call (args := [mm_P 24, mm_I ((3 : Int))]) (rest := []) mc_83_19 (by decide) rfl rfl rfl ⟨by simp, rfl, by decide⟩ (mu_rcv (by decide) rfl (by decide)) H ?_
        rintro _ _ ⟨r33, D30, u31, x32, rfl, rfl, H⟩
        refine Or.inl ⟨_, rfl, ?_⟩
        refine mu_if_ne mc_83_20 (fun c => ?_) (fun c => ?_)
        · replace H := H.1 c
          refine mu_aload (r := some (24)) mc_83_23 (by decide) rfl ?_
          refine mu_get mc_83_24 rfl ?_
          refine mu_const mc_83_25 (by decide) (by decide) ?_
          refine mu_load mc_83_26 (by decide) rfl ?_
          have h34 := H.1
          replace H := H.2
          refine mu_imul mc_83_27 h34 ?_
          refine mu_aload (r := some (24)) mc_83_28 (by decide) rfl ?_
          refine mu_get mc_83_29 rfl ?_
          refine mu_load mc_83_30 (by decide) rfl ?_
          have h35 := H.1
          replace H := H.2
          have h36 := H.1
          replace H := H.2
          refine mu_iald mc_83_31 rfl h35 h36 ?_
          have h37 := H.1
          replace H := H.2
          refine mu_iadd mc_83_32 h37 ?_
          refine mu_load mc_83_33 (by decide) rfl ?_
          have h38 := H.1
          replace H := H.2
          have h39 := H.1
          replace H := H.2
          refine mu_iast mc_83_34 rfl h38 h39 ?_
          obtain ⟨D40, eD40⟩ : ∃ z, z = mm_wr D30 25 ((((100 : Int)) * (v1)) + (D30 26 (v1))) (v2) := ⟨_, rfl⟩
          replace H := H D40 eD40
          rw [← eD40]
          refine mu_aload (r := some (24)) mc_83_35 (by decide) rfl ?_
          refine mu_get mc_83_36 rfl ?_
          refine mu_load mc_83_37 (by decide) rfl ?_
          refine mu_rfl mc_83_38 (by decide) rfl rfl ?_
          have h41 := H.1
          replace H := H.2
          have h42 := H.1
          replace H := H.2
          refine mu_iald mc_83_39 rfl h41 h42 ?_
          refine mu_const mc_83_40 (by decide) (by decide) ?_
          have h43 := H.1
          replace H := H.2
          refine mu_iadd mc_83_41 h43 ?_
          have h44 := H.1
          replace H := H.2
          have h45 := H.1
          replace H := H.2
          refine mu_iast mc_83_42 rfl h44 h45 ?_
          obtain ⟨D46, eD46⟩ : ∃ z, z = mm_wr D40 26 (v1) ((D40 26 (v1)) + ((1 : Int))) := ⟨_, rfl⟩
          replace H := H D46 eD46
          rw [← eD46]
          refine mu_aload (r := some (24)) mc_83_43 (by decide) rfl ?_
          refine mu_rfl mc_83_44 (by decide) rfl rfl ?_
          refine mu_get mc_83_45 rfl ?_
          refine mu_const mc_83_46 (by decide) (by decide) ?_
          have h47 := H.1
          replace H := H.2
          refine mu_iadd mc_83_47 h47 ?_
          refine mu_put mc_83_48 (by decide) (Or.inl rfl) ?_
          obtain ⟨D48, eD48⟩ : ∃ z, z = mm_wr D46 24 4 ((D46 24 4) + ((1 : Int))) := ⟨_, rfl⟩
          replace H := H D48 eD48
          show mt _ _ _ _ (mm_mk (mm_wr D46 24 4 ((D46 24 4) + ((1 : Int)))) _ _) _
          rw [← eD48]
          refine mu_aload (r := some (24)) mc_83_49 (by decide) rfl ?_
          refine mu_get mc_83_50 rfl ?_
          refine mu_load mc_83_51 (by decide) rfl ?_
          have h49 := H.1
          replace H := H.2
          have h50 := H.1
          replace H := H.2
          refine mu_iald mc_83_52 rfl h49 h50 ?_
          exact mt_ret mc_83_53 H
        · replace H := H.2 c
          refine mu_const mc_83_21 (by decide) (by decide) ?_
          exact mt_ret mc_83_22 H
    · replace H := H.2 c
      refine mu_const mc_83_10 (by decide) (by decide) ?_
      refine mu_rfl (n := 19) mc_83_11 (by decide) rfl rfl ?_
      refine mt_call (args := [mm_P 24, mm_I ((2 : Int))]) (rest := []) mc_83_19 (by decide) rfl rfl rfl ⟨by simp, rfl, by decide⟩ (mu_rcv (by decide) rfl (by decide)) H ?_
      rintro _ _ ⟨r54, D51, u52, x53, rfl, rfl, H⟩
      refine Or.inl ⟨_, rfl, ?_⟩
      refine mu_if_ne mc_83_20 (fun c => ?_) (fun c => ?_)
      · replace H := H.1 c
        refine mu_aload (r := some (24)) mc_83_23 (by decide) rfl ?_
        refine mu_get mc_83_24 rfl ?_
        refine mu_const mc_83_25 (by decide) (by decide) ?_
        refine mu_load mc_83_26 (by decide) rfl ?_
        have h55 := H.1
        replace H := H.2
        refine mu_imul mc_83_27 h55 ?_
        refine mu_aload (r := some (24)) mc_83_28 (by decide) rfl ?_
        refine mu_get mc_83_29 rfl ?_
        refine mu_load mc_83_30 (by decide) rfl ?_
        have h56 := H.1
        replace H := H.2
        have h57 := H.1
        replace H := H.2
        refine mu_iald mc_83_31 rfl h56 h57 ?_
        have h58 := H.1
        replace H := H.2
        refine mu_iadd mc_83_32 h58 ?_
        refine mu_load mc_83_33 (by decide) rfl ?_
        have h59 := H.1
        replace H := H.2
        have h60 := H.1
        replace H := H.2
        refine mu_iast mc_83_34 rfl h59 h60 ?_
        obtain ⟨D61, eD61⟩ : ∃ z, z = mm_wr D51 25 ((((100 : Int)) * (v1)) + (D51 26 (v1))) (v2) := ⟨_, rfl⟩
        replace H := H D61 eD61
        rw [← eD61]
        refine mu_aload (r := some (24)) mc_83_35 (by decide) rfl ?_
        refine mu_get mc_83_36 rfl ?_
        refine mu_load mc_83_37 (by decide) rfl ?_
        refine mu_rfl mc_83_38 (by decide) rfl rfl ?_
        have h62 := H.1
        replace H := H.2
        have h63 := H.1
        replace H := H.2
        refine mu_iald mc_83_39 rfl h62 h63 ?_
        refine mu_const mc_83_40 (by decide) (by decide) ?_
        have h64 := H.1
        replace H := H.2
        refine mu_iadd mc_83_41 h64 ?_
        have h65 := H.1
        replace H := H.2
        have h66 := H.1
        replace H := H.2
        refine mu_iast mc_83_42 rfl h65 h66 ?_
        obtain ⟨D67, eD67⟩ : ∃ z, z = mm_wr D61 26 (v1) ((D61 26 (v1)) + ((1 : Int))) := ⟨_, rfl⟩
        replace H := H D67 eD67
        rw [← eD67]
        refine mu_aload (r := some (24)) mc_83_43 (by decide) rfl ?_
        refine mu_rfl mc_83_44 (by decide) rfl rfl ?_
        refine mu_get mc_83_45 rfl ?_
        refine mu_const mc_83_46 (by decide) (by decide) ?_
        have h68 := H.1
        replace H := H.2
        refine mu_iadd mc_83_47 h68 ?_
        refine mu_put mc_83_48 (by decide) (Or.inl rfl) ?_
        obtain ⟨D69, eD69⟩ : ∃ z, z = mm_wr D67 24 4 ((D67 24 4) + ((1 : Int))) := ⟨_, rfl⟩
        replace H := H D69 eD69
        show mt _ _ _ _ (mm_mk (mm_wr D67 24 4 ((D67 24 4) + ((1 : Int)))) _ _) _
        rw [← eD69]
        refine mu_aload (r := some (24)) mc_83_49 (by decide) rfl ?_
        refine mu_get mc_83_50 rfl ?_
        refine mu_load mc_83_51 (by decide) rfl ?_
        have h70 := H.1
        replace H := H.2
        have h71 := H.1
        replace H := H.2
        refine mu_iald mc_83_52 rfl h70 h71 ?_
        exact mt_ret mc_83_53 H
      · replace H := H.2 c
        refine mu_const mc_83_21 (by decide) (by decide) ?_
        exact mt_ret mc_83_22 H
  · replace H := H.2 c
    refine mu_const mc_83_5 (by decide) (by decide) ?_
    refine mu_rfl (n := 19) mc_83_6 (by decide) rfl rfl ?_
    refine mt_call (args := [mm_P 24, mm_I ((1 : Int))]) (rest := []) mc_83_19 (by decide) rfl rfl rfl ⟨by simp, rfl, by decide⟩ (mu_rcv (by decide) rfl (by decide)) H ?_
    rintro _ _ ⟨r75, D72, u73, x74, rfl, rfl, H⟩
    refine Or.inl ⟨_, rfl, ?_⟩
    refine mu_if_ne mc_83_20 (fun c => ?_) (fun c => ?_)
    · replace H := H.1 c
      refine mu_aload (r := some (24)) mc_83_23 (by decide) rfl ?_
      refine mu_get mc_83_24 rfl ?_
      refine mu_const mc_83_25 (by decide) (by decide) ?_
      refine mu_load mc_83_26 (by decide) rfl ?_
      have h76 := H.1
      replace H := H.2
      refine mu_imul mc_83_27 h76 ?_
      refine mu_aload (r := some (24)) mc_83_28 (by decide) rfl ?_
      refine mu_get mc_83_29 rfl ?_
      refine mu_load mc_83_30 (by decide) rfl ?_
      have h77 := H.1
      replace H := H.2
      have h78 := H.1
      replace H := H.2
      refine mu_iald mc_83_31 rfl h77 h78 ?_
      have h79 := H.1
      replace H := H.2
      refine mu_iadd mc_83_32 h79 ?_
      refine mu_load mc_83_33 (by decide) rfl ?_
      have h80 := H.1
      replace H := H.2
      have h81 := H.1
      replace H := H.2
      refine mu_iast mc_83_34 rfl h80 h81 ?_
      obtain ⟨D82, eD82⟩ : ∃ z, z = mm_wr D72 25 ((((100 : Int)) * (v1)) + (D72 26 (v1))) (v2) := ⟨_, rfl⟩
      replace H := H D82 eD82
      rw [← eD82]
      refine mu_aload (r := some (24)) mc_83_35 (by decide) rfl ?_
      refine mu_get mc_83_36 rfl ?_
      refine mu_load mc_83_37 (by decide) rfl ?_
      refine mu_rfl mc_83_38 (by decide) rfl rfl ?_
      have h83 := H.1
      replace H := H.2
      have h84 := H.1
      replace H := H.2
      refine mu_iald mc_83_39 rfl h83 h84 ?_
      refine mu_const mc_83_40 (by decide) (by decide) ?_
      have h85 := H.1
      replace H := H.2
      refine mu_iadd mc_83_41 h85 ?_
      have h86 := H.1
      replace H := H.2
      have h87 := H.1
      replace H := H.2
      refine mu_iast mc_83_42 rfl h86 h87 ?_
      obtain ⟨D88, eD88⟩ : ∃ z, z = mm_wr D82 26 (v1) ((D82 26 (v1)) + ((1 : Int))) := ⟨_, rfl⟩
      replace H := H D88 eD88
      rw [← eD88]
      refine mu_aload (r := some (24)) mc_83_43 (by decide) rfl ?_
      refine mu_rfl mc_83_44 (by decide) rfl rfl ?_
      refine mu_get mc_83_45 rfl ?_
      refine mu_const mc_83_46 (by decide) (by decide) ?_
      have h89 := H.1
      replace H := H.2
      refine mu_iadd mc_83_47 h89 ?_
      refine mu_put mc_83_48 (by decide) (Or.inl rfl) ?_
      obtain ⟨D90, eD90⟩ : ∃ z, z = mm_wr D88 24 4 ((D88 24 4) + ((1 : Int))) := ⟨_, rfl⟩
      replace H := H D90 eD90
      show mt _ _ _ _ (mm_mk (mm_wr D88 24 4 ((D88 24 4) + ((1 : Int)))) _ _) _
      rw [← eD90]
      refine mu_aload (r := some (24)) mc_83_49 (by decide) rfl ?_
      refine mu_get mc_83_50 rfl ?_
      refine mu_load mc_83_51 (by decide) rfl ?_
      have h91 := H.1
      replace H := H.2
      have h92 := H.1
      replace H := H.2
      refine mu_iald mc_83_52 rfl h91 h92 ?_
      exact mt_ret mc_83_53 H
    · replace H := H.2 c
      refine mu_const mc_83_21 (by decide) (by decide) ?_
      exact mt_ret mc_83_22 H

theorem q_X5_texts_0 {D : mm_D} {u : Int} {x : Nat × (Nat × List Int)} {Q : mm_O → mm_H → Prop} (H : ∀ D1 : mm_D, D1 = mm_wr D 24 0 ((0 : Int)) → (Q (.inl (some (mm_I (D1 24 3)))) (mm_mk D1 u x))) : mt 84 0 [some (mm_P 24)] [] (mm_mk D u x) Q := by
  refine mu_aload (r := some (24)) mc_84_0 (by decide) rfl ?_
  refine mu_const mc_84_1 (by decide) (by decide) ?_
  refine mu_put mc_84_2 (by decide) (Or.inl rfl) ?_
  obtain ⟨D1, eD1⟩ : ∃ z, z = mm_wr D 24 0 ((0 : Int)) := ⟨_, rfl⟩
  replace H := H D1 eD1
  show mt _ _ _ _ (mm_mk (mm_wr D 24 0 ((0 : Int))) _ _) _
  rw [← eD1]
  refine mu_aload (r := some (24)) mc_84_3 (by decide) rfl ?_
  refine mu_get mc_84_4 rfl ?_
  exact mt_ret mc_84_5 H

theorem q_X5_length_0 {D : mm_D} {u : Int} {x : Nat × (Nat × List Int)} {Q : mm_O → mm_H → Prop} (v1 : Int) (H : mt 79 0 [some (mm_P 24), some (mm_I (v1))] [] (mm_mk D u x) (mm_pI fun r4 D1 u2 x3 => (((r4) = 0) → mt 78 0 [some (mm_P 24), some (mm_I ((1 : Int)))] [] (mm_mk D1 u2 x3) (mm_pI fun r8 D5 u6 x7 => (((r8) = 0) → Q (.inl (some (mm_I ((0 : Int))))) (mm_mk D5 u6 x7)) ∧ (¬ ((r8) = 0) → (0 ≤ (v1)) ∧ (((v1) < 4) ∧ (Q (.inl (some (mm_I (D5 26 (v1))))) (mm_mk D5 u6 x7)))))) ∧ (¬ ((r4) = 0) → mt 78 0 [some (mm_P 24), some (mm_I ((0 : Int)))] [] (mm_mk D1 u2 x3) (mm_pI fun r14 D11 u12 x13 => (((r14) = 0) → Q (.inl (some (mm_I ((0 : Int))))) (mm_mk D11 u12 x13)) ∧ (¬ ((r14) = 0) → (0 ≤ (v1)) ∧ (((v1) < 4) ∧ (Q (.inl (some (mm_I (D11 26 (v1))))) (mm_mk D11 u12 x13)))))))) : mt 85 0 [some (mm_P 24), some (mm_I (v1))] [] (mm_mk D u x) Q := by
  refine mu_aload (r := some (24)) mc_85_0 (by decide) rfl ?_
  refine mu_aload (r := some (24)) mc_85_1 (by decide) rfl ?_
  refine mu_load mc_85_2 (by decide) rfl ?_
  refine mt_call (args := [mm_P 24, mm_I (v1)]) (rest := [mm_P 24]) mc_85_3 (by decide) rfl rfl rfl ⟨by simp, rfl, by decide⟩ (mu_rcv (by decide) rfl (by decide)) H ?_
  rintro _ _ ⟨r4, D1, u2, x3, rfl, rfl, H⟩
  refine Or.inl ⟨_, rfl, ?_⟩
  refine mu_if_eq mc_85_4 (fun c => ?_) (fun c => ?_)
  · replace H := H.1 c
    refine mu_const mc_85_7 (by decide) (by decide) ?_
    refine mt_call (args := [mm_P 24, mm_I ((1 : Int))]) (rest := []) mc_85_8 (by decide) rfl rfl rfl ⟨by simp, rfl, by decide⟩ (mu_rcv (by decide) rfl (by decide)) H ?_
    rintro _ _ ⟨r8, D5, u6, x7, rfl, rfl, H⟩
    refine Or.inl ⟨_, rfl, ?_⟩
    refine mu_if_eq mc_85_9 (fun c => ?_) (fun c => ?_)
    · replace H := H.1 c
      refine mu_const mc_85_15 (by decide) (by decide) ?_
      exact mt_ret mc_85_16 H
    · replace H := H.2 c
      refine mu_aload (r := some (24)) mc_85_10 (by decide) rfl ?_
      refine mu_get mc_85_11 rfl ?_
      refine mu_load mc_85_12 (by decide) rfl ?_
      have h9 := H.1
      replace H := H.2
      have h10 := H.1
      replace H := H.2
      refine mu_iald mc_85_13 rfl h9 h10 ?_
      refine mu_rfl (n := 16) mc_85_14 (by decide) rfl rfl ?_
      exact mt_ret mc_85_16 H
  · replace H := H.2 c
    refine mu_const mc_85_5 (by decide) (by decide) ?_
    refine mu_rfl (n := 8) mc_85_6 (by decide) rfl rfl ?_
    refine mt_call (args := [mm_P 24, mm_I ((0 : Int))]) (rest := []) mc_85_8 (by decide) rfl rfl rfl ⟨by simp, rfl, by decide⟩ (mu_rcv (by decide) rfl (by decide)) H ?_
    rintro _ _ ⟨r14, D11, u12, x13, rfl, rfl, H⟩
    refine Or.inl ⟨_, rfl, ?_⟩
    refine mu_if_eq mc_85_9 (fun c => ?_) (fun c => ?_)
    · replace H := H.1 c
      refine mu_const mc_85_15 (by decide) (by decide) ?_
      exact mt_ret mc_85_16 H
    · replace H := H.2 c
      refine mu_aload (r := some (24)) mc_85_10 (by decide) rfl ?_
      refine mu_get mc_85_11 rfl ?_
      refine mu_load mc_85_12 (by decide) rfl ?_
      have h15 := H.1
      replace H := H.2
      have h16 := H.1
      replace H := H.2
      refine mu_iald mc_85_13 rfl h15 h16 ?_
      refine mu_rfl (n := 16) mc_85_14 (by decide) rfl rfl ?_
      exact mt_ret mc_85_16 H

theorem q_X5_letterAt_0 {D : mm_D} {u : Int} {x : Nat × (Nat × List Int)} {Q : mm_O → mm_H → Prop} (v1 v2 : Int) (H : mt 79 0 [some (mm_P 24), some (mm_I (v1))] [] (mm_mk D u x) (mm_pI fun r4 D1 u2 x3 => (((r4) = 0) → mt 78 0 [some (mm_P 24), some (mm_I ((1 : Int)))] [] (mm_mk D1 u2 x3) (mm_pI fun r8 D5 u6 x7 => (((r8) = 0) → Q (.inl (some (mm_I ((0 : Int))))) (mm_mk D5 u6 x7)) ∧ (¬ ((r8) = 0) → (mm_rng (((100 : Int)) * (v1))) ∧ ((mm_rng ((((100 : Int)) * (v1)) + (v2))) ∧ ((0 ≤ ((((100 : Int)) * (v1)) + (v2))) ∧ ((((((100 : Int)) * (v1)) + (v2)) < 400) ∧ (Q (.inl (some (mm_I (D5 25 ((((100 : Int)) * (v1)) + (v2)))))) (mm_mk D5 u6 x7)))))))) ∧ (¬ ((r4) = 0) → (((v2) < 0) → mt 78 0 [some (mm_P 24), some (mm_I ((1 : Int)))] [] (mm_mk D1 u2 x3) (mm_pI fun r16 D13 u14 x15 => (((r16) = 0) → Q (.inl (some (mm_I ((0 : Int))))) (mm_mk D13 u14 x15)) ∧ (¬ ((r16) = 0) → (mm_rng (((100 : Int)) * (v1))) ∧ ((mm_rng ((((100 : Int)) * (v1)) + (v2))) ∧ ((0 ≤ ((((100 : Int)) * (v1)) + (v2))) ∧ ((((((100 : Int)) * (v1)) + (v2)) < 400) ∧ (Q (.inl (some (mm_I (D13 25 ((((100 : Int)) * (v1)) + (v2)))))) (mm_mk D13 u14 x15)))))))) ∧ (¬ ((v2) < 0) → (0 ≤ (v1)) ∧ (((v1) < 4) ∧ ((((D1 26 (v1)) ≤ (v2)) → mt 78 0 [some (mm_P 24), some (mm_I ((1 : Int)))] [] (mm_mk D1 u2 x3) (mm_pI fun r26 D23 u24 x25 => (((r26) = 0) → Q (.inl (some (mm_I ((0 : Int))))) (mm_mk D23 u24 x25)) ∧ (¬ ((r26) = 0) → (mm_rng (((100 : Int)) * (v1))) ∧ ((mm_rng ((((100 : Int)) * (v1)) + (v2))) ∧ ((0 ≤ ((((100 : Int)) * (v1)) + (v2))) ∧ ((((((100 : Int)) * (v1)) + (v2)) < 400) ∧ (Q (.inl (some (mm_I (D23 25 ((((100 : Int)) * (v1)) + (v2)))))) (mm_mk D23 u24 x25)))))))) ∧ (¬ ((D1 26 (v1)) ≤ (v2)) → mt 78 0 [some (mm_P 24), some (mm_I ((0 : Int)))] [] (mm_mk D1 u2 x3) (mm_pI fun r34 D31 u32 x33 => (((r34) = 0) → Q (.inl (some (mm_I ((0 : Int))))) (mm_mk D31 u32 x33)) ∧ (¬ ((r34) = 0) → (mm_rng (((100 : Int)) * (v1))) ∧ ((mm_rng ((((100 : Int)) * (v1)) + (v2))) ∧ ((0 ≤ ((((100 : Int)) * (v1)) + (v2))) ∧ ((((((100 : Int)) * (v1)) + (v2)) < 400) ∧ (Q (.inl (some (mm_I (D31 25 ((((100 : Int)) * (v1)) + (v2)))))) (mm_mk D31 u32 x33)))))))))))))) : mt 86 0 [some (mm_P 24), some (mm_I (v1)), some (mm_I (v2)), none] [] (mm_mk D u x) Q := by
  refine mu_aload (r := some (24)) mc_86_0 (by decide) rfl ?_
  refine mu_load mc_86_1 (by decide) rfl ?_
  refine mt_call (args := [mm_P 24, mm_I (v1)]) (rest := []) mc_86_2 (by decide) rfl rfl rfl ⟨by simp, rfl, by decide⟩ (mu_rcv (by decide) rfl (by decide)) H ?_
  rintro _ _ ⟨r4, D1, u2, x3, rfl, rfl, H⟩
  refine Or.inl ⟨_, rfl, ?_⟩
  refine mu_if_eq mc_86_3 (fun c => ?_) (fun c => ?_)
  · replace H := H.1 c
    refine mu_const mc_86_14 (by decide) (by decide) ?_
    refine mu_store mc_86_15 (by decide) (by simp) (ls' := [some (mm_P 24), some (mm_I (v1)), some (mm_I (v2)), some (mm_I ((0 : Int)))]) rfl ?_
    refine mu_aload (r := some (24)) mc_86_16 (by decide) rfl ?_
    refine mu_load mc_86_17 (by decide) rfl ?_
    refine mu_if_eq mc_86_18 (fun _ => ?_) (fun c => absurd (by decide) c)
    refine mu_const mc_86_21 (by decide) (by decide) ?_
    refine mt_call (args := [mm_P 24, mm_I ((1 : Int))]) (rest := []) mc_86_22 (by decide) rfl rfl rfl ⟨by simp, rfl, by decide⟩ (mu_rcv (by decide) rfl (by decide)) H ?_
    rintro _ _ ⟨r8, D5, u6, x7, rfl, rfl, H⟩
    refine Or.inl ⟨_, rfl, ?_⟩
    refine mu_if_eq mc_86_23 (fun c => ?_) (fun c => ?_)
    · replace H := H.1 c
      refine mu_const mc_86_33 (by decide) (by decide) ?_
      exact mt_ret mc_86_34 H
    · replace H := H.2 c
      refine mu_aload (r := some (24)) mc_86_24 (by decide) rfl ?_
      refine mu_get mc_86_25 rfl ?_
      refine mu_const mc_86_26 (by decide) (by decide) ?_
      refine mu_load mc_86_27 (by decide) rfl ?_
      have h9 := H.1
      replace H := H.2
      refine mu_imul mc_86_28 h9 ?_
      refine mu_load mc_86_29 (by decide) rfl ?_
      have h10 := H.1
      replace H := H.2
      refine mu_iadd mc_86_30 h10 ?_
      have h11 := H.1
      replace H := H.2
      have h12 := H.1
      replace H := H.2
      refine mu_iald mc_86_31 rfl h11 h12 ?_
      refine mu_rfl (n := 34) mc_86_32 (by decide) rfl rfl ?_
      exact mt_ret mc_86_34 H
  · replace H := H.2 c
    refine mu_load mc_86_4 (by decide) rfl ?_
    refine mu_if_lt mc_86_5 (fun c => ?_) (fun c => ?_)
    · replace H := H.1 c
      refine mu_const mc_86_14 (by decide) (by decide) ?_
      refine mu_store mc_86_15 (by decide) (by simp) (ls' := [some (mm_P 24), some (mm_I (v1)), some (mm_I (v2)), some (mm_I ((0 : Int)))]) rfl ?_
      refine mu_aload (r := some (24)) mc_86_16 (by decide) rfl ?_
      refine mu_load mc_86_17 (by decide) rfl ?_
      refine mu_if_eq mc_86_18 (fun _ => ?_) (fun c => absurd (by decide) c)
      refine mu_const mc_86_21 (by decide) (by decide) ?_
      refine mt_call (args := [mm_P 24, mm_I ((1 : Int))]) (rest := []) mc_86_22 (by decide) rfl rfl rfl ⟨by simp, rfl, by decide⟩ (mu_rcv (by decide) rfl (by decide)) H ?_
      rintro _ _ ⟨r16, D13, u14, x15, rfl, rfl, H⟩
      refine Or.inl ⟨_, rfl, ?_⟩
      refine mu_if_eq mc_86_23 (fun c => ?_) (fun c => ?_)
      · replace H := H.1 c
        refine mu_const mc_86_33 (by decide) (by decide) ?_
        exact mt_ret mc_86_34 H
      · replace H := H.2 c
        refine mu_aload (r := some (24)) mc_86_24 (by decide) rfl ?_
        refine mu_get mc_86_25 rfl ?_
        refine mu_const mc_86_26 (by decide) (by decide) ?_
        refine mu_load mc_86_27 (by decide) rfl ?_
        have h17 := H.1
        replace H := H.2
        refine mu_imul mc_86_28 h17 ?_
        refine mu_load mc_86_29 (by decide) rfl ?_
        have h18 := H.1
        replace H := H.2
        refine mu_iadd mc_86_30 h18 ?_
        have h19 := H.1
        replace H := H.2
        have h20 := H.1
        replace H := H.2
        refine mu_iald mc_86_31 rfl h19 h20 ?_
        refine mu_rfl (n := 34) mc_86_32 (by decide) rfl rfl ?_
        exact mt_ret mc_86_34 H
    · replace H := H.2 c
      refine mu_load mc_86_6 (by decide) rfl ?_
      refine mu_aload (r := some (24)) mc_86_7 (by decide) rfl ?_
      refine mu_get mc_86_8 rfl ?_
      refine mu_load mc_86_9 (by decide) rfl ?_
      have h21 := H.1
      replace H := H.2
      have h22 := H.1
      replace H := H.2
      refine mu_iald mc_86_10 rfl h21 h22 ?_
      refine mu_ic_ge mc_86_11 (fun c => ?_) (fun c => ?_)
      · replace H := H.1 c
        refine mu_const mc_86_14 (by decide) (by decide) ?_
        refine mu_store mc_86_15 (by decide) (by simp) (ls' := [some (mm_P 24), some (mm_I (v1)), some (mm_I (v2)), some (mm_I ((0 : Int)))]) rfl ?_
        refine mu_aload (r := some (24)) mc_86_16 (by decide) rfl ?_
        refine mu_load mc_86_17 (by decide) rfl ?_
        refine mu_if_eq mc_86_18 (fun _ => ?_) (fun c => absurd (by decide) c)
        refine mu_const mc_86_21 (by decide) (by decide) ?_
        refine mt_call (args := [mm_P 24, mm_I ((1 : Int))]) (rest := []) mc_86_22 (by decide) rfl rfl rfl ⟨by simp, rfl, by decide⟩ (mu_rcv (by decide) rfl (by decide)) H ?_
        rintro _ _ ⟨r26, D23, u24, x25, rfl, rfl, H⟩
        refine Or.inl ⟨_, rfl, ?_⟩
        refine mu_if_eq mc_86_23 (fun c => ?_) (fun c => ?_)
        · replace H := H.1 c
          refine mu_const mc_86_33 (by decide) (by decide) ?_
          exact mt_ret mc_86_34 H
        · replace H := H.2 c
          refine mu_aload (r := some (24)) mc_86_24 (by decide) rfl ?_
          refine mu_get mc_86_25 rfl ?_
          refine mu_const mc_86_26 (by decide) (by decide) ?_
          refine mu_load mc_86_27 (by decide) rfl ?_
          have h27 := H.1
          replace H := H.2
          refine mu_imul mc_86_28 h27 ?_
          refine mu_load mc_86_29 (by decide) rfl ?_
          have h28 := H.1
          replace H := H.2
          refine mu_iadd mc_86_30 h28 ?_
          have h29 := H.1
          replace H := H.2
          have h30 := H.1
          replace H := H.2
          refine mu_iald mc_86_31 rfl h29 h30 ?_
          refine mu_rfl (n := 34) mc_86_32 (by decide) rfl rfl ?_
          exact mt_ret mc_86_34 H
      · replace H := H.2 c
        refine mu_const mc_86_12 (by decide) (by decide) ?_
        refine mu_rfl (n := 15) mc_86_13 (by decide) rfl rfl ?_
        refine mu_store mc_86_15 (by decide) (by simp) (ls' := [some (mm_P 24), some (mm_I (v1)), some (mm_I (v2)), some (mm_I ((1 : Int)))]) rfl ?_
        refine mu_aload (r := some (24)) mc_86_16 (by decide) rfl ?_
        refine mu_load mc_86_17 (by decide) rfl ?_
        refine mu_if_eq mc_86_18 (fun c => absurd c (by decide)) (fun _ => ?_)
        refine mu_const mc_86_19 (by decide) (by decide) ?_
        refine mu_rfl (n := 22) mc_86_20 (by decide) rfl rfl ?_
        refine mt_call (args := [mm_P 24, mm_I ((0 : Int))]) (rest := []) mc_86_22 (by decide) rfl rfl rfl ⟨by simp, rfl, by decide⟩ (mu_rcv (by decide) rfl (by decide)) H ?_
        rintro _ _ ⟨r34, D31, u32, x33, rfl, rfl, H⟩
        refine Or.inl ⟨_, rfl, ?_⟩
        refine mu_if_eq mc_86_23 (fun c => ?_) (fun c => ?_)
        · replace H := H.1 c
          refine mu_const mc_86_33 (by decide) (by decide) ?_
          exact mt_ret mc_86_34 H
        · replace H := H.2 c
          refine mu_aload (r := some (24)) mc_86_24 (by decide) rfl ?_
          refine mu_get mc_86_25 rfl ?_
          refine mu_const mc_86_26 (by decide) (by decide) ?_
          refine mu_load mc_86_27 (by decide) rfl ?_
          have h35 := H.1
          replace H := H.2
          refine mu_imul mc_86_28 h35 ?_
          refine mu_load mc_86_29 (by decide) rfl ?_
          have h36 := H.1
          replace H := H.2
          refine mu_iadd mc_86_30 h36 ?_
          have h37 := H.1
          replace H := H.2
          have h38 := H.1
          replace H := H.2
          refine mu_iald mc_86_31 rfl h37 h38 ?_
          refine mu_rfl (n := 34) mc_86_32 (by decide) rfl rfl ?_
          exact mt_ret mc_86_34 H

theorem q_X5_type_0 {D : mm_D} {u : Int} {x : Nat × (Nat × List Int)} {Q : mm_O → mm_H → Prop} (v1 : Int) (H : mt 82 0 [some (mm_I (v1))] [] (mm_mk D u x) (mm_pI fun r4 D1 u2 x3 => ((¬ (r4) = 0) → ((¬ (D1 24 6) = ((120 : Int))) → mt 78 0 [some (mm_P 24), some (mm_I ((0 : Int)))] [] (mm_mk D1 u2 x3) (mm_pI fun r8 D5 u6 x7 => ((¬ (r8) = 0) → (0 ≤ (D5 24 6)) ∧ (((D5 24 6) < 120) ∧ (∀ D11 : mm_D, D11 = mm_wr D5 27 (D5 24 6) (v1) → ((mm_rng ((D11 24 6) + ((1 : Int)))) ∧ (∀ D13 : mm_D, D13 = mm_wr D11 24 6 ((D11 24 6) + ((1 : Int))) → (Q (.inl (some (mm_I (D13 24 6)))) (mm_mk D13 u6 x7))))))) ∧ (¬ (¬ (r8) = 0) → Q (.inl (some (mm_I ((0 : Int))))) (mm_mk D5 u6 x7)))) ∧ (¬ (¬ (D1 24 6) = ((120 : Int))) → mt 78 0 [some (mm_P 24), some (mm_I ((2 : Int)))] [] (mm_mk D1 u2 x3) (mm_pI fun r17 D14 u15 x16 => ((¬ (r17) = 0) → (0 ≤ (D14 24 6)) ∧ (((D14 24 6) < 120) ∧ (∀ D20 : mm_D, D20 = mm_wr D14 27 (D14 24 6) (v1) → ((mm_rng ((D20 24 6) + ((1 : Int)))) ∧ (∀ D22 : mm_D, D22 = mm_wr D20 24 6 ((D20 24 6) + ((1 : Int))) → (Q (.inl (some (mm_I (D22 24 6)))) (mm_mk D22 u15 x16))))))) ∧ (¬ (¬ (r17) = 0) → Q (.inl (some (mm_I ((0 : Int))))) (mm_mk D14 u15 x16))))) ∧ (¬ (¬ (r4) = 0) → mt 78 0 [some (mm_P 24), some (mm_I ((1 : Int)))] [] (mm_mk D1 u2 x3) (mm_pI fun r26 D23 u24 x25 => ((¬ (r26) = 0) → (0 ≤ (D23 24 6)) ∧ (((D23 24 6) < 120) ∧ (∀ D29 : mm_D, D29 = mm_wr D23 27 (D23 24 6) (v1) → ((mm_rng ((D29 24 6) + ((1 : Int)))) ∧ (∀ D31 : mm_D, D31 = mm_wr D29 24 6 ((D29 24 6) + ((1 : Int))) → (Q (.inl (some (mm_I (D31 24 6)))) (mm_mk D31 u24 x25))))))) ∧ (¬ (¬ (r26) = 0) → Q (.inl (some (mm_I ((0 : Int))))) (mm_mk D23 u24 x25)))))) : mt 87 0 [some (mm_P 24), some (mm_I (v1))] [] (mm_mk D u x) Q := by
  refine mu_aload (r := some (24)) mc_87_0 (by decide) rfl ?_
  refine mu_load mc_87_1 (by decide) rfl ?_
  refine mt_call (args := [mm_I (v1)]) (rest := [mm_P 24]) mc_87_2 (by decide) rfl rfl rfl ⟨by simp, rfl, by decide⟩ rfl H ?_
  rintro _ _ ⟨r4, D1, u2, x3, rfl, rfl, H⟩
  refine Or.inl ⟨_, rfl, ?_⟩
  refine mu_if_ne mc_87_3 (fun c => ?_) (fun c => ?_)
  · replace H := H.1 c
    refine mu_aload (r := some (24)) mc_87_6 (by decide) rfl ?_
    refine mu_get mc_87_7 rfl ?_
    refine mu_const mc_87_8 (by decide) (by decide) ?_
    refine mu_ic_ne mc_87_9 (fun c => ?_) (fun c => ?_)
    · replace H := H.1 c
      refine mu_const mc_87_12 (by decide) (by decide) ?_
      refine mt_call (args := [mm_P 24, mm_I ((0 : Int))]) (rest := []) mc_87_13 (by decide) rfl rfl rfl ⟨by simp, rfl, by decide⟩ (mu_rcv (by decide) rfl (by decide)) H ?_
      rintro _ _ ⟨r8, D5, u6, x7, rfl, rfl, H⟩
      refine Or.inl ⟨_, rfl, ?_⟩
      refine mu_if_ne mc_87_14 (fun c => ?_) (fun c => ?_)
      · replace H := H.1 c
        refine mu_aload (r := some (24)) mc_87_17 (by decide) rfl ?_
        refine mu_get mc_87_18 rfl ?_
        refine mu_aload (r := some (24)) mc_87_19 (by decide) rfl ?_
        refine mu_get mc_87_20 rfl ?_
        refine mu_load mc_87_21 (by decide) rfl ?_
        have h9 := H.1
        replace H := H.2
        have h10 := H.1
        replace H := H.2
        refine mu_iast mc_87_22 rfl h9 h10 ?_
        obtain ⟨D11, eD11⟩ : ∃ z, z = mm_wr D5 27 (D5 24 6) (v1) := ⟨_, rfl⟩
        replace H := H D11 eD11
        rw [← eD11]
        refine mu_aload (r := some (24)) mc_87_23 (by decide) rfl ?_
        refine mu_rfl mc_87_24 (by decide) rfl rfl ?_
        refine mu_get mc_87_25 rfl ?_
        refine mu_const mc_87_26 (by decide) (by decide) ?_
        have h12 := H.1
        replace H := H.2
        refine mu_iadd mc_87_27 h12 ?_
        refine mu_put mc_87_28 (by decide) (Or.inl rfl) ?_
        obtain ⟨D13, eD13⟩ : ∃ z, z = mm_wr D11 24 6 ((D11 24 6) + ((1 : Int))) := ⟨_, rfl⟩
        replace H := H D13 eD13
        show mt _ _ _ _ (mm_mk (mm_wr D11 24 6 ((D11 24 6) + ((1 : Int)))) _ _) _
        rw [← eD13]
        refine mu_aload (r := some (24)) mc_87_29 (by decide) rfl ?_
        refine mu_get mc_87_30 rfl ?_
        exact mt_ret mc_87_31 H
      · replace H := H.2 c
        refine mu_const mc_87_15 (by decide) (by decide) ?_
        exact mt_ret mc_87_16 H
    · replace H := H.2 c
      refine mu_const mc_87_10 (by decide) (by decide) ?_
      refine mu_rfl (n := 13) mc_87_11 (by decide) rfl rfl ?_
      refine mt_call (args := [mm_P 24, mm_I ((2 : Int))]) (rest := []) mc_87_13 (by decide) rfl rfl rfl ⟨by simp, rfl, by decide⟩ (mu_rcv (by decide) rfl (by decide)) H ?_
      rintro _ _ ⟨r17, D14, u15, x16, rfl, rfl, H⟩
      refine Or.inl ⟨_, rfl, ?_⟩
      refine mu_if_ne mc_87_14 (fun c => ?_) (fun c => ?_)
      · replace H := H.1 c
        refine mu_aload (r := some (24)) mc_87_17 (by decide) rfl ?_
        refine mu_get mc_87_18 rfl ?_
        refine mu_aload (r := some (24)) mc_87_19 (by decide) rfl ?_
        refine mu_get mc_87_20 rfl ?_
        refine mu_load mc_87_21 (by decide) rfl ?_
        have h18 := H.1
        replace H := H.2
        have h19 := H.1
        replace H := H.2
        refine mu_iast mc_87_22 rfl h18 h19 ?_
        obtain ⟨D20, eD20⟩ : ∃ z, z = mm_wr D14 27 (D14 24 6) (v1) := ⟨_, rfl⟩
        replace H := H D20 eD20
        rw [← eD20]
        refine mu_aload (r := some (24)) mc_87_23 (by decide) rfl ?_
        refine mu_rfl mc_87_24 (by decide) rfl rfl ?_
        refine mu_get mc_87_25 rfl ?_
        refine mu_const mc_87_26 (by decide) (by decide) ?_
        have h21 := H.1
        replace H := H.2
        refine mu_iadd mc_87_27 h21 ?_
        refine mu_put mc_87_28 (by decide) (Or.inl rfl) ?_
        obtain ⟨D22, eD22⟩ : ∃ z, z = mm_wr D20 24 6 ((D20 24 6) + ((1 : Int))) := ⟨_, rfl⟩
        replace H := H D22 eD22
        show mt _ _ _ _ (mm_mk (mm_wr D20 24 6 ((D20 24 6) + ((1 : Int)))) _ _) _
        rw [← eD22]
        refine mu_aload (r := some (24)) mc_87_29 (by decide) rfl ?_
        refine mu_get mc_87_30 rfl ?_
        exact mt_ret mc_87_31 H
      · replace H := H.2 c
        refine mu_const mc_87_15 (by decide) (by decide) ?_
        exact mt_ret mc_87_16 H
  · replace H := H.2 c
    refine mu_const mc_87_4 (by decide) (by decide) ?_
    refine mu_rfl (n := 13) mc_87_5 (by decide) rfl rfl ?_
    refine mt_call (args := [mm_P 24, mm_I ((1 : Int))]) (rest := []) mc_87_13 (by decide) rfl rfl rfl ⟨by simp, rfl, by decide⟩ (mu_rcv (by decide) rfl (by decide)) H ?_
    rintro _ _ ⟨r26, D23, u24, x25, rfl, rfl, H⟩
    refine Or.inl ⟨_, rfl, ?_⟩
    refine mu_if_ne mc_87_14 (fun c => ?_) (fun c => ?_)
    · replace H := H.1 c
      refine mu_aload (r := some (24)) mc_87_17 (by decide) rfl ?_
      refine mu_get mc_87_18 rfl ?_
      refine mu_aload (r := some (24)) mc_87_19 (by decide) rfl ?_
      refine mu_get mc_87_20 rfl ?_
      refine mu_load mc_87_21 (by decide) rfl ?_
      have h27 := H.1
      replace H := H.2
      have h28 := H.1
      replace H := H.2
      refine mu_iast mc_87_22 rfl h27 h28 ?_
      obtain ⟨D29, eD29⟩ : ∃ z, z = mm_wr D23 27 (D23 24 6) (v1) := ⟨_, rfl⟩
      replace H := H D29 eD29
      rw [← eD29]
      refine mu_aload (r := some (24)) mc_87_23 (by decide) rfl ?_
      refine mu_rfl mc_87_24 (by decide) rfl rfl ?_
      refine mu_get mc_87_25 rfl ?_
      refine mu_const mc_87_26 (by decide) (by decide) ?_
      have h30 := H.1
      replace H := H.2
      refine mu_iadd mc_87_27 h30 ?_
      refine mu_put mc_87_28 (by decide) (Or.inl rfl) ?_
      obtain ⟨D31, eD31⟩ : ∃ z, z = mm_wr D29 24 6 ((D29 24 6) + ((1 : Int))) := ⟨_, rfl⟩
      replace H := H D31 eD31
      show mt _ _ _ _ (mm_mk (mm_wr D29 24 6 ((D29 24 6) + ((1 : Int)))) _ _) _
      rw [← eD31]
      refine mu_aload (r := some (24)) mc_87_29 (by decide) rfl ?_
      refine mu_get mc_87_30 rfl ?_
      exact mt_ret mc_87_31 H
    · replace H := H.2 c
      refine mu_const mc_87_15 (by decide) (by decide) ?_
      exact mt_ret mc_87_16 H

theorem q_X5_erase_0 {D : mm_D} {u : Int} {x : Nat × (Nat × List Int)} {Q : mm_O → mm_H → Prop} (H : ((¬ (D 24 6) = 0) → mt 78 0 [some (mm_P 24), some (mm_I ((0 : Int)))] [] (mm_mk D u x) (mm_pI fun r4 D1 u2 x3 => ((¬ (r4) = 0) → (mm_rng ((D1 24 6) - ((1 : Int)))) ∧ (∀ D6 : mm_D, D6 = mm_wr D1 24 6 ((D1 24 6) - ((1 : Int))) → ((0 ≤ (D6 24 6)) ∧ (((D6 24 6) < 120) ∧ (Q (.inl (some (mm_I (D6 27 (D6 24 6))))) (mm_mk D6 u2 x3)))))) ∧ (¬ (¬ (r4) = 0) → Q (.inl (some (mm_I ((0 : Int))))) (mm_mk D1 u2 x3)))) ∧ (¬ (¬ (D 24 6) = 0) → mt 78 0 [some (mm_P 24), some (mm_I ((1 : Int)))] [] (mm_mk D u x) (mm_pI fun r12 D9 u10 x11 => ((¬ (r12) = 0) → (mm_rng ((D9 24 6) - ((1 : Int)))) ∧ (∀ D14 : mm_D, D14 = mm_wr D9 24 6 ((D9 24 6) - ((1 : Int))) → ((0 ≤ (D14 24 6)) ∧ (((D14 24 6) < 120) ∧ (Q (.inl (some (mm_I (D14 27 (D14 24 6))))) (mm_mk D14 u10 x11)))))) ∧ (¬ (¬ (r12) = 0) → Q (.inl (some (mm_I ((0 : Int))))) (mm_mk D9 u10 x11))))) : mt 88 0 [some (mm_P 24)] [] (mm_mk D u x) Q := by
  refine mu_aload (r := some (24)) mc_88_0 (by decide) rfl ?_
  refine mu_aload (r := some (24)) mc_88_1 (by decide) rfl ?_
  refine mu_get mc_88_2 rfl ?_
  refine mu_if_ne mc_88_3 (fun c => ?_) (fun c => ?_)
  · replace H := H.1 c
    refine mu_const mc_88_6 (by decide) (by decide) ?_
    refine mt_call (args := [mm_P 24, mm_I ((0 : Int))]) (rest := []) mc_88_7 (by decide) rfl rfl rfl ⟨by simp, rfl, by decide⟩ (mu_rcv (by decide) rfl (by decide)) H ?_
    rintro _ _ ⟨r4, D1, u2, x3, rfl, rfl, H⟩
    refine Or.inl ⟨_, rfl, ?_⟩
    refine mu_if_ne mc_88_8 (fun c => ?_) (fun c => ?_)
    · replace H := H.1 c
      refine mu_aload (r := some (24)) mc_88_11 (by decide) rfl ?_
      refine mu_rfl mc_88_12 (by decide) rfl rfl ?_
      refine mu_get mc_88_13 rfl ?_
      refine mu_const mc_88_14 (by decide) (by decide) ?_
      have h5 := H.1
      replace H := H.2
      refine mu_isub mc_88_15 h5 ?_
      refine mu_put mc_88_16 (by decide) (Or.inl rfl) ?_
      obtain ⟨D6, eD6⟩ : ∃ z, z = mm_wr D1 24 6 ((D1 24 6) - ((1 : Int))) := ⟨_, rfl⟩
      replace H := H D6 eD6
      show mt _ _ _ _ (mm_mk (mm_wr D1 24 6 ((D1 24 6) - ((1 : Int)))) _ _) _
      rw [← eD6]
      refine mu_aload (r := some (24)) mc_88_17 (by decide) rfl ?_
      refine mu_get mc_88_18 rfl ?_
      refine mu_aload (r := some (24)) mc_88_19 (by decide) rfl ?_
      refine mu_get mc_88_20 rfl ?_
      have h7 := H.1
      replace H := H.2
      have h8 := H.1
      replace H := H.2
      refine mu_iald mc_88_21 rfl h7 h8 ?_
      exact mt_ret mc_88_22 H
    · replace H := H.2 c
      refine mu_const mc_88_9 (by decide) (by decide) ?_
      exact mt_ret mc_88_10 H
  · replace H := H.2 c
    refine mu_const mc_88_4 (by decide) (by decide) ?_
    refine mu_rfl (n := 7) mc_88_5 (by decide) rfl rfl ?_
    refine mt_call (args := [mm_P 24, mm_I ((1 : Int))]) (rest := []) mc_88_7 (by decide) rfl rfl rfl ⟨by simp, rfl, by decide⟩ (mu_rcv (by decide) rfl (by decide)) H ?_
    rintro _ _ ⟨r12, D9, u10, x11, rfl, rfl, H⟩
    refine Or.inl ⟨_, rfl, ?_⟩
    refine mu_if_ne mc_88_8 (fun c => ?_) (fun c => ?_)
    · replace H := H.1 c
      refine mu_aload (r := some (24)) mc_88_11 (by decide) rfl ?_
      refine mu_rfl mc_88_12 (by decide) rfl rfl ?_
      refine mu_get mc_88_13 rfl ?_
      refine mu_const mc_88_14 (by decide) (by decide) ?_
      have h13 := H.1
      replace H := H.2
      refine mu_isub mc_88_15 h13 ?_
      refine mu_put mc_88_16 (by decide) (Or.inl rfl) ?_
      obtain ⟨D14, eD14⟩ : ∃ z, z = mm_wr D9 24 6 ((D9 24 6) - ((1 : Int))) := ⟨_, rfl⟩
      replace H := H D14 eD14
      show mt _ _ _ _ (mm_mk (mm_wr D9 24 6 ((D9 24 6) - ((1 : Int)))) _ _) _
      rw [← eD14]
      refine mu_aload (r := some (24)) mc_88_17 (by decide) rfl ?_
      refine mu_get mc_88_18 rfl ?_
      refine mu_aload (r := some (24)) mc_88_19 (by decide) rfl ?_
      refine mu_get mc_88_20 rfl ?_
      have h15 := H.1
      replace H := H.2
      have h16 := H.1
      replace H := H.2
      refine mu_iald mc_88_21 rfl h15 h16 ?_
      exact mt_ret mc_88_22 H
    · replace H := H.2 c
      refine mu_const mc_88_9 (by decide) (by decide) ?_
      exact mt_ret mc_88_10 H

theorem q_X5_wipe_0 {D : mm_D} {u : Int} {x : Nat × (Nat × List Int)} {Q : mm_O → mm_H → Prop} (H : ∀ D1 : mm_D, D1 = mm_wr D 24 0 ((0 : Int)) → (∀ D2 : mm_D, D2 = mm_wr D1 24 6 ((0 : Int)) → (Q (.inl (some (mm_I (D1 24 6)))) (mm_mk D2 u x)))) : mt 89 0 [some (mm_P 24), none] [] (mm_mk D u x) Q := by
  refine mu_aload (r := some (24)) mc_89_0 (by decide) rfl ?_
  refine mu_const mc_89_1 (by decide) (by decide) ?_
  refine mu_put mc_89_2 (by decide) (Or.inl rfl) ?_
  obtain ⟨D1, eD1⟩ : ∃ z, z = mm_wr D 24 0 ((0 : Int)) := ⟨_, rfl⟩
  replace H := H D1 eD1
  show mt _ _ _ _ (mm_mk (mm_wr D 24 0 ((0 : Int))) _ _) _
  rw [← eD1]
  refine mu_aload (r := some (24)) mc_89_3 (by decide) rfl ?_
  refine mu_get mc_89_4 rfl ?_
  refine mu_store mc_89_5 (by decide) (by simp) (ls' := [some (mm_P 24), some (mm_I (D1 24 6))]) rfl ?_
  refine mu_aload (r := some (24)) mc_89_6 (by decide) rfl ?_
  refine mu_const mc_89_7 (by decide) (by decide) ?_
  refine mu_put mc_89_8 (by decide) (Or.inl rfl) ?_
  obtain ⟨D2, eD2⟩ : ∃ z, z = mm_wr D1 24 6 ((0 : Int)) := ⟨_, rfl⟩
  replace H := H D2 eD2
  show mt _ _ _ _ (mm_mk (mm_wr D1 24 6 ((0 : Int))) _ _) _
  rw [← eD2]
  refine mu_load mc_89_9 (by decide) rfl ?_
  exact mt_ret mc_89_10 H

theorem q_X5_lays_0 {D : mm_D} {u : Int} {x : Nat × (Nat × List Int)} {Q : mm_O → mm_H → Prop} (v1 v2 : Int) (H : mt 90 2 [some (mm_P 24), some (mm_I (v1)), some (mm_I (v2)), some (mm_I ((0 : Int)))] [] (mm_mk D u x) Q) : mt 90 0 [some (mm_P 24), some (mm_I (v1)), some (mm_I (v2)), none] [] (mm_mk D u x) Q := by
  refine mu_const mc_90_0 (by decide) (by decide) ?_
  refine mu_store mc_90_1 (by decide) (by simp) (ls' := [some (mm_P 24), some (mm_I (v1)), some (mm_I (v2)), some (mm_I ((0 : Int)))]) rfl ?_
  exact H
theorem q_X5_lays_2 {D : mm_D} {u : Int} {x : Nat × (Nat × List Int)} {Q : mm_O → mm_H → Prop} (v1 v2 v3 : Int) (H : (((v2) ≤ (v3)) → ∀ D1 : mm_D, D1 = mm_wr D 24 6 (v2) → (Q (.inl none) (mm_mk D1 u x))) ∧ (¬ ((v2) ≤ (v3)) → (mm_rng ((v1) + (v3))) ∧ ((0 ≤ ((v1) + (v3))) ∧ ((((v1) + (v3)) < 400) ∧ ((0 ≤ (v3)) ∧ (((v3) < 120) ∧ (∀ D7 : mm_D, D7 = mm_wr D 27 (v3) (D 25 ((v1) + (v3))) → ((mm_rng ((v3) + (1 : Int))) ∧ (mt 90 2 [some (mm_P 24), some (mm_I (v1)), some (mm_I (v2)), some (mm_I ((v3) + (1 : Int)))] [] (mm_mk D7 u x) Q))))))))) : mt 90 2 [some (mm_P 24), some (mm_I (v1)), some (mm_I (v2)), some (mm_I (v3))] [] (mm_mk D u x) Q := by
  refine mu_load mc_90_2 (by decide) rfl ?_
  refine mu_load mc_90_3 (by decide) rfl ?_
  refine mu_ic_ge mc_90_4 (fun c => ?_) (fun c => ?_)
  · replace H := H.1 c
    refine mu_aload (r := some (24)) mc_90_17 (by decide) rfl ?_
    refine mu_load mc_90_18 (by decide) rfl ?_
    refine mu_put mc_90_19 (by decide) (Or.inl rfl) ?_
    obtain ⟨D1, eD1⟩ : ∃ z, z = mm_wr D 24 6 (v2) := ⟨_, rfl⟩
    replace H := H D1 eD1
    show mt _ _ _ _ (mm_mk (mm_wr D 24 6 (v2)) _ _) _
    rw [← eD1]
    exact mt_retV mc_90_20 H
  · replace H := H.2 c
    refine mu_aload (r := some (24)) mc_90_5 (by decide) rfl ?_
    refine mu_get mc_90_6 rfl ?_
    refine mu_load mc_90_7 (by decide) rfl ?_
    refine mu_aload (r := some (24)) mc_90_8 (by decide) rfl ?_
    refine mu_get mc_90_9 rfl ?_
    refine mu_load mc_90_10 (by decide) rfl ?_
    refine mu_load mc_90_11 (by decide) rfl ?_
    have h2 := H.1
    replace H := H.2
    refine mu_iadd mc_90_12 h2 ?_
    have h3 := H.1
    replace H := H.2
    have h4 := H.1
    replace H := H.2
    refine mu_iald mc_90_13 rfl h3 h4 ?_
    have h5 := H.1
    replace H := H.2
    have h6 := H.1
    replace H := H.2
    refine mu_iast mc_90_14 rfl h5 h6 ?_
    obtain ⟨D7, eD7⟩ : ∃ z, z = mm_wr D 27 (v3) (D 25 ((v1) + (v3))) := ⟨_, rfl⟩
    replace H := H D7 eD7
    rw [← eD7]
    have h8 := H.1
    replace H := H.2
    refine mu_iinc mc_90_15 rfl h8 (ls' := [some (mm_P 24), some (mm_I (v1)), some (mm_I (v2)), some (mm_I ((v3) + (1 : Int)))]) rfl ?_
    refine mu_rfl (n := 2) mc_90_16 (by decide) rfl rfl ?_
    exact H

theorem q_X5_copy_0 {D : mm_D} {u : Int} {x : Nat × (Nat × List Int)} {Q : mm_O → mm_H → Prop} (v1 v2 v3 : Int) (H : mt 79 0 [some (mm_P 24), some (mm_I (v1))] [] (mm_mk D u x) (mm_pI fun r4 D1 u2 x3 => ((¬ (r4) = 0) → (((v2) < 0) → mt 78 0 [some (mm_P 24), some (mm_I ((2 : Int)))] [] (mm_mk D1 u2 x3) (mm_pI fun r8 D5 u6 x7 => (((r8) = 0) → Q (.inl none) (mm_mk D5 u6 x7)) ∧ (¬ ((r8) = 0) → (mm_rng (((100 : Int)) * (v1))) ∧ ((mm_rng ((((100 : Int)) * (v1)) + (v2))) ∧ (mt 90 0 [some (mm_P 24), some (mm_I ((((100 : Int)) * (v1)) + (v2))), some (mm_I (v3)), none] [] (mm_mk D5 u6 x7) (mm_pV fun D11 u12 x13 => Q (.inl none) (mm_mk D11 u12 x13))))))) ∧ (¬ ((v2) < 0) → (((v3) < 0) → mt 78 0 [some (mm_P 24), some (mm_I ((2 : Int)))] [] (mm_mk D1 u2 x3) (mm_pI fun r18 D15 u16 x17 => (((r18) = 0) → Q (.inl none) (mm_mk D15 u16 x17)) ∧ (¬ ((r18) = 0) → (mm_rng (((100 : Int)) * (v1))) ∧ ((mm_rng ((((100 : Int)) * (v1)) + (v2))) ∧ (mt 90 0 [some (mm_P 24), some (mm_I ((((100 : Int)) * (v1)) + (v2))), some (mm_I (v3)), none] [] (mm_mk D15 u16 x17) (mm_pV fun D21 u22 x23 => Q (.inl none) (mm_mk D21 u22 x23))))))) ∧ (¬ ((v3) < 0) → (0 ≤ (v1)) ∧ (((v1) < 4) ∧ ((((D1 26 (v1)) < (v2)) → mt 78 0 [some (mm_P 24), some (mm_I ((2 : Int)))] [] (mm_mk D1 u2 x3) (mm_pI fun r30 D27 u28 x29 => (((r30) = 0) → Q (.inl none) (mm_mk D27 u28 x29)) ∧ (¬ ((r30) = 0) → (mm_rng (((100 : Int)) * (v1))) ∧ ((mm_rng ((((100 : Int)) * (v1)) + (v2))) ∧ (mt 90 0 [some (mm_P 24), some (mm_I ((((100 : Int)) * (v1)) + (v2))), some (mm_I (v3)), none] [] (mm_mk D27 u28 x29) (mm_pV fun D33 u34 x35 => Q (.inl none) (mm_mk D33 u34 x35))))))) ∧ (¬ ((D1 26 (v1)) < (v2)) → (0 ≤ (v1)) ∧ (((v1) < 4) ∧ ((mm_rng ((D1 26 (v1)) - (v2))) ∧ ((((v3) ≤ ((D1 26 (v1)) - (v2))) → mt 78 0 [some (mm_P 24), some (mm_I ((0 : Int)))] [] (mm_mk D1 u2 x3) (mm_pI fun r43 D40 u41 x42 => (((r43) = 0) → Q (.inl none) (mm_mk D40 u41 x42)) ∧ (¬ ((r43) = 0) → (mm_rng (((100 : Int)) * (v1))) ∧ ((mm_rng ((((100 : Int)) * (v1)) + (v2))) ∧ (mt 90 0 [some (mm_P 24), some (mm_I ((((100 : Int)) * (v1)) + (v2))), some (mm_I (v3)), none] [] (mm_mk D40 u41 x42) (mm_pV fun D46 u47 x48 => Q (.inl none) (mm_mk D46 u47 x48))))))) ∧ (¬ ((v3) ≤ ((D1 26 (v1)) - (v2))) → mt 78 0 [some (mm_P 24), some (mm_I ((2 : Int)))] [] (mm_mk D1 u2 x3) (mm_pI fun r53 D50 u51 x52 => (((r53) = 0) → Q (.inl none) (mm_mk D50 u51 x52)) ∧ (¬ ((r53) = 0) → (mm_rng (((100 : Int)) * (v1))) ∧ ((mm_rng ((((100 : Int)) * (v1)) + (v2))) ∧ (mt 90 0 [some (mm_P 24), some (mm_I ((((100 : Int)) * (v1)) + (v2))), some (mm_I (v3)), none] [] (mm_mk D50 u51 x52) (mm_pV fun D56 u57 x58 => Q (.inl none) (mm_mk D56 u57 x58)))))))))))))))) ∧ (¬ (¬ (r4) = 0) → mt 78 0 [some (mm_P 24), some (mm_I ((1 : Int)))] [] (mm_mk D1 u2 x3) (mm_pI fun r63 D60 u61 x62 => (((r63) = 0) → Q (.inl none) (mm_mk D60 u61 x62)) ∧ (¬ ((r63) = 0) → (mm_rng (((100 : Int)) * (v1))) ∧ ((mm_rng ((((100 : Int)) * (v1)) + (v2))) ∧ (mt 90 0 [some (mm_P 24), some (mm_I ((((100 : Int)) * (v1)) + (v2))), some (mm_I (v3)), none] [] (mm_mk D60 u61 x62) (mm_pV fun D66 u67 x68 => Q (.inl none) (mm_mk D66 u67 x68))))))))) : mt 91 0 [some (mm_P 24), some (mm_I (v1)), some (mm_I (v2)), some (mm_I (v3)), none] [] (mm_mk D u x) Q := by
  refine mu_aload (r := some (24)) mc_91_0 (by decide) rfl ?_
  refine mu_load mc_91_1 (by decide) rfl ?_
  refine mt_call (args := [mm_P 24, mm_I (v1)]) (rest := []) mc_91_2 (by decide) rfl rfl rfl ⟨by simp, rfl, by decide⟩ (mu_rcv (by decide) rfl (by decide)) H ?_
  rintro _ _ ⟨r4, D1, u2, x3, rfl, rfl, H⟩
  refine Or.inl ⟨_, rfl, ?_⟩
  refine mu_store mc_91_3 (by decide) (by simp) (ls' := [some (mm_P 24), some (mm_I (v1)), some (mm_I (v2)), some (mm_I (v3)), some (mm_I (r4))]) rfl ?_
  refine mu_aload (r := some (24)) mc_91_4 (by decide) rfl ?_
  refine mu_load mc_91_5 (by decide) rfl ?_
  refine mu_if_ne mc_91_6 (fun c => ?_) (fun c => ?_)
  · replace H := H.1 c
    refine mu_load mc_91_9 (by decide) rfl ?_
    refine mu_if_lt mc_91_10 (fun c => ?_) (fun c => ?_)
    · replace H := H.1 c
      refine mu_const mc_91_27 (by decide) (by decide) ?_
      refine mu_rfl (n := 30) mc_91_28 (by decide) rfl rfl ?_
      refine mt_call (args := [mm_P 24, mm_I ((2 : Int))]) (rest := []) mc_91_30 (by decide) rfl rfl rfl ⟨by simp, rfl, by decide⟩ (mu_rcv (by decide) rfl (by decide)) H ?_
      rintro _ _ ⟨r8, D5, u6, x7, rfl, rfl, H⟩
      refine Or.inl ⟨_, rfl, ?_⟩
      refine mu_if_eq mc_91_31 (fun c => ?_) (fun c => ?_)
      · replace H := H.1 c
        exact mt_retV mc_91_40 H
      · replace H := H.2 c
        refine mu_aload (r := some (24)) mc_91_32 (by decide) rfl ?_
        refine mu_const mc_91_33 (by decide) (by decide) ?_
        refine mu_load mc_91_34 (by decide) rfl ?_
        have h9 := H.1
        replace H := H.2
        refine mu_imul mc_91_35 h9 ?_
        refine mu_load mc_91_36 (by decide) rfl ?_
        have h10 := H.1
        replace H := H.2
        refine mu_iadd mc_91_37 h10 ?_
        refine mu_load mc_91_38 (by decide) rfl ?_
        refine mt_call (args := [mm_P 24, mm_I ((((100 : Int)) * (v1)) + (v2)), mm_I (v3)]) (rest := []) mc_91_39 (by decide) rfl rfl rfl ⟨by simp, rfl, by decide⟩ (mu_rcv (by decide) rfl (by decide)) H ?_
        rintro _ _ ⟨D11, u12, x13, rfl, rfl, H⟩
        refine Or.inl ⟨_, rfl, ?_⟩
        exact mt_retV mc_91_40 H
    · replace H := H.2 c
      refine mu_load mc_91_11 (by decide) rfl ?_
      refine mu_if_lt mc_91_12 (fun c => ?_) (fun c => ?_)
      · replace H := H.1 c
        refine mu_const mc_91_27 (by decide) (by decide) ?_
        refine mu_rfl (n := 30) mc_91_28 (by decide) rfl rfl ?_
        refine mt_call (args := [mm_P 24, mm_I ((2 : Int))]) (rest := []) mc_91_30 (by decide) rfl rfl rfl ⟨by simp, rfl, by decide⟩ (mu_rcv (by decide) rfl (by decide)) H ?_
        rintro _ _ ⟨r18, D15, u16, x17, rfl, rfl, H⟩
        refine Or.inl ⟨_, rfl, ?_⟩
        refine mu_if_eq mc_91_31 (fun c => ?_) (fun c => ?_)
        · replace H := H.1 c
          exact mt_retV mc_91_40 H
        · replace H := H.2 c
          refine mu_aload (r := some (24)) mc_91_32 (by decide) rfl ?_
          refine mu_const mc_91_33 (by decide) (by decide) ?_
          refine mu_load mc_91_34 (by decide) rfl ?_
          have h19 := H.1
          replace H := H.2
          refine mu_imul mc_91_35 h19 ?_
          refine mu_load mc_91_36 (by decide) rfl ?_
          have h20 := H.1
          replace H := H.2
          refine mu_iadd mc_91_37 h20 ?_
          refine mu_load mc_91_38 (by decide) rfl ?_
          refine mt_call (args := [mm_P 24, mm_I ((((100 : Int)) * (v1)) + (v2)), mm_I (v3)]) (rest := []) mc_91_39 (by decide) rfl rfl rfl ⟨by simp, rfl, by decide⟩ (mu_rcv (by decide) rfl (by decide)) H ?_
          rintro _ _ ⟨D21, u22, x23, rfl, rfl, H⟩
          refine Or.inl ⟨_, rfl, ?_⟩
          exact mt_retV mc_91_40 H
      · replace H := H.2 c
        refine mu_load mc_91_13 (by decide) rfl ?_
        refine mu_aload (r := some (24)) mc_91_14 (by decide) rfl ?_
        refine mu_get mc_91_15 rfl ?_
        refine mu_load mc_91_16 (by decide) rfl ?_
        have h25 := H.1
        replace H := H.2
        have h26 := H.1
        replace H := H.2
        refine mu_iald mc_91_17 rfl h25 h26 ?_
        refine mu_ic_gt mc_91_18 (fun c => ?_) (fun c => ?_)
        · replace H := H.1 c
          refine mu_const mc_91_27 (by decide) (by decide) ?_
          refine mu_rfl (n := 30) mc_91_28 (by decide) rfl rfl ?_
          refine mt_call (args := [mm_P 24, mm_I ((2 : Int))]) (rest := []) mc_91_30 (by decide) rfl rfl rfl ⟨by simp, rfl, by decide⟩ (mu_rcv (by decide) rfl (by decide)) H ?_
          rintro _ _ ⟨r30, D27, u28, x29, rfl, rfl, H⟩
          refine Or.inl ⟨_, rfl, ?_⟩
          refine mu_if_eq mc_91_31 (fun c => ?_) (fun c => ?_)
          · replace H := H.1 c
            exact mt_retV mc_91_40 H
          · replace H := H.2 c
            refine mu_aload (r := some (24)) mc_91_32 (by decide) rfl ?_
            refine mu_const mc_91_33 (by decide) (by decide) ?_
            refine mu_load mc_91_34 (by decide) rfl ?_
            have h31 := H.1
            replace H := H.2
            refine mu_imul mc_91_35 h31 ?_
            refine mu_load mc_91_36 (by decide) rfl ?_
            have h32 := H.1
            replace H := H.2
            refine mu_iadd mc_91_37 h32 ?_
            refine mu_load mc_91_38 (by decide) rfl ?_
            refine mt_call (args := [mm_P 24, mm_I ((((100 : Int)) * (v1)) + (v2)), mm_I (v3)]) (rest := []) mc_91_39 (by decide) rfl rfl rfl ⟨by simp, rfl, by decide⟩ (mu_rcv (by decide) rfl (by decide)) H ?_
            rintro _ _ ⟨D33, u34, x35, rfl, rfl, H⟩
            refine Or.inl ⟨_, rfl, ?_⟩
            exact mt_retV mc_91_40 H
        · replace H := H.2 c
          refine mu_load mc_91_19 (by decide) rfl ?_
          refine mu_aload (r := some (24)) mc_91_20 (by decide) rfl ?_
          refine mu_get mc_91_21 rfl ?_
          refine mu_load mc_91_22 (by decide) rfl ?_
          have h37 := H.1
          replace H := H.2
          have h38 := H.1
          replace H := H.2
          refine mu_iald mc_91_23 rfl h37 h38 ?_
          refine mu_load mc_91_24 (by decide) rfl ?_
          have h39 := H.1
          replace H := H.2
          refine mu_isub mc_91_25 h39 ?_
          refine mu_ic_le mc_91_26 (fun c => ?_) (fun c => ?_)
          · replace H := H.1 c
            refine mu_const mc_91_29 (by decide) (by decide) ?_
            refine mt_call (args := [mm_P 24, mm_I ((0 : Int))]) (rest := []) mc_91_30 (by decide) rfl rfl rfl ⟨by simp, rfl, by decide⟩ (mu_rcv (by decide) rfl (by decide)) H ?_
            rintro _ _ ⟨r43, D40, u41, x42, rfl, rfl, H⟩
            refine Or.inl ⟨_, rfl, ?_⟩
            refine mu_if_eq mc_91_31 (fun c => ?_) (fun c => ?_)
            · replace H := H.1 c
              exact mt_retV mc_91_40 H
            · replace H := H.2 c
              refine mu_aload (r := some (24)) mc_91_32 (by decide) rfl ?_
              refine mu_const mc_91_33 (by decide) (by decide) ?_
              refine mu_load mc_91_34 (by decide) rfl ?_
              have h44 := H.1
              replace H := H.2
              refine mu_imul mc_91_35 h44 ?_
              refine mu_load mc_91_36 (by decide) rfl ?_
              have h45 := H.1
              replace H := H.2
              refine mu_iadd mc_91_37 h45 ?_
              refine mu_load mc_91_38 (by decide) rfl ?_
              refine mt_call (args := [mm_P 24, mm_I ((((100 : Int)) * (v1)) + (v2)), mm_I (v3)]) (rest := []) mc_91_39 (by decide) rfl rfl rfl ⟨by simp, rfl, by decide⟩ (mu_rcv (by decide) rfl (by decide)) H ?_
              rintro _ _ ⟨D46, u47, x48, rfl, rfl, H⟩
              refine Or.inl ⟨_, rfl, ?_⟩
              exact mt_retV mc_91_40 H
          · replace H := H.2 c
            refine mu_const mc_91_27 (by decide) (by decide) ?_
            refine mu_rfl (n := 30) mc_91_28 (by decide) rfl rfl ?_
            refine mt_call (args := [mm_P 24, mm_I ((2 : Int))]) (rest := []) mc_91_30 (by decide) rfl rfl rfl ⟨by simp, rfl, by decide⟩ (mu_rcv (by decide) rfl (by decide)) H ?_
            rintro _ _ ⟨r53, D50, u51, x52, rfl, rfl, H⟩
            refine Or.inl ⟨_, rfl, ?_⟩
            refine mu_if_eq mc_91_31 (fun c => ?_) (fun c => ?_)
            · replace H := H.1 c
              exact mt_retV mc_91_40 H
            · replace H := H.2 c
              refine mu_aload (r := some (24)) mc_91_32 (by decide) rfl ?_
              refine mu_const mc_91_33 (by decide) (by decide) ?_
              refine mu_load mc_91_34 (by decide) rfl ?_
              have h54 := H.1
              replace H := H.2
              refine mu_imul mc_91_35 h54 ?_
              refine mu_load mc_91_36 (by decide) rfl ?_
              have h55 := H.1
              replace H := H.2
              refine mu_iadd mc_91_37 h55 ?_
              refine mu_load mc_91_38 (by decide) rfl ?_
              refine mt_call (args := [mm_P 24, mm_I ((((100 : Int)) * (v1)) + (v2)), mm_I (v3)]) (rest := []) mc_91_39 (by decide) rfl rfl rfl ⟨by simp, rfl, by decide⟩ (mu_rcv (by decide) rfl (by decide)) H ?_
              rintro _ _ ⟨D56, u57, x58, rfl, rfl, H⟩
              refine Or.inl ⟨_, rfl, ?_⟩
              exact mt_retV mc_91_40 H
  · replace H := H.2 c
    refine mu_const mc_91_7 (by decide) (by decide) ?_
    refine mu_rfl (n := 30) mc_91_8 (by decide) rfl rfl ?_
    refine mt_call (args := [mm_P 24, mm_I ((1 : Int))]) (rest := []) mc_91_30 (by decide) rfl rfl rfl ⟨by simp, rfl, by decide⟩ (mu_rcv (by decide) rfl (by decide)) H ?_
    rintro _ _ ⟨r63, D60, u61, x62, rfl, rfl, H⟩
    refine Or.inl ⟨_, rfl, ?_⟩
    refine mu_if_eq mc_91_31 (fun c => ?_) (fun c => ?_)
    · replace H := H.1 c
      exact mt_retV mc_91_40 H
    · replace H := H.2 c
      refine mu_aload (r := some (24)) mc_91_32 (by decide) rfl ?_
      refine mu_const mc_91_33 (by decide) (by decide) ?_
      refine mu_load mc_91_34 (by decide) rfl ?_
      have h64 := H.1
      replace H := H.2
      refine mu_imul mc_91_35 h64 ?_
      refine mu_load mc_91_36 (by decide) rfl ?_
      have h65 := H.1
      replace H := H.2
      refine mu_iadd mc_91_37 h65 ?_
      refine mu_load mc_91_38 (by decide) rfl ?_
      refine mt_call (args := [mm_P 24, mm_I ((((100 : Int)) * (v1)) + (v2)), mm_I (v3)]) (rest := []) mc_91_39 (by decide) rfl rfl rfl ⟨by simp, rfl, by decide⟩ (mu_rcv (by decide) rfl (by decide)) H ?_
      rintro _ _ ⟨D66, u67, x68, rfl, rfl, H⟩
      refine Or.inl ⟨_, rfl, ?_⟩
      exact mt_retV mc_91_40 H

theorem q_X5_patternLength_0 {D : mm_D} {u : Int} {x : Nat × (Nat × List Int)} {Q : mm_O → mm_H → Prop} (H : ∀ D1 : mm_D, D1 = mm_wr D 24 0 ((0 : Int)) → (Q (.inl (some (mm_I (D1 24 6)))) (mm_mk D1 u x))) : mt 92 0 [some (mm_P 24)] [] (mm_mk D u x) Q := by
  refine mu_aload (r := some (24)) mc_92_0 (by decide) rfl ?_
  refine mu_const mc_92_1 (by decide) (by decide) ?_
  refine mu_put mc_92_2 (by decide) (Or.inl rfl) ?_
  obtain ⟨D1, eD1⟩ : ∃ z, z = mm_wr D 24 0 ((0 : Int)) := ⟨_, rfl⟩
  replace H := H D1 eD1
  show mt _ _ _ _ (mm_mk (mm_wr D 24 0 ((0 : Int))) _ _) _
  rw [← eD1]
  refine mu_aload (r := some (24)) mc_92_3 (by decide) rfl ?_
  refine mu_get mc_92_4 rfl ?_
  exact mt_ret mc_92_5 H

theorem q_X5_patternAt_0 {D : mm_D} {u : Int} {x : Nat × (Nat × List Int)} {Q : mm_O → mm_H → Prop} (v1 : Int) (H : (((v1) < 0) → mt 78 0 [some (mm_P 24), some (mm_I ((1 : Int)))] [] (mm_mk D u x) (mm_pI fun r4 D1 u2 x3 => (((r4) = 0) → Q (.inl (some (mm_I ((0 : Int))))) (mm_mk D1 u2 x3)) ∧ (¬ ((r4) = 0) → (0 ≤ (v1)) ∧ (((v1) < 120) ∧ (Q (.inl (some (mm_I (D1 27 (v1))))) (mm_mk D1 u2 x3)))))) ∧ (¬ ((v1) < 0) → (((D 24 6) ≤ (v1)) → mt 78 0 [some (mm_P 24), some (mm_I ((1 : Int)))] [] (mm_mk D u x) (mm_pI fun r10 D7 u8 x9 => (((r10) = 0) → Q (.inl (some (mm_I ((0 : Int))))) (mm_mk D7 u8 x9)) ∧ (¬ ((r10) = 0) → (0 ≤ (v1)) ∧ (((v1) < 120) ∧ (Q (.inl (some (mm_I (D7 27 (v1))))) (mm_mk D7 u8 x9)))))) ∧ (¬ ((D 24 6) ≤ (v1)) → mt 78 0 [some (mm_P 24), some (mm_I ((0 : Int)))] [] (mm_mk D u x) (mm_pI fun r16 D13 u14 x15 => (((r16) = 0) → Q (.inl (some (mm_I ((0 : Int))))) (mm_mk D13 u14 x15)) ∧ (¬ ((r16) = 0) → (0 ≤ (v1)) ∧ (((v1) < 120) ∧ (Q (.inl (some (mm_I (D13 27 (v1))))) (mm_mk D13 u14 x15)))))))) : mt 93 0 [some (mm_P 24), some (mm_I (v1))] [] (mm_mk D u x) Q := by
  refine mu_aload (r := some (24)) mc_93_0 (by decide) rfl ?_
  refine mu_load mc_93_1 (by decide) rfl ?_
  refine mu_if_lt mc_93_2 (fun c => ?_) (fun c => ?_)
  · replace H := H.1 c
    refine mu_const mc_93_9 (by decide) (by decide) ?_
    refine mt_call (args := [mm_P 24, mm_I ((1 : Int))]) (rest := []) mc_93_10 (by decide) rfl rfl rfl ⟨by simp, rfl, by decide⟩ (mu_rcv (by decide) rfl (by decide)) H ?_
    rintro _ _ ⟨r4, D1, u2, x3, rfl, rfl, H⟩
    refine Or.inl ⟨_, rfl, ?_⟩
    refine mu_if_eq mc_93_11 (fun c => ?_) (fun c => ?_)
    · replace H := H.1 c
      refine mu_const mc_93_17 (by decide) (by decide) ?_
      exact mt_ret mc_93_18 H
    · replace H := H.2 c
      refine mu_aload (r := some (24)) mc_93_12 (by decide) rfl ?_
      refine mu_get mc_93_13 rfl ?_
      refine mu_load mc_93_14 (by decide) rfl ?_
      have h5 := H.1
      replace H := H.2
      have h6 := H.1
      replace H := H.2
      refine mu_iald mc_93_15 rfl h5 h6 ?_
      refine mu_rfl (n := 18) mc_93_16 (by decide) rfl rfl ?_
      exact mt_ret mc_93_18 H
  · replace H := H.2 c
    refine mu_load mc_93_3 (by decide) rfl ?_
    refine mu_aload (r := some (24)) mc_93_4 (by decide) rfl ?_
    refine mu_get mc_93_5 rfl ?_
    refine mu_ic_ge mc_93_6 (fun c => ?_) (fun c => ?_)
    · replace H := H.1 c
      refine mu_const mc_93_9 (by decide) (by decide) ?_
      refine mt_call (args := [mm_P 24, mm_I ((1 : Int))]) (rest := []) mc_93_10 (by decide) rfl rfl rfl ⟨by simp, rfl, by decide⟩ (mu_rcv (by decide) rfl (by decide)) H ?_
      rintro _ _ ⟨r10, D7, u8, x9, rfl, rfl, H⟩
      refine Or.inl ⟨_, rfl, ?_⟩
      refine mu_if_eq mc_93_11 (fun c => ?_) (fun c => ?_)
      · replace H := H.1 c
        refine mu_const mc_93_17 (by decide) (by decide) ?_
        exact mt_ret mc_93_18 H
      · replace H := H.2 c
        refine mu_aload (r := some (24)) mc_93_12 (by decide) rfl ?_
        refine mu_get mc_93_13 rfl ?_
        refine mu_load mc_93_14 (by decide) rfl ?_
        have h11 := H.1
        replace H := H.2
        have h12 := H.1
        replace H := H.2
        refine mu_iald mc_93_15 rfl h11 h12 ?_
        refine mu_rfl (n := 18) mc_93_16 (by decide) rfl rfl ?_
        exact mt_ret mc_93_18 H
    · replace H := H.2 c
      refine mu_const mc_93_7 (by decide) (by decide) ?_
      refine mu_rfl (n := 10) mc_93_8 (by decide) rfl rfl ?_
      refine mt_call (args := [mm_P 24, mm_I ((0 : Int))]) (rest := []) mc_93_10 (by decide) rfl rfl rfl ⟨by simp, rfl, by decide⟩ (mu_rcv (by decide) rfl (by decide)) H ?_
      rintro _ _ ⟨r16, D13, u14, x15, rfl, rfl, H⟩
      refine Or.inl ⟨_, rfl, ?_⟩
      refine mu_if_eq mc_93_11 (fun c => ?_) (fun c => ?_)
      · replace H := H.1 c
        refine mu_const mc_93_17 (by decide) (by decide) ?_
        exact mt_ret mc_93_18 H
      · replace H := H.2 c
        refine mu_aload (r := some (24)) mc_93_12 (by decide) rfl ?_
        refine mu_get mc_93_13 rfl ?_
        refine mu_load mc_93_14 (by decide) rfl ?_
        have h17 := H.1
        replace H := H.2
        have h18 := H.1
        replace H := H.2
        refine mu_iald mc_93_15 rfl h17 h18 ?_
        refine mu_rfl (n := 18) mc_93_16 (by decide) rfl rfl ?_
        exact mt_ret mc_93_18 H

theorem q_X5_stands_0 {D : mm_D} {u : Int} {x : Nat × (Nat × List Int)} {Q : mm_O → mm_H → Prop} (v1 v2 v3 : Int) (H : (((D 24 6) ≤ (v1)) → mt 94 23 [some (mm_P 24), some (mm_I (v1)), some (mm_I (v2)), some (mm_I (v3)), some (mm_I ((0 : Int))), some (mm_I (v1))] [] (mm_mk D u x) Q) ∧ (¬ ((D 24 6) ≤ (v1)) → (((v3) < 0) → mt 94 23 [some (mm_P 24), some (mm_I (v1)), some (mm_I (v2)), some (mm_I (v3)), some (mm_I ((0 : Int))), some (mm_I (v1))] [] (mm_mk D u x) Q) ∧ (¬ ((v3) < 0) → (mm_rng ((v3) + (D 24 6))) ∧ ((mm_rng (((v3) + (D 24 6)) - (v1))) ∧ ((0 ≤ (v2)) ∧ (((v2) < 4) ∧ ((((D 26 (v2)) < (((v3) + (D 24 6)) - (v1))) → mt 94 23 [some (mm_P 24), some (mm_I (v1)), some (mm_I (v2)), some (mm_I (v3)), some (mm_I ((0 : Int))), some (mm_I (v1))] [] (mm_mk D u x) Q) ∧ (¬ ((D 26 (v2)) < (((v3) + (D 24 6)) - (v1))) → mt 94 23 [some (mm_P 24), some (mm_I (v1)), some (mm_I (v2)), some (mm_I (v3)), some (mm_I ((1 : Int))), some (mm_I (v1))] [] (mm_mk D u x) Q)))))))) : mt 94 0 [some (mm_P 24), some (mm_I (v1)), some (mm_I (v2)), some (mm_I (v3)), none, none] [] (mm_mk D u x) Q := by
  refine mu_load mc_94_0 (by decide) rfl ?_
  refine mu_aload (r := some (24)) mc_94_1 (by decide) rfl ?_
  refine mu_get mc_94_2 rfl ?_
  refine mu_ic_ge mc_94_3 (fun c => ?_) (fun c => ?_)
  · replace H := H.1 c
    refine mu_const mc_94_19 (by decide) (by decide) ?_
    refine mu_store mc_94_20 (by decide) (by simp) (ls' := [some (mm_P 24), some (mm_I (v1)), some (mm_I (v2)), some (mm_I (v3)), some (mm_I ((0 : Int))), none]) rfl ?_
    refine mu_load mc_94_21 (by decide) rfl ?_
    refine mu_store mc_94_22 (by decide) (by simp) (ls' := [some (mm_P 24), some (mm_I (v1)), some (mm_I (v2)), some (mm_I (v3)), some (mm_I ((0 : Int))), some (mm_I (v1))]) rfl ?_
    exact H
  · replace H := H.2 c
    refine mu_load mc_94_4 (by decide) rfl ?_
    refine mu_if_lt mc_94_5 (fun c => ?_) (fun c => ?_)
    · replace H := H.1 c
      refine mu_const mc_94_19 (by decide) (by decide) ?_
      refine mu_store mc_94_20 (by decide) (by simp) (ls' := [some (mm_P 24), some (mm_I (v1)), some (mm_I (v2)), some (mm_I (v3)), some (mm_I ((0 : Int))), none]) rfl ?_
      refine mu_load mc_94_21 (by decide) rfl ?_
      refine mu_store mc_94_22 (by decide) (by simp) (ls' := [some (mm_P 24), some (mm_I (v1)), some (mm_I (v2)), some (mm_I (v3)), some (mm_I ((0 : Int))), some (mm_I (v1))]) rfl ?_
      exact H
    · replace H := H.2 c
      refine mu_load mc_94_6 (by decide) rfl ?_
      refine mu_aload (r := some (24)) mc_94_7 (by decide) rfl ?_
      refine mu_get mc_94_8 rfl ?_
      have h1 := H.1
      replace H := H.2
      refine mu_iadd mc_94_9 h1 ?_
      refine mu_load mc_94_10 (by decide) rfl ?_
      have h2 := H.1
      replace H := H.2
      refine mu_isub mc_94_11 h2 ?_
      refine mu_aload (r := some (24)) mc_94_12 (by decide) rfl ?_
      refine mu_get mc_94_13 rfl ?_
      refine mu_load mc_94_14 (by decide) rfl ?_
      have h3 := H.1
      replace H := H.2
      have h4 := H.1
      replace H := H.2
      refine mu_iald mc_94_15 rfl h3 h4 ?_
      refine mu_ic_gt mc_94_16 (fun c => ?_) (fun c => ?_)
      · replace H := H.1 c
        refine mu_const mc_94_19 (by decide) (by decide) ?_
        refine mu_store mc_94_20 (by decide) (by simp) (ls' := [some (mm_P 24), some (mm_I (v1)), some (mm_I (v2)), some (mm_I (v3)), some (mm_I ((0 : Int))), none]) rfl ?_
        refine mu_load mc_94_21 (by decide) rfl ?_
        refine mu_store mc_94_22 (by decide) (by simp) (ls' := [some (mm_P 24), some (mm_I (v1)), some (mm_I (v2)), some (mm_I (v3)), some (mm_I ((0 : Int))), some (mm_I (v1))]) rfl ?_
        exact H
      · replace H := H.2 c
        refine mu_const mc_94_17 (by decide) (by decide) ?_
        refine mu_rfl (n := 20) mc_94_18 (by decide) rfl rfl ?_
        refine mu_store mc_94_20 (by decide) (by simp) (ls' := [some (mm_P 24), some (mm_I (v1)), some (mm_I (v2)), some (mm_I (v3)), some (mm_I ((1 : Int))), none]) rfl ?_
        refine mu_load mc_94_21 (by decide) rfl ?_
        refine mu_store mc_94_22 (by decide) (by simp) (ls' := [some (mm_P 24), some (mm_I (v1)), some (mm_I (v2)), some (mm_I (v3)), some (mm_I ((1 : Int))), some (mm_I (v1))]) rfl ?_
        exact H
theorem q_X5_stands_23 {D : mm_D} {u : Int} {x : Nat × (Nat × List Int)} {Q : mm_O → mm_H → Prop} (v1 v2 v3 v4 v5 : Int) (H : (((D 24 6) ≤ (v5)) → ((v4) = 0 ∨ (v4) = 1) ∧ (Q (.inl (some (mm_I (v4)))) (mm_mk D u x))) ∧ (¬ ((D 24 6) ≤ (v5)) → (((v4) = 0) → ((v4) = 0 ∨ (v4) = 1) ∧ (Q (.inl (some (mm_I (v4)))) (mm_mk D u x))) ∧ (¬ ((v4) = 0) → (mm_rng (((100 : Int)) * (v2))) ∧ ((mm_rng ((((100 : Int)) * (v2)) + (v3))) ∧ ((mm_rng (((((100 : Int)) * (v2)) + (v3)) + (v5))) ∧ ((mm_rng ((((((100 : Int)) * (v2)) + (v3)) + (v5)) - (v1))) ∧ ((0 ≤ ((((((100 : Int)) * (v2)) + (v3)) + (v5)) - (v1))) ∧ ((((((((100 : Int)) * (v2)) + (v3)) + (v5)) - (v1)) < 400) ∧ ((0 ≤ (v5)) ∧ (((v5) < 120) ∧ (((¬ (D 25 ((((((100 : Int)) * (v2)) + (v3)) + (v5)) - (v1))) = (D 27 (v5))) → (mm_rng ((v5) + (1 : Int))) ∧ (mt 94 23 [some (mm_P 24), some (mm_I (v1)), some (mm_I (v2)), some (mm_I (v3)), some (mm_I ((0 : Int))), some (mm_I ((v5) + (1 : Int)))] [] (mm_mk D u x) Q)) ∧ (¬ (¬ (D 25 ((((((100 : Int)) * (v2)) + (v3)) + (v5)) - (v1))) = (D 27 (v5))) → (mm_rng ((v5) + (1 : Int))) ∧ (mt 94 23 [some (mm_P 24), some (mm_I (v1)), some (mm_I (v2)), some (mm_I (v3)), some (mm_I ((1 : Int))), some (mm_I ((v5) + (1 : Int)))] [] (mm_mk D u x) Q))))))))))))) : mt 94 23 [some (mm_P 24), some (mm_I (v1)), some (mm_I (v2)), some (mm_I (v3)), some (mm_I (v4)), some (mm_I (v5))] [] (mm_mk D u x) Q := by
  refine mu_load mc_94_23 (by decide) rfl ?_
  refine mu_aload (r := some (24)) mc_94_24 (by decide) rfl ?_
  refine mu_get mc_94_25 rfl ?_
  refine mu_ic_ge mc_94_26 (fun c => ?_) (fun c => ?_)
  · replace H := H.1 c
    refine mu_load mc_94_52 (by decide) rfl ?_
    have h1 := H.1
    replace H := H.2
    exact mt_retB mc_94_53 h1 H
  · replace H := H.2 c
    refine mu_load mc_94_27 (by decide) rfl ?_
    refine mu_if_eq mc_94_28 (fun c => ?_) (fun c => ?_)
    · replace H := H.1 c
      refine mu_load mc_94_52 (by decide) rfl ?_
      have h2 := H.1
      replace H := H.2
      exact mt_retB mc_94_53 h2 H
    · replace H := H.2 c
      refine mu_aload (r := some (24)) mc_94_29 (by decide) rfl ?_
      refine mu_get mc_94_30 rfl ?_
      refine mu_const mc_94_31 (by decide) (by decide) ?_
      refine mu_load mc_94_32 (by decide) rfl ?_
      have h3 := H.1
      replace H := H.2
      refine mu_imul mc_94_33 h3 ?_
      refine mu_load mc_94_34 (by decide) rfl ?_
      have h4 := H.1
      replace H := H.2
      refine mu_iadd mc_94_35 h4 ?_
      refine mu_load mc_94_36 (by decide) rfl ?_
      have h5 := H.1
      replace H := H.2
      refine mu_iadd mc_94_37 h5 ?_
      refine mu_load mc_94_38 (by decide) rfl ?_
      have h6 := H.1
      replace H := H.2
      refine mu_isub mc_94_39 h6 ?_
      have h7 := H.1
      replace H := H.2
      have h8 := H.1
      replace H := H.2
      refine mu_iald mc_94_40 rfl h7 h8 ?_
      refine mu_aload (r := some (24)) mc_94_41 (by decide) rfl ?_
      refine mu_get mc_94_42 rfl ?_
      refine mu_load mc_94_43 (by decide) rfl ?_
      have h9 := H.1
      replace H := H.2
      have h10 := H.1
      replace H := H.2
      refine mu_iald mc_94_44 rfl h9 h10 ?_
      refine mu_ic_ne mc_94_45 (fun c => ?_) (fun c => ?_)
      · replace H := H.1 c
        refine mu_const mc_94_48 (by decide) (by decide) ?_
        refine mu_store mc_94_49 (by decide) (by simp) (ls' := [some (mm_P 24), some (mm_I (v1)), some (mm_I (v2)), some (mm_I (v3)), some (mm_I ((0 : Int))), some (mm_I (v5))]) rfl ?_
        have h11 := H.1
        replace H := H.2
        refine mu_iinc mc_94_50 rfl h11 (ls' := [some (mm_P 24), some (mm_I (v1)), some (mm_I (v2)), some (mm_I (v3)), some (mm_I ((0 : Int))), some (mm_I ((v5) + (1 : Int)))]) rfl ?_
        refine mu_rfl (n := 23) mc_94_51 (by decide) rfl rfl ?_
        exact H
      · replace H := H.2 c
        refine mu_const mc_94_46 (by decide) (by decide) ?_
        refine mu_rfl (n := 49) mc_94_47 (by decide) rfl rfl ?_
        refine mu_store mc_94_49 (by decide) (by simp) (ls' := [some (mm_P 24), some (mm_I (v1)), some (mm_I (v2)), some (mm_I (v3)), some (mm_I ((1 : Int))), some (mm_I (v5))]) rfl ?_
        have h12 := H.1
        replace H := H.2
        refine mu_iinc mc_94_50 rfl h12 (ls' := [some (mm_P 24), some (mm_I (v1)), some (mm_I (v2)), some (mm_I (v3)), some (mm_I ((1 : Int))), some (mm_I ((v5) + (1 : Int)))]) rfl ?_
        refine mu_rfl (n := 23) mc_94_51 (by decide) rfl rfl ?_
        exact H

theorem q_X5_countIn_0 {D : mm_D} {u : Int} {x : Nat × (Nat × List Int)} {Q : mm_O → mm_H → Prop} (v1 v2 : Int) (H : mt 95 4 [some (mm_P 24), some (mm_I (v1)), some (mm_I (v2)), some (mm_I ((0 : Int))), some (mm_I ((0 : Int)))] [] (mm_mk D u x) Q) : mt 95 0 [some (mm_P 24), some (mm_I (v1)), some (mm_I (v2)), none, none] [] (mm_mk D u x) Q := by
  refine mu_const mc_95_0 (by decide) (by decide) ?_
  refine mu_store mc_95_1 (by decide) (by simp) (ls' := [some (mm_P 24), some (mm_I (v1)), some (mm_I (v2)), some (mm_I ((0 : Int))), none]) rfl ?_
  refine mu_const mc_95_2 (by decide) (by decide) ?_
  refine mu_store mc_95_3 (by decide) (by simp) (ls' := [some (mm_P 24), some (mm_I (v1)), some (mm_I (v2)), some (mm_I ((0 : Int))), some (mm_I ((0 : Int)))]) rfl ?_
  exact H
theorem q_X5_countIn_4 {D : mm_D} {u : Int} {x : Nat × (Nat × List Int)} {Q : mm_O → mm_H → Prop} (v1 v2 v3 v4 : Int) (H : (0 ≤ (v2)) ∧ (((v2) < 4) ∧ ((((D 26 (v2)) ≤ (v4)) → Q (.inl (some (mm_I (v3)))) (mm_mk D u x)) ∧ (¬ ((D 26 (v2)) ≤ (v4)) → mt 94 0 [some (mm_P 24), some (mm_I (v1)), some (mm_I (v2)), some (mm_I (v4)), none, none] [] (mm_mk D u x) (mm_pI fun r6 D3 u4 x5 => (((r6) = 0) → (mm_rng ((v3) + ((0 : Int)))) ∧ ((mm_rng ((v4) + (1 : Int))) ∧ (mt 95 4 [some (mm_P 24), some (mm_I (v1)), some (mm_I (v2)), some (mm_I ((v3) + ((0 : Int)))), some (mm_I ((v4) + (1 : Int)))] [] (mm_mk D3 u4 x5) Q))) ∧ (¬ ((r6) = 0) → (mm_rng ((v3) + ((1 : Int)))) ∧ ((mm_rng ((v4) + (1 : Int))) ∧ (mt 95 4 [some (mm_P 24), some (mm_I (v1)), some (mm_I (v2)), some (mm_I ((v3) + ((1 : Int)))), some (mm_I ((v4) + (1 : Int)))] [] (mm_mk D3 u4 x5) Q)))))))) : mt 95 4 [some (mm_P 24), some (mm_I (v1)), some (mm_I (v2)), some (mm_I (v3)), some (mm_I (v4))] [] (mm_mk D u x) Q := by
  refine mu_load mc_95_4 (by decide) rfl ?_
  refine mu_aload (r := some (24)) mc_95_5 (by decide) rfl ?_
  refine mu_get mc_95_6 rfl ?_
  refine mu_load mc_95_7 (by decide) rfl ?_
  have h1 := H.1
  replace H := H.2
  have h2 := H.1
  replace H := H.2
  refine mu_iald mc_95_8 rfl h1 h2 ?_
  refine mu_ic_ge mc_95_9 (fun c => ?_) (fun c => ?_)
  · replace H := H.1 c
    refine mu_load mc_95_24 (by decide) rfl ?_
    exact mt_ret mc_95_25 H
  · replace H := H.2 c
    refine mu_load mc_95_10 (by decide) rfl ?_
    refine mu_aload (r := some (24)) mc_95_11 (by decide) rfl ?_
    refine mu_load mc_95_12 (by decide) rfl ?_
    refine mu_load mc_95_13 (by decide) rfl ?_
    refine mu_load mc_95_14 (by decide) rfl ?_
    refine mt_call (args := [mm_P 24, mm_I (v1), mm_I (v2), mm_I (v4)]) (rest := [mm_I (v3)]) mc_95_15 (by decide) rfl rfl rfl ⟨by simp, rfl, by decide⟩ (mu_rcv (by decide) rfl (by decide)) H ?_
    rintro _ _ ⟨r6, D3, u4, x5, rfl, rfl, H⟩
    refine Or.inl ⟨_, rfl, ?_⟩
    refine mu_if_eq mc_95_16 (fun c => ?_) (fun c => ?_)
    · replace H := H.1 c
      refine mu_const mc_95_19 (by decide) (by decide) ?_
      have h7 := H.1
      replace H := H.2
      refine mu_iadd mc_95_20 h7 ?_
      refine mu_store mc_95_21 (by decide) (by simp) (ls' := [some (mm_P 24), some (mm_I (v1)), some (mm_I (v2)), some (mm_I ((v3) + ((0 : Int)))), some (mm_I (v4))]) rfl ?_
      have h8 := H.1
      replace H := H.2
      refine mu_iinc mc_95_22 rfl h8 (ls' := [some (mm_P 24), some (mm_I (v1)), some (mm_I (v2)), some (mm_I ((v3) + ((0 : Int)))), some (mm_I ((v4) + (1 : Int)))]) rfl ?_
      refine mu_rfl (n := 4) mc_95_23 (by decide) rfl rfl ?_
      exact H
    · replace H := H.2 c
      refine mu_const mc_95_17 (by decide) (by decide) ?_
      refine mu_rfl (n := 20) mc_95_18 (by decide) rfl rfl ?_
      have h9 := H.1
      replace H := H.2
      refine mu_iadd mc_95_20 h9 ?_
      refine mu_store mc_95_21 (by decide) (by simp) (ls' := [some (mm_P 24), some (mm_I (v1)), some (mm_I (v2)), some (mm_I ((v3) + ((1 : Int)))), some (mm_I (v4))]) rfl ?_
      have h10 := H.1
      replace H := H.2
      refine mu_iinc mc_95_22 rfl h10 (ls' := [some (mm_P 24), some (mm_I (v1)), some (mm_I (v2)), some (mm_I ((v3) + ((1 : Int)))), some (mm_I ((v4) + (1 : Int)))]) rfl ?_
      refine mu_rfl (n := 4) mc_95_23 (by decide) rfl rfl ?_
      exact H

theorem q_X5_count_0 {D : mm_D} {u : Int} {x : Nat × (Nat × List Int)} {Q : mm_O → mm_H → Prop} (v1 : Int) (H : mt 96 4 [some (mm_P 24), some (mm_I (v1)), some (mm_I ((0 : Int))), some (mm_I ((0 : Int)))] [] (mm_mk D u x) Q) : mt 96 0 [some (mm_P 24), some (mm_I (v1)), none, none] [] (mm_mk D u x) Q := by
  refine mu_const mc_96_0 (by decide) (by decide) ?_
  refine mu_store mc_96_1 (by decide) (by simp) (ls' := [some (mm_P 24), some (mm_I (v1)), some (mm_I ((0 : Int))), none]) rfl ?_
  refine mu_const mc_96_2 (by decide) (by decide) ?_
  refine mu_store mc_96_3 (by decide) (by simp) (ls' := [some (mm_P 24), some (mm_I (v1)), some (mm_I ((0 : Int))), some (mm_I ((0 : Int)))]) rfl ?_
  exact H
theorem q_X5_count_4 {D : mm_D} {u : Int} {x : Nat × (Nat × List Int)} {Q : mm_O → mm_H → Prop} (v1 v2 v3 : Int) (H : (((D 24 3) ≤ (v3)) → Q (.inl (some (mm_I (v2)))) (mm_mk D u x)) ∧ (¬ ((D 24 3) ≤ (v3)) → mt 95 0 [some (mm_P 24), some (mm_I (v1)), some (mm_I (v3)), none, none] [] (mm_mk D u x) (mm_pI fun r4 D1 u2 x3 => (mm_rng ((v2) + (r4))) ∧ ((mm_rng ((v3) + (1 : Int))) ∧ (mt 96 4 [some (mm_P 24), some (mm_I (v1)), some (mm_I ((v2) + (r4))), some (mm_I ((v3) + (1 : Int)))] [] (mm_mk D1 u2 x3) Q))))) : mt 96 4 [some (mm_P 24), some (mm_I (v1)), some (mm_I (v2)), some (mm_I (v3))] [] (mm_mk D u x) Q := by
  refine mu_load mc_96_4 (by decide) rfl ?_
  refine mu_aload (r := some (24)) mc_96_5 (by decide) rfl ?_
  refine mu_get mc_96_6 rfl ?_
  refine mu_ic_ge mc_96_7 (fun c => ?_) (fun c => ?_)
  · replace H := H.1 c
    refine mu_load mc_96_17 (by decide) rfl ?_
    exact mt_ret mc_96_18 H
  · replace H := H.2 c
    refine mu_load mc_96_8 (by decide) rfl ?_
    refine mu_aload (r := some (24)) mc_96_9 (by decide) rfl ?_
    refine mu_load mc_96_10 (by decide) rfl ?_
    refine mu_load mc_96_11 (by decide) rfl ?_
    refine mt_call (args := [mm_P 24, mm_I (v1), mm_I (v3)]) (rest := [mm_I (v2)]) mc_96_12 (by decide) rfl rfl rfl ⟨by simp, rfl, by decide⟩ (mu_rcv (by decide) rfl (by decide)) H ?_
    rintro _ _ ⟨r4, D1, u2, x3, rfl, rfl, H⟩
    refine Or.inl ⟨_, rfl, ?_⟩
    have h5 := H.1
    replace H := H.2
    refine mu_iadd mc_96_13 h5 ?_
    refine mu_store mc_96_14 (by decide) (by simp) (ls' := [some (mm_P 24), some (mm_I (v1)), some (mm_I ((v2) + (r4))), some (mm_I (v3))]) rfl ?_
    have h6 := H.1
    replace H := H.2
    refine mu_iinc mc_96_15 rfl h6 (ls' := [some (mm_P 24), some (mm_I (v1)), some (mm_I ((v2) + (r4))), some (mm_I ((v3) + (1 : Int)))]) rfl ?_
    refine mu_rfl (n := 4) mc_96_16 (by decide) rfl rfl ?_
    exact H

theorem q_X5_isPart_0 {D : mm_D} {u : Int} {x : Nat × (Nat × List Int)} {Q : mm_O → mm_H → Prop} (H : ∀ D1 : mm_D, D1 = mm_wr D 24 0 ((0 : Int)) → (mt 96 0 [some (mm_P 24), some (mm_I ((0 : Int))), none, none] [] (mm_mk D1 u x) (mm_pI fun r5 D2 u3 x4 => (((r5) ≤ 0) → Q (.inl (some (mm_I ((0 : Int))))) (mm_mk D2 u3 x4)) ∧ (¬ ((r5) ≤ 0) → Q (.inl (some (mm_I ((1 : Int))))) (mm_mk D2 u3 x4))))) : mt 97 0 [some (mm_P 24)] [] (mm_mk D u x) Q := by
  refine mu_aload (r := some (24)) mc_97_0 (by decide) rfl ?_
  refine mu_const mc_97_1 (by decide) (by decide) ?_
  refine mu_put mc_97_2 (by decide) (Or.inl rfl) ?_
  obtain ⟨D1, eD1⟩ : ∃ z, z = mm_wr D 24 0 ((0 : Int)) := ⟨_, rfl⟩
  replace H := H D1 eD1
  show mt _ _ _ _ (mm_mk (mm_wr D 24 0 ((0 : Int))) _ _) _
  rw [← eD1]
  refine mu_aload (r := some (24)) mc_97_3 (by decide) rfl ?_
  refine mu_const mc_97_4 (by decide) (by decide) ?_
  refine mt_call (args := [mm_P 24, mm_I ((0 : Int))]) (rest := []) mc_97_5 (by decide) rfl rfl rfl ⟨by simp, rfl, by decide⟩ (mu_rcv (by decide) rfl (by decide)) H ?_
  rintro _ _ ⟨r5, D2, u3, x4, rfl, rfl, H⟩
  refine Or.inl ⟨_, rfl, ?_⟩
  refine mu_if_le mc_97_6 (fun c => ?_) (fun c => ?_)
  · replace H := H.1 c
    refine mu_const mc_97_9 (by decide) (by decide) ?_
    exact mt_retB mc_97_10 (by decide) H
  · replace H := H.2 c
    refine mu_const mc_97_7 (by decide) (by decide) ?_
    refine mu_rfl (n := 10) mc_97_8 (by decide) rfl rfl ?_
    exact mt_retB mc_97_10 (by decide) H

theorem q_X5_occurrences_0 {D : mm_D} {u : Int} {x : Nat × (Nat × List Int)} {Q : mm_O → mm_H → Prop} (H : ∀ D1 : mm_D, D1 = mm_wr D 24 0 ((0 : Int)) → (mt 96 0 [some (mm_P 24), some (mm_I ((0 : Int))), none, none] [] (mm_mk D1 u x) (mm_pI fun r5 D2 u3 x4 => Q (.inl (some (mm_I (r5)))) (mm_mk D2 u3 x4)))) : mt 98 0 [some (mm_P 24)] [] (mm_mk D u x) Q := by
  refine mu_aload (r := some (24)) mc_98_0 (by decide) rfl ?_
  refine mu_const mc_98_1 (by decide) (by decide) ?_
  refine mu_put mc_98_2 (by decide) (Or.inl rfl) ?_
  obtain ⟨D1, eD1⟩ : ∃ z, z = mm_wr D 24 0 ((0 : Int)) := ⟨_, rfl⟩
  replace H := H D1 eD1
  show mt _ _ _ _ (mm_mk (mm_wr D 24 0 ((0 : Int))) _ _) _
  rw [← eD1]
  refine mu_aload (r := some (24)) mc_98_3 (by decide) rfl ?_
  refine mu_const mc_98_4 (by decide) (by decide) ?_
  refine mt_call (args := [mm_P 24, mm_I ((0 : Int))]) (rest := []) mc_98_5 (by decide) rfl rfl rfl ⟨by simp, rfl, by decide⟩ (mu_rcv (by decide) rfl (by decide)) H ?_
  rintro _ _ ⟨r5, D2, u3, x4, rfl, rfl, H⟩
  refine Or.inl ⟨_, rfl, ?_⟩
  exact mt_ret mc_98_6 H

theorem q_X5_occurrencesIn_0 {D : mm_D} {u : Int} {x : Nat × (Nat × List Int)} {Q : mm_O → mm_H → Prop} (v1 : Int) (H : mt 79 0 [some (mm_P 24), some (mm_I (v1))] [] (mm_mk D u x) (mm_pI fun r4 D1 u2 x3 => (((r4) = 0) → mt 78 0 [some (mm_P 24), some (mm_I ((1 : Int)))] [] (mm_mk D1 u2 x3) (mm_pI fun r8 D5 u6 x7 => (((r8) = 0) → Q (.inl (some (mm_I ((0 : Int))))) (mm_mk D5 u6 x7)) ∧ (¬ ((r8) = 0) → mt 95 0 [some (mm_P 24), some (mm_I ((0 : Int))), some (mm_I (v1)), none, none] [] (mm_mk D5 u6 x7) (mm_pI fun r12 D9 u10 x11 => Q (.inl (some (mm_I (r12)))) (mm_mk D9 u10 x11))))) ∧ (¬ ((r4) = 0) → mt 78 0 [some (mm_P 24), some (mm_I ((0 : Int)))] [] (mm_mk D1 u2 x3) (mm_pI fun r16 D13 u14 x15 => (((r16) = 0) → Q (.inl (some (mm_I ((0 : Int))))) (mm_mk D13 u14 x15)) ∧ (¬ ((r16) = 0) → mt 95 0 [some (mm_P 24), some (mm_I ((0 : Int))), some (mm_I (v1)), none, none] [] (mm_mk D13 u14 x15) (mm_pI fun r20 D17 u18 x19 => Q (.inl (some (mm_I (r20)))) (mm_mk D17 u18 x19))))))) : mt 99 0 [some (mm_P 24), some (mm_I (v1))] [] (mm_mk D u x) Q := by
  refine mu_aload (r := some (24)) mc_99_0 (by decide) rfl ?_
  refine mu_aload (r := some (24)) mc_99_1 (by decide) rfl ?_
  refine mu_load mc_99_2 (by decide) rfl ?_
  refine mt_call (args := [mm_P 24, mm_I (v1)]) (rest := [mm_P 24]) mc_99_3 (by decide) rfl rfl rfl ⟨by simp, rfl, by decide⟩ (mu_rcv (by decide) rfl (by decide)) H ?_
  rintro _ _ ⟨r4, D1, u2, x3, rfl, rfl, H⟩
  refine Or.inl ⟨_, rfl, ?_⟩
  refine mu_if_eq mc_99_4 (fun c => ?_) (fun c => ?_)
  · replace H := H.1 c
    refine mu_const mc_99_7 (by decide) (by decide) ?_
    refine mt_call (args := [mm_P 24, mm_I ((1 : Int))]) (rest := []) mc_99_8 (by decide) rfl rfl rfl ⟨by simp, rfl, by decide⟩ (mu_rcv (by decide) rfl (by decide)) H ?_
    rintro _ _ ⟨r8, D5, u6, x7, rfl, rfl, H⟩
    refine Or.inl ⟨_, rfl, ?_⟩
    refine mu_if_eq mc_99_9 (fun c => ?_) (fun c => ?_)
    · replace H := H.1 c
      refine mu_const mc_99_15 (by decide) (by decide) ?_
      exact mt_ret mc_99_16 H
    · replace H := H.2 c
      refine mu_aload (r := some (24)) mc_99_10 (by decide) rfl ?_
      refine mu_const mc_99_11 (by decide) (by decide) ?_
      refine mu_load mc_99_12 (by decide) rfl ?_
      refine mt_call (args := [mm_P 24, mm_I ((0 : Int)), mm_I (v1)]) (rest := []) mc_99_13 (by decide) rfl rfl rfl ⟨by simp, rfl, by decide⟩ (mu_rcv (by decide) rfl (by decide)) H ?_
      rintro _ _ ⟨r12, D9, u10, x11, rfl, rfl, H⟩
      refine Or.inl ⟨_, rfl, ?_⟩
      refine mu_rfl (n := 16) mc_99_14 (by decide) rfl rfl ?_
      exact mt_ret mc_99_16 H
  · replace H := H.2 c
    refine mu_const mc_99_5 (by decide) (by decide) ?_
    refine mu_rfl (n := 8) mc_99_6 (by decide) rfl rfl ?_
    refine mt_call (args := [mm_P 24, mm_I ((0 : Int))]) (rest := []) mc_99_8 (by decide) rfl rfl rfl ⟨by simp, rfl, by decide⟩ (mu_rcv (by decide) rfl (by decide)) H ?_
    rintro _ _ ⟨r16, D13, u14, x15, rfl, rfl, H⟩
    refine Or.inl ⟨_, rfl, ?_⟩
    refine mu_if_eq mc_99_9 (fun c => ?_) (fun c => ?_)
    · replace H := H.1 c
      refine mu_const mc_99_15 (by decide) (by decide) ?_
      exact mt_ret mc_99_16 H
    · replace H := H.2 c
      refine mu_aload (r := some (24)) mc_99_10 (by decide) rfl ?_
      refine mu_const mc_99_11 (by decide) (by decide) ?_
      refine mu_load mc_99_12 (by decide) rfl ?_
      refine mt_call (args := [mm_P 24, mm_I ((0 : Int)), mm_I (v1)]) (rest := []) mc_99_13 (by decide) rfl rfl rfl ⟨by simp, rfl, by decide⟩ (mu_rcv (by decide) rfl (by decide)) H ?_
      rintro _ _ ⟨r20, D17, u18, x19, rfl, rfl, H⟩
      refine Or.inl ⟨_, rfl, ?_⟩
      refine mu_rfl (n := 16) mc_99_14 (by decide) rfl rfl ?_
      exact mt_ret mc_99_16 H

theorem q_X5_first_0 {D : mm_D} {u : Int} {x : Nat × (Nat × List Int)} {Q : mm_O → mm_H → Prop} (v1 : Int) (H : mt 79 0 [some (mm_P 24), some (mm_I (v1))] [] (mm_mk D u x) (mm_pI fun r4 D1 u2 x3 => (((r4) = 0) → mt 78 0 [some (mm_P 24), some (mm_I ((1 : Int)))] [] (mm_mk D1 u2 x3) (mm_pI fun r8 D5 u6 x7 => ((¬ (r8) = 0) → (0 ≤ (v1)) ∧ (((v1) < 4) ∧ ((mm_rng ((D5 26 (v1)) - ((1 : Int)))) ∧ (mt 100 21 [some (mm_P 24), some (mm_I (v1)), some (mm_I ((-1 : Int))), some (mm_I ((D5 26 (v1)) - ((1 : Int))))] [] (mm_mk D5 u6 x7) Q)))) ∧ (¬ (¬ (r8) = 0) → Q (.inl (some (mm_I ((0 : Int))))) (mm_mk D5 u6 x7)))) ∧ (¬ ((r4) = 0) → mt 78 0 [some (mm_P 24), some (mm_I ((0 : Int)))] [] (mm_mk D1 u2 x3) (mm_pI fun r15 D12 u13 x14 => ((¬ (r15) = 0) → (0 ≤ (v1)) ∧ (((v1) < 4) ∧ ((mm_rng ((D12 26 (v1)) - ((1 : Int)))) ∧ (mt 100 21 [some (mm_P 24), some (mm_I (v1)), some (mm_I ((-1 : Int))), some (mm_I ((D12 26 (v1)) - ((1 : Int))))] [] (mm_mk D12 u13 x14) Q)))) ∧ (¬ (¬ (r15) = 0) → Q (.inl (some (mm_I ((0 : Int))))) (mm_mk D12 u13 x14)))))) : mt 100 0 [some (mm_P 24), some (mm_I (v1)), none, none] [] (mm_mk D u x) Q := by
  refine mu_aload (r := some (24)) mc_100_0 (by decide) rfl ?_
  refine mu_aload (r := some (24)) mc_100_1 (by decide) rfl ?_
  refine mu_load mc_100_2 (by decide) rfl ?_
  refine mt_call (args := [mm_P 24, mm_I (v1)]) (rest := [mm_P 24]) mc_100_3 (by decide) rfl rfl rfl ⟨by simp, rfl, by decide⟩ (mu_rcv (by decide) rfl (by decide)) H ?_
  rintro _ _ ⟨r4, D1, u2, x3, rfl, rfl, H⟩
  refine Or.inl ⟨_, rfl, ?_⟩
  refine mu_if_eq mc_100_4 (fun c => ?_) (fun c => ?_)
  · replace H := H.1 c
    refine mu_const mc_100_7 (by decide) (by decide) ?_
    refine mt_call (args := [mm_P 24, mm_I ((1 : Int))]) (rest := []) mc_100_8 (by decide) rfl rfl rfl ⟨by simp, rfl, by decide⟩ (mu_rcv (by decide) rfl (by decide)) H ?_
    rintro _ _ ⟨r8, D5, u6, x7, rfl, rfl, H⟩
    refine Or.inl ⟨_, rfl, ?_⟩
    refine mu_if_ne mc_100_9 (fun c => ?_) (fun c => ?_)
    · replace H := H.1 c
      refine mu_const mc_100_12 (by decide) (by decide) ?_
      refine mu_store mc_100_13 (by decide) (by simp) (ls' := [some (mm_P 24), some (mm_I (v1)), some (mm_I ((-1 : Int))), none]) rfl ?_
      refine mu_aload (r := some (24)) mc_100_14 (by decide) rfl ?_
      refine mu_get mc_100_15 rfl ?_
      refine mu_load mc_100_16 (by decide) rfl ?_
      have h9 := H.1
      replace H := H.2
      have h10 := H.1
      replace H := H.2
      refine mu_iald mc_100_17 rfl h9 h10 ?_
      refine mu_const mc_100_18 (by decide) (by decide) ?_
      have h11 := H.1
      replace H := H.2
      refine mu_isub mc_100_19 h11 ?_
      refine mu_store mc_100_20 (by decide) (by simp) (ls' := [some (mm_P 24), some (mm_I (v1)), some (mm_I ((-1 : Int))), some (mm_I ((D5 26 (v1)) - ((1 : Int))))]) rfl ?_
      exact H
    · replace H := H.2 c
      refine mu_const mc_100_10 (by decide) (by decide) ?_
      exact mt_ret mc_100_11 H
  · replace H := H.2 c
    refine mu_const mc_100_5 (by decide) (by decide) ?_
    refine mu_rfl (n := 8) mc_100_6 (by decide) rfl rfl ?_
    refine mt_call (args := [mm_P 24, mm_I ((0 : Int))]) (rest := []) mc_100_8 (by decide) rfl rfl rfl ⟨by simp, rfl, by decide⟩ (mu_rcv (by decide) rfl (by decide)) H ?_
    rintro _ _ ⟨r15, D12, u13, x14, rfl, rfl, H⟩
    refine Or.inl ⟨_, rfl, ?_⟩
    refine mu_if_ne mc_100_9 (fun c => ?_) (fun c => ?_)
    · replace H := H.1 c
      refine mu_const mc_100_12 (by decide) (by decide) ?_
      refine mu_store mc_100_13 (by decide) (by simp) (ls' := [some (mm_P 24), some (mm_I (v1)), some (mm_I ((-1 : Int))), none]) rfl ?_
      refine mu_aload (r := some (24)) mc_100_14 (by decide) rfl ?_
      refine mu_get mc_100_15 rfl ?_
      refine mu_load mc_100_16 (by decide) rfl ?_
      have h16 := H.1
      replace H := H.2
      have h17 := H.1
      replace H := H.2
      refine mu_iald mc_100_17 rfl h16 h17 ?_
      refine mu_const mc_100_18 (by decide) (by decide) ?_
      have h18 := H.1
      replace H := H.2
      refine mu_isub mc_100_19 h18 ?_
      refine mu_store mc_100_20 (by decide) (by simp) (ls' := [some (mm_P 24), some (mm_I (v1)), some (mm_I ((-1 : Int))), some (mm_I ((D12 26 (v1)) - ((1 : Int))))]) rfl ?_
      exact H
    · replace H := H.2 c
      refine mu_const mc_100_10 (by decide) (by decide) ?_
      exact mt_ret mc_100_11 H
theorem q_X5_first_21 {D : mm_D} {u : Int} {x : Nat × (Nat × List Int)} {Q : mm_O → mm_H → Prop} (v1 v2 v3 : Int) (H : (((v3) < 0) → Q (.inl (some (mm_I (v2)))) (mm_mk D u x)) ∧ (¬ ((v3) < 0) → mt 94 0 [some (mm_P 24), some (mm_I ((0 : Int))), some (mm_I (v1)), some (mm_I (v3)), none, none] [] (mm_mk D u x) (mm_pI fun r4 D1 u2 x3 => (((r4) = 0) → (mm_rng ((v3) + (-1 : Int))) ∧ (mt 100 21 [some (mm_P 24), some (mm_I (v1)), some (mm_I (v2)), some (mm_I ((v3) + (-1 : Int)))] [] (mm_mk D1 u2 x3) Q)) ∧ (¬ ((r4) = 0) → (mm_rng ((v3) + (-1 : Int))) ∧ (mt 100 21 [some (mm_P 24), some (mm_I (v1)), some (mm_I (v3)), some (mm_I ((v3) + (-1 : Int)))] [] (mm_mk D1 u2 x3) Q))))) : mt 100 21 [some (mm_P 24), some (mm_I (v1)), some (mm_I (v2)), some (mm_I (v3))] [] (mm_mk D u x) Q := by
  refine mu_load mc_100_21 (by decide) rfl ?_
  refine mu_if_lt mc_100_22 (fun c => ?_) (fun c => ?_)
  · replace H := H.1 c
    refine mu_load mc_100_35 (by decide) rfl ?_
    exact mt_ret mc_100_36 H
  · replace H := H.2 c
    refine mu_aload (r := some (24)) mc_100_23 (by decide) rfl ?_
    refine mu_const mc_100_24 (by decide) (by decide) ?_
    refine mu_load mc_100_25 (by decide) rfl ?_
    refine mu_load mc_100_26 (by decide) rfl ?_
    refine mt_call (args := [mm_P 24, mm_I ((0 : Int)), mm_I (v1), mm_I (v3)]) (rest := []) mc_100_27 (by decide) rfl rfl rfl ⟨by simp, rfl, by decide⟩ (mu_rcv (by decide) rfl (by decide)) H ?_
    rintro _ _ ⟨r4, D1, u2, x3, rfl, rfl, H⟩
    refine Or.inl ⟨_, rfl, ?_⟩
    refine mu_if_eq mc_100_28 (fun c => ?_) (fun c => ?_)
    · replace H := H.1 c
      refine mu_load mc_100_31 (by decide) rfl ?_
      refine mu_store mc_100_32 (by decide) (by simp) (ls' := [some (mm_P 24), some (mm_I (v1)), some (mm_I (v2)), some (mm_I (v3))]) rfl ?_
      have h5 := H.1
      replace H := H.2
      refine mu_iinc mc_100_33 rfl h5 (ls' := [some (mm_P 24), some (mm_I (v1)), some (mm_I (v2)), some (mm_I ((v3) + (-1 : Int)))]) rfl ?_
      refine mu_rfl (n := 21) mc_100_34 (by decide) rfl rfl ?_
      exact H
    · replace H := H.2 c
      refine mu_load mc_100_29 (by decide) rfl ?_
      refine mu_rfl (n := 32) mc_100_30 (by decide) rfl rfl ?_
      refine mu_store mc_100_32 (by decide) (by simp) (ls' := [some (mm_P 24), some (mm_I (v1)), some (mm_I (v3)), some (mm_I (v3))]) rfl ?_
      have h6 := H.1
      replace H := H.2
      refine mu_iinc mc_100_33 rfl h6 (ls' := [some (mm_P 24), some (mm_I (v1)), some (mm_I (v3)), some (mm_I ((v3) + (-1 : Int)))]) rfl ?_
      refine mu_rfl (n := 21) mc_100_34 (by decide) rfl rfl ?_
      exact H

theorem q_X5_last_0 {D : mm_D} {u : Int} {x : Nat × (Nat × List Int)} {Q : mm_O → mm_H → Prop} (v1 : Int) (H : mt 79 0 [some (mm_P 24), some (mm_I (v1))] [] (mm_mk D u x) (mm_pI fun r4 D1 u2 x3 => (((r4) = 0) → mt 78 0 [some (mm_P 24), some (mm_I ((1 : Int)))] [] (mm_mk D1 u2 x3) (mm_pI fun r8 D5 u6 x7 => ((¬ (r8) = 0) → mt 101 16 [some (mm_P 24), some (mm_I (v1)), some (mm_I ((-1 : Int))), some (mm_I ((0 : Int)))] [] (mm_mk D5 u6 x7) Q) ∧ (¬ (¬ (r8) = 0) → Q (.inl (some (mm_I ((0 : Int))))) (mm_mk D5 u6 x7)))) ∧ (¬ ((r4) = 0) → mt 78 0 [some (mm_P 24), some (mm_I ((0 : Int)))] [] (mm_mk D1 u2 x3) (mm_pI fun r12 D9 u10 x11 => ((¬ (r12) = 0) → mt 101 16 [some (mm_P 24), some (mm_I (v1)), some (mm_I ((-1 : Int))), some (mm_I ((0 : Int)))] [] (mm_mk D9 u10 x11) Q) ∧ (¬ (¬ (r12) = 0) → Q (.inl (some (mm_I ((0 : Int))))) (mm_mk D9 u10 x11)))))) : mt 101 0 [some (mm_P 24), some (mm_I (v1)), none, none] [] (mm_mk D u x) Q := by
  refine mu_aload (r := some (24)) mc_101_0 (by decide) rfl ?_
  refine mu_aload (r := some (24)) mc_101_1 (by decide) rfl ?_
  refine mu_load mc_101_2 (by decide) rfl ?_
  refine mt_call (args := [mm_P 24, mm_I (v1)]) (rest := [mm_P 24]) mc_101_3 (by decide) rfl rfl rfl ⟨by simp, rfl, by decide⟩ (mu_rcv (by decide) rfl (by decide)) H ?_
  rintro _ _ ⟨r4, D1, u2, x3, rfl, rfl, H⟩
  refine Or.inl ⟨_, rfl, ?_⟩
  refine mu_if_eq mc_101_4 (fun c => ?_) (fun c => ?_)
  · replace H := H.1 c
    refine mu_const mc_101_7 (by decide) (by decide) ?_
    refine mt_call (args := [mm_P 24, mm_I ((1 : Int))]) (rest := []) mc_101_8 (by decide) rfl rfl rfl ⟨by simp, rfl, by decide⟩ (mu_rcv (by decide) rfl (by decide)) H ?_
    rintro _ _ ⟨r8, D5, u6, x7, rfl, rfl, H⟩
    refine Or.inl ⟨_, rfl, ?_⟩
    refine mu_if_ne mc_101_9 (fun c => ?_) (fun c => ?_)
    · replace H := H.1 c
      refine mu_const mc_101_12 (by decide) (by decide) ?_
      refine mu_store mc_101_13 (by decide) (by simp) (ls' := [some (mm_P 24), some (mm_I (v1)), some (mm_I ((-1 : Int))), none]) rfl ?_
      refine mu_const mc_101_14 (by decide) (by decide) ?_
      refine mu_store mc_101_15 (by decide) (by simp) (ls' := [some (mm_P 24), some (mm_I (v1)), some (mm_I ((-1 : Int))), some (mm_I ((0 : Int)))]) rfl ?_
      exact H
    · replace H := H.2 c
      refine mu_const mc_101_10 (by decide) (by decide) ?_
      exact mt_ret mc_101_11 H
  · replace H := H.2 c
    refine mu_const mc_101_5 (by decide) (by decide) ?_
    refine mu_rfl (n := 8) mc_101_6 (by decide) rfl rfl ?_
    refine mt_call (args := [mm_P 24, mm_I ((0 : Int))]) (rest := []) mc_101_8 (by decide) rfl rfl rfl ⟨by simp, rfl, by decide⟩ (mu_rcv (by decide) rfl (by decide)) H ?_
    rintro _ _ ⟨r12, D9, u10, x11, rfl, rfl, H⟩
    refine Or.inl ⟨_, rfl, ?_⟩
    refine mu_if_ne mc_101_9 (fun c => ?_) (fun c => ?_)
    · replace H := H.1 c
      refine mu_const mc_101_12 (by decide) (by decide) ?_
      refine mu_store mc_101_13 (by decide) (by simp) (ls' := [some (mm_P 24), some (mm_I (v1)), some (mm_I ((-1 : Int))), none]) rfl ?_
      refine mu_const mc_101_14 (by decide) (by decide) ?_
      refine mu_store mc_101_15 (by decide) (by simp) (ls' := [some (mm_P 24), some (mm_I (v1)), some (mm_I ((-1 : Int))), some (mm_I ((0 : Int)))]) rfl ?_
      exact H
    · replace H := H.2 c
      refine mu_const mc_101_10 (by decide) (by decide) ?_
      exact mt_ret mc_101_11 H
theorem q_X5_last_16 {D : mm_D} {u : Int} {x : Nat × (Nat × List Int)} {Q : mm_O → mm_H → Prop} (v1 v2 v3 : Int) (H : (0 ≤ (v1)) ∧ (((v1) < 4) ∧ ((((D 26 (v1)) ≤ (v3)) → Q (.inl (some (mm_I (v2)))) (mm_mk D u x)) ∧ (¬ ((D 26 (v1)) ≤ (v3)) → mt 94 0 [some (mm_P 24), some (mm_I ((0 : Int))), some (mm_I (v1)), some (mm_I (v3)), none, none] [] (mm_mk D u x) (mm_pI fun r6 D3 u4 x5 => (((r6) = 0) → (mm_rng ((v3) + (1 : Int))) ∧ (mt 101 16 [some (mm_P 24), some (mm_I (v1)), some (mm_I (v2)), some (mm_I ((v3) + (1 : Int)))] [] (mm_mk D3 u4 x5) Q)) ∧ (¬ ((r6) = 0) → (mm_rng ((v3) + (1 : Int))) ∧ (mt 101 16 [some (mm_P 24), some (mm_I (v1)), some (mm_I (v3)), some (mm_I ((v3) + (1 : Int)))] [] (mm_mk D3 u4 x5) Q))))))) : mt 101 16 [some (mm_P 24), some (mm_I (v1)), some (mm_I (v2)), some (mm_I (v3))] [] (mm_mk D u x) Q := by
  refine mu_load mc_101_16 (by decide) rfl ?_
  refine mu_aload (r := some (24)) mc_101_17 (by decide) rfl ?_
  refine mu_get mc_101_18 rfl ?_
  refine mu_load mc_101_19 (by decide) rfl ?_
  have h1 := H.1
  replace H := H.2
  have h2 := H.1
  replace H := H.2
  refine mu_iald mc_101_20 rfl h1 h2 ?_
  refine mu_ic_ge mc_101_21 (fun c => ?_) (fun c => ?_)
  · replace H := H.1 c
    refine mu_load mc_101_34 (by decide) rfl ?_
    exact mt_ret mc_101_35 H
  · replace H := H.2 c
    refine mu_aload (r := some (24)) mc_101_22 (by decide) rfl ?_
    refine mu_const mc_101_23 (by decide) (by decide) ?_
    refine mu_load mc_101_24 (by decide) rfl ?_
    refine mu_load mc_101_25 (by decide) rfl ?_
    refine mt_call (args := [mm_P 24, mm_I ((0 : Int)), mm_I (v1), mm_I (v3)]) (rest := []) mc_101_26 (by decide) rfl rfl rfl ⟨by simp, rfl, by decide⟩ (mu_rcv (by decide) rfl (by decide)) H ?_
    rintro _ _ ⟨r6, D3, u4, x5, rfl, rfl, H⟩
    refine Or.inl ⟨_, rfl, ?_⟩
    refine mu_if_eq mc_101_27 (fun c => ?_) (fun c => ?_)
    · replace H := H.1 c
      refine mu_load mc_101_30 (by decide) rfl ?_
      refine mu_store mc_101_31 (by decide) (by simp) (ls' := [some (mm_P 24), some (mm_I (v1)), some (mm_I (v2)), some (mm_I (v3))]) rfl ?_
      have h7 := H.1
      replace H := H.2
      refine mu_iinc mc_101_32 rfl h7 (ls' := [some (mm_P 24), some (mm_I (v1)), some (mm_I (v2)), some (mm_I ((v3) + (1 : Int)))]) rfl ?_
      refine mu_rfl (n := 16) mc_101_33 (by decide) rfl rfl ?_
      exact H
    · replace H := H.2 c
      refine mu_load mc_101_28 (by decide) rfl ?_
      refine mu_rfl (n := 31) mc_101_29 (by decide) rfl rfl ?_
      refine mu_store mc_101_31 (by decide) (by simp) (ls' := [some (mm_P 24), some (mm_I (v1)), some (mm_I (v3)), some (mm_I (v3))]) rfl ?_
      have h8 := H.1
      replace H := H.2
      refine mu_iinc mc_101_32 rfl h8 (ls' := [some (mm_P 24), some (mm_I (v1)), some (mm_I (v3)), some (mm_I ((v3) + (1 : Int)))]) rfl ?_
      refine mu_rfl (n := 16) mc_101_33 (by decide) rfl rfl ?_
      exact H

theorem q_X5_beside_0 {D : mm_D} {u : Int} {x : Nat × (Nat × List Int)} {Q : mm_O → mm_H → Prop} (v1 : Int) (H : mt 102 4 [some (mm_P 24), some (mm_I (v1)), some (mm_I ((0 : Int))), some (mm_I ((0 : Int))), none, none, none] [] (mm_mk D u x) Q) : mt 102 0 [some (mm_P 24), some (mm_I (v1)), none, none, none, none, none] [] (mm_mk D u x) Q := by
  refine mu_const mc_102_0 (by decide) (by decide) ?_
  refine mu_store mc_102_1 (by decide) (by simp) (ls' := [some (mm_P 24), some (mm_I (v1)), some (mm_I ((0 : Int))), none, none, none, none]) rfl ?_
  refine mu_const mc_102_2 (by decide) (by decide) ?_
  refine mu_store mc_102_3 (by decide) (by simp) (ls' := [some (mm_P 24), some (mm_I (v1)), some (mm_I ((0 : Int))), some (mm_I ((0 : Int))), none, none, none]) rfl ?_
  exact H
theorem q_X5_beside_4 {D : mm_D} {u : Int} {x : Nat × (Nat × List Int)} {Q : mm_O → mm_H → Prop} (v1 v2 v3 : Int) (o4 o5 o6 : Option mm_V) (H : (((D 24 3) ≤ (v3)) → Q (.inl (some (mm_I (v2)))) (mm_mk D u x)) ∧ (¬ ((D 24 3) ≤ (v3)) → mt 102 10 [some (mm_P 24), some (mm_I (v1)), some (mm_I (v2)), some (mm_I (v3)), some (mm_I ((0 : Int))), o5, o6] [] (mm_mk D u x) Q)) : mt 102 4 [some (mm_P 24), some (mm_I (v1)), some (mm_I (v2)), some (mm_I (v3)), o4, o5, o6] [] (mm_mk D u x) Q := by
  refine mu_load mc_102_4 (by decide) rfl ?_
  refine mu_aload (r := some (24)) mc_102_5 (by decide) rfl ?_
  refine mu_get mc_102_6 rfl ?_
  refine mu_ic_ge mc_102_7 (fun c => ?_) (fun c => ?_)
  · replace H := H.1 c
    refine mu_load mc_102_67 (by decide) rfl ?_
    exact mt_ret mc_102_68 H
  · replace H := H.2 c
    refine mu_const mc_102_8 (by decide) (by decide) ?_
    refine mu_store mc_102_9 (by decide) (by simp) (ls' := [some (mm_P 24), some (mm_I (v1)), some (mm_I (v2)), some (mm_I (v3)), some (mm_I ((0 : Int))), o5, o6]) rfl ?_
    exact H
theorem q_X5_beside_10 {D : mm_D} {u : Int} {x : Nat × (Nat × List Int)} {Q : mm_O → mm_H → Prop} (v1 v2 v3 v4 : Int) (o5 o6 : Option mm_V) (H : (0 ≤ (v3)) ∧ (((v3) < 4) ∧ ((((D 26 (v3)) ≤ (v4)) → (mm_rng ((v3) + (1 : Int))) ∧ (mt 102 4 [some (mm_P 24), some (mm_I (v1)), some (mm_I (v2)), some (mm_I ((v3) + (1 : Int))), some (mm_I (v4)), o5, o6] [] (mm_mk D u x) Q)) ∧ (¬ ((D 26 (v3)) ≤ (v4)) → (mm_rng ((v4) + (v1))) ∧ ((((D 24 6) = 0) → (mm_rng (((100 : Int)) * (v3))) ∧ (((¬ (D 24 6) = 0) → (mm_rng ((((100 : Int)) * (v3)) + ((v4) + (v1)))) ∧ ((0 ≤ ((((100 : Int)) * (v3)) + ((v4) + (v1)))) ∧ ((((((100 : Int)) * (v3)) + ((v4) + (v1))) < 400) ∧ ((0 ≤ ((1 : Int)) ∧ 0 ≤ (D 25 ((((100 : Int)) * (v3)) + ((v4) + (v1)))) ∧ (D 25 ((((100 : Int)) * (v3)) + ((v4) + (v1)))) < 31) ∧ ((mm_rng (((1 : Int)) * 2 ^ (D 25 ((((100 : Int)) * (v3)) + ((v4) + (v1)))).toNat)) ∧ ((mm_rng ((v4) + (1 : Int))) ∧ (mt 102 10 [some (mm_P 24), some (mm_I (v1)), some (mm_I (mm_or (v2) (((1 : Int)) * 2 ^ (D 25 ((((100 : Int)) * (v3)) + ((v4) + (v1)))).toNat))), some (mm_I (v3)), some (mm_I ((v4) + (1 : Int))), some (mm_I ((v4) + (v1))), some (mm_I ((1 : Int)))] [] (mm_mk D u x) Q))))))) ∧ (¬ (¬ (D 24 6) = 0) → (mm_rng ((((100 : Int)) * (v3)) + (v4))) ∧ ((0 ≤ ((((100 : Int)) * (v3)) + (v4))) ∧ ((((((100 : Int)) * (v3)) + (v4)) < 400) ∧ ((0 ≤ ((1 : Int)) ∧ 0 ≤ (D 25 ((((100 : Int)) * (v3)) + (v4))) ∧ (D 25 ((((100 : Int)) * (v3)) + (v4))) < 31) ∧ ((mm_rng (((1 : Int)) * 2 ^ (D 25 ((((100 : Int)) * (v3)) + (v4))).toNat)) ∧ ((mm_rng ((v4) + (1 : Int))) ∧ (mt 102 10 [some (mm_P 24), some (mm_I (v1)), some (mm_I (mm_or (v2) (((1 : Int)) * 2 ^ (D 25 ((((100 : Int)) * (v3)) + (v4))).toNat))), some (mm_I (v3)), some (mm_I ((v4) + (1 : Int))), some (mm_I ((v4) + (v1))), some (mm_I ((1 : Int)))] [] (mm_mk D u x) Q))))))))) ∧ (¬ ((D 24 6) = 0) → mt 94 0 [some (mm_P 24), some (mm_I ((0 : Int))), some (mm_I (v3)), some (mm_I (v4)), none, none] [] (mm_mk D u x) (mm_pI fun r21 D18 u19 x20 => (((r21) = 0) → (mm_rng ((v4) + (1 : Int))) ∧ (mt 102 10 [some (mm_P 24), some (mm_I (v1)), some (mm_I (mm_or (v2) ((0 : Int)))), some (mm_I (v3)), some (mm_I ((v4) + (1 : Int))), some (mm_I ((v4) + (v1))), some (mm_I ((0 : Int)))] [] (mm_mk D18 u19 x20) Q)) ∧ (¬ ((r21) = 0) → ((((v4) + (v1)) < 0) → (mm_rng ((v4) + (1 : Int))) ∧ (mt 102 10 [some (mm_P 24), some (mm_I (v1)), some (mm_I (mm_or (v2) ((0 : Int)))), some (mm_I (v3)), some (mm_I ((v4) + (1 : Int))), some (mm_I ((v4) + (v1))), some (mm_I ((0 : Int)))] [] (mm_mk D18 u19 x20) Q)) ∧ (¬ (((v4) + (v1)) < 0) → (0 ≤ (v3)) ∧ (((v3) < 4) ∧ ((((D18 26 (v3)) ≤ ((v4) + (v1))) → (mm_rng ((v4) + (1 : Int))) ∧ (mt 102 10 [some (mm_P 24), some (mm_I (v1)), some (mm_I (mm_or (v2) ((0 : Int)))), some (mm_I (v3)), some (mm_I ((v4) + (1 : Int))), some (mm_I ((v4) + (v1))), some (mm_I ((0 : Int)))] [] (mm_mk D18 u19 x20) Q)) ∧ (¬ ((D18 26 (v3)) ≤ ((v4) + (v1))) → (mm_rng (((100 : Int)) * (v3))) ∧ (((¬ (D18 24 6) = 0) → (mm_rng ((((100 : Int)) * (v3)) + ((v4) + (v1)))) ∧ ((0 ≤ ((((100 : Int)) * (v3)) + ((v4) + (v1)))) ∧ ((((((100 : Int)) * (v3)) + ((v4) + (v1))) < 400) ∧ ((0 ≤ ((1 : Int)) ∧ 0 ≤ (D18 25 ((((100 : Int)) * (v3)) + ((v4) + (v1)))) ∧ (D18 25 ((((100 : Int)) * (v3)) + ((v4) + (v1)))) < 31) ∧ ((mm_rng (((1 : Int)) * 2 ^ (D18 25 ((((100 : Int)) * (v3)) + ((v4) + (v1)))).toNat)) ∧ ((mm_rng ((v4) + (1 : Int))) ∧ (mt 102 10 [some (mm_P 24), some (mm_I (v1)), some (mm_I (mm_or (v2) (((1 : Int)) * 2 ^ (D18 25 ((((100 : Int)) * (v3)) + ((v4) + (v1)))).toNat))), some (mm_I (v3)), some (mm_I ((v4) + (1 : Int))), some (mm_I ((v4) + (v1))), some (mm_I ((1 : Int)))] [] (mm_mk D18 u19 x20) Q))))))) ∧ (¬ (¬ (D18 24 6) = 0) → (mm_rng ((((100 : Int)) * (v3)) + (v4))) ∧ ((0 ≤ ((((100 : Int)) * (v3)) + (v4))) ∧ ((((((100 : Int)) * (v3)) + (v4)) < 400) ∧ ((0 ≤ ((1 : Int)) ∧ 0 ≤ (D18 25 ((((100 : Int)) * (v3)) + (v4))) ∧ (D18 25 ((((100 : Int)) * (v3)) + (v4))) < 31) ∧ ((mm_rng (((1 : Int)) * 2 ^ (D18 25 ((((100 : Int)) * (v3)) + (v4))).toNat)) ∧ ((mm_rng ((v4) + (1 : Int))) ∧ (mt 102 10 [some (mm_P 24), some (mm_I (v1)), some (mm_I (mm_or (v2) (((1 : Int)) * 2 ^ (D18 25 ((((100 : Int)) * (v3)) + (v4))).toNat))), some (mm_I (v3)), some (mm_I ((v4) + (1 : Int))), some (mm_I ((v4) + (v1))), some (mm_I ((1 : Int)))] [] (mm_mk D18 u19 x20) Q)))))))))))))))))))) : mt 102 10 [some (mm_P 24), some (mm_I (v1)), some (mm_I (v2)), some (mm_I (v3)), some (mm_I (v4)), o5, o6] [] (mm_mk D u x) Q := by
  refine mu_load mc_102_10 (by decide) rfl ?_
  refine mu_aload (r := some (24)) mc_102_11 (by decide) rfl ?_
  refine mu_get mc_102_12 rfl ?_
  refine mu_load mc_102_13 (by decide) rfl ?_
  have h1 := H.1
  replace H := H.2
  have h2 := H.1
  replace H := H.2
  refine mu_iald mc_102_14 rfl h1 h2 ?_
  refine mu_ic_ge mc_102_15 (fun c => ?_) (fun c => ?_)
  · replace H := H.1 c
    have h3 := H.1
    replace H := H.2
    refine mu_iinc mc_102_65 rfl h3 (ls' := [some (mm_P 24), some (mm_I (v1)), some (mm_I (v2)), some (mm_I ((v3) + (1 : Int))), some (mm_I (v4)), o5, o6]) rfl ?_
    refine mu_rfl (n := 4) mc_102_66 (by decide) rfl rfl ?_
    exact H
  · replace H := H.2 c
    refine mu_load mc_102_16 (by decide) rfl ?_
    refine mu_load mc_102_17 (by decide) rfl ?_
    have h4 := H.1
    replace H := H.2
    refine mu_iadd mc_102_18 h4 ?_
    refine mu_store mc_102_19 (by decide) (by simp) (ls' := [some (mm_P 24), some (mm_I (v1)), some (mm_I (v2)), some (mm_I (v3)), some (mm_I (v4)), some (mm_I ((v4) + (v1))), o6]) rfl ?_
    refine mu_aload (r := some (24)) mc_102_20 (by decide) rfl ?_
    refine mu_get mc_102_21 rfl ?_
    refine mu_if_eq mc_102_22 (fun c => ?_) (fun c => ?_)
    · replace H := H.1 c
      refine mu_const mc_102_37 (by decide) (by decide) ?_
      refine mu_rfl (n := 40) mc_102_38 (by decide) rfl rfl ?_
      refine mu_store mc_102_40 (by decide) (by simp) (ls' := [some (mm_P 24), some (mm_I (v1)), some (mm_I (v2)), some (mm_I (v3)), some (mm_I (v4)), some (mm_I ((v4) + (v1))), some (mm_I ((1 : Int)))]) rfl ?_
      refine mu_load mc_102_41 (by decide) rfl ?_
      refine mu_load mc_102_42 (by decide) rfl ?_
      refine mu_if_eq mc_102_43 (fun c => absurd c (by decide)) (fun _ => ?_)
      refine mu_const mc_102_44 (by decide) (by decide) ?_
      refine mu_aload (r := some (24)) mc_102_45 (by decide) rfl ?_
      refine mu_get mc_102_46 rfl ?_
      refine mu_const mc_102_47 (by decide) (by decide) ?_
      refine mu_load mc_102_48 (by decide) rfl ?_
      have h5 := H.1
      replace H := H.2
      refine mu_imul mc_102_49 h5 ?_
      refine mu_aload (r := some (24)) mc_102_50 (by decide) rfl ?_
      refine mu_get mc_102_51 rfl ?_
      refine mu_if_ne mc_102_52 (fun c => ?_) (fun c => ?_)
      · replace H := H.1 c
        refine mu_load mc_102_55 (by decide) rfl ?_
        have h6 := H.1
        replace H := H.2
        refine mu_iadd mc_102_56 h6 ?_
        have h7 := H.1
        replace H := H.2
        have h8 := H.1
        replace H := H.2
        refine mu_iald mc_102_57 rfl h7 h8 ?_
        have h9 := H.1
        replace H := H.2
        have h10 := H.1
        replace H := H.2
        refine mu_ishl mc_102_58 h9 h10 ?_
        refine mu_rfl (n := 61) mc_102_59 (by decide) rfl rfl ?_
        refine mu_ior mc_102_61 ?_
        refine mu_store mc_102_62 (by decide) (by simp) (ls' := [some (mm_P 24), some (mm_I (v1)), some (mm_I (mm_or (v2) (((1 : Int)) * 2 ^ (D 25 ((((100 : Int)) * (v3)) + ((v4) + (v1)))).toNat))), some (mm_I (v3)), some (mm_I (v4)), some (mm_I ((v4) + (v1))), some (mm_I ((1 : Int)))]) rfl ?_
        have h11 := H.1
        replace H := H.2
        refine mu_iinc mc_102_63 rfl h11 (ls' := [some (mm_P 24), some (mm_I (v1)), some (mm_I (mm_or (v2) (((1 : Int)) * 2 ^ (D 25 ((((100 : Int)) * (v3)) + ((v4) + (v1)))).toNat))), some (mm_I (v3)), some (mm_I ((v4) + (1 : Int))), some (mm_I ((v4) + (v1))), some (mm_I ((1 : Int)))]) rfl ?_
        refine mu_rfl (n := 10) mc_102_64 (by decide) rfl rfl ?_
        exact H
      · replace H := H.2 c
        refine mu_load mc_102_53 (by decide) rfl ?_
        refine mu_rfl (n := 56) mc_102_54 (by decide) rfl rfl ?_
        have h12 := H.1
        replace H := H.2
        refine mu_iadd mc_102_56 h12 ?_
        have h13 := H.1
        replace H := H.2
        have h14 := H.1
        replace H := H.2
        refine mu_iald mc_102_57 rfl h13 h14 ?_
        have h15 := H.1
        replace H := H.2
        have h16 := H.1
        replace H := H.2
        refine mu_ishl mc_102_58 h15 h16 ?_
        refine mu_rfl (n := 61) mc_102_59 (by decide) rfl rfl ?_
        refine mu_ior mc_102_61 ?_
        refine mu_store mc_102_62 (by decide) (by simp) (ls' := [some (mm_P 24), some (mm_I (v1)), some (mm_I (mm_or (v2) (((1 : Int)) * 2 ^ (D 25 ((((100 : Int)) * (v3)) + (v4))).toNat))), some (mm_I (v3)), some (mm_I (v4)), some (mm_I ((v4) + (v1))), some (mm_I ((1 : Int)))]) rfl ?_
        have h17 := H.1
        replace H := H.2
        refine mu_iinc mc_102_63 rfl h17 (ls' := [some (mm_P 24), some (mm_I (v1)), some (mm_I (mm_or (v2) (((1 : Int)) * 2 ^ (D 25 ((((100 : Int)) * (v3)) + (v4))).toNat))), some (mm_I (v3)), some (mm_I ((v4) + (1 : Int))), some (mm_I ((v4) + (v1))), some (mm_I ((1 : Int)))]) rfl ?_
        refine mu_rfl (n := 10) mc_102_64 (by decide) rfl rfl ?_
        exact H
    · replace H := H.2 c
      refine mu_aload (r := some (24)) mc_102_23 (by decide) rfl ?_
      refine mu_const mc_102_24 (by decide) (by decide) ?_
      refine mu_load mc_102_25 (by decide) rfl ?_
      refine mu_load mc_102_26 (by decide) rfl ?_
      refine mt_call (args := [mm_P 24, mm_I ((0 : Int)), mm_I (v3), mm_I (v4)]) (rest := []) mc_102_27 (by decide) rfl rfl rfl ⟨by simp, rfl, by decide⟩ (mu_rcv (by decide) rfl (by decide)) H ?_
      rintro _ _ ⟨r21, D18, u19, x20, rfl, rfl, H⟩
      refine Or.inl ⟨_, rfl, ?_⟩
      refine mu_if_eq mc_102_28 (fun c => ?_) (fun c => ?_)
      · replace H := H.1 c
        refine mu_const mc_102_39 (by decide) (by decide) ?_
        refine mu_store mc_102_40 (by decide) (by simp) (ls' := [some (mm_P 24), some (mm_I (v1)), some (mm_I (v2)), some (mm_I (v3)), some (mm_I (v4)), some (mm_I ((v4) + (v1))), some (mm_I ((0 : Int)))]) rfl ?_
        refine mu_load mc_102_41 (by decide) rfl ?_
        refine mu_load mc_102_42 (by decide) rfl ?_
        refine mu_if_eq mc_102_43 (fun _ => ?_) (fun c => absurd (by decide) c)
        refine mu_const mc_102_60 (by decide) (by decide) ?_
        refine mu_ior mc_102_61 ?_
        refine mu_store mc_102_62 (by decide) (by simp) (ls' := [some (mm_P 24), some (mm_I (v1)), some (mm_I (mm_or (v2) ((0 : Int)))), some (mm_I (v3)), some (mm_I (v4)), some (mm_I ((v4) + (v1))), some (mm_I ((0 : Int)))]) rfl ?_
        have h22 := H.1
        replace H := H.2
        refine mu_iinc mc_102_63 rfl h22 (ls' := [some (mm_P 24), some (mm_I (v1)), some (mm_I (mm_or (v2) ((0 : Int)))), some (mm_I (v3)), some (mm_I ((v4) + (1 : Int))), some (mm_I ((v4) + (v1))), some (mm_I ((0 : Int)))]) rfl ?_
        refine mu_rfl (n := 10) mc_102_64 (by decide) rfl rfl ?_
        exact H
      · replace H := H.2 c
        refine mu_load mc_102_29 (by decide) rfl ?_
        refine mu_if_lt mc_102_30 (fun c => ?_) (fun c => ?_)
        · replace H := H.1 c
          refine mu_const mc_102_39 (by decide) (by decide) ?_
          refine mu_store mc_102_40 (by decide) (by simp) (ls' := [some (mm_P 24), some (mm_I (v1)), some (mm_I (v2)), some (mm_I (v3)), some (mm_I (v4)), some (mm_I ((v4) + (v1))), some (mm_I ((0 : Int)))]) rfl ?_
          refine mu_load mc_102_41 (by decide) rfl ?_
          refine mu_load mc_102_42 (by decide) rfl ?_
          refine mu_if_eq mc_102_43 (fun _ => ?_) (fun c => absurd (by decide) c)
          refine mu_const mc_102_60 (by decide) (by decide) ?_
          refine mu_ior mc_102_61 ?_
          refine mu_store mc_102_62 (by decide) (by simp) (ls' := [some (mm_P 24), some (mm_I (v1)), some (mm_I (mm_or (v2) ((0 : Int)))), some (mm_I (v3)), some (mm_I (v4)), some (mm_I ((v4) + (v1))), some (mm_I ((0 : Int)))]) rfl ?_
          have h23 := H.1
          replace H := H.2
          refine mu_iinc mc_102_63 rfl h23 (ls' := [some (mm_P 24), some (mm_I (v1)), some (mm_I (mm_or (v2) ((0 : Int)))), some (mm_I (v3)), some (mm_I ((v4) + (1 : Int))), some (mm_I ((v4) + (v1))), some (mm_I ((0 : Int)))]) rfl ?_
          refine mu_rfl (n := 10) mc_102_64 (by decide) rfl rfl ?_
          exact H
        · replace H := H.2 c
          refine mu_load mc_102_31 (by decide) rfl ?_
          refine mu_aload (r := some (24)) mc_102_32 (by decide) rfl ?_
          refine mu_get mc_102_33 rfl ?_
          refine mu_load mc_102_34 (by decide) rfl ?_
          have h24 := H.1
          replace H := H.2
          have h25 := H.1
          replace H := H.2
          refine mu_iald mc_102_35 rfl h24 h25 ?_
          refine mu_ic_ge mc_102_36 (fun c => ?_) (fun c => ?_)
          · replace H := H.1 c
            refine mu_const mc_102_39 (by decide) (by decide) ?_
            refine mu_store mc_102_40 (by decide) (by simp) (ls' := [some (mm_P 24), some (mm_I (v1)), some (mm_I (v2)), some (mm_I (v3)), some (mm_I (v4)), some (mm_I ((v4) + (v1))), some (mm_I ((0 : Int)))]) rfl ?_
            refine mu_load mc_102_41 (by decide) rfl ?_
            refine mu_load mc_102_42 (by decide) rfl ?_
            refine mu_if_eq mc_102_43 (fun _ => ?_) (fun c => absurd (by decide) c)
            refine mu_const mc_102_60 (by decide) (by decide) ?_
            refine mu_ior mc_102_61 ?_
            refine mu_store mc_102_62 (by decide) (by simp) (ls' := [some (mm_P 24), some (mm_I (v1)), some (mm_I (mm_or (v2) ((0 : Int)))), some (mm_I (v3)), some (mm_I (v4)), some (mm_I ((v4) + (v1))), some (mm_I ((0 : Int)))]) rfl ?_
            have h26 := H.1
            replace H := H.2
            refine mu_iinc mc_102_63 rfl h26 (ls' := [some (mm_P 24), some (mm_I (v1)), some (mm_I (mm_or (v2) ((0 : Int)))), some (mm_I (v3)), some (mm_I ((v4) + (1 : Int))), some (mm_I ((v4) + (v1))), some (mm_I ((0 : Int)))]) rfl ?_
            refine mu_rfl (n := 10) mc_102_64 (by decide) rfl rfl ?_
            exact H
          · replace H := H.2 c
            refine mu_const mc_102_37 (by decide) (by decide) ?_
            refine mu_rfl (n := 40) mc_102_38 (by decide) rfl rfl ?_
            refine mu_store mc_102_40 (by decide) (by simp) (ls' := [some (mm_P 24), some (mm_I (v1)), some (mm_I (v2)), some (mm_I (v3)), some (mm_I (v4)), some (mm_I ((v4) + (v1))), some (mm_I ((1 : Int)))]) rfl ?_
            refine mu_load mc_102_41 (by decide) rfl ?_
            refine mu_load mc_102_42 (by decide) rfl ?_
            refine mu_if_eq mc_102_43 (fun c => absurd c (by decide)) (fun _ => ?_)
            refine mu_const mc_102_44 (by decide) (by decide) ?_
            refine mu_aload (r := some (24)) mc_102_45 (by decide) rfl ?_
            refine mu_get mc_102_46 rfl ?_
            refine mu_const mc_102_47 (by decide) (by decide) ?_
            refine mu_load mc_102_48 (by decide) rfl ?_
            have h27 := H.1
            replace H := H.2
            refine mu_imul mc_102_49 h27 ?_
            refine mu_aload (r := some (24)) mc_102_50 (by decide) rfl ?_
            refine mu_get mc_102_51 rfl ?_
            refine mu_if_ne mc_102_52 (fun c => ?_) (fun c => ?_)
            · replace H := H.1 c
              refine mu_load mc_102_55 (by decide) rfl ?_
              have h28 := H.1
              replace H := H.2
              refine mu_iadd mc_102_56 h28 ?_
              have h29 := H.1
              replace H := H.2
              have h30 := H.1
              replace H := H.2
              refine mu_iald mc_102_57 rfl h29 h30 ?_
              have h31 := H.1
              replace H := H.2
              have h32 := H.1
              replace H := H.2
              refine mu_ishl mc_102_58 h31 h32 ?_
              refine mu_rfl (n := 61) mc_102_59 (by decide) rfl rfl ?_
              refine mu_ior mc_102_61 ?_
              refine mu_store mc_102_62 (by decide) (by simp) (ls' := [some (mm_P 24), some (mm_I (v1)), some (mm_I (mm_or (v2) (((1 : Int)) * 2 ^ (D18 25 ((((100 : Int)) * (v3)) + ((v4) + (v1)))).toNat))), some (mm_I (v3)), some (mm_I (v4)), some (mm_I ((v4) + (v1))), some (mm_I ((1 : Int)))]) rfl ?_
              have h33 := H.1
              replace H := H.2
              refine mu_iinc mc_102_63 rfl h33 (ls' := [some (mm_P 24), some (mm_I (v1)), some (mm_I (mm_or (v2) (((1 : Int)) * 2 ^ (D18 25 ((((100 : Int)) * (v3)) + ((v4) + (v1)))).toNat))), some (mm_I (v3)), some (mm_I ((v4) + (1 : Int))), some (mm_I ((v4) + (v1))), some (mm_I ((1 : Int)))]) rfl ?_
              refine mu_rfl (n := 10) mc_102_64 (by decide) rfl rfl ?_
              exact H
            · replace H := H.2 c
              refine mu_load mc_102_53 (by decide) rfl ?_
              refine mu_rfl (n := 56) mc_102_54 (by decide) rfl rfl ?_
              have h34 := H.1
              replace H := H.2
              refine mu_iadd mc_102_56 h34 ?_
              have h35 := H.1
              replace H := H.2
              have h36 := H.1
              replace H := H.2
              refine mu_iald mc_102_57 rfl h35 h36 ?_
              have h37 := H.1
              replace H := H.2
              have h38 := H.1
              replace H := H.2
              refine mu_ishl mc_102_58 h37 h38 ?_
              refine mu_rfl (n := 61) mc_102_59 (by decide) rfl rfl ?_
              refine mu_ior mc_102_61 ?_
              refine mu_store mc_102_62 (by decide) (by simp) (ls' := [some (mm_P 24), some (mm_I (v1)), some (mm_I (mm_or (v2) (((1 : Int)) * 2 ^ (D18 25 ((((100 : Int)) * (v3)) + (v4))).toNat))), some (mm_I (v3)), some (mm_I (v4)), some (mm_I ((v4) + (v1))), some (mm_I ((1 : Int)))]) rfl ?_
              have h39 := H.1
              replace H := H.2
              refine mu_iinc mc_102_63 rfl h39 (ls' := [some (mm_P 24), some (mm_I (v1)), some (mm_I (mm_or (v2) (((1 : Int)) * 2 ^ (D18 25 ((((100 : Int)) * (v3)) + (v4))).toNat))), some (mm_I (v3)), some (mm_I ((v4) + (1 : Int))), some (mm_I ((v4) + (v1))), some (mm_I ((1 : Int)))]) rfl ?_
              refine mu_rfl (n := 10) mc_102_64 (by decide) rfl rfl ?_
              exact H

theorem q_X5_followers_0 {D : mm_D} {u : Int} {x : Nat × (Nat × List Int)} {Q : mm_O → mm_H → Prop} (H : ∀ D1 : mm_D, D1 = mm_wr D 24 0 ((0 : Int)) → (mt 102 0 [some (mm_P 24), some (mm_I (D1 24 6)), none, none, none, none, none] [] (mm_mk D1 u x) (mm_pI fun r5 D2 u3 x4 => Q (.inl (some (mm_I (r5)))) (mm_mk D2 u3 x4)))) : mt 103 0 [some (mm_P 24)] [] (mm_mk D u x) Q := by
  refine mu_aload (r := some (24)) mc_103_0 (by decide) rfl ?_
  refine mu_const mc_103_1 (by decide) (by decide) ?_
  refine mu_put mc_103_2 (by decide) (Or.inl rfl) ?_
  obtain ⟨D1, eD1⟩ : ∃ z, z = mm_wr D 24 0 ((0 : Int)) := ⟨_, rfl⟩
  replace H := H D1 eD1
  show mt _ _ _ _ (mm_mk (mm_wr D 24 0 ((0 : Int))) _ _) _
  rw [← eD1]
  refine mu_aload (r := some (24)) mc_103_3 (by decide) rfl ?_
  refine mu_aload (r := some (24)) mc_103_4 (by decide) rfl ?_
  refine mu_get mc_103_5 rfl ?_
  refine mt_call (args := [mm_P 24, mm_I (D1 24 6)]) (rest := []) mc_103_6 (by decide) rfl rfl rfl ⟨by simp, rfl, by decide⟩ (mu_rcv (by decide) rfl (by decide)) H ?_
  rintro _ _ ⟨r5, D2, u3, x4, rfl, rfl, H⟩
  refine Or.inl ⟨_, rfl, ?_⟩
  exact mt_ret mc_103_7 H

theorem q_X5_leaders_0 {D : mm_D} {u : Int} {x : Nat × (Nat × List Int)} {Q : mm_O → mm_H → Prop} (H : ∀ D1 : mm_D, D1 = mm_wr D 24 0 ((0 : Int)) → (mt 102 0 [some (mm_P 24), some (mm_I ((-1 : Int))), none, none, none, none, none] [] (mm_mk D1 u x) (mm_pI fun r5 D2 u3 x4 => Q (.inl (some (mm_I (r5)))) (mm_mk D2 u3 x4)))) : mt 104 0 [some (mm_P 24)] [] (mm_mk D u x) Q := by
  refine mu_aload (r := some (24)) mc_104_0 (by decide) rfl ?_
  refine mu_const mc_104_1 (by decide) (by decide) ?_
  refine mu_put mc_104_2 (by decide) (Or.inl rfl) ?_
  obtain ⟨D1, eD1⟩ : ∃ z, z = mm_wr D 24 0 ((0 : Int)) := ⟨_, rfl⟩
  replace H := H D1 eD1
  show mt _ _ _ _ (mm_mk (mm_wr D 24 0 ((0 : Int))) _ _) _
  rw [← eD1]
  refine mu_aload (r := some (24)) mc_104_3 (by decide) rfl ?_
  refine mu_const mc_104_4 (by decide) (by decide) ?_
  refine mt_call (args := [mm_P 24, mm_I ((-1 : Int))]) (rest := []) mc_104_5 (by decide) rfl rfl rfl ⟨by simp, rfl, by decide⟩ (mu_rcv (by decide) rfl (by decide)) H ?_
  rintro _ _ ⟨r5, D2, u3, x4, rfl, rfl, H⟩
  refine Or.inl ⟨_, rfl, ?_⟩
  exact mt_ret mc_104_6 H

theorem q_X5_left_0 {D : mm_D} {u : Int} {x : Nat × (Nat × List Int)} {Q : mm_O → mm_H → Prop} (v1 : Int) (H : (0 ≤ (v1) ∧ 0 < ((100 : Int))) ∧ ((mm_rng ((v1) / ((100 : Int)))) ∧ ((0 ≤ ((v1) / ((100 : Int)))) ∧ ((((v1) / ((100 : Int))) < 4) ∧ ((0 ≤ (v1) ∧ 0 < ((100 : Int))) ∧ ((mm_rng ((v1) % ((100 : Int)))) ∧ ((mm_rng ((D 26 ((v1) / ((100 : Int)))) - ((v1) % ((100 : Int))))) ∧ (Q (.inl (some (mm_I ((D 26 ((v1) / ((100 : Int)))) - ((v1) % ((100 : Int))))))) (mm_mk D u x))))))))) : mt 105 0 [some (mm_P 24), some (mm_I (v1))] [] (mm_mk D u x) Q := by
  refine mu_aload (r := some (24)) mc_105_0 (by decide) rfl ?_
  refine mu_get mc_105_1 rfl ?_
  refine mu_load mc_105_2 (by decide) rfl ?_
  refine mu_const mc_105_3 (by decide) (by decide) ?_
  have h1 := H.1
  replace H := H.2
  have h2 := H.1
  replace H := H.2
  refine mu_idiv mc_105_4 h1 h2 ?_
  have h3 := H.1
  replace H := H.2
  have h4 := H.1
  replace H := H.2
  refine mu_iald mc_105_5 rfl h3 h4 ?_
  refine mu_load mc_105_6 (by decide) rfl ?_
  refine mu_const mc_105_7 (by decide) (by decide) ?_
  have h5 := H.1
  replace H := H.2
  have h6 := H.1
  replace H := H.2
  refine mu_irem mc_105_8 h5 h6 ?_
  have h7 := H.1
  replace H := H.2
  refine mu_isub mc_105_9 h7 ?_
  exact mt_ret mc_105_10 H

theorem q_X5_same_0 {D : mm_D} {u : Int} {x : Nat × (Nat × List Int)} {Q : mm_O → mm_H → Prop} (v1 v2 : Int) (H : mt 106 2 [some (mm_P 24), some (mm_I (v1)), some (mm_I (v2)), some (mm_I ((0 : Int)))] [] (mm_mk D u x) Q) : mt 106 0 [some (mm_P 24), some (mm_I (v1)), some (mm_I (v2)), none] [] (mm_mk D u x) Q := by
  refine mu_const mc_106_0 (by decide) (by decide) ?_
  refine mu_store mc_106_1 (by decide) (by simp) (ls' := [some (mm_P 24), some (mm_I (v1)), some (mm_I (v2)), some (mm_I ((0 : Int)))]) rfl ?_
  exact H
theorem q_X5_same_2 {D : mm_D} {u : Int} {x : Nat × (Nat × List Int)} {Q : mm_O → mm_H → Prop} (v1 v2 v3 : Int) (H : mt 105 0 [some (mm_P 24), some (mm_I (v1))] [] (mm_mk D u x) (mm_pI fun r4 D1 u2 x3 => (((r4) ≤ (v3)) → Q (.inl (some (mm_I (v3)))) (mm_mk D1 u2 x3)) ∧ (¬ ((r4) ≤ (v3)) → mt 105 0 [some (mm_P 24), some (mm_I (v2))] [] (mm_mk D1 u2 x3) (mm_pI fun r8 D5 u6 x7 => (((r8) ≤ (v3)) → Q (.inl (some (mm_I (v3)))) (mm_mk D5 u6 x7)) ∧ (¬ ((r8) ≤ (v3)) → (mm_rng ((v1) + (v3))) ∧ ((0 ≤ ((v1) + (v3))) ∧ ((((v1) + (v3)) < 400) ∧ ((mm_rng ((v2) + (v3))) ∧ ((0 ≤ ((v2) + (v3))) ∧ ((((v2) + (v3)) < 400) ∧ (((¬ (D5 25 ((v1) + (v3))) = (D5 25 ((v2) + (v3)))) → Q (.inl (some (mm_I (v3)))) (mm_mk D5 u6 x7)) ∧ (¬ (¬ (D5 25 ((v1) + (v3))) = (D5 25 ((v2) + (v3)))) → (mm_rng ((v3) + (1 : Int))) ∧ (mt 106 2 [some (mm_P 24), some (mm_I (v1)), some (mm_I (v2)), some (mm_I ((v3) + (1 : Int)))] [] (mm_mk D5 u6 x7) Q))))))))))))) : mt 106 2 [some (mm_P 24), some (mm_I (v1)), some (mm_I (v2)), some (mm_I (v3))] [] (mm_mk D u x) Q := by
  refine mu_load mc_106_2 (by decide) rfl ?_
  refine mu_aload (r := some (24)) mc_106_3 (by decide) rfl ?_
  refine mu_load mc_106_4 (by decide) rfl ?_
  refine mt_call (args := [mm_P 24, mm_I (v1)]) (rest := [mm_I (v3)]) mc_106_5 (by decide) rfl rfl rfl ⟨by simp, rfl, by decide⟩ (mu_rcv (by decide) rfl (by decide)) H ?_
  rintro _ _ ⟨r4, D1, u2, x3, rfl, rfl, H⟩
  refine Or.inl ⟨_, rfl, ?_⟩
  refine mu_ic_ge mc_106_6 (fun c => ?_) (fun c => ?_)
  · replace H := H.1 c
    refine mu_load mc_106_27 (by decide) rfl ?_
    exact mt_ret mc_106_28 H
  · replace H := H.2 c
    refine mu_load mc_106_7 (by decide) rfl ?_
    refine mu_aload (r := some (24)) mc_106_8 (by decide) rfl ?_
    refine mu_load mc_106_9 (by decide) rfl ?_
    refine mt_call (args := [mm_P 24, mm_I (v2)]) (rest := [mm_I (v3)]) mc_106_10 (by decide) rfl rfl rfl ⟨by simp, rfl, by decide⟩ (mu_rcv (by decide) rfl (by decide)) H ?_
    rintro _ _ ⟨r8, D5, u6, x7, rfl, rfl, H⟩
    refine Or.inl ⟨_, rfl, ?_⟩
    refine mu_ic_ge mc_106_11 (fun c => ?_) (fun c => ?_)
    · replace H := H.1 c
      refine mu_load mc_106_27 (by decide) rfl ?_
      exact mt_ret mc_106_28 H
    · replace H := H.2 c
      refine mu_aload (r := some (24)) mc_106_12 (by decide) rfl ?_
      refine mu_get mc_106_13 rfl ?_
      refine mu_load mc_106_14 (by decide) rfl ?_
      refine mu_load mc_106_15 (by decide) rfl ?_
      have h9 := H.1
      replace H := H.2
      refine mu_iadd mc_106_16 h9 ?_
      have h10 := H.1
      replace H := H.2
      have h11 := H.1
      replace H := H.2
      refine mu_iald mc_106_17 rfl h10 h11 ?_
      refine mu_aload (r := some (24)) mc_106_18 (by decide) rfl ?_
      refine mu_get mc_106_19 rfl ?_
      refine mu_load mc_106_20 (by decide) rfl ?_
      refine mu_load mc_106_21 (by decide) rfl ?_
      have h12 := H.1
      replace H := H.2
      refine mu_iadd mc_106_22 h12 ?_
      have h13 := H.1
      replace H := H.2
      have h14 := H.1
      replace H := H.2
      refine mu_iald mc_106_23 rfl h13 h14 ?_
      refine mu_ic_ne mc_106_24 (fun c => ?_) (fun c => ?_)
      · replace H := H.1 c
        refine mu_load mc_106_27 (by decide) rfl ?_
        exact mt_ret mc_106_28 H
      · replace H := H.2 c
        have h15 := H.1
        replace H := H.2
        refine mu_iinc mc_106_25 rfl h15 (ls' := [some (mm_P 24), some (mm_I (v1)), some (mm_I (v2)), some (mm_I ((v3) + (1 : Int)))]) rfl ?_
        refine mu_rfl (n := 2) mc_106_26 (by decide) rfl rfl ?_
        exact H

theorem q_X5_comes_0 {D : mm_D} {u : Int} {x : Nat × (Nat × List Int)} {Q : mm_O → mm_H → Prop} (v1 v2 : Int) (H : mt 106 0 [some (mm_P 24), some (mm_I (v1)), some (mm_I (v2)), none] [] (mm_mk D u x) (mm_pI fun r4 D1 u2 x3 => mt 105 0 [some (mm_P 24), some (mm_I (v1))] [] (mm_mk D1 u2 x3) (mm_pI fun r8 D5 u6 x7 => ((¬ (r4) = (r8)) → mt 105 0 [some (mm_P 24), some (mm_I (v2))] [] (mm_mk D5 u6 x7) (mm_pI fun r12 D9 u10 x11 => (((r12) ≤ (r4)) → Q (.inl (some (mm_I ((0 : Int))))) (mm_mk D9 u10 x11)) ∧ (¬ ((r12) ≤ (r4)) → (mm_rng ((v1) + (r4))) ∧ ((0 ≤ ((v1) + (r4))) ∧ ((((v1) + (r4)) < 400) ∧ ((mm_rng ((v2) + (r4))) ∧ ((0 ≤ ((v2) + (r4))) ∧ ((((v2) + (r4)) < 400) ∧ ((((D9 25 ((v2) + (r4))) ≤ (D9 25 ((v1) + (r4)))) → Q (.inl (some (mm_I ((0 : Int))))) (mm_mk D9 u10 x11)) ∧ (¬ ((D9 25 ((v2) + (r4))) ≤ (D9 25 ((v1) + (r4)))) → Q (.inl (some (mm_I ((1 : Int))))) (mm_mk D9 u10 x11))))))))))) ∧ (¬ (¬ (r4) = (r8)) → mt 105 0 [some (mm_P 24), some (mm_I (v2))] [] (mm_mk D5 u6 x7) (mm_pI fun r22 D19 u20 x21 => (((r22) ≤ (r4)) → Q (.inl (some (mm_I ((0 : Int))))) (mm_mk D19 u20 x21)) ∧ (¬ ((r22) ≤ (r4)) → Q (.inl (some (mm_I ((1 : Int))))) (mm_mk D19 u20 x21))))))) : mt 107 0 [some (mm_P 24), some (mm_I (v1)), some (mm_I (v2)), none] [] (mm_mk D u x) Q := by
  refine mu_aload (r := some (24)) mc_107_0 (by decide) rfl ?_
  refine mu_load mc_107_1 (by decide) rfl ?_
  refine mu_load mc_107_2 (by decide) rfl ?_
  refine mt_call (args := [mm_P 24, mm_I (v1), mm_I (v2)]) (rest := []) mc_107_3 (by decide) rfl rfl rfl ⟨by simp, rfl, by decide⟩ (mu_rcv (by decide) rfl (by decide)) H ?_
  rintro _ _ ⟨r4, D1, u2, x3, rfl, rfl, H⟩
  refine Or.inl ⟨_, rfl, ?_⟩
  refine mu_store mc_107_4 (by decide) (by simp) (ls' := [some (mm_P 24), some (mm_I (v1)), some (mm_I (v2)), some (mm_I (r4))]) rfl ?_
  refine mu_load mc_107_5 (by decide) rfl ?_
  refine mu_aload (r := some (24)) mc_107_6 (by decide) rfl ?_
  refine mu_load mc_107_7 (by decide) rfl ?_
  refine mt_call (args := [mm_P 24, mm_I (v1)]) (rest := [mm_I (r4)]) mc_107_8 (by decide) rfl rfl rfl ⟨by simp, rfl, by decide⟩ (mu_rcv (by decide) rfl (by decide)) H ?_
  rintro _ _ ⟨r8, D5, u6, x7, rfl, rfl, H⟩
  refine Or.inl ⟨_, rfl, ?_⟩
  refine mu_ic_ne mc_107_9 (fun c => ?_) (fun c => ?_)
  · replace H := H.1 c
    refine mu_load mc_107_19 (by decide) rfl ?_
    refine mu_aload (r := some (24)) mc_107_20 (by decide) rfl ?_
    refine mu_load mc_107_21 (by decide) rfl ?_
    refine mt_call (args := [mm_P 24, mm_I (v2)]) (rest := [mm_I (r4)]) mc_107_22 (by decide) rfl rfl rfl ⟨by simp, rfl, by decide⟩ (mu_rcv (by decide) rfl (by decide)) H ?_
    rintro _ _ ⟨r12, D9, u10, x11, rfl, rfl, H⟩
    refine Or.inl ⟨_, rfl, ?_⟩
    refine mu_ic_ge mc_107_23 (fun c => ?_) (fun c => ?_)
    · replace H := H.1 c
      refine mu_const mc_107_39 (by decide) (by decide) ?_
      exact mt_retB mc_107_40 (by decide) H
    · replace H := H.2 c
      refine mu_aload (r := some (24)) mc_107_24 (by decide) rfl ?_
      refine mu_get mc_107_25 rfl ?_
      refine mu_load mc_107_26 (by decide) rfl ?_
      refine mu_load mc_107_27 (by decide) rfl ?_
      have h13 := H.1
      replace H := H.2
      refine mu_iadd mc_107_28 h13 ?_
      have h14 := H.1
      replace H := H.2
      have h15 := H.1
      replace H := H.2
      refine mu_iald mc_107_29 rfl h14 h15 ?_
      refine mu_aload (r := some (24)) mc_107_30 (by decide) rfl ?_
      refine mu_get mc_107_31 rfl ?_
      refine mu_load mc_107_32 (by decide) rfl ?_
      refine mu_load mc_107_33 (by decide) rfl ?_
      have h16 := H.1
      replace H := H.2
      refine mu_iadd mc_107_34 h16 ?_
      have h17 := H.1
      replace H := H.2
      have h18 := H.1
      replace H := H.2
      refine mu_iald mc_107_35 rfl h17 h18 ?_
      refine mu_ic_ge mc_107_36 (fun c => ?_) (fun c => ?_)
      · replace H := H.1 c
        refine mu_const mc_107_39 (by decide) (by decide) ?_
        exact mt_retB mc_107_40 (by decide) H
      · replace H := H.2 c
        refine mu_const mc_107_37 (by decide) (by decide) ?_
        refine mu_rfl (n := 40) mc_107_38 (by decide) rfl rfl ?_
        exact mt_retB mc_107_40 (by decide) H
  · replace H := H.2 c
    refine mu_load mc_107_10 (by decide) rfl ?_
    refine mu_aload (r := some (24)) mc_107_11 (by decide) rfl ?_
    refine mu_load mc_107_12 (by decide) rfl ?_
    refine mt_call (args := [mm_P 24, mm_I (v2)]) (rest := [mm_I (r4)]) mc_107_13 (by decide) rfl rfl rfl ⟨by simp, rfl, by decide⟩ (mu_rcv (by decide) rfl (by decide)) H ?_
    rintro _ _ ⟨r22, D19, u20, x21, rfl, rfl, H⟩
    refine Or.inl ⟨_, rfl, ?_⟩
    refine mu_ic_ge mc_107_14 (fun c => ?_) (fun c => ?_)
    · replace H := H.1 c
      refine mu_const mc_107_17 (by decide) (by decide) ?_
      refine mu_rfl (n := 40) mc_107_18 (by decide) rfl rfl ?_
      exact mt_retB mc_107_40 (by decide) H
    · replace H := H.2 c
      refine mu_const mc_107_15 (by decide) (by decide) ?_
      refine mu_rfl (n := 40) mc_107_16 (by decide) rfl rfl ?_
      exact mt_retB mc_107_40 (by decide) H

theorem q_X5_sorts_0 {D : mm_D} {u : Int} {x : Nat × (Nat × List Int)} {Q : mm_O → mm_H → Prop} (H : mt 108 4 [some (mm_P 24), some (mm_I ((0 : Int))), some (mm_I ((0 : Int))), none, none] [] (mm_mk D u x) Q) : mt 108 0 [some (mm_P 24), none, none, none, none] [] (mm_mk D u x) Q := by
  refine mu_const mc_108_0 (by decide) (by decide) ?_
  refine mu_store mc_108_1 (by decide) (by simp) (ls' := [some (mm_P 24), some (mm_I ((0 : Int))), none, none, none]) rfl ?_
  refine mu_const mc_108_2 (by decide) (by decide) ?_
  refine mu_store mc_108_3 (by decide) (by simp) (ls' := [some (mm_P 24), some (mm_I ((0 : Int))), some (mm_I ((0 : Int))), none, none]) rfl ?_
  exact H
theorem q_X5_sorts_4 {D : mm_D} {u : Int} {x : Nat × (Nat × List Int)} {Q : mm_O → mm_H → Prop} (v1 v2 : Int) (o3 o4 : Option mm_V) (H : (((D 24 3) ≤ (v2)) → mt 108 62 [some (mm_P 24), some (mm_I (v1)), some (mm_I ((0 : Int))), o3, o4] [] (mm_mk D u x) Q) ∧ (¬ ((D 24 3) ≤ (v2)) → mt 108 10 [some (mm_P 24), some (mm_I (v1)), some (mm_I (v2)), some (mm_I ((0 : Int))), o4] [] (mm_mk D u x) Q)) : mt 108 4 [some (mm_P 24), some (mm_I (v1)), some (mm_I (v2)), o3, o4] [] (mm_mk D u x) Q := by
  refine mu_load mc_108_4 (by decide) rfl ?_
  refine mu_aload (r := some (24)) mc_108_5 (by decide) rfl ?_
  refine mu_get mc_108_6 rfl ?_
  refine mu_ic_ge mc_108_7 (fun c => ?_) (fun c => ?_)
  · replace H := H.1 c
    refine mu_const mc_108_60 (by decide) (by decide) ?_
    refine mu_store mc_108_61 (by decide) (by simp) (ls' := [some (mm_P 24), some (mm_I (v1)), some (mm_I ((0 : Int))), o3, o4]) rfl ?_
    exact H
  · replace H := H.2 c
    refine mu_const mc_108_8 (by decide) (by decide) ?_
    refine mu_store mc_108_9 (by decide) (by simp) (ls' := [some (mm_P 24), some (mm_I (v1)), some (mm_I (v2)), some (mm_I ((0 : Int))), o4]) rfl ?_
    exact H
theorem q_X5_sorts_10 {D : mm_D} {u : Int} {x : Nat × (Nat × List Int)} {Q : mm_O → mm_H → Prop} (v1 v2 v3 : Int) (o4 : Option mm_V) (H : (0 ≤ (v2)) ∧ (((v2) < 4) ∧ ((((D 26 (v2)) ≤ (v3)) → (mm_rng ((v2) + (1 : Int))) ∧ (mt 108 4 [some (mm_P 24), some (mm_I (v1)), some (mm_I ((v2) + (1 : Int))), some (mm_I (v3)), o4] [] (mm_mk D u x) Q)) ∧ (¬ ((D 26 (v2)) ≤ (v3)) → mt 108 18 [some (mm_P 24), some (mm_I (v1)), some (mm_I (v2)), some (mm_I (v3)), some (mm_I (v1))] [] (mm_mk D u x) Q)))) : mt 108 10 [some (mm_P 24), some (mm_I (v1)), some (mm_I (v2)), some (mm_I (v3)), o4] [] (mm_mk D u x) Q := by
  refine mu_load mc_108_10 (by decide) rfl ?_
  refine mu_aload (r := some (24)) mc_108_11 (by decide) rfl ?_
  refine mu_get mc_108_12 rfl ?_
  refine mu_load mc_108_13 (by decide) rfl ?_
  have h1 := H.1
  replace H := H.2
  have h2 := H.1
  replace H := H.2
  refine mu_iald mc_108_14 rfl h1 h2 ?_
  refine mu_ic_ge mc_108_15 (fun c => ?_) (fun c => ?_)
  · replace H := H.1 c
    have h3 := H.1
    replace H := H.2
    refine mu_iinc mc_108_58 rfl h3 (ls' := [some (mm_P 24), some (mm_I (v1)), some (mm_I ((v2) + (1 : Int))), some (mm_I (v3)), o4]) rfl ?_
    refine mu_rfl (n := 4) mc_108_59 (by decide) rfl rfl ?_
    exact H
  · replace H := H.2 c
    refine mu_load mc_108_16 (by decide) rfl ?_
    refine mu_store mc_108_17 (by decide) (by simp) (ls' := [some (mm_P 24), some (mm_I (v1)), some (mm_I (v2)), some (mm_I (v3)), some (mm_I (v1))]) rfl ?_
    exact H
theorem q_X5_sorts_18 {D : mm_D} {u : Int} {x : Nat × (Nat × List Int)} {Q : mm_O → mm_H → Prop} (v1 v2 v3 v4 : Int) (H : (((v4) ≤ 0) → (mm_rng (((100 : Int)) * (v2))) ∧ ((mm_rng ((((100 : Int)) * (v2)) + (v3))) ∧ ((0 ≤ (v4)) ∧ (((v4) < 100) ∧ (∀ D5 : mm_D, D5 = mm_wr D 28 (v4) ((((100 : Int)) * (v2)) + (v3)) → ((mm_rng ((v1) + (1 : Int))) ∧ ((mm_rng ((v3) + (1 : Int))) ∧ (mt 108 10 [some (mm_P 24), some (mm_I ((v1) + (1 : Int))), some (mm_I (v2)), some (mm_I ((v3) + (1 : Int))), some (mm_I (v4))] [] (mm_mk D5 u x) Q)))))))) ∧ (¬ ((v4) ≤ 0) → (mm_rng (((100 : Int)) * (v2))) ∧ ((mm_rng ((((100 : Int)) * (v2)) + (v3))) ∧ ((mm_rng ((v4) - ((1 : Int)))) ∧ ((0 ≤ ((v4) - ((1 : Int)))) ∧ ((((v4) - ((1 : Int))) < 100) ∧ (mt 107 0 [some (mm_P 24), some (mm_I ((((100 : Int)) * (v2)) + (v3))), some (mm_I (D 28 ((v4) - ((1 : Int))))), none] [] (mm_mk D u x) (mm_pI fun r16 D13 u14 x15 => (((r16) = 0) → (mm_rng (((100 : Int)) * (v2))) ∧ ((mm_rng ((((100 : Int)) * (v2)) + (v3))) ∧ ((0 ≤ (v4)) ∧ (((v4) < 100) ∧ (∀ D21 : mm_D, D21 = mm_wr D13 28 (v4) ((((100 : Int)) * (v2)) + (v3)) → ((mm_rng ((v1) + (1 : Int))) ∧ ((mm_rng ((v3) + (1 : Int))) ∧ (mt 108 10 [some (mm_P 24), some (mm_I ((v1) + (1 : Int))), some (mm_I (v2)), some (mm_I ((v3) + (1 : Int))), some (mm_I (v4))] [] (mm_mk D21 u14 x15) Q)))))))) ∧ (¬ ((r16) = 0) → (mm_rng ((v4) - ((1 : Int)))) ∧ ((0 ≤ ((v4) - ((1 : Int)))) ∧ ((((v4) - ((1 : Int))) < 100) ∧ ((0 ≤ (v4)) ∧ (((v4) < 100) ∧ (∀ D29 : mm_D, D29 = mm_wr D13 28 (v4) (D13 28 ((v4) - ((1 : Int)))) → ((mm_rng ((v4) + (-1 : Int))) ∧ (mt 108 18 [some (mm_P 24), some (mm_I (v1)), some (mm_I (v2)), some (mm_I (v3)), some (mm_I ((v4) + (-1 : Int)))] [] (mm_mk D29 u14 x15) Q)))))))))))))))) : mt 108 18 [some (mm_P 24), some (mm_I (v1)), some (mm_I (v2)), some (mm_I (v3)), some (mm_I (v4))] [] (mm_mk D u x) Q := by
  refine mu_load mc_108_18 (by decide) rfl ?_
  refine mu_if_le mc_108_19 (fun c => ?_) (fun c => ?_)
  · replace H := H.1 c
    refine mu_aload (r := some (24)) mc_108_46 (by decide) rfl ?_
    refine mu_get mc_108_47 rfl ?_
    refine mu_load mc_108_48 (by decide) rfl ?_
    refine mu_const mc_108_49 (by decide) (by decide) ?_
    refine mu_load mc_108_50 (by decide) rfl ?_
    have h1 := H.1
    replace H := H.2
    refine mu_imul mc_108_51 h1 ?_
    refine mu_load mc_108_52 (by decide) rfl ?_
    have h2 := H.1
    replace H := H.2
    refine mu_iadd mc_108_53 h2 ?_
    have h3 := H.1
    replace H := H.2
    have h4 := H.1
    replace H := H.2
    refine mu_iast mc_108_54 rfl h3 h4 ?_
    obtain ⟨D5, eD5⟩ : ∃ z, z = mm_wr D 28 (v4) ((((100 : Int)) * (v2)) + (v3)) := ⟨_, rfl⟩
    replace H := H D5 eD5
    rw [← eD5]
    have h6 := H.1
    replace H := H.2
    refine mu_iinc mc_108_55 rfl h6 (ls' := [some (mm_P 24), some (mm_I ((v1) + (1 : Int))), some (mm_I (v2)), some (mm_I (v3)), some (mm_I (v4))]) rfl ?_
    have h7 := H.1
    replace H := H.2
    refine mu_iinc mc_108_56 rfl h7 (ls' := [some (mm_P 24), some (mm_I ((v1) + (1 : Int))), some (mm_I (v2)), some (mm_I ((v3) + (1 : Int))), some (mm_I (v4))]) rfl ?_
    refine mu_rfl (n := 10) mc_108_57 (by decide) rfl rfl ?_
    exact H
  · replace H := H.2 c
    refine mu_aload (r := some (24)) mc_108_20 (by decide) rfl ?_
    refine mu_const mc_108_21 (by decide) (by decide) ?_
    refine mu_load mc_108_22 (by decide) rfl ?_
    have h8 := H.1
    replace H := H.2
    refine mu_imul mc_108_23 h8 ?_
    refine mu_load mc_108_24 (by decide) rfl ?_
    have h9 := H.1
    replace H := H.2
    refine mu_iadd mc_108_25 h9 ?_
    refine mu_aload (r := some (24)) mc_108_26 (by decide) rfl ?_
    refine mu_get mc_108_27 rfl ?_
    refine mu_load mc_108_28 (by decide) rfl ?_
    refine mu_const mc_108_29 (by decide) (by decide) ?_
    have h10 := H.1
    replace H := H.2
    refine mu_isub mc_108_30 h10 ?_
    have h11 := H.1
    replace H := H.2
    have h12 := H.1
    replace H := H.2
    refine mu_iald mc_108_31 rfl h11 h12 ?_
    refine mt_call (args := [mm_P 24, mm_I ((((100 : Int)) * (v2)) + (v3)), mm_I (D 28 ((v4) - ((1 : Int))))]) (rest := []) mc_108_32 (by decide) rfl rfl rfl ⟨by simp, rfl, by decide⟩ (mu_rcv (by decide) rfl (by decide)) H ?_
    rintro _ _ ⟨r16, D13, u14, x15, rfl, rfl, H⟩
    refine Or.inl ⟨_, rfl, ?_⟩
    refine mu_if_eq mc_108_33 (fun c => ?_) (fun c => ?_)
    · replace H := H.1 c
      refine mu_aload (r := some (24)) mc_108_46 (by decide) rfl ?_
      refine mu_get mc_108_47 rfl ?_
      refine mu_load mc_108_48 (by decide) rfl ?_
      refine mu_const mc_108_49 (by decide) (by decide) ?_
      refine mu_load mc_108_50 (by decide) rfl ?_
      have h17 := H.1
      replace H := H.2
      refine mu_imul mc_108_51 h17 ?_
      refine mu_load mc_108_52 (by decide) rfl ?_
      have h18 := H.1
      replace H := H.2
      refine mu_iadd mc_108_53 h18 ?_
      have h19 := H.1
      replace H := H.2
      have h20 := H.1
      replace H := H.2
      refine mu_iast mc_108_54 rfl h19 h20 ?_
      obtain ⟨D21, eD21⟩ : ∃ z, z = mm_wr D13 28 (v4) ((((100 : Int)) * (v2)) + (v3)) := ⟨_, rfl⟩
      replace H := H D21 eD21
      rw [← eD21]
      have h22 := H.1
      replace H := H.2
      refine mu_iinc mc_108_55 rfl h22 (ls' := [some (mm_P 24), some (mm_I ((v1) + (1 : Int))), some (mm_I (v2)), some (mm_I (v3)), some (mm_I (v4))]) rfl ?_
      have h23 := H.1
      replace H := H.2
      refine mu_iinc mc_108_56 rfl h23 (ls' := [some (mm_P 24), some (mm_I ((v1) + (1 : Int))), some (mm_I (v2)), some (mm_I ((v3) + (1 : Int))), some (mm_I (v4))]) rfl ?_
      refine mu_rfl (n := 10) mc_108_57 (by decide) rfl rfl ?_
      exact H
    · replace H := H.2 c
      refine mu_aload (r := some (24)) mc_108_34 (by decide) rfl ?_
      refine mu_get mc_108_35 rfl ?_
      refine mu_load mc_108_36 (by decide) rfl ?_
      refine mu_aload (r := some (24)) mc_108_37 (by decide) rfl ?_
      refine mu_get mc_108_38 rfl ?_
      refine mu_load mc_108_39 (by decide) rfl ?_
      refine mu_const mc_108_40 (by decide) (by decide) ?_
      have h24 := H.1
      replace H := H.2
      refine mu_isub mc_108_41 h24 ?_
      have h25 := H.1
      replace H := H.2
      have h26 := H.1
      replace H := H.2
      refine mu_iald mc_108_42 rfl h25 h26 ?_
      have h27 := H.1
      replace H := H.2
      have h28 := H.1
      replace H := H.2
      refine mu_iast mc_108_43 rfl h27 h28 ?_
      obtain ⟨D29, eD29⟩ : ∃ z, z = mm_wr D13 28 (v4) (D13 28 ((v4) - ((1 : Int)))) := ⟨_, rfl⟩
      replace H := H D29 eD29
      rw [← eD29]
      have h30 := H.1
      replace H := H.2
      refine mu_iinc mc_108_44 rfl h30 (ls' := [some (mm_P 24), some (mm_I (v1)), some (mm_I (v2)), some (mm_I (v3)), some (mm_I ((v4) + (-1 : Int)))]) rfl ?_
      refine mu_rfl (n := 18) mc_108_45 (by decide) rfl rfl ?_
      exact H
theorem q_X5_sorts_62 {D : mm_D} {u : Int} {x : Nat × (Nat × List Int)} {Q : mm_O → mm_H → Prop} (v1 v2 : Int) (o3 o4 : Option mm_V) (H : (((v1) ≤ (v2)) → Q (.inl none) (mm_mk D u x)) ∧ (¬ ((v1) ≤ (v2)) → ((¬ (v2) = 0) → (mm_rng ((v2) - ((1 : Int)))) ∧ ((0 ≤ ((v2) - ((1 : Int)))) ∧ ((((v2) - ((1 : Int))) < 100) ∧ ((0 ≤ (v2)) ∧ (((v2) < 100) ∧ (mt 106 0 [some (mm_P 24), some (mm_I (D 28 ((v2) - ((1 : Int))))), some (mm_I (D 28 (v2))), none] [] (mm_mk D u x) (mm_pI fun r9 D6 u7 x8 => (0 ≤ (v2)) ∧ (((v2) < 100) ∧ (∀ D12 : mm_D, D12 = mm_wr D6 29 (v2) (r9) → ((mm_rng ((v2) + (1 : Int))) ∧ (mt 108 62 [some (mm_P 24), some (mm_I (v1)), some (mm_I ((v2) + (1 : Int))), o3, o4] [] (mm_mk D12 u7 x8) Q))))))))))) ∧ (¬ (¬ (v2) = 0) → (0 ≤ (v2)) ∧ (((v2) < 100) ∧ (∀ D16 : mm_D, D16 = mm_wr D 29 (v2) ((0 : Int)) → ((mm_rng ((v2) + (1 : Int))) ∧ (mt 108 62 [some (mm_P 24), some (mm_I (v1)), some (mm_I ((v2) + (1 : Int))), o3, o4] [] (mm_mk D16 u x) Q))))))) : mt 108 62 [some (mm_P 24), some (mm_I (v1)), some (mm_I (v2)), o3, o4] [] (mm_mk D u x) Q := by
  refine mu_load mc_108_62 (by decide) rfl ?_
  refine mu_load mc_108_63 (by decide) rfl ?_
  refine mu_ic_ge mc_108_64 (fun c => ?_) (fun c => ?_)
  · replace H := H.1 c
    exact mt_retV mc_108_87 H
  · replace H := H.2 c
    refine mu_aload (r := some (24)) mc_108_65 (by decide) rfl ?_
    refine mu_get mc_108_66 rfl ?_
    refine mu_load mc_108_67 (by decide) rfl ?_
    refine mu_load mc_108_68 (by decide) rfl ?_
    refine mu_if_ne mc_108_69 (fun c => ?_) (fun c => ?_)
    · replace H := H.1 c
      refine mu_aload (r := some (24)) mc_108_72 (by decide) rfl ?_
      refine mu_aload (r := some (24)) mc_108_73 (by decide) rfl ?_
      refine mu_get mc_108_74 rfl ?_
      refine mu_load mc_108_75 (by decide) rfl ?_
      refine mu_const mc_108_76 (by decide) (by decide) ?_
      have h1 := H.1
      replace H := H.2
      refine mu_isub mc_108_77 h1 ?_
      have h2 := H.1
      replace H := H.2
      have h3 := H.1
      replace H := H.2
      refine mu_iald mc_108_78 rfl h2 h3 ?_
      refine mu_aload (r := some (24)) mc_108_79 (by decide) rfl ?_
      refine mu_get mc_108_80 rfl ?_
      refine mu_load mc_108_81 (by decide) rfl ?_
      have h4 := H.1
      replace H := H.2
      have h5 := H.1
      replace H := H.2
      refine mu_iald mc_108_82 rfl h4 h5 ?_
      refine mt_call (args := [mm_P 24, mm_I (D 28 ((v2) - ((1 : Int)))), mm_I (D 28 (v2))]) (rest := [mm_I (v2), mm_P 29]) mc_108_83 (by decide) rfl rfl rfl ⟨by simp, rfl, by decide⟩ (mu_rcv (by decide) rfl (by decide)) H ?_
      rintro _ _ ⟨r9, D6, u7, x8, rfl, rfl, H⟩
      refine Or.inl ⟨_, rfl, ?_⟩
      have h10 := H.1
      replace H := H.2
      have h11 := H.1
      replace H := H.2
      refine mu_iast mc_108_84 rfl h10 h11 ?_
      obtain ⟨D12, eD12⟩ : ∃ z, z = mm_wr D6 29 (v2) (r9) := ⟨_, rfl⟩
      replace H := H D12 eD12
      rw [← eD12]
      have h13 := H.1
      replace H := H.2
      refine mu_iinc mc_108_85 rfl h13 (ls' := [some (mm_P 24), some (mm_I (v1)), some (mm_I ((v2) + (1 : Int))), o3, o4]) rfl ?_
      refine mu_rfl (n := 62) mc_108_86 (by decide) rfl rfl ?_
      exact H
    · replace H := H.2 c
      refine mu_const mc_108_70 (by decide) (by decide) ?_
      refine mu_rfl (n := 84) mc_108_71 (by decide) rfl rfl ?_
      have h14 := H.1
      replace H := H.2
      have h15 := H.1
      replace H := H.2
      refine mu_iast mc_108_84 rfl h14 h15 ?_
      obtain ⟨D16, eD16⟩ : ∃ z, z = mm_wr D 29 (v2) ((0 : Int)) := ⟨_, rfl⟩
      replace H := H D16 eD16
      rw [← eD16]
      have h17 := H.1
      replace H := H.2
      refine mu_iinc mc_108_85 rfl h17 (ls' := [some (mm_P 24), some (mm_I (v1)), some (mm_I ((v2) + (1 : Int))), o3, o4]) rfl ?_
      refine mu_rfl (n := 62) mc_108_86 (by decide) rfl rfl ?_
      exact H

theorem q_X5_looks_0 {D : mm_D} {u : Int} {x : Nat × (Nat × List Int)} {Q : mm_O → mm_H → Prop} (v1 v2 : Int) (H : ∀ D1 : mm_D, D1 = mm_wr D 24 9 ((0 : Int)) → (∀ D2 : mm_D, D2 = mm_wr D1 24 10 ((0 : Int)) → (∀ D3 : mm_D, D3 = mm_wr D2 24 11 ((0 : Int)) → (∀ D4 : mm_D, D4 = mm_wr D3 24 12 ((0 : Int)) → (mt 109 16 [some (mm_P 24), some (mm_I (v1)), some (mm_I (v2)), some (mm_I ((1 : Int))), some (mm_I (v1)), none] [] (mm_mk D4 u x) Q))))) : mt 109 0 [some (mm_P 24), some (mm_I (v1)), some (mm_I (v2)), none, none, none] [] (mm_mk D u x) Q := by
  refine mu_aload (r := some (24)) mc_109_0 (by decide) rfl ?_
  refine mu_const mc_109_1 (by decide) (by decide) ?_
  refine mu_put mc_109_2 (by decide) (Or.inl rfl) ?_
  obtain ⟨D1, eD1⟩ : ∃ z, z = mm_wr D 24 9 ((0 : Int)) := ⟨_, rfl⟩
  replace H := H D1 eD1
  show mt _ _ _ _ (mm_mk (mm_wr D 24 9 ((0 : Int))) _ _) _
  rw [← eD1]
  refine mu_aload (r := some (24)) mc_109_3 (by decide) rfl ?_
  refine mu_const mc_109_4 (by decide) (by decide) ?_
  refine mu_put mc_109_5 (by decide) (Or.inl rfl) ?_
  obtain ⟨D2, eD2⟩ : ∃ z, z = mm_wr D1 24 10 ((0 : Int)) := ⟨_, rfl⟩
  replace H := H D2 eD2
  show mt _ _ _ _ (mm_mk (mm_wr D1 24 10 ((0 : Int))) _ _) _
  rw [← eD2]
  refine mu_aload (r := some (24)) mc_109_6 (by decide) rfl ?_
  refine mu_const mc_109_7 (by decide) (by decide) ?_
  refine mu_put mc_109_8 (by decide) (Or.inl rfl) ?_
  obtain ⟨D3, eD3⟩ : ∃ z, z = mm_wr D2 24 11 ((0 : Int)) := ⟨_, rfl⟩
  replace H := H D3 eD3
  show mt _ _ _ _ (mm_mk (mm_wr D2 24 11 ((0 : Int))) _ _) _
  rw [← eD3]
  refine mu_aload (r := some (24)) mc_109_9 (by decide) rfl ?_
  refine mu_const mc_109_10 (by decide) (by decide) ?_
  refine mu_put mc_109_11 (by decide) (Or.inr ⟨rfl, by decide⟩) ?_
  obtain ⟨D4, eD4⟩ : ∃ z, z = mm_wr D3 24 12 ((0 : Int)) := ⟨_, rfl⟩
  replace H := H D4 eD4
  show mt _ _ _ _ (mm_mk (mm_wr D3 24 12 ((0 : Int))) _ _) _
  rw [← eD4]
  refine mu_const mc_109_12 (by decide) (by decide) ?_
  refine mu_store mc_109_13 (by decide) (by simp) (ls' := [some (mm_P 24), some (mm_I (v1)), some (mm_I (v2)), some (mm_I ((1 : Int))), none, none]) rfl ?_
  refine mu_load mc_109_14 (by decide) rfl ?_
  refine mu_store mc_109_15 (by decide) (by simp) (ls' := [some (mm_P 24), some (mm_I (v1)), some (mm_I (v2)), some (mm_I ((1 : Int))), some (mm_I (v1)), none]) rfl ?_
  exact H
theorem q_X5_looks_16 {D : mm_D} {u : Int} {x : Nat × (Nat × List Int)} {Q : mm_O → mm_H → Prop} (v1 v2 v3 v4 : Int) (o5 : Option mm_V) (H : (((D 24 4) ≤ (v4)) → Q (.inl none) (mm_mk D u x)) ∧ (¬ ((D 24 4) ≤ (v4)) → (((v3) = 0) → Q (.inl none) (mm_mk D u x)) ∧ (¬ ((v3) = 0) → (mm_rng ((D 24 9) + ((1 : Int)))) ∧ (∀ D2 : mm_D, D2 = mm_wr D 24 9 ((D 24 9) + ((1 : Int))) → ((0 ≤ (v4)) ∧ (((v4) < 100) ∧ ((0 ≤ (D2 28 (v4)) ∧ 0 < ((100 : Int))) ∧ ((mm_rng ((D2 28 (v4)) / ((100 : Int)))) ∧ ((0 ≤ ((1 : Int)) ∧ 0 ≤ ((D2 28 (v4)) / ((100 : Int))) ∧ ((D2 28 (v4)) / ((100 : Int))) < 31) ∧ ((mm_rng (((1 : Int)) * 2 ^ ((D2 28 (v4)) / ((100 : Int))).toNat)) ∧ (∀ D9 : mm_D, D9 = mm_wr D2 24 10 (mm_or (D2 24 10) (((1 : Int)) * 2 ^ ((D2 28 (v4)) / ((100 : Int))).toNat)) → ((0 ≤ (v4)) ∧ (((v4) < 100) ∧ ((0 ≤ (D9 28 (v4)) ∧ 0 < ((100 : Int))) ∧ ((mm_rng ((D9 28 (v4)) % ((100 : Int)))) ∧ (((¬ ((D9 28 (v4)) % ((100 : Int))) = 0) → ((¬ (D9 24 12) = 0) → ∀ D14 : mm_D, D14 = mm_wr D9 24 12 ((1 : Int)) → ((0 ≤ (v4)) ∧ (((v4) < 100) ∧ ((mm_rng ((D14 28 (v4)) - ((1 : Int)))) ∧ ((0 ≤ ((D14 28 (v4)) - ((1 : Int)))) ∧ ((((D14 28 (v4)) - ((1 : Int))) < 400) ∧ ((0 ≤ ((1 : Int)) ∧ 0 ≤ (D14 25 ((D14 28 (v4)) - ((1 : Int)))) ∧ (D14 25 ((D14 28 (v4)) - ((1 : Int)))) < 31) ∧ ((mm_rng (((1 : Int)) * 2 ^ (D14 25 ((D14 28 (v4)) - ((1 : Int)))).toNat)) ∧ (∀ D22 : mm_D, D22 = mm_wr D14 24 11 (mm_or (D14 24 11) (((1 : Int)) * 2 ^ (D14 25 ((D14 28 (v4)) - ((1 : Int)))).toNat)) → ((mm_rng ((v4) + ((1 : Int)))) ∧ ((((D22 24 4) ≤ ((v4) + ((1 : Int)))) → (mm_rng ((v4) + (1 : Int))) ∧ (mt 109 16 [some (mm_P 24), some (mm_I (v1)), some (mm_I (v2)), some (mm_I ((0 : Int))), some (mm_I ((v4) + (1 : Int))), some (mm_I ((0 : Int)))] [] (mm_mk D22 u x) Q)) ∧ (¬ ((D22 24 4) ≤ ((v4) + ((1 : Int)))) → (mm_rng ((v4) + ((1 : Int)))) ∧ ((0 ≤ ((v4) + ((1 : Int)))) ∧ ((((v4) + ((1 : Int))) < 100) ∧ ((((D22 29 ((v4) + ((1 : Int)))) < (v2)) → (mm_rng ((v4) + (1 : Int))) ∧ (mt 109 16 [some (mm_P 24), some (mm_I (v1)), some (mm_I (v2)), some (mm_I ((0 : Int))), some (mm_I ((v4) + (1 : Int))), some (mm_I ((0 : Int)))] [] (mm_mk D22 u x) Q)) ∧ (¬ ((D22 29 ((v4) + ((1 : Int)))) < (v2)) → (mm_rng ((v4) + (1 : Int))) ∧ (mt 109 16 [some (mm_P 24), some (mm_I (v1)), some (mm_I (v2)), some (mm_I ((1 : Int))), some (mm_I ((v4) + (1 : Int))), some (mm_I ((0 : Int)))] [] (mm_mk D22 u x) Q))))))))))))))))) ∧ (¬ (¬ (D9 24 12) = 0) → ∀ D30 : mm_D, D30 = mm_wr D9 24 12 ((0 : Int)) → ((0 ≤ (v4)) ∧ (((v4) < 100) ∧ ((mm_rng ((D30 28 (v4)) - ((1 : Int)))) ∧ ((0 ≤ ((D30 28 (v4)) - ((1 : Int)))) ∧ ((((D30 28 (v4)) - ((1 : Int))) < 400) ∧ ((0 ≤ ((1 : Int)) ∧ 0 ≤ (D30 25 ((D30 28 (v4)) - ((1 : Int)))) ∧ (D30 25 ((D30 28 (v4)) - ((1 : Int)))) < 31) ∧ ((mm_rng (((1 : Int)) * 2 ^ (D30 25 ((D30 28 (v4)) - ((1 : Int)))).toNat)) ∧ (∀ D38 : mm_D, D38 = mm_wr D30 24 11 (mm_or (D30 24 11) (((1 : Int)) * 2 ^ (D30 25 ((D30 28 (v4)) - ((1 : Int)))).toNat)) → ((mm_rng ((v4) + ((1 : Int)))) ∧ ((((D38 24 4) ≤ ((v4) + ((1 : Int)))) → (mm_rng ((v4) + (1 : Int))) ∧ (mt 109 16 [some (mm_P 24), some (mm_I (v1)), some (mm_I (v2)), some (mm_I ((0 : Int))), some (mm_I ((v4) + (1 : Int))), some (mm_I ((0 : Int)))] [] (mm_mk D38 u x) Q)) ∧ (¬ ((D38 24 4) ≤ ((v4) + ((1 : Int)))) → (mm_rng ((v4) + ((1 : Int)))) ∧ ((0 ≤ ((v4) + ((1 : Int)))) ∧ ((((v4) + ((1 : Int))) < 100) ∧ ((((D38 29 ((v4) + ((1 : Int)))) < (v2)) → (mm_rng ((v4) + (1 : Int))) ∧ (mt 109 16 [some (mm_P 24), some (mm_I (v1)), some (mm_I (v2)), some (mm_I ((0 : Int))), some (mm_I ((v4) + (1 : Int))), some (mm_I ((0 : Int)))] [] (mm_mk D38 u x) Q)) ∧ (¬ ((D38 29 ((v4) + ((1 : Int)))) < (v2)) → (mm_rng ((v4) + (1 : Int))) ∧ (mt 109 16 [some (mm_P 24), some (mm_I (v1)), some (mm_I (v2)), some (mm_I ((1 : Int))), some (mm_I ((v4) + (1 : Int))), some (mm_I ((0 : Int)))] [] (mm_mk D38 u x) Q)))))))))))))))))) ∧ (¬ (¬ ((D9 28 (v4)) % ((100 : Int))) = 0) → ((¬ (D9 24 12) = 0) → ∀ D46 : mm_D, D46 = mm_wr D9 24 12 ((1 : Int)) → (∀ D47 : mm_D, D47 = mm_wr D46 24 11 (mm_or (D46 24 11) ((0 : Int))) → ((mm_rng ((v4) + ((1 : Int)))) ∧ ((((D47 24 4) ≤ ((v4) + ((1 : Int)))) → (mm_rng ((v4) + (1 : Int))) ∧ (mt 109 16 [some (mm_P 24), some (mm_I (v1)), some (mm_I (v2)), some (mm_I ((0 : Int))), some (mm_I ((v4) + (1 : Int))), some (mm_I ((1 : Int)))] [] (mm_mk D47 u x) Q)) ∧ (¬ ((D47 24 4) ≤ ((v4) + ((1 : Int)))) → (mm_rng ((v4) + ((1 : Int)))) ∧ ((0 ≤ ((v4) + ((1 : Int)))) ∧ ((((v4) + ((1 : Int))) < 100) ∧ ((((D47 29 ((v4) + ((1 : Int)))) < (v2)) → (mm_rng ((v4) + (1 : Int))) ∧ (mt 109 16 [some (mm_P 24), some (mm_I (v1)), some (mm_I (v2)), some (mm_I ((0 : Int))), some (mm_I ((v4) + (1 : Int))), some (mm_I ((1 : Int)))] [] (mm_mk D47 u x) Q)) ∧ (¬ ((D47 29 ((v4) + ((1 : Int)))) < (v2)) → (mm_rng ((v4) + (1 : Int))) ∧ (mt 109 16 [some (mm_P 24), some (mm_I (v1)), some (mm_I (v2)), some (mm_I ((1 : Int))), some (mm_I ((v4) + (1 : Int))), some (mm_I ((1 : Int)))] [] (mm_mk D47 u x) Q)))))))))) ∧ (¬ (¬ (D9 24 12) = 0) → ∀ D55 : mm_D, D55 = mm_wr D9 24 12 ((1 : Int)) → (∀ D56 : mm_D, D56 = mm_wr D55 24 11 (mm_or (D55 24 11) ((0 : Int))) → ((mm_rng ((v4) + ((1 : Int)))) ∧ ((((D56 24 4) ≤ ((v4) + ((1 : Int)))) → (mm_rng ((v4) + (1 : Int))) ∧ (mt 109 16 [some (mm_P 24), some (mm_I (v1)), some (mm_I (v2)), some (mm_I ((0 : Int))), some (mm_I ((v4) + (1 : Int))), some (mm_I ((1 : Int)))] [] (mm_mk D56 u x) Q)) ∧ (¬ ((D56 24 4) ≤ ((v4) + ((1 : Int)))) → (mm_rng ((v4) + ((1 : Int)))) ∧ ((0 ≤ ((v4) + ((1 : Int)))) ∧ ((((v4) + ((1 : Int))) < 100) ∧ ((((D56 29 ((v4) + ((1 : Int)))) < (v2)) → (mm_rng ((v4) + (1 : Int))) ∧ (mt 109 16 [some (mm_P 24), some (mm_I (v1)), some (mm_I (v2)), some (mm_I ((0 : Int))), some (mm_I ((v4) + (1 : Int))), some (mm_I ((1 : Int)))] [] (mm_mk D56 u x) Q)) ∧ (¬ ((D56 29 ((v4) + ((1 : Int)))) < (v2)) → (mm_rng ((v4) + (1 : Int))) ∧ (mt 109 16 [some (mm_P 24), some (mm_I (v1)), some (mm_I (v2)), some (mm_I ((1 : Int))), some (mm_I ((v4) + (1 : Int))), some (mm_I ((1 : Int)))] [] (mm_mk D56 u x) Q))))))))))))))))))))))))))) : mt 109 16 [some (mm_P 24), some (mm_I (v1)), some (mm_I (v2)), some (mm_I (v3)), some (mm_I (v4)), o5] [] (mm_mk D u x) Q := by
  refine mu_load mc_109_16 (by decide) rfl ?_
  refine mu_aload (r := some (24)) mc_109_17 (by decide) rfl ?_
  refine mu_get mc_109_18 rfl ?_
  refine mu_ic_ge mc_109_19 (fun c => ?_) (fun c => ?_)
  · replace H := H.1 c
    exact mt_retV mc_109_102 H
  · replace H := H.2 c
    refine mu_load mc_109_20 (by decide) rfl ?_
    refine mu_if_eq mc_109_21 (fun c => ?_) (fun c => ?_)
    · replace H := H.1 c
      exact mt_retV mc_109_102 H
    · replace H := H.2 c
      refine mu_aload (r := some (24)) mc_109_22 (by decide) rfl ?_
      refine mu_rfl mc_109_23 (by decide) rfl rfl ?_
      refine mu_get mc_109_24 rfl ?_
      refine mu_const mc_109_25 (by decide) (by decide) ?_
      have h1 := H.1
      replace H := H.2
      refine mu_iadd mc_109_26 h1 ?_
      refine mu_put mc_109_27 (by decide) (Or.inl rfl) ?_
      obtain ⟨D2, eD2⟩ : ∃ z, z = mm_wr D 24 9 ((D 24 9) + ((1 : Int))) := ⟨_, rfl⟩
      replace H := H D2 eD2
      show mt _ _ _ _ (mm_mk (mm_wr D 24 9 ((D 24 9) + ((1 : Int)))) _ _) _
      rw [← eD2]
      refine mu_aload (r := some (24)) mc_109_28 (by decide) rfl ?_
      refine mu_rfl mc_109_29 (by decide) rfl rfl ?_
      refine mu_get mc_109_30 rfl ?_
      refine mu_const mc_109_31 (by decide) (by decide) ?_
      refine mu_aload (r := some (24)) mc_109_32 (by decide) rfl ?_
      refine mu_get mc_109_33 rfl ?_
      refine mu_load mc_109_34 (by decide) rfl ?_
      have h3 := H.1
      replace H := H.2
      have h4 := H.1
      replace H := H.2
      refine mu_iald mc_109_35 rfl h3 h4 ?_
      refine mu_const mc_109_36 (by decide) (by decide) ?_
      have h5 := H.1
      replace H := H.2
      have h6 := H.1
      replace H := H.2
      refine mu_idiv mc_109_37 h5 h6 ?_
      have h7 := H.1
      replace H := H.2
      have h8 := H.1
      replace H := H.2
      refine mu_ishl mc_109_38 h7 h8 ?_
      refine mu_ior mc_109_39 ?_
      refine mu_put mc_109_40 (by decide) (Or.inl rfl) ?_
      obtain ⟨D9, eD9⟩ : ∃ z, z = mm_wr D2 24 10 (mm_or (D2 24 10) (((1 : Int)) * 2 ^ ((D2 28 (v4)) / ((100 : Int))).toNat)) := ⟨_, rfl⟩
      replace H := H D9 eD9
      show mt _ _ _ _ (mm_mk (mm_wr D2 24 10 (mm_or (D2 24 10) (((1 : Int)) * 2 ^ ((D2 28 (v4)) / ((100 : Int))).toNat))) _ _) _
      rw [← eD9]
      refine mu_aload (r := some (24)) mc_109_41 (by decide) rfl ?_
      refine mu_get mc_109_42 rfl ?_
      refine mu_load mc_109_43 (by decide) rfl ?_
      have h10 := H.1
      replace H := H.2
      have h11 := H.1
      replace H := H.2
      refine mu_iald mc_109_44 rfl h10 h11 ?_
      refine mu_const mc_109_45 (by decide) (by decide) ?_
      have h12 := H.1
      replace H := H.2
      have h13 := H.1
      replace H := H.2
      refine mu_irem mc_109_46 h12 h13 ?_
      refine mu_if_ne mc_109_47 (fun c => ?_) (fun c => ?_)
      · replace H := H.1 c
        refine mu_const mc_109_50 (by decide) (by decide) ?_
        refine mu_store mc_109_51 (by decide) (by simp) (ls' := [some (mm_P 24), some (mm_I (v1)), some (mm_I (v2)), some (mm_I (v3)), some (mm_I (v4)), some (mm_I ((0 : Int)))]) rfl ?_
        refine mu_aload (r := some (24)) mc_109_52 (by decide) rfl ?_
        refine mu_aload (r := some (24)) mc_109_53 (by decide) rfl ?_
        refine mu_get mc_109_54 rfl ?_
        refine mu_if_ne mc_109_55 (fun c => ?_) (fun c => ?_)
        · replace H := H.1 c
          refine mu_const mc_109_58 (by decide) (by decide) ?_
          refine mu_rfl (n := 61) mc_109_59 (by decide) rfl rfl ?_
          refine mu_put mc_109_61 (by decide) (Or.inr ⟨rfl, by decide⟩) ?_
          obtain ⟨D14, eD14⟩ : ∃ z, z = mm_wr D9 24 12 ((1 : Int)) := ⟨_, rfl⟩
          replace H := H D14 eD14
          show mt _ _ _ _ (mm_mk (mm_wr D9 24 12 ((1 : Int))) _ _) _
          rw [← eD14]
          refine mu_aload (r := some (24)) mc_109_62 (by decide) rfl ?_
          refine mu_rfl mc_109_63 (by decide) rfl rfl ?_
          refine mu_get mc_109_64 rfl ?_
          refine mu_load mc_109_65 (by decide) rfl ?_
          refine mu_if_eq mc_109_66 (fun _ => ?_) (fun c => absurd (by decide) c)
          refine mu_const mc_109_69 (by decide) (by decide) ?_
          refine mu_aload (r := some (24)) mc_109_70 (by decide) rfl ?_
          refine mu_get mc_109_71 rfl ?_
          refine mu_aload (r := some (24)) mc_109_72 (by decide) rfl ?_
          refine mu_get mc_109_73 rfl ?_
          refine mu_load mc_109_74 (by decide) rfl ?_
          have h15 := H.1
          replace H := H.2
          have h16 := H.1
          replace H := H.2
          refine mu_iald mc_109_75 rfl h15 h16 ?_
          refine mu_const mc_109_76 (by decide) (by decide) ?_
          have h17 := H.1
          replace H := H.2
          refine mu_isub mc_109_77 h17 ?_
          have h18 := H.1
          replace H := H.2
          have h19 := H.1
          replace H := H.2
          refine mu_iald mc_109_78 rfl h18 h19 ?_
          have h20 := H.1
          replace H := H.2
          have h21 := H.1
          replace H := H.2
          refine mu_ishl mc_109_79 h20 h21 ?_
          refine mu_ior mc_109_80 ?_
          refine mu_put mc_109_81 (by decide) (Or.inl rfl) ?_
          obtain ⟨D22, eD22⟩ : ∃ z, z = mm_wr D14 24 11 (mm_or (D14 24 11) (((1 : Int)) * 2 ^ (D14 25 ((D14 28 (v4)) - ((1 : Int)))).toNat)) := ⟨_, rfl⟩
          replace H := H D22 eD22
          show mt _ _ _ _ (mm_mk (mm_wr D14 24 11 (mm_or (D14 24 11) (((1 : Int)) * 2 ^ (D14 25 ((D14 28 (v4)) - ((1 : Int)))).toNat))) _ _) _
          rw [← eD22]
          refine mu_load mc_109_82 (by decide) rfl ?_
          refine mu_const mc_109_83 (by decide) (by decide) ?_
          have h23 := H.1
          replace H := H.2
          refine mu_iadd mc_109_84 h23 ?_
          refine mu_aload (r := some (24)) mc_109_85 (by decide) rfl ?_
          refine mu_get mc_109_86 rfl ?_
          refine mu_ic_ge mc_109_87 (fun c => ?_) (fun c => ?_)
          · replace H := H.1 c
            refine mu_const mc_109_98 (by decide) (by decide) ?_
            refine mu_store mc_109_99 (by decide) (by simp) (ls' := [some (mm_P 24), some (mm_I (v1)), some (mm_I (v2)), some (mm_I ((0 : Int))), some (mm_I (v4)), some (mm_I ((0 : Int)))]) rfl ?_
            have h24 := H.1
            replace H := H.2
            refine mu_iinc mc_109_100 rfl h24 (ls' := [some (mm_P 24), some (mm_I (v1)), some (mm_I (v2)), some (mm_I ((0 : Int))), some (mm_I ((v4) + (1 : Int))), some (mm_I ((0 : Int)))]) rfl ?_
            refine mu_rfl (n := 16) mc_109_101 (by decide) rfl rfl ?_
            exact H
          · replace H := H.2 c
            refine mu_aload (r := some (24)) mc_109_88 (by decide) rfl ?_
            refine mu_get mc_109_89 rfl ?_
            refine mu_load mc_109_90 (by decide) rfl ?_
            refine mu_const mc_109_91 (by decide) (by decide) ?_
            have h25 := H.1
            replace H := H.2
            refine mu_iadd mc_109_92 h25 ?_
            have h26 := H.1
            replace H := H.2
            have h27 := H.1
            replace H := H.2
            refine mu_iald mc_109_93 rfl h26 h27 ?_
            refine mu_load mc_109_94 (by decide) rfl ?_
            refine mu_ic_lt mc_109_95 (fun c => ?_) (fun c => ?_)
            · replace H := H.1 c
              refine mu_const mc_109_98 (by decide) (by decide) ?_
              refine mu_store mc_109_99 (by decide) (by simp) (ls' := [some (mm_P 24), some (mm_I (v1)), some (mm_I (v2)), some (mm_I ((0 : Int))), some (mm_I (v4)), some (mm_I ((0 : Int)))]) rfl ?_
              have h28 := H.1
              replace H := H.2
              refine mu_iinc mc_109_100 rfl h28 (ls' := [some (mm_P 24), some (mm_I (v1)), some (mm_I (v2)), some (mm_I ((0 : Int))), some (mm_I ((v4) + (1 : Int))), some (mm_I ((0 : Int)))]) rfl ?_
              refine mu_rfl (n := 16) mc_109_101 (by decide) rfl rfl ?_
              exact H
            · replace H := H.2 c
              refine mu_const mc_109_96 (by decide) (by decide) ?_
              refine mu_rfl (n := 99) mc_109_97 (by decide) rfl rfl ?_
              refine mu_store mc_109_99 (by decide) (by simp) (ls' := [some (mm_P 24), some (mm_I (v1)), some (mm_I (v2)), some (mm_I ((1 : Int))), some (mm_I (v4)), some (mm_I ((0 : Int)))]) rfl ?_
              have h29 := H.1
              replace H := H.2
              refine mu_iinc mc_109_100 rfl h29 (ls' := [some (mm_P 24), some (mm_I (v1)), some (mm_I (v2)), some (mm_I ((1 : Int))), some (mm_I ((v4) + (1 : Int))), some (mm_I ((0 : Int)))]) rfl ?_
              refine mu_rfl (n := 16) mc_109_101 (by decide) rfl rfl ?_
              exact H
        · replace H := H.2 c
          refine mu_load mc_109_56 (by decide) rfl ?_
          refine mu_if_eq mc_109_57 (fun _ => ?_) (fun c => absurd (by decide) c)
          refine mu_const mc_109_60 (by decide) (by decide) ?_
          refine mu_put mc_109_61 (by decide) (Or.inr ⟨rfl, by decide⟩) ?_
          obtain ⟨D30, eD30⟩ : ∃ z, z = mm_wr D9 24 12 ((0 : Int)) := ⟨_, rfl⟩
          replace H := H D30 eD30
          show mt _ _ _ _ (mm_mk (mm_wr D9 24 12 ((0 : Int))) _ _) _
          rw [← eD30]
          refine mu_aload (r := some (24)) mc_109_62 (by decide) rfl ?_
          refine mu_rfl mc_109_63 (by decide) rfl rfl ?_
          refine mu_get mc_109_64 rfl ?_
          refine mu_load mc_109_65 (by decide) rfl ?_
          refine mu_if_eq mc_109_66 (fun _ => ?_) (fun c => absurd (by decide) c)
          refine mu_const mc_109_69 (by decide) (by decide) ?_
          refine mu_aload (r := some (24)) mc_109_70 (by decide) rfl ?_
          refine mu_get mc_109_71 rfl ?_
          refine mu_aload (r := some (24)) mc_109_72 (by decide) rfl ?_
          refine mu_get mc_109_73 rfl ?_
          refine mu_load mc_109_74 (by decide) rfl ?_
          have h31 := H.1
          replace H := H.2
          have h32 := H.1
          replace H := H.2
          refine mu_iald mc_109_75 rfl h31 h32 ?_
          refine mu_const mc_109_76 (by decide) (by decide) ?_
          have h33 := H.1
          replace H := H.2
          refine mu_isub mc_109_77 h33 ?_
          have h34 := H.1
          replace H := H.2
          have h35 := H.1
          replace H := H.2
          refine mu_iald mc_109_78 rfl h34 h35 ?_
          have h36 := H.1
          replace H := H.2
          have h37 := H.1
          replace H := H.2
          refine mu_ishl mc_109_79 h36 h37 ?_
          refine mu_ior mc_109_80 ?_
          refine mu_put mc_109_81 (by decide) (Or.inl rfl) ?_
          obtain ⟨D38, eD38⟩ : ∃ z, z = mm_wr D30 24 11 (mm_or (D30 24 11) (((1 : Int)) * 2 ^ (D30 25 ((D30 28 (v4)) - ((1 : Int)))).toNat)) := ⟨_, rfl⟩
          replace H := H D38 eD38
          show mt _ _ _ _ (mm_mk (mm_wr D30 24 11 (mm_or (D30 24 11) (((1 : Int)) * 2 ^ (D30 25 ((D30 28 (v4)) - ((1 : Int)))).toNat))) _ _) _
          rw [← eD38]
          refine mu_load mc_109_82 (by decide) rfl ?_
          refine mu_const mc_109_83 (by decide) (by decide) ?_
          have h39 := H.1
          replace H := H.2
          refine mu_iadd mc_109_84 h39 ?_
          refine mu_aload (r := some (24)) mc_109_85 (by decide) rfl ?_
          refine mu_get mc_109_86 rfl ?_
          refine mu_ic_ge mc_109_87 (fun c => ?_) (fun c => ?_)
          · replace H := H.1 c
            refine mu_const mc_109_98 (by decide) (by decide) ?_
            refine mu_store mc_109_99 (by decide) (by simp) (ls' := [some (mm_P 24), some (mm_I (v1)), some (mm_I (v2)), some (mm_I ((0 : Int))), some (mm_I (v4)), some (mm_I ((0 : Int)))]) rfl ?_
            have h40 := H.1
            replace H := H.2
            refine mu_iinc mc_109_100 rfl h40 (ls' := [some (mm_P 24), some (mm_I (v1)), some (mm_I (v2)), some (mm_I ((0 : Int))), some (mm_I ((v4) + (1 : Int))), some (mm_I ((0 : Int)))]) rfl ?_
            refine mu_rfl (n := 16) mc_109_101 (by decide) rfl rfl ?_
            exact H
          · replace H := H.2 c
            refine mu_aload (r := some (24)) mc_109_88 (by decide) rfl ?_
            refine mu_get mc_109_89 rfl ?_
            refine mu_load mc_109_90 (by decide) rfl ?_
            refine mu_const mc_109_91 (by decide) (by decide) ?_
            have h41 := H.1
            replace H := H.2
            refine mu_iadd mc_109_92 h41 ?_
            have h42 := H.1
            replace H := H.2
            have h43 := H.1
            replace H := H.2
            refine mu_iald mc_109_93 rfl h42 h43 ?_
            refine mu_load mc_109_94 (by decide) rfl ?_
            refine mu_ic_lt mc_109_95 (fun c => ?_) (fun c => ?_)
            · replace H := H.1 c
              refine mu_const mc_109_98 (by decide) (by decide) ?_
              refine mu_store mc_109_99 (by decide) (by simp) (ls' := [some (mm_P 24), some (mm_I (v1)), some (mm_I (v2)), some (mm_I ((0 : Int))), some (mm_I (v4)), some (mm_I ((0 : Int)))]) rfl ?_
              have h44 := H.1
              replace H := H.2
              refine mu_iinc mc_109_100 rfl h44 (ls' := [some (mm_P 24), some (mm_I (v1)), some (mm_I (v2)), some (mm_I ((0 : Int))), some (mm_I ((v4) + (1 : Int))), some (mm_I ((0 : Int)))]) rfl ?_
              refine mu_rfl (n := 16) mc_109_101 (by decide) rfl rfl ?_
              exact H
            · replace H := H.2 c
              refine mu_const mc_109_96 (by decide) (by decide) ?_
              refine mu_rfl (n := 99) mc_109_97 (by decide) rfl rfl ?_
              refine mu_store mc_109_99 (by decide) (by simp) (ls' := [some (mm_P 24), some (mm_I (v1)), some (mm_I (v2)), some (mm_I ((1 : Int))), some (mm_I (v4)), some (mm_I ((0 : Int)))]) rfl ?_
              have h45 := H.1
              replace H := H.2
              refine mu_iinc mc_109_100 rfl h45 (ls' := [some (mm_P 24), some (mm_I (v1)), some (mm_I (v2)), some (mm_I ((1 : Int))), some (mm_I ((v4) + (1 : Int))), some (mm_I ((0 : Int)))]) rfl ?_
              refine mu_rfl (n := 16) mc_109_101 (by decide) rfl rfl ?_
              exact H
      · replace H := H.2 c
        refine mu_const mc_109_48 (by decide) (by decide) ?_
        refine mu_rfl (n := 51) mc_109_49 (by decide) rfl rfl ?_
        refine mu_store mc_109_51 (by decide) (by simp) (ls' := [some (mm_P 24), some (mm_I (v1)), some (mm_I (v2)), some (mm_I (v3)), some (mm_I (v4)), some (mm_I ((1 : Int)))]) rfl ?_
        refine mu_aload (r := some (24)) mc_109_52 (by decide) rfl ?_
        refine mu_aload (r := some (24)) mc_109_53 (by decide) rfl ?_
        refine mu_get mc_109_54 rfl ?_
        refine mu_if_ne mc_109_55 (fun c => ?_) (fun c => ?_)
        · replace H := H.1 c
          refine mu_const mc_109_58 (by decide) (by decide) ?_
          refine mu_rfl (n := 61) mc_109_59 (by decide) rfl rfl ?_
          refine mu_put mc_109_61 (by decide) (Or.inr ⟨rfl, by decide⟩) ?_
          obtain ⟨D46, eD46⟩ : ∃ z, z = mm_wr D9 24 12 ((1 : Int)) := ⟨_, rfl⟩
          replace H := H D46 eD46
          show mt _ _ _ _ (mm_mk (mm_wr D9 24 12 ((1 : Int))) _ _) _
          rw [← eD46]
          refine mu_aload (r := some (24)) mc_109_62 (by decide) rfl ?_
          refine mu_rfl mc_109_63 (by decide) rfl rfl ?_
          refine mu_get mc_109_64 rfl ?_
          refine mu_load mc_109_65 (by decide) rfl ?_
          refine mu_if_eq mc_109_66 (fun c => absurd c (by decide)) (fun _ => ?_)
          refine mu_const mc_109_67 (by decide) (by decide) ?_
          refine mu_rfl (n := 80) mc_109_68 (by decide) rfl rfl ?_
          refine mu_ior mc_109_80 ?_
          refine mu_put mc_109_81 (by decide) (Or.inl rfl) ?_
          obtain ⟨D47, eD47⟩ : ∃ z, z = mm_wr D46 24 11 (mm_or (D46 24 11) ((0 : Int))) := ⟨_, rfl⟩
          replace H := H D47 eD47
          show mt _ _ _ _ (mm_mk (mm_wr D46 24 11 (mm_or (D46 24 11) ((0 : Int)))) _ _) _
          rw [← eD47]
          refine mu_load mc_109_82 (by decide) rfl ?_
          refine mu_const mc_109_83 (by decide) (by decide) ?_
          have h48 := H.1
          replace H := H.2
          refine mu_iadd mc_109_84 h48 ?_
          refine mu_aload (r := some (24)) mc_109_85 (by decide) rfl ?_
          refine mu_get mc_109_86 rfl ?_
          refine mu_ic_ge mc_109_87 (fun c => ?_) (fun c => ?_)
          · replace H := H.1 c
            refine mu_const mc_109_98 (by decide) (by decide) ?_
            refine mu_store mc_109_99 (by decide) (by simp) (ls' := [some (mm_P 24), some (mm_I (v1)), some (mm_I (v2)), some (mm_I ((0 : Int))), some (mm_I (v4)), some (mm_I ((1 : Int)))]) rfl ?_
            have h49 := H.1
            replace H := H.2
            refine mu_iinc mc_109_100 rfl h49 (ls' := [some (mm_P 24), some (mm_I (v1)), some (mm_I (v2)), some (mm_I ((0 : Int))), some (mm_I ((v4) + (1 : Int))), some (mm_I ((1 : Int)))]) rfl ?_
            refine mu_rfl (n := 16) mc_109_101 (by decide) rfl rfl ?_
            exact H
          · replace H := H.2 c
            refine mu_aload (r := some (24)) mc_109_88 (by decide) rfl ?_
            refine mu_get mc_109_89 rfl ?_
            refine mu_load mc_109_90 (by decide) rfl ?_
            refine mu_const mc_109_91 (by decide) (by decide) ?_
            have h50 := H.1
            replace H := H.2
            refine mu_iadd mc_109_92 h50 ?_
            have h51 := H.1
            replace H := H.2
            have h52 := H.1
            replace H := H.2
            refine mu_iald mc_109_93 rfl h51 h52 ?_
            refine mu_load mc_109_94 (by decide) rfl ?_
            refine mu_ic_lt mc_109_95 (fun c => ?_) (fun c => ?_)
            · replace H := H.1 c
              refine mu_const mc_109_98 (by decide) (by decide) ?_
              refine mu_store mc_109_99 (by decide) (by simp) (ls' := [some (mm_P 24), some (mm_I (v1)), some (mm_I (v2)), some (mm_I ((0 : Int))), some (mm_I (v4)), some (mm_I ((1 : Int)))]) rfl ?_
              have h53 := H.1
              replace H := H.2
              refine mu_iinc mc_109_100 rfl h53 (ls' := [some (mm_P 24), some (mm_I (v1)), some (mm_I (v2)), some (mm_I ((0 : Int))), some (mm_I ((v4) + (1 : Int))), some (mm_I ((1 : Int)))]) rfl ?_
              refine mu_rfl (n := 16) mc_109_101 (by decide) rfl rfl ?_
              exact H
            · replace H := H.2 c
              refine mu_const mc_109_96 (by decide) (by decide) ?_
              refine mu_rfl (n := 99) mc_109_97 (by decide) rfl rfl ?_
              refine mu_store mc_109_99 (by decide) (by simp) (ls' := [some (mm_P 24), some (mm_I (v1)), some (mm_I (v2)), some (mm_I ((1 : Int))), some (mm_I (v4)), some (mm_I ((1 : Int)))]) rfl ?_
              have h54 := H.1
              replace H := H.2
              refine mu_iinc mc_109_100 rfl h54 (ls' := [some (mm_P 24), some (mm_I (v1)), some (mm_I (v2)), some (mm_I ((1 : Int))), some (mm_I ((v4) + (1 : Int))), some (mm_I ((1 : Int)))]) rfl ?_
              refine mu_rfl (n := 16) mc_109_101 (by decide) rfl rfl ?_
              exact H
        · replace H := H.2 c
          refine mu_load mc_109_56 (by decide) rfl ?_
          refine mu_if_eq mc_109_57 (fun c => absurd c (by decide)) (fun _ => ?_)
          refine mu_const mc_109_58 (by decide) (by decide) ?_
          refine mu_rfl (n := 61) mc_109_59 (by decide) rfl rfl ?_
          refine mu_put mc_109_61 (by decide) (Or.inr ⟨rfl, by decide⟩) ?_
          obtain ⟨D55, eD55⟩ : ∃ z, z = mm_wr D9 24 12 ((1 : Int)) := ⟨_, rfl⟩
          replace H := H D55 eD55
          show mt _ _ _ _ (mm_mk (mm_wr D9 24 12 ((1 : Int))) _ _) _
          rw [← eD55]
          refine mu_aload (r := some (24)) mc_109_62 (by decide) rfl ?_
          refine mu_rfl mc_109_63 (by decide) rfl rfl ?_
          refine mu_get mc_109_64 rfl ?_
          refine mu_load mc_109_65 (by decide) rfl ?_
          refine mu_if_eq mc_109_66 (fun c => absurd c (by decide)) (fun _ => ?_)
          refine mu_const mc_109_67 (by decide) (by decide) ?_
          refine mu_rfl (n := 80) mc_109_68 (by decide) rfl rfl ?_
          refine mu_ior mc_109_80 ?_
          refine mu_put mc_109_81 (by decide) (Or.inl rfl) ?_
          obtain ⟨D56, eD56⟩ : ∃ z, z = mm_wr D55 24 11 (mm_or (D55 24 11) ((0 : Int))) := ⟨_, rfl⟩
          replace H := H D56 eD56
          show mt _ _ _ _ (mm_mk (mm_wr D55 24 11 (mm_or (D55 24 11) ((0 : Int)))) _ _) _
          rw [← eD56]
          refine mu_load mc_109_82 (by decide) rfl ?_
          refine mu_const mc_109_83 (by decide) (by decide) ?_
          have h57 := H.1
          replace H := H.2
          refine mu_iadd mc_109_84 h57 ?_
          refine mu_aload (r := some (24)) mc_109_85 (by decide) rfl ?_
          refine mu_get mc_109_86 rfl ?_
          refine mu_ic_ge mc_109_87 (fun c => ?_) (fun c => ?_)
          · replace H := H.1 c
            refine mu_const mc_109_98 (by decide) (by decide) ?_
            refine mu_store mc_109_99 (by decide) (by simp) (ls' := [some (mm_P 24), some (mm_I (v1)), some (mm_I (v2)), some (mm_I ((0 : Int))), some (mm_I (v4)), some (mm_I ((1 : Int)))]) rfl ?_
            have h58 := H.1
            replace H := H.2
            refine mu_iinc mc_109_100 rfl h58 (ls' := [some (mm_P 24), some (mm_I (v1)), some (mm_I (v2)), some (mm_I ((0 : Int))), some (mm_I ((v4) + (1 : Int))), some (mm_I ((1 : Int)))]) rfl ?_
            refine mu_rfl (n := 16) mc_109_101 (by decide) rfl rfl ?_
            exact H
          · replace H := H.2 c
            refine mu_aload (r := some (24)) mc_109_88 (by decide) rfl ?_
            refine mu_get mc_109_89 rfl ?_
            refine mu_load mc_109_90 (by decide) rfl ?_
            refine mu_const mc_109_91 (by decide) (by decide) ?_
            have h59 := H.1
            replace H := H.2
            refine mu_iadd mc_109_92 h59 ?_
            have h60 := H.1
            replace H := H.2
            have h61 := H.1
            replace H := H.2
            refine mu_iald mc_109_93 rfl h60 h61 ?_
            refine mu_load mc_109_94 (by decide) rfl ?_
            refine mu_ic_lt mc_109_95 (fun c => ?_) (fun c => ?_)
            · replace H := H.1 c
              refine mu_const mc_109_98 (by decide) (by decide) ?_
              refine mu_store mc_109_99 (by decide) (by simp) (ls' := [some (mm_P 24), some (mm_I (v1)), some (mm_I (v2)), some (mm_I ((0 : Int))), some (mm_I (v4)), some (mm_I ((1 : Int)))]) rfl ?_
              have h62 := H.1
              replace H := H.2
              refine mu_iinc mc_109_100 rfl h62 (ls' := [some (mm_P 24), some (mm_I (v1)), some (mm_I (v2)), some (mm_I ((0 : Int))), some (mm_I ((v4) + (1 : Int))), some (mm_I ((1 : Int)))]) rfl ?_
              refine mu_rfl (n := 16) mc_109_101 (by decide) rfl rfl ?_
              exact H
            · replace H := H.2 c
              refine mu_const mc_109_96 (by decide) (by decide) ?_
              refine mu_rfl (n := 99) mc_109_97 (by decide) rfl rfl ?_
              refine mu_store mc_109_99 (by decide) (by simp) (ls' := [some (mm_P 24), some (mm_I (v1)), some (mm_I (v2)), some (mm_I ((1 : Int))), some (mm_I (v4)), some (mm_I ((1 : Int)))]) rfl ?_
              have h63 := H.1
              replace H := H.2
              refine mu_iinc mc_109_100 rfl h63 (ls' := [some (mm_P 24), some (mm_I (v1)), some (mm_I (v2)), some (mm_I ((1 : Int))), some (mm_I ((v4) + (1 : Int))), some (mm_I ((1 : Int)))]) rfl ?_
              refine mu_rfl (n := 16) mc_109_101 (by decide) rfl rfl ?_
              exact H

theorem q_X5_classes_0 {D : mm_D} {u : Int} {x : Nat × (Nat × List Int)} {Q : mm_O → mm_H → Prop} (H : ∀ D1 : mm_D, D1 = mm_wr D 24 0 ((0 : Int)) → (mt 108 0 [some (mm_P 24), none, none, none, none] [] (mm_mk D1 u x) (mm_pV fun D2 u3 x4 => mt 110 9 [some (mm_P 24), some (mm_I ((0 : Int))), some (mm_I ((0 : Int))), none] [] (mm_mk D2 u3 x4) Q))) : mt 110 0 [some (mm_P 24), none, none, none] [] (mm_mk D u x) Q := by
  refine mu_aload (r := some (24)) mc_110_0 (by decide) rfl ?_
  refine mu_const mc_110_1 (by decide) (by decide) ?_
  refine mu_put mc_110_2 (by decide) (Or.inl rfl) ?_
  obtain ⟨D1, eD1⟩ : ∃ z, z = mm_wr D 24 0 ((0 : Int)) := ⟨_, rfl⟩
  replace H := H D1 eD1
  show mt _ _ _ _ (mm_mk (mm_wr D 24 0 ((0 : Int))) _ _) _
  rw [← eD1]
  refine mu_aload (r := some (24)) mc_110_3 (by decide) rfl ?_
  refine mt_call (args := [mm_P 24]) (rest := []) mc_110_4 (by decide) rfl rfl rfl ⟨by simp, rfl, by decide⟩ (mu_rcv (by decide) rfl (by decide)) H ?_
  rintro _ _ ⟨D2, u3, x4, rfl, rfl, H⟩
  refine Or.inl ⟨_, rfl, ?_⟩
  refine mu_const mc_110_5 (by decide) (by decide) ?_
  refine mu_store mc_110_6 (by decide) (by simp) (ls' := [some (mm_P 24), some (mm_I ((0 : Int))), none, none]) rfl ?_
  refine mu_const mc_110_7 (by decide) (by decide) ?_
  refine mu_store mc_110_8 (by decide) (by simp) (ls' := [some (mm_P 24), some (mm_I ((0 : Int))), some (mm_I ((0 : Int))), none]) rfl ?_
  exact H
theorem q_X5_classes_9 {D : mm_D} {u : Int} {x : Nat × (Nat × List Int)} {Q : mm_O → mm_H → Prop} (v1 v2 : Int) (o3 : Option mm_V) (H : (((D 24 4) ≤ (v2)) → Q (.inl (some (mm_I (v1)))) (mm_mk D u x)) ∧ (¬ ((D 24 4) ≤ (v2)) → (0 ≤ (v2)) ∧ (((v2) < 100) ∧ ((mm_rng ((D 29 (v2)) + ((1 : Int)))) ∧ (mt 110 20 [some (mm_P 24), some (mm_I (v1)), some (mm_I (v2)), some (mm_I ((D 29 (v2)) + ((1 : Int))))] [] (mm_mk D u x) Q))))) : mt 110 9 [some (mm_P 24), some (mm_I (v1)), some (mm_I (v2)), o3] [] (mm_mk D u x) Q := by
  refine mu_load mc_110_9 (by decide) rfl ?_
  refine mu_aload (r := some (24)) mc_110_10 (by decide) rfl ?_
  refine mu_get mc_110_11 rfl ?_
  refine mu_ic_ge mc_110_12 (fun c => ?_) (fun c => ?_)
  · replace H := H.1 c
    refine mu_load mc_110_53 (by decide) rfl ?_
    exact mt_ret mc_110_54 H
  · replace H := H.2 c
    refine mu_aload (r := some (24)) mc_110_13 (by decide) rfl ?_
    refine mu_get mc_110_14 rfl ?_
    refine mu_load mc_110_15 (by decide) rfl ?_
    have h1 := H.1
    replace H := H.2
    have h2 := H.1
    replace H := H.2
    refine mu_iald mc_110_16 rfl h1 h2 ?_
    refine mu_const mc_110_17 (by decide) (by decide) ?_
    have h3 := H.1
    replace H := H.2
    refine mu_iadd mc_110_18 h3 ?_
    refine mu_store mc_110_19 (by decide) (by simp) (ls' := [some (mm_P 24), some (mm_I (v1)), some (mm_I (v2)), some (mm_I ((D 29 (v2)) + ((1 : Int))))]) rfl ?_
    exact H
theorem q_X5_classes_20 {D : mm_D} {u : Int} {x : Nat × (Nat × List Int)} {Q : mm_O → mm_H → Prop} (v1 v2 v3 : Int) (H : (0 ≤ (v2)) ∧ (((v2) < 100) ∧ (mt 105 0 [some (mm_P 24), some (mm_I (D 28 (v2)))] [] (mm_mk D u x) (mm_pI fun r6 D3 u4 x5 => (((r6) < (v3)) → (mm_rng ((v2) + (1 : Int))) ∧ (mt 110 9 [some (mm_P 24), some (mm_I (v1)), some (mm_I ((v2) + (1 : Int))), some (mm_I (v3))] [] (mm_mk D3 u4 x5) Q)) ∧ (¬ ((r6) < (v3)) → mt 109 0 [some (mm_P 24), some (mm_I (v2)), some (mm_I (v3)), none, none, none] [] (mm_mk D3 u4 x5) (mm_pV fun D8 u9 x10 => ((¬ (D8 24 12) = 0) → (mm_rng ((v1) + ((1 : Int)))) ∧ ((mm_rng ((v3) + (1 : Int))) ∧ (mt 110 20 [some (mm_P 24), some (mm_I ((v1) + ((1 : Int)))), some (mm_I (v2)), some (mm_I ((v3) + (1 : Int)))] [] (mm_mk D8 u9 x10) Q))) ∧ (¬ (¬ (D8 24 12) = 0) → (mm_rng ((D8 24 11) - ((1 : Int)))) ∧ ((((mm_and (D8 24 11) ((D8 24 11) - ((1 : Int)))) = 0) → (mm_rng ((v1) + ((0 : Int)))) ∧ ((mm_rng ((v3) + (1 : Int))) ∧ (mt 110 20 [some (mm_P 24), some (mm_I ((v1) + ((0 : Int)))), some (mm_I (v2)), some (mm_I ((v3) + (1 : Int)))] [] (mm_mk D8 u9 x10) Q))) ∧ (¬ ((mm_and (D8 24 11) ((D8 24 11) - ((1 : Int)))) = 0) → (mm_rng ((v1) + ((1 : Int)))) ∧ ((mm_rng ((v3) + (1 : Int))) ∧ (mt 110 20 [some (mm_P 24), some (mm_I ((v1) + ((1 : Int)))), some (mm_I (v2)), some (mm_I ((v3) + (1 : Int)))] [] (mm_mk D8 u9 x10) Q))))))))))) : mt 110 20 [some (mm_P 24), some (mm_I (v1)), some (mm_I (v2)), some (mm_I (v3))] [] (mm_mk D u x) Q := by
  refine mu_load mc_110_20 (by decide) rfl ?_
  refine mu_aload (r := some (24)) mc_110_21 (by decide) rfl ?_
  refine mu_aload (r := some (24)) mc_110_22 (by decide) rfl ?_
  refine mu_get mc_110_23 rfl ?_
  refine mu_load mc_110_24 (by decide) rfl ?_
  have h1 := H.1
  replace H := H.2
  have h2 := H.1
  replace H := H.2
  refine mu_iald mc_110_25 rfl h1 h2 ?_
  refine mt_call (args := [mm_P 24, mm_I (D 28 (v2))]) (rest := [mm_I (v3)]) mc_110_26 (by decide) rfl rfl rfl ⟨by simp, rfl, by decide⟩ (mu_rcv (by decide) rfl (by decide)) H ?_
  rintro _ _ ⟨r6, D3, u4, x5, rfl, rfl, H⟩
  refine Or.inl ⟨_, rfl, ?_⟩
  refine mu_ic_gt mc_110_27 (fun c => ?_) (fun c => ?_)
  · replace H := H.1 c
    have h7 := H.1
    replace H := H.2
    refine mu_iinc mc_110_51 rfl h7 (ls' := [some (mm_P 24), some (mm_I (v1)), some (mm_I ((v2) + (1 : Int))), some (mm_I (v3))]) rfl ?_
    refine mu_rfl (n := 9) mc_110_52 (by decide) rfl rfl ?_
    exact H
  · replace H := H.2 c
    refine mu_aload (r := some (24)) mc_110_28 (by decide) rfl ?_
    refine mu_load mc_110_29 (by decide) rfl ?_
    refine mu_load mc_110_30 (by decide) rfl ?_
    refine mt_call (args := [mm_P 24, mm_I (v2), mm_I (v3)]) (rest := []) mc_110_31 (by decide) rfl rfl rfl ⟨by simp, rfl, by decide⟩ (mu_rcv (by decide) rfl (by decide)) H ?_
    rintro _ _ ⟨D8, u9, x10, rfl, rfl, H⟩
    refine Or.inl ⟨_, rfl, ?_⟩
    refine mu_load mc_110_32 (by decide) rfl ?_
    refine mu_aload (r := some (24)) mc_110_33 (by decide) rfl ?_
    refine mu_get mc_110_34 rfl ?_
    refine mu_if_ne mc_110_35 (fun c => ?_) (fun c => ?_)
    · replace H := H.1 c
      refine mu_const mc_110_44 (by decide) (by decide) ?_
      refine mu_rfl (n := 47) mc_110_45 (by decide) rfl rfl ?_
      have h12 := H.1
      replace H := H.2
      refine mu_iadd mc_110_47 h12 ?_
      refine mu_store mc_110_48 (by decide) (by simp) (ls' := [some (mm_P 24), some (mm_I ((v1) + ((1 : Int)))), some (mm_I (v2)), some (mm_I (v3))]) rfl ?_
      have h13 := H.1
      replace H := H.2
      refine mu_iinc mc_110_49 rfl h13 (ls' := [some (mm_P 24), some (mm_I ((v1) + ((1 : Int)))), some (mm_I (v2)), some (mm_I ((v3) + (1 : Int)))]) rfl ?_
      refine mu_rfl (n := 20) mc_110_50 (by decide) rfl rfl ?_
      exact H
    · replace H := H.2 c
      refine mu_aload (r := some (24)) mc_110_36 (by decide) rfl ?_
      refine mu_get mc_110_37 rfl ?_
      refine mu_aload (r := some (24)) mc_110_38 (by decide) rfl ?_
      refine mu_get mc_110_39 rfl ?_
      refine mu_const mc_110_40 (by decide) (by decide) ?_
      have h14 := H.1
      replace H := H.2
      refine mu_isub mc_110_41 h14 ?_
      refine mu_iand mc_110_42 ?_
      refine mu_if_eq mc_110_43 (fun c => ?_) (fun c => ?_)
      · replace H := H.1 c
        refine mu_const mc_110_46 (by decide) (by decide) ?_
        have h15 := H.1
        replace H := H.2
        refine mu_iadd mc_110_47 h15 ?_
        refine mu_store mc_110_48 (by decide) (by simp) (ls' := [some (mm_P 24), some (mm_I ((v1) + ((0 : Int)))), some (mm_I (v2)), some (mm_I (v3))]) rfl ?_
        have h16 := H.1
        replace H := H.2
        refine mu_iinc mc_110_49 rfl h16 (ls' := [some (mm_P 24), some (mm_I ((v1) + ((0 : Int)))), some (mm_I (v2)), some (mm_I ((v3) + (1 : Int)))]) rfl ?_
        refine mu_rfl (n := 20) mc_110_50 (by decide) rfl rfl ?_
        exact H
      · replace H := H.2 c
        refine mu_const mc_110_44 (by decide) (by decide) ?_
        refine mu_rfl (n := 47) mc_110_45 (by decide) rfl rfl ?_
        have h17 := H.1
        replace H := H.2
        refine mu_iadd mc_110_47 h17 ?_
        refine mu_store mc_110_48 (by decide) (by simp) (ls' := [some (mm_P 24), some (mm_I ((v1) + ((1 : Int)))), some (mm_I (v2)), some (mm_I (v3))]) rfl ?_
        have h18 := H.1
        replace H := H.2
        refine mu_iinc mc_110_49 rfl h18 (ls' := [some (mm_P 24), some (mm_I ((v1) + ((1 : Int)))), some (mm_I (v2)), some (mm_I ((v3) + (1 : Int)))]) rfl ?_
        refine mu_rfl (n := 20) mc_110_50 (by decide) rfl rfl ?_
        exact H

theorem q_X5_areLed_0 {D : mm_D} {u : Int} {x : Nat × (Nat × List Int)} {Q : mm_O → mm_H → Prop} (v1 : Int) (H : mt 111 6 [some (mm_P 24), some (mm_I (v1)), some (mm_I ((-1 : Int))), some (mm_I ((1 : Int))), some (mm_I ((0 : Int))), none, none] [] (mm_mk D u x) Q) : mt 111 0 [some (mm_P 24), some (mm_I (v1)), none, none, none, none, none] [] (mm_mk D u x) Q := by
  refine mu_const mc_111_0 (by decide) (by decide) ?_
  refine mu_store mc_111_1 (by decide) (by simp) (ls' := [some (mm_P 24), some (mm_I (v1)), some (mm_I ((-1 : Int))), none, none, none, none]) rfl ?_
  refine mu_const mc_111_2 (by decide) (by decide) ?_
  refine mu_store mc_111_3 (by decide) (by simp) (ls' := [some (mm_P 24), some (mm_I (v1)), some (mm_I ((-1 : Int))), some (mm_I ((1 : Int))), none, none, none]) rfl ?_
  refine mu_const mc_111_4 (by decide) (by decide) ?_
  refine mu_store mc_111_5 (by decide) (by simp) (ls' := [some (mm_P 24), some (mm_I (v1)), some (mm_I ((-1 : Int))), some (mm_I ((1 : Int))), some (mm_I ((0 : Int))), none, none]) rfl ?_
  exact H
theorem q_X5_areLed_6 {D : mm_D} {u : Int} {x : Nat × (Nat × List Int)} {Q : mm_O → mm_H → Prop} (v1 v2 v3 v4 : Int) (o5 o6 : Option mm_V) (H : (((D 24 3) ≤ (v4)) → ((v3) = 0 ∨ (v3) = 1) ∧ (Q (.inl (some (mm_I (v3)))) (mm_mk D u x))) ∧ (¬ ((D 24 3) ≤ (v4)) → mt 111 12 [some (mm_P 24), some (mm_I (v1)), some (mm_I (v2)), some (mm_I (v3)), some (mm_I (v4)), some (mm_I ((0 : Int))), o6] [] (mm_mk D u x) Q)) : mt 111 6 [some (mm_P 24), some (mm_I (v1)), some (mm_I (v2)), some (mm_I (v3)), some (mm_I (v4)), o5, o6] [] (mm_mk D u x) Q := by
  refine mu_load mc_111_6 (by decide) rfl ?_
  refine mu_aload (r := some (24)) mc_111_7 (by decide) rfl ?_
  refine mu_get mc_111_8 rfl ?_
  refine mu_ic_ge mc_111_9 (fun c => ?_) (fun c => ?_)
  · replace H := H.1 c
    refine mu_load mc_111_61 (by decide) rfl ?_
    have h1 := H.1
    replace H := H.2
    exact mt_retB mc_111_62 h1 H
  · replace H := H.2 c
    refine mu_const mc_111_10 (by decide) (by decide) ?_
    refine mu_store mc_111_11 (by decide) (by simp) (ls' := [some (mm_P 24), some (mm_I (v1)), some (mm_I (v2)), some (mm_I (v3)), some (mm_I (v4)), some (mm_I ((0 : Int))), o6]) rfl ?_
    exact H
theorem q_X5_areLed_12 {D : mm_D} {u : Int} {x : Nat × (Nat × List Int)} {Q : mm_O → mm_H → Prop} (v1 v2 v3 v4 v5 : Int) (o6 : Option mm_V) (H : (0 ≤ (v4)) ∧ (((v4) < 4) ∧ ((((D 26 (v4)) ≤ (v5)) → (mm_rng ((v4) + (1 : Int))) ∧ (mt 111 6 [some (mm_P 24), some (mm_I (v1)), some (mm_I (v2)), some (mm_I (v3)), some (mm_I ((v4) + (1 : Int))), some (mm_I (v5)), o6] [] (mm_mk D u x) Q)) ∧ (¬ ((D 26 (v4)) ≤ (v5)) → (((v3) = 0) → (mm_rng ((v4) + (1 : Int))) ∧ (mt 111 6 [some (mm_P 24), some (mm_I (v1)), some (mm_I (v2)), some (mm_I (v3)), some (mm_I ((v4) + (1 : Int))), some (mm_I (v5)), o6] [] (mm_mk D u x) Q)) ∧ (¬ ((v3) = 0) → mt 94 0 [some (mm_P 24), some (mm_I ((0 : Int))), some (mm_I (v4)), some (mm_I (v5)), none, none] [] (mm_mk D u x) (mm_pI fun r8 D5 u6 x7 => (((r8) = 0) → (mm_rng ((v5) + (1 : Int))) ∧ (mt 111 12 [some (mm_P 24), some (mm_I (v1)), some (mm_I (v2)), some (mm_I (v3)), some (mm_I (v4)), some (mm_I ((v5) + (1 : Int))), o6] [] (mm_mk D5 u6 x7) Q)) ∧ (¬ ((r8) = 0) → (((v1) ≤ (v5)) → (mm_rng (((100 : Int)) * (v4))) ∧ ((mm_rng ((((100 : Int)) * (v4)) + (v5))) ∧ ((mm_rng (((((100 : Int)) * (v4)) + (v5)) - (v1))) ∧ ((0 ≤ (((((100 : Int)) * (v4)) + (v5)) - (v1))) ∧ (((((((100 : Int)) * (v4)) + (v5)) - (v1)) < 400) ∧ ((((D5 25 (((((100 : Int)) * (v4)) + (v5)) - (v1))) = ((-1 : Int))) → (mm_rng ((v5) + (1 : Int))) ∧ (mt 111 12 [some (mm_P 24), some (mm_I (v1)), some (mm_I (D5 25 (((((100 : Int)) * (v4)) + (v5)) - (v1)))), some (mm_I ((0 : Int))), some (mm_I (v4)), some (mm_I ((v5) + (1 : Int))), some (mm_I (D5 25 (((((100 : Int)) * (v4)) + (v5)) - (v1))))] [] (mm_mk D5 u6 x7) Q)) ∧ (¬ ((D5 25 (((((100 : Int)) * (v4)) + (v5)) - (v1))) = ((-1 : Int))) → (((v2) = ((-1 : Int))) → (mm_rng ((v5) + (1 : Int))) ∧ (mt 111 12 [some (mm_P 24), some (mm_I (v1)), some (mm_I (D5 25 (((((100 : Int)) * (v4)) + (v5)) - (v1)))), some (mm_I ((1 : Int))), some (mm_I (v4)), some (mm_I ((v5) + (1 : Int))), some (mm_I (D5 25 (((((100 : Int)) * (v4)) + (v5)) - (v1))))] [] (mm_mk D5 u6 x7) Q)) ∧ (¬ ((v2) = ((-1 : Int))) → ((¬ (D5 25 (((((100 : Int)) * (v4)) + (v5)) - (v1))) = (v2)) → (mm_rng ((v5) + (1 : Int))) ∧ (mt 111 12 [some (mm_P 24), some (mm_I (v1)), some (mm_I (D5 25 (((((100 : Int)) * (v4)) + (v5)) - (v1)))), some (mm_I ((0 : Int))), some (mm_I (v4)), some (mm_I ((v5) + (1 : Int))), some (mm_I (D5 25 (((((100 : Int)) * (v4)) + (v5)) - (v1))))] [] (mm_mk D5 u6 x7) Q)) ∧ (¬ (¬ (D5 25 (((((100 : Int)) * (v4)) + (v5)) - (v1))) = (v2)) → (mm_rng ((v5) + (1 : Int))) ∧ (mt 111 12 [some (mm_P 24), some (mm_I (v1)), some (mm_I (D5 25 (((((100 : Int)) * (v4)) + (v5)) - (v1)))), some (mm_I ((1 : Int))), some (mm_I (v4)), some (mm_I ((v5) + (1 : Int))), some (mm_I (D5 25 (((((100 : Int)) * (v4)) + (v5)) - (v1))))] [] (mm_mk D5 u6 x7) Q)))))))))) ∧ (¬ ((v1) ≤ (v5)) → (mm_rng ((v5) + (1 : Int))) ∧ (mt 111 12 [some (mm_P 24), some (mm_I (v1)), some (mm_I ((-1 : Int))), some (mm_I ((0 : Int))), some (mm_I (v4)), some (mm_I ((v5) + (1 : Int))), some (mm_I ((-1 : Int)))] [] (mm_mk D5 u6 x7) Q))))))))) : mt 111 12 [some (mm_P 24), some (mm_I (v1)), some (mm_I (v2)), some (mm_I (v3)), some (mm_I (v4)), some (mm_I (v5)), o6] [] (mm_mk D u x) Q := by
  refine mu_load mc_111_12 (by decide) rfl ?_
  refine mu_aload (r := some (24)) mc_111_13 (by decide) rfl ?_
  refine mu_get mc_111_14 rfl ?_
  refine mu_load mc_111_15 (by decide) rfl ?_
  have h1 := H.1
  replace H := H.2
  have h2 := H.1
  replace H := H.2
  refine mu_iald mc_111_16 rfl h1 h2 ?_
  refine mu_ic_ge mc_111_17 (fun c => ?_) (fun c => ?_)
  · replace H := H.1 c
    have h3 := H.1
    replace H := H.2
    refine mu_iinc mc_111_59 rfl h3 (ls' := [some (mm_P 24), some (mm_I (v1)), some (mm_I (v2)), some (mm_I (v3)), some (mm_I ((v4) + (1 : Int))), some (mm_I (v5)), o6]) rfl ?_
    refine mu_rfl (n := 6) mc_111_60 (by decide) rfl rfl ?_
    exact H
  · replace H := H.2 c
    refine mu_load mc_111_18 (by decide) rfl ?_
    refine mu_if_eq mc_111_19 (fun c => ?_) (fun c => ?_)
    · replace H := H.1 c
      have h4 := H.1
      replace H := H.2
      refine mu_iinc mc_111_59 rfl h4 (ls' := [some (mm_P 24), some (mm_I (v1)), some (mm_I (v2)), some (mm_I (v3)), some (mm_I ((v4) + (1 : Int))), some (mm_I (v5)), o6]) rfl ?_
      refine mu_rfl (n := 6) mc_111_60 (by decide) rfl rfl ?_
      exact H
    · replace H := H.2 c
      refine mu_aload (r := some (24)) mc_111_20 (by decide) rfl ?_
      refine mu_const mc_111_21 (by decide) (by decide) ?_
      refine mu_load mc_111_22 (by decide) rfl ?_
      refine mu_load mc_111_23 (by decide) rfl ?_
      refine mt_call (args := [mm_P 24, mm_I ((0 : Int)), mm_I (v4), mm_I (v5)]) (rest := []) mc_111_24 (by decide) rfl rfl rfl ⟨by simp, rfl, by decide⟩ (mu_rcv (by decide) rfl (by decide)) H ?_
      rintro _ _ ⟨r8, D5, u6, x7, rfl, rfl, H⟩
      refine Or.inl ⟨_, rfl, ?_⟩
      refine mu_if_eq mc_111_25 (fun c => ?_) (fun c => ?_)
      · replace H := H.1 c
        have h9 := H.1
        replace H := H.2
        refine mu_iinc mc_111_57 rfl h9 (ls' := [some (mm_P 24), some (mm_I (v1)), some (mm_I (v2)), some (mm_I (v3)), some (mm_I (v4)), some (mm_I ((v5) + (1 : Int))), o6]) rfl ?_
        refine mu_rfl (n := 12) mc_111_58 (by decide) rfl rfl ?_
        exact H
      · replace H := H.2 c
        refine mu_load mc_111_26 (by decide) rfl ?_
        refine mu_load mc_111_27 (by decide) rfl ?_
        refine mu_ic_ge mc_111_28 (fun c => ?_) (fun c => ?_)
        · replace H := H.1 c
          refine mu_aload (r := some (24)) mc_111_31 (by decide) rfl ?_
          refine mu_get mc_111_32 rfl ?_
          refine mu_const mc_111_33 (by decide) (by decide) ?_
          refine mu_load mc_111_34 (by decide) rfl ?_
          have h10 := H.1
          replace H := H.2
          refine mu_imul mc_111_35 h10 ?_
          refine mu_load mc_111_36 (by decide) rfl ?_
          have h11 := H.1
          replace H := H.2
          refine mu_iadd mc_111_37 h11 ?_
          refine mu_load mc_111_38 (by decide) rfl ?_
          have h12 := H.1
          replace H := H.2
          refine mu_isub mc_111_39 h12 ?_
          have h13 := H.1
          replace H := H.2
          have h14 := H.1
          replace H := H.2
          refine mu_iald mc_111_40 rfl h13 h14 ?_
          refine mu_store mc_111_41 (by decide) (by simp) (ls' := [some (mm_P 24), some (mm_I (v1)), some (mm_I (v2)), some (mm_I (v3)), some (mm_I (v4)), some (mm_I (v5)), some (mm_I (D5 25 (((((100 : Int)) * (v4)) + (v5)) - (v1))))]) rfl ?_
          refine mu_load mc_111_42 (by decide) rfl ?_
          refine mu_const mc_111_43 (by decide) (by decide) ?_
          refine mu_ic_eq mc_111_44 (fun c => ?_) (fun c => ?_)
          · replace H := H.1 c
            refine mu_const mc_111_53 (by decide) (by decide) ?_
            refine mu_store mc_111_54 (by decide) (by simp) (ls' := [some (mm_P 24), some (mm_I (v1)), some (mm_I (v2)), some (mm_I ((0 : Int))), some (mm_I (v4)), some (mm_I (v5)), some (mm_I (D5 25 (((((100 : Int)) * (v4)) + (v5)) - (v1))))]) rfl ?_
            refine mu_load mc_111_55 (by decide) rfl ?_
            refine mu_store mc_111_56 (by decide) (by simp) (ls' := [some (mm_P 24), some (mm_I (v1)), some (mm_I (D5 25 (((((100 : Int)) * (v4)) + (v5)) - (v1)))), some (mm_I ((0 : Int))), some (mm_I (v4)), some (mm_I (v5)), some (mm_I (D5 25 (((((100 : Int)) * (v4)) + (v5)) - (v1))))]) rfl ?_
            have h15 := H.1
            replace H := H.2
            refine mu_iinc mc_111_57 rfl h15 (ls' := [some (mm_P 24), some (mm_I (v1)), some (mm_I (D5 25 (((((100 : Int)) * (v4)) + (v5)) - (v1)))), some (mm_I ((0 : Int))), some (mm_I (v4)), some (mm_I ((v5) + (1 : Int))), some (mm_I (D5 25 (((((100 : Int)) * (v4)) + (v5)) - (v1))))]) rfl ?_
            refine mu_rfl (n := 12) mc_111_58 (by decide) rfl rfl ?_
            exact H
          · replace H := H.2 c
            refine mu_load mc_111_45 (by decide) rfl ?_
            refine mu_const mc_111_46 (by decide) (by decide) ?_
            refine mu_ic_eq mc_111_47 (fun c => ?_) (fun c => ?_)
            · replace H := H.1 c
              refine mu_const mc_111_51 (by decide) (by decide) ?_
              refine mu_rfl (n := 54) mc_111_52 (by decide) rfl rfl ?_
              refine mu_store mc_111_54 (by decide) (by simp) (ls' := [some (mm_P 24), some (mm_I (v1)), some (mm_I (v2)), some (mm_I ((1 : Int))), some (mm_I (v4)), some (mm_I (v5)), some (mm_I (D5 25 (((((100 : Int)) * (v4)) + (v5)) - (v1))))]) rfl ?_
              refine mu_load mc_111_55 (by decide) rfl ?_
              refine mu_store mc_111_56 (by decide) (by simp) (ls' := [some (mm_P 24), some (mm_I (v1)), some (mm_I (D5 25 (((((100 : Int)) * (v4)) + (v5)) - (v1)))), some (mm_I ((1 : Int))), some (mm_I (v4)), some (mm_I (v5)), some (mm_I (D5 25 (((((100 : Int)) * (v4)) + (v5)) - (v1))))]) rfl ?_
              have h16 := H.1
              replace H := H.2
              refine mu_iinc mc_111_57 rfl h16 (ls' := [some (mm_P 24), some (mm_I (v1)), some (mm_I (D5 25 (((((100 : Int)) * (v4)) + (v5)) - (v1)))), some (mm_I ((1 : Int))), some (mm_I (v4)), some (mm_I ((v5) + (1 : Int))), some (mm_I (D5 25 (((((100 : Int)) * (v4)) + (v5)) - (v1))))]) rfl ?_
              refine mu_rfl (n := 12) mc_111_58 (by decide) rfl rfl ?_
              exact H
            · replace H := H.2 c
              refine mu_load mc_111_48 (by decide) rfl ?_
              refine mu_load mc_111_49 (by decide) rfl ?_
              refine mu_ic_ne mc_111_50 (fun c => ?_) (fun c => ?_)
              · replace H := H.1 c
                refine mu_const mc_111_53 (by decide) (by decide) ?_
                refine mu_store mc_111_54 (by decide) (by simp) (ls' := [some (mm_P 24), some (mm_I (v1)), some (mm_I (v2)), some (mm_I ((0 : Int))), some (mm_I (v4)), some (mm_I (v5)), some (mm_I (D5 25 (((((100 : Int)) * (v4)) + (v5)) - (v1))))]) rfl ?_
                refine mu_load mc_111_55 (by decide) rfl ?_
                refine mu_store mc_111_56 (by decide) (by simp) (ls' := [some (mm_P 24), some (mm_I (v1)), some (mm_I (D5 25 (((((100 : Int)) * (v4)) + (v5)) - (v1)))), some (mm_I ((0 : Int))), some (mm_I (v4)), some (mm_I (v5)), some (mm_I (D5 25 (((((100 : Int)) * (v4)) + (v5)) - (v1))))]) rfl ?_
                have h17 := H.1
                replace H := H.2
                refine mu_iinc mc_111_57 rfl h17 (ls' := [some (mm_P 24), some (mm_I (v1)), some (mm_I (D5 25 (((((100 : Int)) * (v4)) + (v5)) - (v1)))), some (mm_I ((0 : Int))), some (mm_I (v4)), some (mm_I ((v5) + (1 : Int))), some (mm_I (D5 25 (((((100 : Int)) * (v4)) + (v5)) - (v1))))]) rfl ?_
                refine mu_rfl (n := 12) mc_111_58 (by decide) rfl rfl ?_
                exact H
              · replace H := H.2 c
                refine mu_const mc_111_51 (by decide) (by decide) ?_
                refine mu_rfl (n := 54) mc_111_52 (by decide) rfl rfl ?_
                refine mu_store mc_111_54 (by decide) (by simp) (ls' := [some (mm_P 24), some (mm_I (v1)), some (mm_I (v2)), some (mm_I ((1 : Int))), some (mm_I (v4)), some (mm_I (v5)), some (mm_I (D5 25 (((((100 : Int)) * (v4)) + (v5)) - (v1))))]) rfl ?_
                refine mu_load mc_111_55 (by decide) rfl ?_
                refine mu_store mc_111_56 (by decide) (by simp) (ls' := [some (mm_P 24), some (mm_I (v1)), some (mm_I (D5 25 (((((100 : Int)) * (v4)) + (v5)) - (v1)))), some (mm_I ((1 : Int))), some (mm_I (v4)), some (mm_I (v5)), some (mm_I (D5 25 (((((100 : Int)) * (v4)) + (v5)) - (v1))))]) rfl ?_
                have h18 := H.1
                replace H := H.2
                refine mu_iinc mc_111_57 rfl h18 (ls' := [some (mm_P 24), some (mm_I (v1)), some (mm_I (D5 25 (((((100 : Int)) * (v4)) + (v5)) - (v1)))), some (mm_I ((1 : Int))), some (mm_I (v4)), some (mm_I ((v5) + (1 : Int))), some (mm_I (D5 25 (((((100 : Int)) * (v4)) + (v5)) - (v1))))]) rfl ?_
                refine mu_rfl (n := 12) mc_111_58 (by decide) rfl rfl ?_
                exact H
        · replace H := H.2 c
          refine mu_const mc_111_29 (by decide) (by decide) ?_
          refine mu_rfl (n := 41) mc_111_30 (by decide) rfl rfl ?_
          refine mu_store mc_111_41 (by decide) (by simp) (ls' := [some (mm_P 24), some (mm_I (v1)), some (mm_I (v2)), some (mm_I (v3)), some (mm_I (v4)), some (mm_I (v5)), some (mm_I ((-1 : Int)))]) rfl ?_
          refine mu_load mc_111_42 (by decide) rfl ?_
          refine mu_const mc_111_43 (by decide) (by decide) ?_
          refine mu_ic_eq mc_111_44 (fun _ => ?_) (fun c => absurd (by decide) c)
          refine mu_const mc_111_53 (by decide) (by decide) ?_
          refine mu_store mc_111_54 (by decide) (by simp) (ls' := [some (mm_P 24), some (mm_I (v1)), some (mm_I (v2)), some (mm_I ((0 : Int))), some (mm_I (v4)), some (mm_I (v5)), some (mm_I ((-1 : Int)))]) rfl ?_
          refine mu_load mc_111_55 (by decide) rfl ?_
          refine mu_store mc_111_56 (by decide) (by simp) (ls' := [some (mm_P 24), some (mm_I (v1)), some (mm_I ((-1 : Int))), some (mm_I ((0 : Int))), some (mm_I (v4)), some (mm_I (v5)), some (mm_I ((-1 : Int)))]) rfl ?_
          have h19 := H.1
          replace H := H.2
          refine mu_iinc mc_111_57 rfl h19 (ls' := [some (mm_P 24), some (mm_I (v1)), some (mm_I ((-1 : Int))), some (mm_I ((0 : Int))), some (mm_I (v4)), some (mm_I ((v5) + (1 : Int))), some (mm_I ((-1 : Int)))]) rfl ?_
          refine mu_rfl (n := 12) mc_111_58 (by decide) rfl rfl ?_
          exact H

theorem q_X5_longestAlike_0 {D : mm_D} {u : Int} {x : Nat × (Nat × List Int)} {Q : mm_O → mm_H → Prop} (H : ∀ D1 : mm_D, D1 = mm_wr D 24 0 ((0 : Int)) → (mt 96 0 [some (mm_P 24), some (mm_I ((0 : Int))), none, none] [] (mm_mk D1 u x) (mm_pI fun r5 D2 u3 x4 => ((¬ (r5) = 0) → mt 112 11 [some (mm_P 24), some (mm_I ((0 : Int)))] [] (mm_mk D2 u3 x4) Q) ∧ (¬ (¬ (r5) = 0) → Q (.inl (some (mm_I ((-1 : Int))))) (mm_mk D2 u3 x4))))) : mt 112 0 [some (mm_P 24), none] [] (mm_mk D u x) Q := by
  refine mu_aload (r := some (24)) mc_112_0 (by decide) rfl ?_
  refine mu_const mc_112_1 (by decide) (by decide) ?_
  refine mu_put mc_112_2 (by decide) (Or.inl rfl) ?_
  obtain ⟨D1, eD1⟩ : ∃ z, z = mm_wr D 24 0 ((0 : Int)) := ⟨_, rfl⟩
  replace H := H D1 eD1
  show mt _ _ _ _ (mm_mk (mm_wr D 24 0 ((0 : Int))) _ _) _
  rw [← eD1]
  refine mu_aload (r := some (24)) mc_112_3 (by decide) rfl ?_
  refine mu_const mc_112_4 (by decide) (by decide) ?_
  refine mt_call (args := [mm_P 24, mm_I ((0 : Int))]) (rest := []) mc_112_5 (by decide) rfl rfl rfl ⟨by simp, rfl, by decide⟩ (mu_rcv (by decide) rfl (by decide)) H ?_
  rintro _ _ ⟨r5, D2, u3, x4, rfl, rfl, H⟩
  refine Or.inl ⟨_, rfl, ?_⟩
  refine mu_if_ne mc_112_6 (fun c => ?_) (fun c => ?_)
  · replace H := H.1 c
    refine mu_const mc_112_9 (by decide) (by decide) ?_
    refine mu_store mc_112_10 (by decide) (by simp) (ls' := [some (mm_P 24), some (mm_I ((0 : Int)))]) rfl ?_
    exact H
  · replace H := H.2 c
    refine mu_const mc_112_7 (by decide) (by decide) ?_
    exact mt_ret mc_112_8 H
theorem q_X5_longestAlike_11 {D : mm_D} {u : Int} {x : Nat × (Nat × List Int)} {Q : mm_O → mm_H → Prop} (v1 : Int) (H : (mm_rng ((v1) + ((1 : Int)))) ∧ (mt 111 0 [some (mm_P 24), some (mm_I ((v1) + ((1 : Int)))), none, none, none, none, none] [] (mm_mk D u x) (mm_pI fun r5 D2 u3 x4 => (((r5) = 0) → (mm_rng ((D2 24 6) + (v1))) ∧ (Q (.inl (some (mm_I ((D2 24 6) + (v1))))) (mm_mk D2 u3 x4))) ∧ (¬ ((r5) = 0) → (mm_rng ((v1) + (1 : Int))) ∧ (mt 112 11 [some (mm_P 24), some (mm_I ((v1) + (1 : Int)))] [] (mm_mk D2 u3 x4) Q))))) : mt 112 11 [some (mm_P 24), some (mm_I (v1))] [] (mm_mk D u x) Q := by
  refine mu_aload (r := some (24)) mc_112_11 (by decide) rfl ?_
  refine mu_load mc_112_12 (by decide) rfl ?_
  refine mu_const mc_112_13 (by decide) (by decide) ?_
  have h1 := H.1
  replace H := H.2
  refine mu_iadd mc_112_14 h1 ?_
  refine mt_call (args := [mm_P 24, mm_I ((v1) + ((1 : Int)))]) (rest := []) mc_112_15 (by decide) rfl rfl rfl ⟨by simp, rfl, by decide⟩ (mu_rcv (by decide) rfl (by decide)) H ?_
  rintro _ _ ⟨r5, D2, u3, x4, rfl, rfl, H⟩
  refine Or.inl ⟨_, rfl, ?_⟩
  refine mu_if_eq mc_112_16 (fun c => ?_) (fun c => ?_)
  · replace H := H.1 c
    refine mu_aload (r := some (24)) mc_112_19 (by decide) rfl ?_
    refine mu_get mc_112_20 rfl ?_
    refine mu_load mc_112_21 (by decide) rfl ?_
    have h6 := H.1
    replace H := H.2
    refine mu_iadd mc_112_22 h6 ?_
    exact mt_ret mc_112_23 H
  · replace H := H.2 c
    have h7 := H.1
    replace H := H.2
    refine mu_iinc mc_112_17 rfl h7 (ls' := [some (mm_P 24), some (mm_I ((v1) + (1 : Int)))]) rfl ?_
    refine mu_rfl (n := 11) mc_112_18 (by decide) rfl rfl ?_
    exact H

theorem q_X5_shortestAlike_0 {D : mm_D} {u : Int} {x : Nat × (Nat × List Int)} {Q : mm_O → mm_H → Prop} (H : ∀ D1 : mm_D, D1 = mm_wr D 24 0 ((0 : Int)) → (mt 96 0 [some (mm_P 24), some (mm_I ((0 : Int))), none, none] [] (mm_mk D1 u x) (mm_pI fun r5 D2 u3 x4 => ((¬ (r5) = 0) → mt 113 13 [some (mm_P 24), some (mm_I (r5)), some (mm_I ((0 : Int)))] [] (mm_mk D2 u3 x4) Q) ∧ (¬ (¬ (r5) = 0) → Q (.inl (some (mm_I ((-1 : Int))))) (mm_mk D2 u3 x4))))) : mt 113 0 [some (mm_P 24), none, none] [] (mm_mk D u x) Q := by
  refine mu_aload (r := some (24)) mc_113_0 (by decide) rfl ?_
  refine mu_const mc_113_1 (by decide) (by decide) ?_
  refine mu_put mc_113_2 (by decide) (Or.inl rfl) ?_
  obtain ⟨D1, eD1⟩ : ∃ z, z = mm_wr D 24 0 ((0 : Int)) := ⟨_, rfl⟩
  replace H := H D1 eD1
  show mt _ _ _ _ (mm_mk (mm_wr D 24 0 ((0 : Int))) _ _) _
  rw [← eD1]
  refine mu_aload (r := some (24)) mc_113_3 (by decide) rfl ?_
  refine mu_const mc_113_4 (by decide) (by decide) ?_
  refine mt_call (args := [mm_P 24, mm_I ((0 : Int))]) (rest := []) mc_113_5 (by decide) rfl rfl rfl ⟨by simp, rfl, by decide⟩ (mu_rcv (by decide) rfl (by decide)) H ?_
  rintro _ _ ⟨r5, D2, u3, x4, rfl, rfl, H⟩
  refine Or.inl ⟨_, rfl, ?_⟩
  refine mu_store mc_113_6 (by decide) (by simp) (ls' := [some (mm_P 24), some (mm_I (r5)), none]) rfl ?_
  refine mu_load mc_113_7 (by decide) rfl ?_
  refine mu_if_ne mc_113_8 (fun c => ?_) (fun c => ?_)
  · replace H := H.1 c
    refine mu_const mc_113_11 (by decide) (by decide) ?_
    refine mu_store mc_113_12 (by decide) (by simp) (ls' := [some (mm_P 24), some (mm_I (r5)), some (mm_I ((0 : Int)))]) rfl ?_
    exact H
  · replace H := H.2 c
    refine mu_const mc_113_9 (by decide) (by decide) ?_
    exact mt_ret mc_113_10 H
theorem q_X5_shortestAlike_13 {D : mm_D} {u : Int} {x : Nat × (Nat × List Int)} {Q : mm_O → mm_H → Prop} (v1 v2 : Int) (H : (mm_rng ((v2) + ((1 : Int)))) ∧ ((((D 24 6) ≤ ((v2) + ((1 : Int)))) → (mm_rng ((D 24 6) - (v2))) ∧ (Q (.inl (some (mm_I ((D 24 6) - (v2))))) (mm_mk D u x))) ∧ (¬ ((D 24 6) ≤ ((v2) + ((1 : Int)))) → (mm_rng ((v2) + ((1 : Int)))) ∧ (mt 96 0 [some (mm_P 24), some (mm_I ((v2) + ((1 : Int)))), none, none] [] (mm_mk D u x) (mm_pI fun r7 D4 u5 x6 => ((¬ (r7) = (v1)) → (mm_rng ((D4 24 6) - (v2))) ∧ (Q (.inl (some (mm_I ((D4 24 6) - (v2))))) (mm_mk D4 u5 x6))) ∧ (¬ (¬ (r7) = (v1)) → (mm_rng ((v2) + (1 : Int))) ∧ (mt 113 13 [some (mm_P 24), some (mm_I (v1)), some (mm_I ((v2) + (1 : Int)))] [] (mm_mk D4 u5 x6) Q))))))) : mt 113 13 [some (mm_P 24), some (mm_I (v1)), some (mm_I (v2))] [] (mm_mk D u x) Q := by
  refine mu_load mc_113_13 (by decide) rfl ?_
  refine mu_const mc_113_14 (by decide) (by decide) ?_
  have h1 := H.1
  replace H := H.2
  refine mu_iadd mc_113_15 h1 ?_
  refine mu_aload (r := some (24)) mc_113_16 (by decide) rfl ?_
  refine mu_get mc_113_17 rfl ?_
  refine mu_ic_ge mc_113_18 (fun c => ?_) (fun c => ?_)
  · replace H := H.1 c
    refine mu_aload (r := some (24)) mc_113_28 (by decide) rfl ?_
    refine mu_get mc_113_29 rfl ?_
    refine mu_load mc_113_30 (by decide) rfl ?_
    have h2 := H.1
    replace H := H.2
    refine mu_isub mc_113_31 h2 ?_
    exact mt_ret mc_113_32 H
  · replace H := H.2 c
    refine mu_aload (r := some (24)) mc_113_19 (by decide) rfl ?_
    refine mu_load mc_113_20 (by decide) rfl ?_
    refine mu_const mc_113_21 (by decide) (by decide) ?_
    have h3 := H.1
    replace H := H.2
    refine mu_iadd mc_113_22 h3 ?_
    refine mt_call (args := [mm_P 24, mm_I ((v2) + ((1 : Int)))]) (rest := []) mc_113_23 (by decide) rfl rfl rfl ⟨by simp, rfl, by decide⟩ (mu_rcv (by decide) rfl (by decide)) H ?_
    rintro _ _ ⟨r7, D4, u5, x6, rfl, rfl, H⟩
    refine Or.inl ⟨_, rfl, ?_⟩
    refine mu_load mc_113_24 (by decide) rfl ?_
    refine mu_ic_ne mc_113_25 (fun c => ?_) (fun c => ?_)
    · replace H := H.1 c
      refine mu_aload (r := some (24)) mc_113_28 (by decide) rfl ?_
      refine mu_get mc_113_29 rfl ?_
      refine mu_load mc_113_30 (by decide) rfl ?_
      have h8 := H.1
      replace H := H.2
      refine mu_isub mc_113_31 h8 ?_
      exact mt_ret mc_113_32 H
    · replace H := H.2 c
      have h9 := H.1
      replace H := H.2
      refine mu_iinc mc_113_26 rfl h9 (ls' := [some (mm_P 24), some (mm_I (v1)), some (mm_I ((v2) + (1 : Int)))]) rfl ?_
      refine mu_rfl (n := 13) mc_113_27 (by decide) rfl rfl ?_
      exact H

theorem q_X5_partsNow_0 {D : mm_D} {u : Int} {x : Nat × (Nat × List Int)} {Q : mm_O → mm_H → Prop} (H : mt 108 0 [some (mm_P 24), none, none, none, none] [] (mm_mk D u x) (mm_pV fun D1 u2 x3 => mt 114 6 [some (mm_P 24), some (mm_I ((0 : Int))), some (mm_I ((0 : Int)))] [] (mm_mk D1 u2 x3) Q)) : mt 114 0 [some (mm_P 24), none, none] [] (mm_mk D u x) Q := by
  refine mu_aload (r := some (24)) mc_114_0 (by decide) rfl ?_
  refine mt_call (args := [mm_P 24]) (rest := []) mc_114_1 (by decide) rfl rfl rfl ⟨by simp, rfl, by decide⟩ (mu_rcv (by decide) rfl (by decide)) H ?_
  rintro _ _ ⟨D1, u2, x3, rfl, rfl, H⟩
  refine Or.inl ⟨_, rfl, ?_⟩
  refine mu_const mc_114_2 (by decide) (by decide) ?_
  refine mu_store mc_114_3 (by decide) (by simp) (ls' := [some (mm_P 24), some (mm_I ((0 : Int))), none]) rfl ?_
  refine mu_const mc_114_4 (by decide) (by decide) ?_
  refine mu_store mc_114_5 (by decide) (by simp) (ls' := [some (mm_P 24), some (mm_I ((0 : Int))), some (mm_I ((0 : Int)))]) rfl ?_
  exact H
theorem q_X5_partsNow_6 {D : mm_D} {u : Int} {x : Nat × (Nat × List Int)} {Q : mm_O → mm_H → Prop} (v1 v2 : Int) (H : (((D 24 4) ≤ (v2)) → Q (.inl (some (mm_I (v1)))) (mm_mk D u x)) ∧ (¬ ((D 24 4) ≤ (v2)) → (0 ≤ (v2)) ∧ (((v2) < 100) ∧ (mt 105 0 [some (mm_P 24), some (mm_I (D 28 (v2)))] [] (mm_mk D u x) (mm_pI fun r6 D3 u4 x5 => (0 ≤ (v2)) ∧ (((v2) < 100) ∧ ((mm_rng ((r6) - (D3 29 (v2)))) ∧ ((mm_rng ((v1) + ((r6) - (D3 29 (v2))))) ∧ ((mm_rng ((v2) + (1 : Int))) ∧ (mt 114 6 [some (mm_P 24), some (mm_I ((v1) + ((r6) - (D3 29 (v2))))), some (mm_I ((v2) + (1 : Int)))] [] (mm_mk D3 u4 x5) Q)))))))))) : mt 114 6 [some (mm_P 24), some (mm_I (v1)), some (mm_I (v2))] [] (mm_mk D u x) Q := by
  refine mu_load mc_114_6 (by decide) rfl ?_
  refine mu_aload (r := some (24)) mc_114_7 (by decide) rfl ?_
  refine mu_get mc_114_8 rfl ?_
  refine mu_ic_ge mc_114_9 (fun c => ?_) (fun c => ?_)
  · replace H := H.1 c
    refine mu_load mc_114_26 (by decide) rfl ?_
    exact mt_ret mc_114_27 H
  · replace H := H.2 c
    refine mu_load mc_114_10 (by decide) rfl ?_
    refine mu_aload (r := some (24)) mc_114_11 (by decide) rfl ?_
    refine mu_aload (r := some (24)) mc_114_12 (by decide) rfl ?_
    refine mu_get mc_114_13 rfl ?_
    refine mu_load mc_114_14 (by decide) rfl ?_
    have h1 := H.1
    replace H := H.2
    have h2 := H.1
    replace H := H.2
    refine mu_iald mc_114_15 rfl h1 h2 ?_
    refine mt_call (args := [mm_P 24, mm_I (D 28 (v2))]) (rest := [mm_I (v1)]) mc_114_16 (by decide) rfl rfl rfl ⟨by simp, rfl, by decide⟩ (mu_rcv (by decide) rfl (by decide)) H ?_
    rintro _ _ ⟨r6, D3, u4, x5, rfl, rfl, H⟩
    refine Or.inl ⟨_, rfl, ?_⟩
    refine mu_aload (r := some (24)) mc_114_17 (by decide) rfl ?_
    refine mu_get mc_114_18 rfl ?_
    refine mu_load mc_114_19 (by decide) rfl ?_
    have h7 := H.1
    replace H := H.2
    have h8 := H.1
    replace H := H.2
    refine mu_iald mc_114_20 rfl h7 h8 ?_
    have h9 := H.1
    replace H := H.2
    refine mu_isub mc_114_21 h9 ?_
    have h10 := H.1
    replace H := H.2
    refine mu_iadd mc_114_22 h10 ?_
    refine mu_store mc_114_23 (by decide) (by simp) (ls' := [some (mm_P 24), some (mm_I ((v1) + ((r6) - (D3 29 (v2))))), some (mm_I (v2))]) rfl ?_
    have h11 := H.1
    replace H := H.2
    refine mu_iinc mc_114_24 rfl h11 (ls' := [some (mm_P 24), some (mm_I ((v1) + ((r6) - (D3 29 (v2))))), some (mm_I ((v2) + (1 : Int)))]) rfl ?_
    refine mu_rfl (n := 6) mc_114_25 (by decide) rfl rfl ?_
    exact H

theorem q_X5_parts_0 {D : mm_D} {u : Int} {x : Nat × (Nat × List Int)} {Q : mm_O → mm_H → Prop} (H : ∀ D1 : mm_D, D1 = mm_wr D 24 0 ((0 : Int)) → (mt 114 0 [some (mm_P 24), none, none] [] (mm_mk D1 u x) (mm_pI fun r5 D2 u3 x4 => Q (.inl (some (mm_I (r5)))) (mm_mk D2 u3 x4)))) : mt 115 0 [some (mm_P 24)] [] (mm_mk D u x) Q := by
  refine mu_aload (r := some (24)) mc_115_0 (by decide) rfl ?_
  refine mu_const mc_115_1 (by decide) (by decide) ?_
  refine mu_put mc_115_2 (by decide) (Or.inl rfl) ?_
  obtain ⟨D1, eD1⟩ : ∃ z, z = mm_wr D 24 0 ((0 : Int)) := ⟨_, rfl⟩
  replace H := H D1 eD1
  show mt _ _ _ _ (mm_mk (mm_wr D 24 0 ((0 : Int))) _ _) _
  rw [← eD1]
  refine mu_aload (r := some (24)) mc_115_3 (by decide) rfl ?_
  refine mt_call (args := [mm_P 24]) (rest := []) mc_115_4 (by decide) rfl rfl rfl ⟨by simp, rfl, by decide⟩ (mu_rcv (by decide) rfl (by decide)) H ?_
  rintro _ _ ⟨r5, D2, u3, x4, rfl, rfl, H⟩
  refine Or.inl ⟨_, rfl, ?_⟩
  exact mt_ret mc_115_5 H

theorem q_X5_agreed_0 {D : mm_D} {u : Int} {x : Nat × (Nat × List Int)} {Q : mm_O → mm_H → Prop} (v1 : Int) (H : mt 116 2 [some (mm_P 24), some (mm_I (v1)), some (mm_I ((0 : Int)))] [] (mm_mk D u x) Q) : mt 116 0 [some (mm_P 24), some (mm_I (v1)), none] [] (mm_mk D u x) Q := by
  refine mu_const mc_116_0 (by decide) (by decide) ?_
  refine mu_store mc_116_1 (by decide) (by simp) (ls' := [some (mm_P 24), some (mm_I (v1)), some (mm_I ((0 : Int)))]) rfl ?_
  exact H
theorem q_X5_agreed_2 {D : mm_D} {u : Int} {x : Nat × (Nat × List Int)} {Q : mm_O → mm_H → Prop} (v1 v2 : Int) (H : (((D 24 6) ≤ (v2)) → Q (.inl (some (mm_I (v2)))) (mm_mk D u x)) ∧ (¬ ((D 24 6) ≤ (v2)) → mt 105 0 [some (mm_P 24), some (mm_I (v1))] [] (mm_mk D u x) (mm_pI fun r4 D1 u2 x3 => (((r4) ≤ (v2)) → Q (.inl (some (mm_I (v2)))) (mm_mk D1 u2 x3)) ∧ (¬ ((r4) ≤ (v2)) → (mm_rng ((v1) + (v2))) ∧ ((0 ≤ ((v1) + (v2))) ∧ ((((v1) + (v2)) < 400) ∧ ((0 ≤ (v2)) ∧ (((v2) < 120) ∧ (((¬ (D1 25 ((v1) + (v2))) = (D1 27 (v2))) → Q (.inl (some (mm_I (v2)))) (mm_mk D1 u2 x3)) ∧ (¬ (¬ (D1 25 ((v1) + (v2))) = (D1 27 (v2))) → (mm_rng ((v2) + (1 : Int))) ∧ (mt 116 2 [some (mm_P 24), some (mm_I (v1)), some (mm_I ((v2) + (1 : Int)))] [] (mm_mk D1 u2 x3) Q))))))))))) : mt 116 2 [some (mm_P 24), some (mm_I (v1)), some (mm_I (v2))] [] (mm_mk D u x) Q := by
  refine mu_load mc_116_2 (by decide) rfl ?_
  refine mu_aload (r := some (24)) mc_116_3 (by decide) rfl ?_
  refine mu_get mc_116_4 rfl ?_
  refine mu_ic_ge mc_116_5 (fun c => ?_) (fun c => ?_)
  · replace H := H.1 c
    refine mu_load mc_116_24 (by decide) rfl ?_
    exact mt_ret mc_116_25 H
  · replace H := H.2 c
    refine mu_load mc_116_6 (by decide) rfl ?_
    refine mu_aload (r := some (24)) mc_116_7 (by decide) rfl ?_
    refine mu_load mc_116_8 (by decide) rfl ?_
    refine mt_call (args := [mm_P 24, mm_I (v1)]) (rest := [mm_I (v2)]) mc_116_9 (by decide) rfl rfl rfl ⟨by simp, rfl, by decide⟩ (mu_rcv (by decide) rfl (by decide)) H ?_
    rintro _ _ ⟨r4, D1, u2, x3, rfl, rfl, H⟩
    refine Or.inl ⟨_, rfl, ?_⟩
    refine mu_ic_ge mc_116_10 (fun c => ?_) (fun c => ?_)
    · replace H := H.1 c
      refine mu_load mc_116_24 (by decide) rfl ?_
      exact mt_ret mc_116_25 H
    · replace H := H.2 c
      refine mu_aload (r := some (24)) mc_116_11 (by decide) rfl ?_
      refine mu_get mc_116_12 rfl ?_
      refine mu_load mc_116_13 (by decide) rfl ?_
      refine mu_load mc_116_14 (by decide) rfl ?_
      have h5 := H.1
      replace H := H.2
      refine mu_iadd mc_116_15 h5 ?_
      have h6 := H.1
      replace H := H.2
      have h7 := H.1
      replace H := H.2
      refine mu_iald mc_116_16 rfl h6 h7 ?_
      refine mu_aload (r := some (24)) mc_116_17 (by decide) rfl ?_
      refine mu_get mc_116_18 rfl ?_
      refine mu_load mc_116_19 (by decide) rfl ?_
      have h8 := H.1
      replace H := H.2
      have h9 := H.1
      replace H := H.2
      refine mu_iald mc_116_20 rfl h8 h9 ?_
      refine mu_ic_ne mc_116_21 (fun c => ?_) (fun c => ?_)
      · replace H := H.1 c
        refine mu_load mc_116_24 (by decide) rfl ?_
        exact mt_ret mc_116_25 H
      · replace H := H.2 c
        have h10 := H.1
        replace H := H.2
        refine mu_iinc mc_116_22 rfl h10 (ls' := [some (mm_P 24), some (mm_I (v1)), some (mm_I ((v2) + (1 : Int)))]) rfl ?_
        refine mu_rfl (n := 2) mc_116_23 (by decide) rfl rfl ?_
        exact H

theorem q_X5_rank_0 {D : mm_D} {u : Int} {x : Nat × (Nat × List Int)} {Q : mm_O → mm_H → Prop} (H : ∀ D1 : mm_D, D1 = mm_wr D 24 0 ((0 : Int)) → (mt 108 0 [some (mm_P 24), none, none, none, none] [] (mm_mk D1 u x) (mm_pV fun D2 u3 x4 => mt 117 9 [some (mm_P 24), some (mm_I ((0 : Int))), some (mm_I ((0 : Int))), none, none] [] (mm_mk D2 u3 x4) Q))) : mt 117 0 [some (mm_P 24), none, none, none, none] [] (mm_mk D u x) Q := by
  refine mu_aload (r := some (24)) mc_117_0 (by decide) rfl ?_
  refine mu_const mc_117_1 (by decide) (by decide) ?_
  refine mu_put mc_117_2 (by decide) (Or.inl rfl) ?_
  obtain ⟨D1, eD1⟩ : ∃ z, z = mm_wr D 24 0 ((0 : Int)) := ⟨_, rfl⟩
  replace H := H D1 eD1
  show mt _ _ _ _ (mm_mk (mm_wr D 24 0 ((0 : Int))) _ _) _
  rw [← eD1]
  refine mu_aload (r := some (24)) mc_117_3 (by decide) rfl ?_
  refine mt_call (args := [mm_P 24]) (rest := []) mc_117_4 (by decide) rfl rfl rfl ⟨by simp, rfl, by decide⟩ (mu_rcv (by decide) rfl (by decide)) H ?_
  rintro _ _ ⟨D2, u3, x4, rfl, rfl, H⟩
  refine Or.inl ⟨_, rfl, ?_⟩
  refine mu_const mc_117_5 (by decide) (by decide) ?_
  refine mu_store mc_117_6 (by decide) (by simp) (ls' := [some (mm_P 24), some (mm_I ((0 : Int))), none, none, none]) rfl ?_
  refine mu_const mc_117_7 (by decide) (by decide) ?_
  refine mu_store mc_117_8 (by decide) (by simp) (ls' := [some (mm_P 24), some (mm_I ((0 : Int))), some (mm_I ((0 : Int))), none, none]) rfl ?_
  exact H
theorem q_X5_rank_9 {D : mm_D} {u : Int} {x : Nat × (Nat × List Int)} {Q : mm_O → mm_H → Prop} (v1 v2 : Int) (o3 o4 : Option mm_V) (H : (((D 24 4) ≤ (v2)) → Q (.inl (some (mm_I (v1)))) (mm_mk D u x)) ∧ (¬ ((D 24 4) ≤ (v2)) → (0 ≤ (v2)) ∧ (((v2) < 100) ∧ (mt 116 0 [some (mm_P 24), some (mm_I (D 28 (v2))), none] [] (mm_mk D u x) (mm_pI fun r6 D3 u4 x5 => ((¬ (r6) = (D3 24 6)) → (0 ≤ (v2)) ∧ (((v2) < 100) ∧ (mt 105 0 [some (mm_P 24), some (mm_I (D3 28 (v2)))] [] (mm_mk D3 u4 x5) (mm_pI fun r12 D9 u10 x11 => (((r12) ≤ (r6)) → (0 ≤ (v2)) ∧ (((v2) < 100) ∧ ((((r6) ≤ (D9 29 (v2))) → (mm_rng ((v1) + ((0 : Int)))) ∧ ((mm_rng ((v2) + (1 : Int))) ∧ (mt 117 9 [some (mm_P 24), some (mm_I ((v1) + ((0 : Int)))), some (mm_I ((v2) + (1 : Int))), some (mm_I (r6)), some (mm_I (r6))] [] (mm_mk D9 u10 x11) Q))) ∧ (¬ ((r6) ≤ (D9 29 (v2))) → (0 ≤ (v2)) ∧ (((v2) < 100) ∧ ((mm_rng ((r6) - (D9 29 (v2)))) ∧ ((mm_rng ((v1) + ((r6) - (D9 29 (v2))))) ∧ ((mm_rng ((v2) + (1 : Int))) ∧ (mt 117 9 [some (mm_P 24), some (mm_I ((v1) + ((r6) - (D9 29 (v2))))), some (mm_I ((v2) + (1 : Int))), some (mm_I (r6)), some (mm_I (r6))] [] (mm_mk D9 u10 x11) Q))))))))) ∧ (¬ ((r12) ≤ (r6)) → (0 ≤ (v2)) ∧ (((v2) < 100) ∧ ((mm_rng ((D9 28 (v2)) + (r6))) ∧ ((0 ≤ ((D9 28 (v2)) + (r6))) ∧ ((((D9 28 (v2)) + (r6)) < 400) ∧ ((0 ≤ (r6)) ∧ (((r6) < 120) ∧ ((((D9 27 (r6)) ≤ (D9 25 ((D9 28 (v2)) + (r6)))) → (0 ≤ (v2)) ∧ (((v2) < 100) ∧ ((((r6) ≤ (D9 29 (v2))) → (mm_rng ((v1) + ((0 : Int)))) ∧ ((mm_rng ((v2) + (1 : Int))) ∧ (mt 117 9 [some (mm_P 24), some (mm_I ((v1) + ((0 : Int)))), some (mm_I ((v2) + (1 : Int))), some (mm_I (r6)), some (mm_I (r6))] [] (mm_mk D9 u10 x11) Q))) ∧ (¬ ((r6) ≤ (D9 29 (v2))) → (0 ≤ (v2)) ∧ (((v2) < 100) ∧ ((mm_rng ((r6) - (D9 29 (v2)))) ∧ ((mm_rng ((v1) + ((r6) - (D9 29 (v2))))) ∧ ((mm_rng ((v2) + (1 : Int))) ∧ (mt 117 9 [some (mm_P 24), some (mm_I ((v1) + ((r6) - (D9 29 (v2))))), some (mm_I ((v2) + (1 : Int))), some (mm_I (r6)), some (mm_I (r6))] [] (mm_mk D9 u10 x11) Q))))))))) ∧ (¬ ((D9 27 (r6)) ≤ (D9 25 ((D9 28 (v2)) + (r6)))) → (0 ≤ (v2)) ∧ (((v2) < 100) ∧ (mt 105 0 [some (mm_P 24), some (mm_I (D9 28 (v2)))] [] (mm_mk D9 u10 x11) (mm_pI fun r43 D40 u41 x42 => (0 ≤ (v2)) ∧ (((v2) < 100) ∧ ((((r43) ≤ (D40 29 (v2))) → (mm_rng ((v1) + ((0 : Int)))) ∧ ((mm_rng ((v2) + (1 : Int))) ∧ (mt 117 9 [some (mm_P 24), some (mm_I ((v1) + ((0 : Int)))), some (mm_I ((v2) + (1 : Int))), some (mm_I (r6)), some (mm_I (r43))] [] (mm_mk D40 u41 x42) Q))) ∧ (¬ ((r43) ≤ (D40 29 (v2))) → (0 ≤ (v2)) ∧ (((v2) < 100) ∧ ((mm_rng ((r43) - (D40 29 (v2)))) ∧ ((mm_rng ((v1) + ((r43) - (D40 29 (v2))))) ∧ ((mm_rng ((v2) + (1 : Int))) ∧ (mt 117 9 [some (mm_P 24), some (mm_I ((v1) + ((r43) - (D40 29 (v2))))), some (mm_I ((v2) + (1 : Int))), some (mm_I (r6)), some (mm_I (r43))] [] (mm_mk D40 u41 x42) Q)))))))))))))))))))))))) ∧ (¬ (¬ (r6) = (D3 24 6)) → (mm_rng ((D3 24 6) - ((1 : Int)))) ∧ ((0 ≤ (v2)) ∧ (((v2) < 100) ∧ (((((D3 24 6) - ((1 : Int))) ≤ (D3 29 (v2))) → (mm_rng ((v1) + ((0 : Int)))) ∧ ((mm_rng ((v2) + (1 : Int))) ∧ (mt 117 9 [some (mm_P 24), some (mm_I ((v1) + ((0 : Int)))), some (mm_I ((v2) + (1 : Int))), some (mm_I (r6)), some (mm_I ((D3 24 6) - ((1 : Int))))] [] (mm_mk D3 u4 x5) Q))) ∧ (¬ (((D3 24 6) - ((1 : Int))) ≤ (D3 29 (v2))) → (0 ≤ (v2)) ∧ (((v2) < 100) ∧ ((mm_rng (((D3 24 6) - ((1 : Int))) - (D3 29 (v2)))) ∧ ((mm_rng ((v1) + (((D3 24 6) - ((1 : Int))) - (D3 29 (v2))))) ∧ ((mm_rng ((v2) + (1 : Int))) ∧ (mt 117 9 [some (mm_P 24), some (mm_I ((v1) + (((D3 24 6) - ((1 : Int))) - (D3 29 (v2))))), some (mm_I ((v2) + (1 : Int))), some (mm_I (r6)), some (mm_I ((D3 24 6) - ((1 : Int))))] [] (mm_mk D3 u4 x5) Q))))))))))))))) : mt 117 9 [some (mm_P 24), some (mm_I (v1)), some (mm_I (v2)), o3, o4] [] (mm_mk D u x) Q := by
  refine mu_load mc_117_9 (by decide) rfl ?_
  refine mu_aload (r := some (24)) mc_117_10 (by decide) rfl ?_
  refine mu_get mc_117_11 rfl ?_
  refine mu_ic_ge mc_117_12 (fun c => ?_) (fun c => ?_)
  · replace H := H.1 c
    refine mu_load mc_117_79 (by decide) rfl ?_
    exact mt_ret mc_117_80 H
  · replace H := H.2 c
    refine mu_aload (r := some (24)) mc_117_13 (by decide) rfl ?_
    refine mu_aload (r := some (24)) mc_117_14 (by decide) rfl ?_
    refine mu_get mc_117_15 rfl ?_
    refine mu_load mc_117_16 (by decide) rfl ?_
    have h1 := H.1
    replace H := H.2
    have h2 := H.1
    replace H := H.2
    refine mu_iald mc_117_17 rfl h1 h2 ?_
    refine mt_call (args := [mm_P 24, mm_I (D 28 (v2))]) (rest := []) mc_117_18 (by decide) rfl rfl rfl ⟨by simp, rfl, by decide⟩ (mu_rcv (by decide) rfl (by decide)) H ?_
    rintro _ _ ⟨r6, D3, u4, x5, rfl, rfl, H⟩
    refine Or.inl ⟨_, rfl, ?_⟩
    refine mu_store mc_117_19 (by decide) (by simp) (ls' := [some (mm_P 24), some (mm_I (v1)), some (mm_I (v2)), some (mm_I (r6)), o4]) rfl ?_
    refine mu_load mc_117_20 (by decide) rfl ?_
    refine mu_aload (r := some (24)) mc_117_21 (by decide) rfl ?_
    refine mu_get mc_117_22 rfl ?_
    refine mu_ic_ne mc_117_23 (fun c => ?_) (fun c => ?_)
    · replace H := H.1 c
      refine mu_load mc_117_29 (by decide) rfl ?_
      refine mu_aload (r := some (24)) mc_117_30 (by decide) rfl ?_
      refine mu_aload (r := some (24)) mc_117_31 (by decide) rfl ?_
      refine mu_get mc_117_32 rfl ?_
      refine mu_load mc_117_33 (by decide) rfl ?_
      have h7 := H.1
      replace H := H.2
      have h8 := H.1
      replace H := H.2
      refine mu_iald mc_117_34 rfl h7 h8 ?_
      refine mt_call (args := [mm_P 24, mm_I (D3 28 (v2))]) (rest := [mm_I (r6)]) mc_117_35 (by decide) rfl rfl rfl ⟨by simp, rfl, by decide⟩ (mu_rcv (by decide) rfl (by decide)) H ?_
      rintro _ _ ⟨r12, D9, u10, x11, rfl, rfl, H⟩
      refine Or.inl ⟨_, rfl, ?_⟩
      refine mu_ic_ge mc_117_36 (fun c => ?_) (fun c => ?_)
      · replace H := H.1 c
        refine mu_load mc_117_58 (by decide) rfl ?_
        refine mu_store mc_117_59 (by decide) (by simp) (ls' := [some (mm_P 24), some (mm_I (v1)), some (mm_I (v2)), some (mm_I (r6)), some (mm_I (r6))]) rfl ?_
        refine mu_load mc_117_60 (by decide) rfl ?_
        refine mu_load mc_117_61 (by decide) rfl ?_
        refine mu_aload (r := some (24)) mc_117_62 (by decide) rfl ?_
        refine mu_get mc_117_63 rfl ?_
        refine mu_load mc_117_64 (by decide) rfl ?_
        have h13 := H.1
        replace H := H.2
        have h14 := H.1
        replace H := H.2
        refine mu_iald mc_117_65 rfl h13 h14 ?_
        refine mu_ic_le mc_117_66 (fun c => ?_) (fun c => ?_)
        · replace H := H.1 c
          refine mu_const mc_117_74 (by decide) (by decide) ?_
          have h15 := H.1
          replace H := H.2
          refine mu_iadd mc_117_75 h15 ?_
          refine mu_store mc_117_76 (by decide) (by simp) (ls' := [some (mm_P 24), some (mm_I ((v1) + ((0 : Int)))), some (mm_I (v2)), some (mm_I (r6)), some (mm_I (r6))]) rfl ?_
          have h16 := H.1
          replace H := H.2
          refine mu_iinc mc_117_77 rfl h16 (ls' := [some (mm_P 24), some (mm_I ((v1) + ((0 : Int)))), some (mm_I ((v2) + (1 : Int))), some (mm_I (r6)), some (mm_I (r6))]) rfl ?_
          refine mu_rfl (n := 9) mc_117_78 (by decide) rfl rfl ?_
          exact H
        · replace H := H.2 c
          refine mu_load mc_117_67 (by decide) rfl ?_
          refine mu_aload (r := some (24)) mc_117_68 (by decide) rfl ?_
          refine mu_get mc_117_69 rfl ?_
          refine mu_load mc_117_70 (by decide) rfl ?_
          have h17 := H.1
          replace H := H.2
          have h18 := H.1
          replace H := H.2
          refine mu_iald mc_117_71 rfl h17 h18 ?_
          have h19 := H.1
          replace H := H.2
          refine mu_isub mc_117_72 h19 ?_
          refine mu_rfl (n := 75) mc_117_73 (by decide) rfl rfl ?_
          have h20 := H.1
          replace H := H.2
          refine mu_iadd mc_117_75 h20 ?_
          refine mu_store mc_117_76 (by decide) (by simp) (ls' := [some (mm_P 24), some (mm_I ((v1) + ((r6) - (D9 29 (v2))))), some (mm_I (v2)), some (mm_I (r6)), some (mm_I (r6))]) rfl ?_
          have h21 := H.1
          replace H := H.2
          refine mu_iinc mc_117_77 rfl h21 (ls' := [some (mm_P 24), some (mm_I ((v1) + ((r6) - (D9 29 (v2))))), some (mm_I ((v2) + (1 : Int))), some (mm_I (r6)), some (mm_I (r6))]) rfl ?_
          refine mu_rfl (n := 9) mc_117_78 (by decide) rfl rfl ?_
          exact H
      · replace H := H.2 c
        refine mu_aload (r := some (24)) mc_117_37 (by decide) rfl ?_
        refine mu_get mc_117_38 rfl ?_
        refine mu_aload (r := some (24)) mc_117_39 (by decide) rfl ?_
        refine mu_get mc_117_40 rfl ?_
        refine mu_load mc_117_41 (by decide) rfl ?_
        have h22 := H.1
        replace H := H.2
        have h23 := H.1
        replace H := H.2
        refine mu_iald mc_117_42 rfl h22 h23 ?_
        refine mu_load mc_117_43 (by decide) rfl ?_
        have h24 := H.1
        replace H := H.2
        refine mu_iadd mc_117_44 h24 ?_
        have h25 := H.1
        replace H := H.2
        have h26 := H.1
        replace H := H.2
        refine mu_iald mc_117_45 rfl h25 h26 ?_
        refine mu_aload (r := some (24)) mc_117_46 (by decide) rfl ?_
        refine mu_get mc_117_47 rfl ?_
        refine mu_load mc_117_48 (by decide) rfl ?_
        have h27 := H.1
        replace H := H.2
        have h28 := H.1
        replace H := H.2
        refine mu_iald mc_117_49 rfl h27 h28 ?_
        refine mu_ic_ge mc_117_50 (fun c => ?_) (fun c => ?_)
        · replace H := H.1 c
          refine mu_load mc_117_58 (by decide) rfl ?_
          refine mu_store mc_117_59 (by decide) (by simp) (ls' := [some (mm_P 24), some (mm_I (v1)), some (mm_I (v2)), some (mm_I (r6)), some (mm_I (r6))]) rfl ?_
          refine mu_load mc_117_60 (by decide) rfl ?_
          refine mu_load mc_117_61 (by decide) rfl ?_
          refine mu_aload (r := some (24)) mc_117_62 (by decide) rfl ?_
          refine mu_get mc_117_63 rfl ?_
          refine mu_load mc_117_64 (by decide) rfl ?_
          have h29 := H.1
          replace H := H.2
          have h30 := H.1
          replace H := H.2
          refine mu_iald mc_117_65 rfl h29 h30 ?_
          refine mu_ic_le mc_117_66 (fun c => ?_) (fun c => ?_)
          · replace H := H.1 c
            refine mu_const mc_117_74 (by decide) (by decide) ?_
            have h31 := H.1
            replace H := H.2
            refine mu_iadd mc_117_75 h31 ?_
            refine mu_store mc_117_76 (by decide) (by simp) (ls' := [some (mm_P 24), some (mm_I ((v1) + ((0 : Int)))), some (mm_I (v2)), some (mm_I (r6)), some (mm_I (r6))]) rfl ?_
            have h32 := H.1
            replace H := H.2
            refine mu_iinc mc_117_77 rfl h32 (ls' := [some (mm_P 24), some (mm_I ((v1) + ((0 : Int)))), some (mm_I ((v2) + (1 : Int))), some (mm_I (r6)), some (mm_I (r6))]) rfl ?_
            refine mu_rfl (n := 9) mc_117_78 (by decide) rfl rfl ?_
            exact H
          · replace H := H.2 c
            refine mu_load mc_117_67 (by decide) rfl ?_
            refine mu_aload (r := some (24)) mc_117_68 (by decide) rfl ?_
            refine mu_get mc_117_69 rfl ?_
            refine mu_load mc_117_70 (by decide) rfl ?_
            have h33 := H.1
            replace H := H.2
            have h34 := H.1
            replace H := H.2
            refine mu_iald mc_117_71 rfl h33 h34 ?_
            have h35 := H.1
            replace H := H.2
            refine mu_isub mc_117_72 h35 ?_
            refine mu_rfl (n := 75) mc_117_73 (by decide) rfl rfl ?_
            have h36 := H.1
            replace H := H.2
            refine mu_iadd mc_117_75 h36 ?_
            refine mu_store mc_117_76 (by decide) (by simp) (ls' := [some (mm_P 24), some (mm_I ((v1) + ((r6) - (D9 29 (v2))))), some (mm_I (v2)), some (mm_I (r6)), some (mm_I (r6))]) rfl ?_
            have h37 := H.1
            replace H := H.2
            refine mu_iinc mc_117_77 rfl h37 (ls' := [some (mm_P 24), some (mm_I ((v1) + ((r6) - (D9 29 (v2))))), some (mm_I ((v2) + (1 : Int))), some (mm_I (r6)), some (mm_I (r6))]) rfl ?_
            refine mu_rfl (n := 9) mc_117_78 (by decide) rfl rfl ?_
            exact H
        · replace H := H.2 c
          refine mu_aload (r := some (24)) mc_117_51 (by decide) rfl ?_
          refine mu_aload (r := some (24)) mc_117_52 (by decide) rfl ?_
          refine mu_get mc_117_53 rfl ?_
          refine mu_load mc_117_54 (by decide) rfl ?_
          have h38 := H.1
          replace H := H.2
          have h39 := H.1
          replace H := H.2
          refine mu_iald mc_117_55 rfl h38 h39 ?_
          refine mt_call (args := [mm_P 24, mm_I (D9 28 (v2))]) (rest := []) mc_117_56 (by decide) rfl rfl rfl ⟨by simp, rfl, by decide⟩ (mu_rcv (by decide) rfl (by decide)) H ?_
          rintro _ _ ⟨r43, D40, u41, x42, rfl, rfl, H⟩
          refine Or.inl ⟨_, rfl, ?_⟩
          refine mu_rfl (n := 59) mc_117_57 (by decide) rfl rfl ?_
          refine mu_store mc_117_59 (by decide) (by simp) (ls' := [some (mm_P 24), some (mm_I (v1)), some (mm_I (v2)), some (mm_I (r6)), some (mm_I (r43))]) rfl ?_
          refine mu_load mc_117_60 (by decide) rfl ?_
          refine mu_load mc_117_61 (by decide) rfl ?_
          refine mu_aload (r := some (24)) mc_117_62 (by decide) rfl ?_
          refine mu_get mc_117_63 rfl ?_
          refine mu_load mc_117_64 (by decide) rfl ?_
          have h44 := H.1
          replace H := H.2
          have h45 := H.1
          replace H := H.2
          refine mu_iald mc_117_65 rfl h44 h45 ?_
          refine mu_ic_le mc_117_66 (fun c => ?_) (fun c => ?_)
          · replace H := H.1 c
            refine mu_const mc_117_74 (by decide) (by decide) ?_
            have h46 := H.1
            replace H := H.2
            refine mu_iadd mc_117_75 h46 ?_
            refine mu_store mc_117_76 (by decide) (by simp) (ls' := [some (mm_P 24), some (mm_I ((v1) + ((0 : Int)))), some (mm_I (v2)), some (mm_I (r6)), some (mm_I (r43))]) rfl ?_
            have h47 := H.1
            replace H := H.2
            refine mu_iinc mc_117_77 rfl h47 (ls' := [some (mm_P 24), some (mm_I ((v1) + ((0 : Int)))), some (mm_I ((v2) + (1 : Int))), some (mm_I (r6)), some (mm_I (r43))]) rfl ?_
            refine mu_rfl (n := 9) mc_117_78 (by decide) rfl rfl ?_
            exact H
          · replace H := H.2 c
            refine mu_load mc_117_67 (by decide) rfl ?_
            refine mu_aload (r := some (24)) mc_117_68 (by decide) rfl ?_
            refine mu_get mc_117_69 rfl ?_
            refine mu_load mc_117_70 (by decide) rfl ?_
            have h48 := H.1
            replace H := H.2
            have h49 := H.1
            replace H := H.2
            refine mu_iald mc_117_71 rfl h48 h49 ?_
            have h50 := H.1
            replace H := H.2
            refine mu_isub mc_117_72 h50 ?_
            refine mu_rfl (n := 75) mc_117_73 (by decide) rfl rfl ?_
            have h51 := H.1
            replace H := H.2
            refine mu_iadd mc_117_75 h51 ?_
            refine mu_store mc_117_76 (by decide) (by simp) (ls' := [some (mm_P 24), some (mm_I ((v1) + ((r43) - (D40 29 (v2))))), some (mm_I (v2)), some (mm_I (r6)), some (mm_I (r43))]) rfl ?_
            have h52 := H.1
            replace H := H.2
            refine mu_iinc mc_117_77 rfl h52 (ls' := [some (mm_P 24), some (mm_I ((v1) + ((r43) - (D40 29 (v2))))), some (mm_I ((v2) + (1 : Int))), some (mm_I (r6)), some (mm_I (r43))]) rfl ?_
            refine mu_rfl (n := 9) mc_117_78 (by decide) rfl rfl ?_
            exact H
    · replace H := H.2 c
      refine mu_aload (r := some (24)) mc_117_24 (by decide) rfl ?_
      refine mu_get mc_117_25 rfl ?_
      refine mu_const mc_117_26 (by decide) (by decide) ?_
      have h53 := H.1
      replace H := H.2
      refine mu_isub mc_117_27 h53 ?_
      refine mu_rfl (n := 59) mc_117_28 (by decide) rfl rfl ?_
      refine mu_store mc_117_59 (by decide) (by simp) (ls' := [some (mm_P 24), some (mm_I (v1)), some (mm_I (v2)), some (mm_I (r6)), some (mm_I ((D3 24 6) - ((1 : Int))))]) rfl ?_
      refine mu_load mc_117_60 (by decide) rfl ?_
      refine mu_load mc_117_61 (by decide) rfl ?_
      refine mu_aload (r := some (24)) mc_117_62 (by decide) rfl ?_
      refine mu_get mc_117_63 rfl ?_
      refine mu_load mc_117_64 (by decide) rfl ?_
      have h54 := H.1
      replace H := H.2
      have h55 := H.1
      replace H := H.2
      refine mu_iald mc_117_65 rfl h54 h55 ?_
      refine mu_ic_le mc_117_66 (fun c => ?_) (fun c => ?_)
      · replace H := H.1 c
        refine mu_const mc_117_74 (by decide) (by decide) ?_
        have h56 := H.1
        replace H := H.2
        refine mu_iadd mc_117_75 h56 ?_
        refine mu_store mc_117_76 (by decide) (by simp) (ls' := [some (mm_P 24), some (mm_I ((v1) + ((0 : Int)))), some (mm_I (v2)), some (mm_I (r6)), some (mm_I ((D3 24 6) - ((1 : Int))))]) rfl ?_
        have h57 := H.1
        replace H := H.2
        refine mu_iinc mc_117_77 rfl h57 (ls' := [some (mm_P 24), some (mm_I ((v1) + ((0 : Int)))), some (mm_I ((v2) + (1 : Int))), some (mm_I (r6)), some (mm_I ((D3 24 6) - ((1 : Int))))]) rfl ?_
        refine mu_rfl (n := 9) mc_117_78 (by decide) rfl rfl ?_
        exact H
      · replace H := H.2 c
        refine mu_load mc_117_67 (by decide) rfl ?_
        refine mu_aload (r := some (24)) mc_117_68 (by decide) rfl ?_
        refine mu_get mc_117_69 rfl ?_
        refine mu_load mc_117_70 (by decide) rfl ?_
        have h58 := H.1
        replace H := H.2
        have h59 := H.1
        replace H := H.2
        refine mu_iald mc_117_71 rfl h58 h59 ?_
        have h60 := H.1
        replace H := H.2
        refine mu_isub mc_117_72 h60 ?_
        refine mu_rfl (n := 75) mc_117_73 (by decide) rfl rfl ?_
        have h61 := H.1
        replace H := H.2
        refine mu_iadd mc_117_75 h61 ?_
        refine mu_store mc_117_76 (by decide) (by simp) (ls' := [some (mm_P 24), some (mm_I ((v1) + (((D3 24 6) - ((1 : Int))) - (D3 29 (v2))))), some (mm_I (v2)), some (mm_I (r6)), some (mm_I ((D3 24 6) - ((1 : Int))))]) rfl ?_
        have h62 := H.1
        replace H := H.2
        refine mu_iinc mc_117_77 rfl h62 (ls' := [some (mm_P 24), some (mm_I ((v1) + (((D3 24 6) - ((1 : Int))) - (D3 29 (v2))))), some (mm_I ((v2) + (1 : Int))), some (mm_I (r6)), some (mm_I ((D3 24 6) - ((1 : Int))))]) rfl ?_
        refine mu_rfl (n := 9) mc_117_78 (by decide) rfl rfl ?_
        exact H

theorem q_X5_toPart_0 {D : mm_D} {u : Int} {x : Nat × (Nat × List Int)} {Q : mm_O → mm_H → Prop} (v1 : Int) (H : (((v1) < 0) → mt 78 0 [some (mm_P 24), some (mm_I ((1 : Int)))] [] (mm_mk D u x) (mm_pI fun r4 D1 u2 x3 => ((¬ (r4) = 0) → mt 118 18 [some (mm_P 24), some (mm_I (v1)), some (mm_I (v1)), some (mm_I ((0 : Int)))] [] (mm_mk D1 u2 x3) Q) ∧ (¬ (¬ (r4) = 0) → Q (.inl (some (mm_I ((0 : Int))))) (mm_mk D1 u2 x3)))) ∧ (¬ ((v1) < 0) → mt 114 0 [some (mm_P 24), none, none] [] (mm_mk D u x) (mm_pI fun r8 D5 u6 x7 => (((v1) < (r8)) → mt 78 0 [some (mm_P 24), some (mm_I ((0 : Int)))] [] (mm_mk D5 u6 x7) (mm_pI fun r12 D9 u10 x11 => ((¬ (r12) = 0) → mt 118 18 [some (mm_P 24), some (mm_I (v1)), some (mm_I (v1)), some (mm_I ((0 : Int)))] [] (mm_mk D9 u10 x11) Q) ∧ (¬ (¬ (r12) = 0) → Q (.inl (some (mm_I ((0 : Int))))) (mm_mk D9 u10 x11)))) ∧ (¬ ((v1) < (r8)) → mt 78 0 [some (mm_P 24), some (mm_I ((1 : Int)))] [] (mm_mk D5 u6 x7) (mm_pI fun r16 D13 u14 x15 => ((¬ (r16) = 0) → mt 118 18 [some (mm_P 24), some (mm_I (v1)), some (mm_I (v1)), some (mm_I ((0 : Int)))] [] (mm_mk D13 u14 x15) Q) ∧ (¬ (¬ (r16) = 0) → Q (.inl (some (mm_I ((0 : Int))))) (mm_mk D13 u14 x15))))))) : mt 118 0 [some (mm_P 24), some (mm_I (v1)), none, none] [] (mm_mk D u x) Q := by
  refine mu_aload (r := some (24)) mc_118_0 (by decide) rfl ?_
  refine mu_load mc_118_1 (by decide) rfl ?_
  refine mu_if_lt mc_118_2 (fun c => ?_) (fun c => ?_)
  · replace H := H.1 c
    refine mu_const mc_118_7 (by decide) (by decide) ?_
    refine mu_rfl (n := 10) mc_118_8 (by decide) rfl rfl ?_
    refine mt_call (args := [mm_P 24, mm_I ((1 : Int))]) (rest := []) mc_118_10 (by decide) rfl rfl rfl ⟨by simp, rfl, by decide⟩ (mu_rcv (by decide) rfl (by decide)) H ?_
    rintro _ _ ⟨r4, D1, u2, x3, rfl, rfl, H⟩
    refine Or.inl ⟨_, rfl, ?_⟩
    refine mu_if_ne mc_118_11 (fun c => ?_) (fun c => ?_)
    · replace H := H.1 c
      refine mu_load mc_118_14 (by decide) rfl ?_
      refine mu_store mc_118_15 (by decide) (by simp) (ls' := [some (mm_P 24), some (mm_I (v1)), some (mm_I (v1)), none]) rfl ?_
      refine mu_const mc_118_16 (by decide) (by decide) ?_
      refine mu_store mc_118_17 (by decide) (by simp) (ls' := [some (mm_P 24), some (mm_I (v1)), some (mm_I (v1)), some (mm_I ((0 : Int)))]) rfl ?_
      exact H
    · replace H := H.2 c
      refine mu_const mc_118_12 (by decide) (by decide) ?_
      exact mt_ret mc_118_13 H
  · replace H := H.2 c
    refine mu_load mc_118_3 (by decide) rfl ?_
    refine mu_aload (r := some (24)) mc_118_4 (by decide) rfl ?_
    refine mt_call (args := [mm_P 24]) (rest := [mm_I (v1), mm_P 24]) mc_118_5 (by decide) rfl rfl rfl ⟨by simp, rfl, by decide⟩ (mu_rcv (by decide) rfl (by decide)) H ?_
    rintro _ _ ⟨r8, D5, u6, x7, rfl, rfl, H⟩
    refine Or.inl ⟨_, rfl, ?_⟩
    refine mu_ic_lt mc_118_6 (fun c => ?_) (fun c => ?_)
    · replace H := H.1 c
      refine mu_const mc_118_9 (by decide) (by decide) ?_
      refine mt_call (args := [mm_P 24, mm_I ((0 : Int))]) (rest := []) mc_118_10 (by decide) rfl rfl rfl ⟨by simp, rfl, by decide⟩ (mu_rcv (by decide) rfl (by decide)) H ?_
      rintro _ _ ⟨r12, D9, u10, x11, rfl, rfl, H⟩
      refine Or.inl ⟨_, rfl, ?_⟩
      refine mu_if_ne mc_118_11 (fun c => ?_) (fun c => ?_)
      · replace H := H.1 c
        refine mu_load mc_118_14 (by decide) rfl ?_
        refine mu_store mc_118_15 (by decide) (by simp) (ls' := [some (mm_P 24), some (mm_I (v1)), some (mm_I (v1)), none]) rfl ?_
        refine mu_const mc_118_16 (by decide) (by decide) ?_
        refine mu_store mc_118_17 (by decide) (by simp) (ls' := [some (mm_P 24), some (mm_I (v1)), some (mm_I (v1)), some (mm_I ((0 : Int)))]) rfl ?_
        exact H
      · replace H := H.2 c
        refine mu_const mc_118_12 (by decide) (by decide) ?_
        exact mt_ret mc_118_13 H
    · replace H := H.2 c
      refine mu_const mc_118_7 (by decide) (by decide) ?_
      refine mu_rfl (n := 10) mc_118_8 (by decide) rfl rfl ?_
      refine mt_call (args := [mm_P 24, mm_I ((1 : Int))]) (rest := []) mc_118_10 (by decide) rfl rfl rfl ⟨by simp, rfl, by decide⟩ (mu_rcv (by decide) rfl (by decide)) H ?_
      rintro _ _ ⟨r16, D13, u14, x15, rfl, rfl, H⟩
      refine Or.inl ⟨_, rfl, ?_⟩
      refine mu_if_ne mc_118_11 (fun c => ?_) (fun c => ?_)
      · replace H := H.1 c
        refine mu_load mc_118_14 (by decide) rfl ?_
        refine mu_store mc_118_15 (by decide) (by simp) (ls' := [some (mm_P 24), some (mm_I (v1)), some (mm_I (v1)), none]) rfl ?_
        refine mu_const mc_118_16 (by decide) (by decide) ?_
        refine mu_store mc_118_17 (by decide) (by simp) (ls' := [some (mm_P 24), some (mm_I (v1)), some (mm_I (v1)), some (mm_I ((0 : Int)))]) rfl ?_
        exact H
      · replace H := H.2 c
        refine mu_const mc_118_12 (by decide) (by decide) ?_
        exact mt_ret mc_118_13 H
theorem q_X5_toPart_18 {D : mm_D} {u : Int} {x : Nat × (Nat × List Int)} {Q : mm_O → mm_H → Prop} (v1 v2 v3 : Int) (H : (0 ≤ (v3)) ∧ (((v3) < 100) ∧ (mt 105 0 [some (mm_P 24), some (mm_I (D 28 (v3)))] [] (mm_mk D u x) (mm_pI fun r6 D3 u4 x5 => (0 ≤ (v3)) ∧ (((v3) < 100) ∧ ((mm_rng ((r6) - (D3 29 (v3)))) ∧ ((((v2) < ((r6) - (D3 29 (v3)))) → (0 ≤ (v3)) ∧ (((v3) < 100) ∧ ((0 ≤ (v3)) ∧ (((v3) < 100) ∧ ((mm_rng ((D3 29 (v3)) + (v2))) ∧ ((mm_rng (((D3 29 (v3)) + (v2)) + ((1 : Int)))) ∧ (mt 90 0 [some (mm_P 24), some (mm_I (D3 28 (v3))), some (mm_I (((D3 29 (v3)) + (v2)) + ((1 : Int)))), none] [] (mm_mk D3 u4 x5) (mm_pV fun D16 u17 x18 => Q (.inl (some (mm_I (D16 24 6)))) (mm_mk D16 u17 x18))))))))) ∧ (¬ ((v2) < ((r6) - (D3 29 (v3)))) → (0 ≤ (v3)) ∧ (((v3) < 100) ∧ (mt 105 0 [some (mm_P 24), some (mm_I (D3 28 (v3)))] [] (mm_mk D3 u4 x5) (mm_pI fun r25 D22 u23 x24 => (0 ≤ (v3)) ∧ (((v3) < 100) ∧ ((mm_rng ((r25) - (D22 29 (v3)))) ∧ ((mm_rng ((v2) - ((r25) - (D22 29 (v3))))) ∧ ((mm_rng ((v3) + (1 : Int))) ∧ (mt 118 18 [some (mm_P 24), some (mm_I (v1)), some (mm_I ((v2) - ((r25) - (D22 29 (v3))))), some (mm_I ((v3) + (1 : Int)))] [] (mm_mk D22 u23 x24) Q)))))))))))))))) : mt 118 18 [some (mm_P 24), some (mm_I (v1)), some (mm_I (v2)), some (mm_I (v3))] [] (mm_mk D u x) Q := by
  refine mu_load mc_118_18 (by decide) rfl ?_
  refine mu_aload (r := some (24)) mc_118_19 (by decide) rfl ?_
  refine mu_aload (r := some (24)) mc_118_20 (by decide) rfl ?_
  refine mu_get mc_118_21 rfl ?_
  refine mu_load mc_118_22 (by decide) rfl ?_
  have h1 := H.1
  replace H := H.2
  have h2 := H.1
  replace H := H.2
  refine mu_iald mc_118_23 rfl h1 h2 ?_
  refine mt_call (args := [mm_P 24, mm_I (D 28 (v3))]) (rest := [mm_I (v2)]) mc_118_24 (by decide) rfl rfl rfl ⟨by simp, rfl, by decide⟩ (mu_rcv (by decide) rfl (by decide)) H ?_
  rintro _ _ ⟨r6, D3, u4, x5, rfl, rfl, H⟩
  refine Or.inl ⟨_, rfl, ?_⟩
  refine mu_aload (r := some (24)) mc_118_25 (by decide) rfl ?_
  refine mu_get mc_118_26 rfl ?_
  refine mu_load mc_118_27 (by decide) rfl ?_
  have h7 := H.1
  replace H := H.2
  have h8 := H.1
  replace H := H.2
  refine mu_iald mc_118_28 rfl h7 h8 ?_
  have h9 := H.1
  replace H := H.2
  refine mu_isub mc_118_29 h9 ?_
  refine mu_ic_lt mc_118_30 (fun c => ?_) (fun c => ?_)
  · replace H := H.1 c
    refine mu_aload (r := some (24)) mc_118_47 (by decide) rfl ?_
    refine mu_aload (r := some (24)) mc_118_48 (by decide) rfl ?_
    refine mu_get mc_118_49 rfl ?_
    refine mu_load mc_118_50 (by decide) rfl ?_
    have h10 := H.1
    replace H := H.2
    have h11 := H.1
    replace H := H.2
    refine mu_iald mc_118_51 rfl h10 h11 ?_
    refine mu_aload (r := some (24)) mc_118_52 (by decide) rfl ?_
    refine mu_get mc_118_53 rfl ?_
    refine mu_load mc_118_54 (by decide) rfl ?_
    have h12 := H.1
    replace H := H.2
    have h13 := H.1
    replace H := H.2
    refine mu_iald mc_118_55 rfl h12 h13 ?_
    refine mu_load mc_118_56 (by decide) rfl ?_
    have h14 := H.1
    replace H := H.2
    refine mu_iadd mc_118_57 h14 ?_
    refine mu_const mc_118_58 (by decide) (by decide) ?_
    have h15 := H.1
    replace H := H.2
    refine mu_iadd mc_118_59 h15 ?_
    refine mt_call (args := [mm_P 24, mm_I (D3 28 (v3)), mm_I (((D3 29 (v3)) + (v2)) + ((1 : Int)))]) (rest := []) mc_118_60 (by decide) rfl rfl rfl ⟨by simp, rfl, by decide⟩ (mu_rcv (by decide) rfl (by decide)) H ?_
    rintro _ _ ⟨D16, u17, x18, rfl, rfl, H⟩
    refine Or.inl ⟨_, rfl, ?_⟩
    refine mu_aload (r := some (24)) mc_118_61 (by decide) rfl ?_
    refine mu_get mc_118_62 rfl ?_
    exact mt_ret mc_118_63 H
  · replace H := H.2 c
    refine mu_load mc_118_31 (by decide) rfl ?_
    refine mu_aload (r := some (24)) mc_118_32 (by decide) rfl ?_
    refine mu_aload (r := some (24)) mc_118_33 (by decide) rfl ?_
    refine mu_get mc_118_34 rfl ?_
    refine mu_load mc_118_35 (by decide) rfl ?_
    have h20 := H.1
    replace H := H.2
    have h21 := H.1
    replace H := H.2
    refine mu_iald mc_118_36 rfl h20 h21 ?_
    refine mt_call (args := [mm_P 24, mm_I (D3 28 (v3))]) (rest := [mm_I (v2)]) mc_118_37 (by decide) rfl rfl rfl ⟨by simp, rfl, by decide⟩ (mu_rcv (by decide) rfl (by decide)) H ?_
    rintro _ _ ⟨r25, D22, u23, x24, rfl, rfl, H⟩
    refine Or.inl ⟨_, rfl, ?_⟩
    refine mu_aload (r := some (24)) mc_118_38 (by decide) rfl ?_
    refine mu_get mc_118_39 rfl ?_
    refine mu_load mc_118_40 (by decide) rfl ?_
    have h26 := H.1
    replace H := H.2
    have h27 := H.1
    replace H := H.2
    refine mu_iald mc_118_41 rfl h26 h27 ?_
    have h28 := H.1
    replace H := H.2
    refine mu_isub mc_118_42 h28 ?_
    have h29 := H.1
    replace H := H.2
    refine mu_isub mc_118_43 h29 ?_
    refine mu_store mc_118_44 (by decide) (by simp) (ls' := [some (mm_P 24), some (mm_I (v1)), some (mm_I ((v2) - ((r25) - (D22 29 (v3))))), some (mm_I (v3))]) rfl ?_
    have h30 := H.1
    replace H := H.2
    refine mu_iinc mc_118_45 rfl h30 (ls' := [some (mm_P 24), some (mm_I (v1)), some (mm_I ((v2) - ((r25) - (D22 29 (v3))))), some (mm_I ((v3) + (1 : Int)))]) rfl ?_
    refine mu_rfl (n := 18) mc_118_46 (by decide) rfl rfl ?_
    exact H

theorem q_X5_finds_0 {D : mm_D} {u : Int} {x : Nat × (Nat × List Int)} {Q : mm_O → mm_H → Prop} (v1 v2 : Int) (H : mt 108 0 [some (mm_P 24), none, none, none, none] [] (mm_mk D u x) (mm_pV fun D1 u2 x3 => mt 119 8 [some (mm_P 24), some (mm_I (v1)), some (mm_I (v2)), some (mm_I ((0 : Int))), some (mm_I ((0 : Int))), some (mm_I ((0 : Int))), none, none] [] (mm_mk D1 u2 x3) Q)) : mt 119 0 [some (mm_P 24), some (mm_I (v1)), some (mm_I (v2)), none, none, none, none, none] [] (mm_mk D u x) Q := by
  refine mu_aload (r := some (24)) mc_119_0 (by decide) rfl ?_
  refine mt_call (args := [mm_P 24]) (rest := []) mc_119_1 (by decide) rfl rfl rfl ⟨by simp, rfl, by decide⟩ (mu_rcv (by decide) rfl (by decide)) H ?_
  rintro _ _ ⟨D1, u2, x3, rfl, rfl, H⟩
  refine Or.inl ⟨_, rfl, ?_⟩
  refine mu_const mc_119_2 (by decide) (by decide) ?_
  refine mu_store mc_119_3 (by decide) (by simp) (ls' := [some (mm_P 24), some (mm_I (v1)), some (mm_I (v2)), some (mm_I ((0 : Int))), none, none, none, none]) rfl ?_
  refine mu_const mc_119_4 (by decide) (by decide) ?_
  refine mu_store mc_119_5 (by decide) (by simp) (ls' := [some (mm_P 24), some (mm_I (v1)), some (mm_I (v2)), some (mm_I ((0 : Int))), some (mm_I ((0 : Int))), none, none, none]) rfl ?_
  refine mu_const mc_119_6 (by decide) (by decide) ?_
  refine mu_store mc_119_7 (by decide) (by simp) (ls' := [some (mm_P 24), some (mm_I (v1)), some (mm_I (v2)), some (mm_I ((0 : Int))), some (mm_I ((0 : Int))), some (mm_I ((0 : Int))), none, none]) rfl ?_
  exact H
theorem q_X5_finds_8 {D : mm_D} {u : Int} {x : Nat × (Nat × List Int)} {Q : mm_O → mm_H → Prop} (v1 v2 v3 v4 v5 : Int) (o6 o7 : Option mm_V) (H : (((D 24 4) ≤ (v5)) → mt 90 0 [some (mm_P 24), some (mm_I (v4)), some (mm_I (v3)), none] [] (mm_mk D u x) (mm_pV fun D1 u2 x3 => Q (.inl (some (mm_I (D1 24 6)))) (mm_mk D1 u2 x3))) ∧ (¬ ((D 24 4) ≤ (v5)) → (0 ≤ (v5)) ∧ (((v5) < 100) ∧ ((mm_rng ((D 29 (v5)) + ((1 : Int)))) ∧ (mt 119 19 [some (mm_P 24), some (mm_I (v1)), some (mm_I (v2)), some (mm_I (v3)), some (mm_I (v4)), some (mm_I (v5)), some (mm_I ((D 29 (v5)) + ((1 : Int)))), o7] [] (mm_mk D u x) Q))))) : mt 119 8 [some (mm_P 24), some (mm_I (v1)), some (mm_I (v2)), some (mm_I (v3)), some (mm_I (v4)), some (mm_I (v5)), o6, o7] [] (mm_mk D u x) Q := by
  refine mu_load mc_119_8 (by decide) rfl ?_
  refine mu_aload (r := some (24)) mc_119_9 (by decide) rfl ?_
  refine mu_get mc_119_10 rfl ?_
  refine mu_ic_ge mc_119_11 (fun c => ?_) (fun c => ?_)
  · replace H := H.1 c
    refine mu_aload (r := some (24)) mc_119_67 (by decide) rfl ?_
    refine mu_load mc_119_68 (by decide) rfl ?_
    refine mu_load mc_119_69 (by decide) rfl ?_
    refine mt_call (args := [mm_P 24, mm_I (v4), mm_I (v3)]) (rest := []) mc_119_70 (by decide) rfl rfl rfl ⟨by simp, rfl, by decide⟩ (mu_rcv (by decide) rfl (by decide)) H ?_
    rintro _ _ ⟨D1, u2, x3, rfl, rfl, H⟩
    refine Or.inl ⟨_, rfl, ?_⟩
    refine mu_aload (r := some (24)) mc_119_71 (by decide) rfl ?_
    refine mu_get mc_119_72 rfl ?_
    exact mt_ret mc_119_73 H
  · replace H := H.2 c
    refine mu_aload (r := some (24)) mc_119_12 (by decide) rfl ?_
    refine mu_get mc_119_13 rfl ?_
    refine mu_load mc_119_14 (by decide) rfl ?_
    have h5 := H.1
    replace H := H.2
    have h6 := H.1
    replace H := H.2
    refine mu_iald mc_119_15 rfl h5 h6 ?_
    refine mu_const mc_119_16 (by decide) (by decide) ?_
    have h7 := H.1
    replace H := H.2
    refine mu_iadd mc_119_17 h7 ?_
    refine mu_store mc_119_18 (by decide) (by simp) (ls' := [some (mm_P 24), some (mm_I (v1)), some (mm_I (v2)), some (mm_I (v3)), some (mm_I (v4)), some (mm_I (v5)), some (mm_I ((D 29 (v5)) + ((1 : Int)))), o7]) rfl ?_
    exact H
theorem q_X5_finds_19 {D : mm_D} {u : Int} {x : Nat × (Nat × List Int)} {Q : mm_O → mm_H → Prop} (v1 v2 v3 v4 v5 v6 : Int) (o7 : Option mm_V) (H : (0 ≤ (v5)) ∧ (((v5) < 100) ∧ (mt 105 0 [some (mm_P 24), some (mm_I (D 28 (v5)))] [] (mm_mk D u x) (mm_pI fun r6 D3 u4 x5 => (((r6) < (v6)) → (mm_rng ((v5) + (1 : Int))) ∧ (mt 119 8 [some (mm_P 24), some (mm_I (v1)), some (mm_I (v2)), some (mm_I (v3)), some (mm_I (v4)), some (mm_I ((v5) + (1 : Int))), some (mm_I (v6)), o7] [] (mm_mk D3 u4 x5) Q)) ∧ (¬ ((r6) < (v6)) → (((v6) ≤ (v3)) → (mm_rng ((v6) + (1 : Int))) ∧ (mt 119 19 [some (mm_P 24), some (mm_I (v1)), some (mm_I (v2)), some (mm_I (v3)), some (mm_I (v4)), some (mm_I (v5)), some (mm_I ((v6) + (1 : Int))), o7] [] (mm_mk D3 u4 x5) Q)) ∧ (¬ ((v6) ≤ (v3)) → mt 109 0 [some (mm_P 24), some (mm_I (v5)), some (mm_I (v6)), none, none, none] [] (mm_mk D3 u4 x5) (mm_pV fun D9 u10 x11 => ((¬ (mm_and (D9 24 10) (v1)) = (v1)) → (mm_rng ((v6) + (1 : Int))) ∧ (mt 119 19 [some (mm_P 24), some (mm_I (v1)), some (mm_I (v2)), some (mm_I (v3)), some (mm_I (v4)), some (mm_I (v5)), some (mm_I ((v6) + (1 : Int))), some (mm_I ((0 : Int)))] [] (mm_mk D9 u10 x11) Q)) ∧ (¬ (¬ (mm_and (D9 24 10) (v1)) = (v1)) → (((D9 24 9) < (v2)) → (mm_rng ((v6) + (1 : Int))) ∧ (mt 119 19 [some (mm_P 24), some (mm_I (v1)), some (mm_I (v2)), some (mm_I (v3)), some (mm_I (v4)), some (mm_I (v5)), some (mm_I ((v6) + (1 : Int))), some (mm_I ((0 : Int)))] [] (mm_mk D9 u10 x11) Q)) ∧ (¬ ((D9 24 9) < (v2)) → (0 ≤ (v5)) ∧ (((v5) < 100) ∧ ((mm_rng ((v6) + (1 : Int))) ∧ (mt 119 19 [some (mm_P 24), some (mm_I (v1)), some (mm_I (v2)), some (mm_I (v6)), some (mm_I (D9 28 (v5))), some (mm_I (v5)), some (mm_I ((v6) + (1 : Int))), some (mm_I ((1 : Int)))] [] (mm_mk D9 u10 x11) Q)))))))))))) : mt 119 19 [some (mm_P 24), some (mm_I (v1)), some (mm_I (v2)), some (mm_I (v3)), some (mm_I (v4)), some (mm_I (v5)), some (mm_I (v6)), o7] [] (mm_mk D u x) Q := by
  refine mu_load mc_119_19 (by decide) rfl ?_
  refine mu_aload (r := some (24)) mc_119_20 (by decide) rfl ?_
  refine mu_aload (r := some (24)) mc_119_21 (by decide) rfl ?_
  refine mu_get mc_119_22 rfl ?_
  refine mu_load mc_119_23 (by decide) rfl ?_
  have h1 := H.1
  replace H := H.2
  have h2 := H.1
  replace H := H.2
  refine mu_iald mc_119_24 rfl h1 h2 ?_
  refine mt_call (args := [mm_P 24, mm_I (D 28 (v5))]) (rest := [mm_I (v6)]) mc_119_25 (by decide) rfl rfl rfl ⟨by simp, rfl, by decide⟩ (mu_rcv (by decide) rfl (by decide)) H ?_
  rintro _ _ ⟨r6, D3, u4, x5, rfl, rfl, H⟩
  refine Or.inl ⟨_, rfl, ?_⟩
  refine mu_ic_gt mc_119_26 (fun c => ?_) (fun c => ?_)
  · replace H := H.1 c
    have h7 := H.1
    replace H := H.2
    refine mu_iinc mc_119_65 rfl h7 (ls' := [some (mm_P 24), some (mm_I (v1)), some (mm_I (v2)), some (mm_I (v3)), some (mm_I (v4)), some (mm_I ((v5) + (1 : Int))), some (mm_I (v6)), o7]) rfl ?_
    refine mu_rfl (n := 8) mc_119_66 (by decide) rfl rfl ?_
    exact H
  · replace H := H.2 c
    refine mu_load mc_119_27 (by decide) rfl ?_
    refine mu_load mc_119_28 (by decide) rfl ?_
    refine mu_ic_le mc_119_29 (fun c => ?_) (fun c => ?_)
    · replace H := H.1 c
      have h8 := H.1
      replace H := H.2
      refine mu_iinc mc_119_63 rfl h8 (ls' := [some (mm_P 24), some (mm_I (v1)), some (mm_I (v2)), some (mm_I (v3)), some (mm_I (v4)), some (mm_I (v5)), some (mm_I ((v6) + (1 : Int))), o7]) rfl ?_
      refine mu_rfl (n := 19) mc_119_64 (by decide) rfl rfl ?_
      exact H
    · replace H := H.2 c
      refine mu_aload (r := some (24)) mc_119_30 (by decide) rfl ?_
      refine mu_load mc_119_31 (by decide) rfl ?_
      refine mu_load mc_119_32 (by decide) rfl ?_
      refine mt_call (args := [mm_P 24, mm_I (v5), mm_I (v6)]) (rest := []) mc_119_33 (by decide) rfl rfl rfl ⟨by simp, rfl, by decide⟩ (mu_rcv (by decide) rfl (by decide)) H ?_
      rintro _ _ ⟨D9, u10, x11, rfl, rfl, H⟩
      refine Or.inl ⟨_, rfl, ?_⟩
      refine mu_aload (r := some (24)) mc_119_34 (by decide) rfl ?_
      refine mu_get mc_119_35 rfl ?_
      refine mu_load mc_119_36 (by decide) rfl ?_
      refine mu_iand mc_119_37 ?_
      refine mu_load mc_119_38 (by decide) rfl ?_
      refine mu_ic_ne mc_119_39 (fun c => ?_) (fun c => ?_)
      · replace H := H.1 c
        refine mu_const mc_119_46 (by decide) (by decide) ?_
        refine mu_store mc_119_47 (by decide) (by simp) (ls' := [some (mm_P 24), some (mm_I (v1)), some (mm_I (v2)), some (mm_I (v3)), some (mm_I (v4)), some (mm_I (v5)), some (mm_I (v6)), some (mm_I ((0 : Int)))]) rfl ?_
        refine mu_load mc_119_48 (by decide) rfl ?_
        refine mu_if_eq mc_119_49 (fun _ => ?_) (fun c => absurd (by decide) c)
        refine mu_load mc_119_55 (by decide) rfl ?_
        refine mu_store mc_119_56 (by decide) (by simp) (ls' := [some (mm_P 24), some (mm_I (v1)), some (mm_I (v2)), some (mm_I (v3)), some (mm_I (v4)), some (mm_I (v5)), some (mm_I (v6)), some (mm_I ((0 : Int)))]) rfl ?_
        refine mu_load mc_119_57 (by decide) rfl ?_
        refine mu_if_eq mc_119_58 (fun _ => ?_) (fun c => absurd (by decide) c)
        refine mu_load mc_119_61 (by decide) rfl ?_
        refine mu_store mc_119_62 (by decide) (by simp) (ls' := [some (mm_P 24), some (mm_I (v1)), some (mm_I (v2)), some (mm_I (v3)), some (mm_I (v4)), some (mm_I (v5)), some (mm_I (v6)), some (mm_I ((0 : Int)))]) rfl ?_
        have h13 := H.1
        replace H := H.2
        refine mu_iinc mc_119_63 rfl h13 (ls' := [some (mm_P 24), some (mm_I (v1)), some (mm_I (v2)), some (mm_I (v3)), some (mm_I (v4)), some (mm_I (v5)), some (mm_I ((v6) + (1 : Int))), some (mm_I ((0 : Int)))]) rfl ?_
        refine mu_rfl (n := 19) mc_119_64 (by decide) rfl rfl ?_
        exact H
      · replace H := H.2 c
        refine mu_aload (r := some (24)) mc_119_40 (by decide) rfl ?_
        refine mu_get mc_119_41 rfl ?_
        refine mu_load mc_119_42 (by decide) rfl ?_
        refine mu_ic_lt mc_119_43 (fun c => ?_) (fun c => ?_)
        · replace H := H.1 c
          refine mu_const mc_119_46 (by decide) (by decide) ?_
          refine mu_store mc_119_47 (by decide) (by simp) (ls' := [some (mm_P 24), some (mm_I (v1)), some (mm_I (v2)), some (mm_I (v3)), some (mm_I (v4)), some (mm_I (v5)), some (mm_I (v6)), some (mm_I ((0 : Int)))]) rfl ?_
          refine mu_load mc_119_48 (by decide) rfl ?_
          refine mu_if_eq mc_119_49 (fun _ => ?_) (fun c => absurd (by decide) c)
          refine mu_load mc_119_55 (by decide) rfl ?_
          refine mu_store mc_119_56 (by decide) (by simp) (ls' := [some (mm_P 24), some (mm_I (v1)), some (mm_I (v2)), some (mm_I (v3)), some (mm_I (v4)), some (mm_I (v5)), some (mm_I (v6)), some (mm_I ((0 : Int)))]) rfl ?_
          refine mu_load mc_119_57 (by decide) rfl ?_
          refine mu_if_eq mc_119_58 (fun _ => ?_) (fun c => absurd (by decide) c)
          refine mu_load mc_119_61 (by decide) rfl ?_
          refine mu_store mc_119_62 (by decide) (by simp) (ls' := [some (mm_P 24), some (mm_I (v1)), some (mm_I (v2)), some (mm_I (v3)), some (mm_I (v4)), some (mm_I (v5)), some (mm_I (v6)), some (mm_I ((0 : Int)))]) rfl ?_
          have h14 := H.1
          replace H := H.2
          refine mu_iinc mc_119_63 rfl h14 (ls' := [some (mm_P 24), some (mm_I (v1)), some (mm_I (v2)), some (mm_I (v3)), some (mm_I (v4)), some (mm_I (v5)), some (mm_I ((v6) + (1 : Int))), some (mm_I ((0 : Int)))]) rfl ?_
          refine mu_rfl (n := 19) mc_119_64 (by decide) rfl rfl ?_
          exact H
        · replace H := H.2 c
          refine mu_const mc_119_44 (by decide) (by decide) ?_
          refine mu_rfl (n := 47) mc_119_45 (by decide) rfl rfl ?_
          refine mu_store mc_119_47 (by decide) (by simp) (ls' := [some (mm_P 24), some (mm_I (v1)), some (mm_I (v2)), some (mm_I (v3)), some (mm_I (v4)), some (mm_I (v5)), some (mm_I (v6)), some (mm_I ((1 : Int)))]) rfl ?_
          refine mu_load mc_119_48 (by decide) rfl ?_
          refine mu_if_eq mc_119_49 (fun c => absurd c (by decide)) (fun _ => ?_)
          refine mu_aload (r := some (24)) mc_119_50 (by decide) rfl ?_
          refine mu_get mc_119_51 rfl ?_
          refine mu_load mc_119_52 (by decide) rfl ?_
          have h15 := H.1
          replace H := H.2
          have h16 := H.1
          replace H := H.2
          refine mu_iald mc_119_53 rfl h15 h16 ?_
          refine mu_rfl (n := 56) mc_119_54 (by decide) rfl rfl ?_
          refine mu_store mc_119_56 (by decide) (by simp) (ls' := [some (mm_P 24), some (mm_I (v1)), some (mm_I (v2)), some (mm_I (v3)), some (mm_I (D9 28 (v5))), some (mm_I (v5)), some (mm_I (v6)), some (mm_I ((1 : Int)))]) rfl ?_
          refine mu_load mc_119_57 (by decide) rfl ?_
          refine mu_if_eq mc_119_58 (fun c => absurd c (by decide)) (fun _ => ?_)
          refine mu_load mc_119_59 (by decide) rfl ?_
          refine mu_rfl (n := 62) mc_119_60 (by decide) rfl rfl ?_
          refine mu_store mc_119_62 (by decide) (by simp) (ls' := [some (mm_P 24), some (mm_I (v1)), some (mm_I (v2)), some (mm_I (v6)), some (mm_I (D9 28 (v5))), some (mm_I (v5)), some (mm_I (v6)), some (mm_I ((1 : Int)))]) rfl ?_
          have h17 := H.1
          replace H := H.2
          refine mu_iinc mc_119_63 rfl h17 (ls' := [some (mm_P 24), some (mm_I (v1)), some (mm_I (v2)), some (mm_I (v6)), some (mm_I (D9 28 (v5))), some (mm_I (v5)), some (mm_I ((v6) + (1 : Int))), some (mm_I ((1 : Int)))]) rfl ?_
          refine mu_rfl (n := 19) mc_119_64 (by decide) rfl rfl ?_
          exact H

theorem q_X5_common_0 {D : mm_D} {u : Int} {x : Nat × (Nat × List Int)} {Q : mm_O → mm_H → Prop} (v1 : Int) (H : (((v1) ≤ 0) → mt 78 0 [some (mm_P 24), some (mm_I ((1 : Int)))] [] (mm_mk D u x) (mm_pI fun r4 D1 u2 x3 => (((r4) = 0) → Q (.inl (some (mm_I ((0 : Int))))) (mm_mk D1 u2 x3)) ∧ (¬ ((r4) = 0) → mt 119 0 [some (mm_P 24), some (mm_I (v1)), some (mm_I ((1 : Int))), none, none, none, none, none] [] (mm_mk D1 u2 x3) (mm_pI fun r8 D5 u6 x7 => Q (.inl (some (mm_I (r8)))) (mm_mk D5 u6 x7))))) ∧ (¬ ((v1) ≤ 0) → (0 ≤ (v1) ∧ 0 ≤ (D 24 3) ∧ (D 24 3) < 31) ∧ ((mm_rng ((v1) / 2 ^ (D 24 3).toNat)) ∧ (((¬ ((v1) / 2 ^ (D 24 3).toNat) = 0) → mt 78 0 [some (mm_P 24), some (mm_I ((1 : Int)))] [] (mm_mk D u x) (mm_pI fun r14 D11 u12 x13 => (((r14) = 0) → Q (.inl (some (mm_I ((0 : Int))))) (mm_mk D11 u12 x13)) ∧ (¬ ((r14) = 0) → mt 119 0 [some (mm_P 24), some (mm_I (v1)), some (mm_I ((1 : Int))), none, none, none, none, none] [] (mm_mk D11 u12 x13) (mm_pI fun r18 D15 u16 x17 => Q (.inl (some (mm_I (r18)))) (mm_mk D15 u16 x17))))) ∧ (¬ (¬ ((v1) / 2 ^ (D 24 3).toNat) = 0) → mt 78 0 [some (mm_P 24), some (mm_I ((0 : Int)))] [] (mm_mk D u x) (mm_pI fun r22 D19 u20 x21 => (((r22) = 0) → Q (.inl (some (mm_I ((0 : Int))))) (mm_mk D19 u20 x21)) ∧ (¬ ((r22) = 0) → mt 119 0 [some (mm_P 24), some (mm_I (v1)), some (mm_I ((1 : Int))), none, none, none, none, none] [] (mm_mk D19 u20 x21) (mm_pI fun r26 D23 u24 x25 => Q (.inl (some (mm_I (r26)))) (mm_mk D23 u24 x25))))))))) : mt 120 0 [some (mm_P 24), some (mm_I (v1))] [] (mm_mk D u x) Q := by
  refine mu_aload (r := some (24)) mc_120_0 (by decide) rfl ?_
  refine mu_load mc_120_1 (by decide) rfl ?_
  refine mu_if_le mc_120_2 (fun c => ?_) (fun c => ?_)
  · replace H := H.1 c
    refine mu_const mc_120_10 (by decide) (by decide) ?_
    refine mt_call (args := [mm_P 24, mm_I ((1 : Int))]) (rest := []) mc_120_11 (by decide) rfl rfl rfl ⟨by simp, rfl, by decide⟩ (mu_rcv (by decide) rfl (by decide)) H ?_
    rintro _ _ ⟨r4, D1, u2, x3, rfl, rfl, H⟩
    refine Or.inl ⟨_, rfl, ?_⟩
    refine mu_if_eq mc_120_12 (fun c => ?_) (fun c => ?_)
    · replace H := H.1 c
      refine mu_const mc_120_18 (by decide) (by decide) ?_
      exact mt_ret mc_120_19 H
    · replace H := H.2 c
      refine mu_aload (r := some (24)) mc_120_13 (by decide) rfl ?_
      refine mu_load mc_120_14 (by decide) rfl ?_
      refine mu_const mc_120_15 (by decide) (by decide) ?_
      refine mt_call (args := [mm_P 24, mm_I (v1), mm_I ((1 : Int))]) (rest := []) mc_120_16 (by decide) rfl rfl rfl ⟨by simp, rfl, by decide⟩ (mu_rcv (by decide) rfl (by decide)) H ?_
      rintro _ _ ⟨r8, D5, u6, x7, rfl, rfl, H⟩
      refine Or.inl ⟨_, rfl, ?_⟩
      refine mu_rfl (n := 19) mc_120_17 (by decide) rfl rfl ?_
      exact mt_ret mc_120_19 H
  · replace H := H.2 c
    refine mu_load mc_120_3 (by decide) rfl ?_
    refine mu_aload (r := some (24)) mc_120_4 (by decide) rfl ?_
    refine mu_get mc_120_5 rfl ?_
    have h9 := H.1
    replace H := H.2
    have h10 := H.1
    replace H := H.2
    refine mu_ishr mc_120_6 h9 h10 ?_
    refine mu_if_ne mc_120_7 (fun c => ?_) (fun c => ?_)
    · replace H := H.1 c
      refine mu_const mc_120_10 (by decide) (by decide) ?_
      refine mt_call (args := [mm_P 24, mm_I ((1 : Int))]) (rest := []) mc_120_11 (by decide) rfl rfl rfl ⟨by simp, rfl, by decide⟩ (mu_rcv (by decide) rfl (by decide)) H ?_
      rintro _ _ ⟨r14, D11, u12, x13, rfl, rfl, H⟩
      refine Or.inl ⟨_, rfl, ?_⟩
      refine mu_if_eq mc_120_12 (fun c => ?_) (fun c => ?_)
      · replace H := H.1 c
        refine mu_const mc_120_18 (by decide) (by decide) ?_
        exact mt_ret mc_120_19 H
      · replace H := H.2 c
        refine mu_aload (r := some (24)) mc_120_13 (by decide) rfl ?_
        refine mu_load mc_120_14 (by decide) rfl ?_
        refine mu_const mc_120_15 (by decide) (by decide) ?_
        refine mt_call (args := [mm_P 24, mm_I (v1), mm_I ((1 : Int))]) (rest := []) mc_120_16 (by decide) rfl rfl rfl ⟨by simp, rfl, by decide⟩ (mu_rcv (by decide) rfl (by decide)) H ?_
        rintro _ _ ⟨r18, D15, u16, x17, rfl, rfl, H⟩
        refine Or.inl ⟨_, rfl, ?_⟩
        refine mu_rfl (n := 19) mc_120_17 (by decide) rfl rfl ?_
        exact mt_ret mc_120_19 H
    · replace H := H.2 c
      refine mu_const mc_120_8 (by decide) (by decide) ?_
      refine mu_rfl (n := 11) mc_120_9 (by decide) rfl rfl ?_
      refine mt_call (args := [mm_P 24, mm_I ((0 : Int))]) (rest := []) mc_120_11 (by decide) rfl rfl rfl ⟨by simp, rfl, by decide⟩ (mu_rcv (by decide) rfl (by decide)) H ?_
      rintro _ _ ⟨r22, D19, u20, x21, rfl, rfl, H⟩
      refine Or.inl ⟨_, rfl, ?_⟩
      refine mu_if_eq mc_120_12 (fun c => ?_) (fun c => ?_)
      · replace H := H.1 c
        refine mu_const mc_120_18 (by decide) (by decide) ?_
        exact mt_ret mc_120_19 H
      · replace H := H.2 c
        refine mu_aload (r := some (24)) mc_120_13 (by decide) rfl ?_
        refine mu_load mc_120_14 (by decide) rfl ?_
        refine mu_const mc_120_15 (by decide) (by decide) ?_
        refine mt_call (args := [mm_P 24, mm_I (v1), mm_I ((1 : Int))]) (rest := []) mc_120_16 (by decide) rfl rfl rfl ⟨by simp, rfl, by decide⟩ (mu_rcv (by decide) rfl (by decide)) H ?_
        rintro _ _ ⟨r26, D23, u24, x25, rfl, rfl, H⟩
        refine Or.inl ⟨_, rfl, ?_⟩
        refine mu_rfl (n := 19) mc_120_17 (by decide) rfl rfl ?_
        exact mt_ret mc_120_19 H

theorem q_X5_repeated_0 {D : mm_D} {u : Int} {x : Nat × (Nat × List Int)} {Q : mm_O → mm_H → Prop} (v1 : Int) (H : (((v1) < ((1 : Int))) → mt 78 0 [some (mm_P 24), some (mm_I ((1 : Int)))] [] (mm_mk D u x) (mm_pI fun r4 D1 u2 x3 => (((r4) = 0) → Q (.inl (some (mm_I ((0 : Int))))) (mm_mk D1 u2 x3)) ∧ (¬ ((r4) = 0) → mt 119 0 [some (mm_P 24), some (mm_I ((0 : Int))), some (mm_I (v1)), none, none, none, none, none] [] (mm_mk D1 u2 x3) (mm_pI fun r8 D5 u6 x7 => Q (.inl (some (mm_I (r8)))) (mm_mk D5 u6 x7))))) ∧ (¬ ((v1) < ((1 : Int))) → mt 78 0 [some (mm_P 24), some (mm_I ((0 : Int)))] [] (mm_mk D u x) (mm_pI fun r12 D9 u10 x11 => (((r12) = 0) → Q (.inl (some (mm_I ((0 : Int))))) (mm_mk D9 u10 x11)) ∧ (¬ ((r12) = 0) → mt 119 0 [some (mm_P 24), some (mm_I ((0 : Int))), some (mm_I (v1)), none, none, none, none, none] [] (mm_mk D9 u10 x11) (mm_pI fun r16 D13 u14 x15 => Q (.inl (some (mm_I (r16)))) (mm_mk D13 u14 x15)))))) : mt 121 0 [some (mm_P 24), some (mm_I (v1))] [] (mm_mk D u x) Q := by
  refine mu_aload (r := some (24)) mc_121_0 (by decide) rfl ?_
  refine mu_load mc_121_1 (by decide) rfl ?_
  refine mu_const mc_121_2 (by decide) (by decide) ?_
  refine mu_ic_lt mc_121_3 (fun c => ?_) (fun c => ?_)
  · replace H := H.1 c
    refine mu_const mc_121_6 (by decide) (by decide) ?_
    refine mt_call (args := [mm_P 24, mm_I ((1 : Int))]) (rest := []) mc_121_7 (by decide) rfl rfl rfl ⟨by simp, rfl, by decide⟩ (mu_rcv (by decide) rfl (by decide)) H ?_
    rintro _ _ ⟨r4, D1, u2, x3, rfl, rfl, H⟩
    refine Or.inl ⟨_, rfl, ?_⟩
    refine mu_if_eq mc_121_8 (fun c => ?_) (fun c => ?_)
    · replace H := H.1 c
      refine mu_const mc_121_14 (by decide) (by decide) ?_
      exact mt_ret mc_121_15 H
    · replace H := H.2 c
      refine mu_aload (r := some (24)) mc_121_9 (by decide) rfl ?_
      refine mu_const mc_121_10 (by decide) (by decide) ?_
      refine mu_load mc_121_11 (by decide) rfl ?_
      refine mt_call (args := [mm_P 24, mm_I ((0 : Int)), mm_I (v1)]) (rest := []) mc_121_12 (by decide) rfl rfl rfl ⟨by simp, rfl, by decide⟩ (mu_rcv (by decide) rfl (by decide)) H ?_
      rintro _ _ ⟨r8, D5, u6, x7, rfl, rfl, H⟩
      refine Or.inl ⟨_, rfl, ?_⟩
      refine mu_rfl (n := 15) mc_121_13 (by decide) rfl rfl ?_
      exact mt_ret mc_121_15 H
  · replace H := H.2 c
    refine mu_const mc_121_4 (by decide) (by decide) ?_
    refine mu_rfl (n := 7) mc_121_5 (by decide) rfl rfl ?_
    refine mt_call (args := [mm_P 24, mm_I ((0 : Int))]) (rest := []) mc_121_7 (by decide) rfl rfl rfl ⟨by simp, rfl, by decide⟩ (mu_rcv (by decide) rfl (by decide)) H ?_
    rintro _ _ ⟨r12, D9, u10, x11, rfl, rfl, H⟩
    refine Or.inl ⟨_, rfl, ?_⟩
    refine mu_if_eq mc_121_8 (fun c => ?_) (fun c => ?_)
    · replace H := H.1 c
      refine mu_const mc_121_14 (by decide) (by decide) ?_
      exact mt_ret mc_121_15 H
    · replace H := H.2 c
      refine mu_aload (r := some (24)) mc_121_9 (by decide) rfl ?_
      refine mu_const mc_121_10 (by decide) (by decide) ?_
      refine mu_load mc_121_11 (by decide) rfl ?_
      refine mt_call (args := [mm_P 24, mm_I ((0 : Int)), mm_I (v1)]) (rest := []) mc_121_12 (by decide) rfl rfl rfl ⟨by simp, rfl, by decide⟩ (mu_rcv (by decide) rfl (by decide)) H ?_
      rintro _ _ ⟨r16, D13, u14, x15, rfl, rfl, H⟩
      refine Or.inl ⟨_, rfl, ?_⟩
      refine mu_rfl (n := 15) mc_121_13 (by decide) rfl rfl ?_
      exact mt_ret mc_121_15 H

theorem q_X5_goesOn_0 {D : mm_D} {u : Int} {x : Nat × (Nat × List Int)} {Q : mm_O → mm_H → Prop} (v1 : Int) (H : (mm_rng ((D 24 6) - ((1 : Int)))) ∧ (mt 122 5 [some (mm_P 24), some (mm_I (v1)), some (mm_I ((D 24 6) - ((1 : Int))))] [] (mm_mk D u x) Q)) : mt 122 0 [some (mm_P 24), some (mm_I (v1)), none] [] (mm_mk D u x) Q := by
  refine mu_aload (r := some (24)) mc_122_0 (by decide) rfl ?_
  refine mu_get mc_122_1 rfl ?_
  refine mu_const mc_122_2 (by decide) (by decide) ?_
  have h1 := H.1
  replace H := H.2
  refine mu_isub mc_122_3 h1 ?_
  refine mu_store mc_122_4 (by decide) (by simp) (ls' := [some (mm_P 24), some (mm_I (v1)), some (mm_I ((D 24 6) - ((1 : Int))))]) rfl ?_
  exact H
theorem q_X5_goesOn_5 {D : mm_D} {u : Int} {x : Nat × (Nat × List Int)} {Q : mm_O → mm_H → Prop} (v1 v2 : Int) (H : (((v2) < 0) → (((v2) < 0) → (((v2) < 0) → Q (.inl (some (mm_I ((0 : Int))))) (mm_mk D u x)) ∧ (¬ ((v2) < 0) → Q (.inl (some (mm_I ((1 : Int))))) (mm_mk D u x))) ∧ (¬ ((v2) < 0) → (0 ≤ (v2)) ∧ (((v2) < 120) ∧ ((mm_rng ((D 27 (v2)) + ((1 : Int)))) ∧ ((0 ≤ (v2)) ∧ (((v2) < 120) ∧ (∀ D6 : mm_D, D6 = mm_wr D 27 (v2) ((D 27 (v2)) + ((1 : Int))) → ((((v2) < 0) → Q (.inl (some (mm_I ((0 : Int))))) (mm_mk D6 u x)) ∧ (¬ ((v2) < 0) → Q (.inl (some (mm_I ((1 : Int))))) (mm_mk D6 u x)))))))))) ∧ (¬ ((v2) < 0) → (0 ≤ (v2)) ∧ (((v2) < 120) ∧ ((mm_rng ((v1) - ((1 : Int)))) ∧ (((¬ (D 27 (v2)) = ((v1) - ((1 : Int)))) → (((v2) < 0) → (((v2) < 0) → Q (.inl (some (mm_I ((0 : Int))))) (mm_mk D u x)) ∧ (¬ ((v2) < 0) → Q (.inl (some (mm_I ((1 : Int))))) (mm_mk D u x))) ∧ (¬ ((v2) < 0) → (0 ≤ (v2)) ∧ (((v2) < 120) ∧ ((mm_rng ((D 27 (v2)) + ((1 : Int)))) ∧ ((0 ≤ (v2)) ∧ (((v2) < 120) ∧ (∀ D15 : mm_D, D15 = mm_wr D 27 (v2) ((D 27 (v2)) + ((1 : Int))) → ((((v2) < 0) → Q (.inl (some (mm_I ((0 : Int))))) (mm_mk D15 u x)) ∧ (¬ ((v2) < 0) → Q (.inl (some (mm_I ((1 : Int))))) (mm_mk D15 u x)))))))))) ∧ (¬ (¬ (D 27 (v2)) = ((v1) - ((1 : Int)))) → (0 ≤ (v2)) ∧ (((v2) < 120) ∧ (∀ D18 : mm_D, D18 = mm_wr D 27 (v2) ((0 : Int)) → ((mm_rng ((v2) + (-1 : Int))) ∧ (mt 122 5 [some (mm_P 24), some (mm_I (v1)), some (mm_I ((v2) + (-1 : Int)))] [] (mm_mk D18 u x) Q)))))))))) : mt 122 5 [some (mm_P 24), some (mm_I (v1)), some (mm_I (v2))] [] (mm_mk D u x) Q := by
  refine mu_load mc_122_5 (by decide) rfl ?_
  refine mu_if_lt mc_122_6 (fun c => ?_) (fun c => ?_)
  · replace H := H.1 c
    refine mu_load mc_122_22 (by decide) rfl ?_
    refine mu_if_lt mc_122_23 (fun c => ?_) (fun c => ?_)
    · replace H := H.1 c
      refine mu_load mc_122_32 (by decide) rfl ?_
      refine mu_if_lt mc_122_33 (fun c => ?_) (fun c => ?_)
      · replace H := H.1 c
        refine mu_const mc_122_36 (by decide) (by decide) ?_
        exact mt_retB mc_122_37 (by decide) H
      · replace H := H.2 c
        refine mu_const mc_122_34 (by decide) (by decide) ?_
        refine mu_rfl (n := 37) mc_122_35 (by decide) rfl rfl ?_
        exact mt_retB mc_122_37 (by decide) H
    · replace H := H.2 c
      refine mu_aload (r := some (24)) mc_122_24 (by decide) rfl ?_
      refine mu_get mc_122_25 rfl ?_
      refine mu_load mc_122_26 (by decide) rfl ?_
      refine mu_rfl mc_122_27 (by decide) rfl rfl ?_
      have h1 := H.1
      replace H := H.2
      have h2 := H.1
      replace H := H.2
      refine mu_iald mc_122_28 rfl h1 h2 ?_
      refine mu_const mc_122_29 (by decide) (by decide) ?_
      have h3 := H.1
      replace H := H.2
      refine mu_iadd mc_122_30 h3 ?_
      have h4 := H.1
      replace H := H.2
      have h5 := H.1
      replace H := H.2
      refine mu_iast mc_122_31 rfl h4 h5 ?_
      obtain ⟨D6, eD6⟩ : ∃ z, z = mm_wr D 27 (v2) ((D 27 (v2)) + ((1 : Int))) := ⟨_, rfl⟩
      replace H := H D6 eD6
      rw [← eD6]
      refine mu_load mc_122_32 (by decide) rfl ?_
      refine mu_if_lt mc_122_33 (fun c => ?_) (fun c => ?_)
      · replace H := H.1 c
        refine mu_const mc_122_36 (by decide) (by decide) ?_
        exact mt_retB mc_122_37 (by decide) H
      · replace H := H.2 c
        refine mu_const mc_122_34 (by decide) (by decide) ?_
        refine mu_rfl (n := 37) mc_122_35 (by decide) rfl rfl ?_
        exact mt_retB mc_122_37 (by decide) H
  · replace H := H.2 c
    refine mu_aload (r := some (24)) mc_122_7 (by decide) rfl ?_
    refine mu_get mc_122_8 rfl ?_
    refine mu_load mc_122_9 (by decide) rfl ?_
    have h7 := H.1
    replace H := H.2
    have h8 := H.1
    replace H := H.2
    refine mu_iald mc_122_10 rfl h7 h8 ?_
    refine mu_load mc_122_11 (by decide) rfl ?_
    refine mu_const mc_122_12 (by decide) (by decide) ?_
    have h9 := H.1
    replace H := H.2
    refine mu_isub mc_122_13 h9 ?_
    refine mu_ic_ne mc_122_14 (fun c => ?_) (fun c => ?_)
    · replace H := H.1 c
      refine mu_load mc_122_22 (by decide) rfl ?_
      refine mu_if_lt mc_122_23 (fun c => ?_) (fun c => ?_)
      · replace H := H.1 c
        refine mu_load mc_122_32 (by decide) rfl ?_
        refine mu_if_lt mc_122_33 (fun c => ?_) (fun c => ?_)
        · replace H := H.1 c
          refine mu_const mc_122_36 (by decide) (by decide) ?_
          exact mt_retB mc_122_37 (by decide) H
        · replace H := H.2 c
          refine mu_const mc_122_34 (by decide) (by decide) ?_
          refine mu_rfl (n := 37) mc_122_35 (by decide) rfl rfl ?_
          exact mt_retB mc_122_37 (by decide) H
      · replace H := H.2 c
        refine mu_aload (r := some (24)) mc_122_24 (by decide) rfl ?_
        refine mu_get mc_122_25 rfl ?_
        refine mu_load mc_122_26 (by decide) rfl ?_
        refine mu_rfl mc_122_27 (by decide) rfl rfl ?_
        have h10 := H.1
        replace H := H.2
        have h11 := H.1
        replace H := H.2
        refine mu_iald mc_122_28 rfl h10 h11 ?_
        refine mu_const mc_122_29 (by decide) (by decide) ?_
        have h12 := H.1
        replace H := H.2
        refine mu_iadd mc_122_30 h12 ?_
        have h13 := H.1
        replace H := H.2
        have h14 := H.1
        replace H := H.2
        refine mu_iast mc_122_31 rfl h13 h14 ?_
        obtain ⟨D15, eD15⟩ : ∃ z, z = mm_wr D 27 (v2) ((D 27 (v2)) + ((1 : Int))) := ⟨_, rfl⟩
        replace H := H D15 eD15
        rw [← eD15]
        refine mu_load mc_122_32 (by decide) rfl ?_
        refine mu_if_lt mc_122_33 (fun c => ?_) (fun c => ?_)
        · replace H := H.1 c
          refine mu_const mc_122_36 (by decide) (by decide) ?_
          exact mt_retB mc_122_37 (by decide) H
        · replace H := H.2 c
          refine mu_const mc_122_34 (by decide) (by decide) ?_
          refine mu_rfl (n := 37) mc_122_35 (by decide) rfl rfl ?_
          exact mt_retB mc_122_37 (by decide) H
    · replace H := H.2 c
      refine mu_aload (r := some (24)) mc_122_15 (by decide) rfl ?_
      refine mu_get mc_122_16 rfl ?_
      refine mu_load mc_122_17 (by decide) rfl ?_
      refine mu_const mc_122_18 (by decide) (by decide) ?_
      have h16 := H.1
      replace H := H.2
      have h17 := H.1
      replace H := H.2
      refine mu_iast mc_122_19 rfl h16 h17 ?_
      obtain ⟨D18, eD18⟩ : ∃ z, z = mm_wr D 27 (v2) ((0 : Int)) := ⟨_, rfl⟩
      replace H := H D18 eD18
      rw [← eD18]
      have h19 := H.1
      replace H := H.2
      refine mu_iinc mc_122_20 rfl h19 (ls' := [some (mm_P 24), some (mm_I (v1)), some (mm_I ((v2) + (-1 : Int)))]) rfl ?_
      refine mu_rfl (n := 5) mc_122_21 (by decide) rfl rfl ?_
      exact H

theorem q_X5_missing_0 {D : mm_D} {u : Int} {x : Nat × (Nat × List Int)} {Q : mm_O → mm_H → Prop} (v1 : Int) (H : (((v1) < ((1 : Int))) → mt 78 0 [some (mm_P 24), some (mm_I ((1 : Int)))] [] (mm_mk D u x) (mm_pI fun r4 D1 u2 x3 => ((¬ (r4) = 0) → ∀ D5 : mm_D, D5 = mm_wr D1 24 6 ((1 : Int)) → (∀ D6 : mm_D, D6 = mm_wr D5 27 ((0 : Int)) ((0 : Int)) → (mt 123 22 [some (mm_P 24), some (mm_I (v1))] [] (mm_mk D6 u2 x3) Q))) ∧ (¬ (¬ (r4) = 0) → Q (.inl (some (mm_I ((0 : Int))))) (mm_mk D1 u2 x3)))) ∧ (¬ ((v1) < ((1 : Int))) → ((((26 : Int)) < (v1)) → mt 78 0 [some (mm_P 24), some (mm_I ((1 : Int)))] [] (mm_mk D u x) (mm_pI fun r10 D7 u8 x9 => ((¬ (r10) = 0) → ∀ D11 : mm_D, D11 = mm_wr D7 24 6 ((1 : Int)) → (∀ D12 : mm_D, D12 = mm_wr D11 27 ((0 : Int)) ((0 : Int)) → (mt 123 22 [some (mm_P 24), some (mm_I (v1))] [] (mm_mk D12 u8 x9) Q))) ∧ (¬ (¬ (r10) = 0) → Q (.inl (some (mm_I ((0 : Int))))) (mm_mk D7 u8 x9)))) ∧ (¬ (((26 : Int)) < (v1)) → mt 78 0 [some (mm_P 24), some (mm_I ((0 : Int)))] [] (mm_mk D u x) (mm_pI fun r16 D13 u14 x15 => ((¬ (r16) = 0) → ∀ D17 : mm_D, D17 = mm_wr D13 24 6 ((1 : Int)) → (∀ D18 : mm_D, D18 = mm_wr D17 27 ((0 : Int)) ((0 : Int)) → (mt 123 22 [some (mm_P 24), some (mm_I (v1))] [] (mm_mk D18 u14 x15) Q))) ∧ (¬ (¬ (r16) = 0) → Q (.inl (some (mm_I ((0 : Int))))) (mm_mk D13 u14 x15)))))) : mt 123 0 [some (mm_P 24), some (mm_I (v1))] [] (mm_mk D u x) Q := by
  refine mu_aload (r := some (24)) mc_123_0 (by decide) rfl ?_
  refine mu_load mc_123_1 (by decide) rfl ?_
  refine mu_const mc_123_2 (by decide) (by decide) ?_
  refine mu_ic_lt mc_123_3 (fun c => ?_) (fun c => ?_)
  · replace H := H.1 c
    refine mu_const mc_123_9 (by decide) (by decide) ?_
    refine mt_call (args := [mm_P 24, mm_I ((1 : Int))]) (rest := []) mc_123_10 (by decide) rfl rfl rfl ⟨by simp, rfl, by decide⟩ (mu_rcv (by decide) rfl (by decide)) H ?_
    rintro _ _ ⟨r4, D1, u2, x3, rfl, rfl, H⟩
    refine Or.inl ⟨_, rfl, ?_⟩
    refine mu_if_ne mc_123_11 (fun c => ?_) (fun c => ?_)
    · replace H := H.1 c
      refine mu_aload (r := some (24)) mc_123_14 (by decide) rfl ?_
      refine mu_const mc_123_15 (by decide) (by decide) ?_
      refine mu_put mc_123_16 (by decide) (Or.inl rfl) ?_
      obtain ⟨D5, eD5⟩ : ∃ z, z = mm_wr D1 24 6 ((1 : Int)) := ⟨_, rfl⟩
      replace H := H D5 eD5
      show mt _ _ _ _ (mm_mk (mm_wr D1 24 6 ((1 : Int))) _ _) _
      rw [← eD5]
      refine mu_aload (r := some (24)) mc_123_17 (by decide) rfl ?_
      refine mu_get mc_123_18 rfl ?_
      refine mu_const mc_123_19 (by decide) (by decide) ?_
      refine mu_const mc_123_20 (by decide) (by decide) ?_
      refine mu_iast mc_123_21 rfl (by decide) (by decide) ?_
      obtain ⟨D6, eD6⟩ : ∃ z, z = mm_wr D5 27 ((0 : Int)) ((0 : Int)) := ⟨_, rfl⟩
      replace H := H D6 eD6
      rw [← eD6]
      exact H
    · replace H := H.2 c
      refine mu_const mc_123_12 (by decide) (by decide) ?_
      exact mt_ret mc_123_13 H
  · replace H := H.2 c
    refine mu_load mc_123_4 (by decide) rfl ?_
    refine mu_const mc_123_5 (by decide) (by decide) ?_
    refine mu_ic_gt mc_123_6 (fun c => ?_) (fun c => ?_)
    · replace H := H.1 c
      refine mu_const mc_123_9 (by decide) (by decide) ?_
      refine mt_call (args := [mm_P 24, mm_I ((1 : Int))]) (rest := []) mc_123_10 (by decide) rfl rfl rfl ⟨by simp, rfl, by decide⟩ (mu_rcv (by decide) rfl (by decide)) H ?_
      rintro _ _ ⟨r10, D7, u8, x9, rfl, rfl, H⟩
      refine Or.inl ⟨_, rfl, ?_⟩
      refine mu_if_ne mc_123_11 (fun c => ?_) (fun c => ?_)
      · replace H := H.1 c
        refine mu_aload (r := some (24)) mc_123_14 (by decide) rfl ?_
        refine mu_const mc_123_15 (by decide) (by decide) ?_
        refine mu_put mc_123_16 (by decide) (Or.inl rfl) ?_
        obtain ⟨D11, eD11⟩ : ∃ z, z = mm_wr D7 24 6 ((1 : Int)) := ⟨_, rfl⟩
        replace H := H D11 eD11
        show mt _ _ _ _ (mm_mk (mm_wr D7 24 6 ((1 : Int))) _ _) _
        rw [← eD11]
        refine mu_aload (r := some (24)) mc_123_17 (by decide) rfl ?_
        refine mu_get mc_123_18 rfl ?_
        refine mu_const mc_123_19 (by decide) (by decide) ?_
        refine mu_const mc_123_20 (by decide) (by decide) ?_
        refine mu_iast mc_123_21 rfl (by decide) (by decide) ?_
        obtain ⟨D12, eD12⟩ : ∃ z, z = mm_wr D11 27 ((0 : Int)) ((0 : Int)) := ⟨_, rfl⟩
        replace H := H D12 eD12
        rw [← eD12]
        exact H
      · replace H := H.2 c
        refine mu_const mc_123_12 (by decide) (by decide) ?_
        exact mt_ret mc_123_13 H
    · replace H := H.2 c
      refine mu_const mc_123_7 (by decide) (by decide) ?_
      refine mu_rfl (n := 10) mc_123_8 (by decide) rfl rfl ?_
      refine mt_call (args := [mm_P 24, mm_I ((0 : Int))]) (rest := []) mc_123_10 (by decide) rfl rfl rfl ⟨by simp, rfl, by decide⟩ (mu_rcv (by decide) rfl (by decide)) H ?_
      rintro _ _ ⟨r16, D13, u14, x15, rfl, rfl, H⟩
      refine Or.inl ⟨_, rfl, ?_⟩
      refine mu_if_ne mc_123_11 (fun c => ?_) (fun c => ?_)
      · replace H := H.1 c
        refine mu_aload (r := some (24)) mc_123_14 (by decide) rfl ?_
        refine mu_const mc_123_15 (by decide) (by decide) ?_
        refine mu_put mc_123_16 (by decide) (Or.inl rfl) ?_
        obtain ⟨D17, eD17⟩ : ∃ z, z = mm_wr D13 24 6 ((1 : Int)) := ⟨_, rfl⟩
        replace H := H D17 eD17
        show mt _ _ _ _ (mm_mk (mm_wr D13 24 6 ((1 : Int))) _ _) _
        rw [← eD17]
        refine mu_aload (r := some (24)) mc_123_17 (by decide) rfl ?_
        refine mu_get mc_123_18 rfl ?_
        refine mu_const mc_123_19 (by decide) (by decide) ?_
        refine mu_const mc_123_20 (by decide) (by decide) ?_
        refine mu_iast mc_123_21 rfl (by decide) (by decide) ?_
        obtain ⟨D18, eD18⟩ : ∃ z, z = mm_wr D17 27 ((0 : Int)) ((0 : Int)) := ⟨_, rfl⟩
        replace H := H D18 eD18
        rw [← eD18]
        exact H
      · replace H := H.2 c
        refine mu_const mc_123_12 (by decide) (by decide) ?_
        exact mt_ret mc_123_13 H
theorem q_X5_missing_22 {D : mm_D} {u : Int} {x : Nat × (Nat × List Int)} {Q : mm_O → mm_H → Prop} (v1 : Int) (H : mt 96 0 [some (mm_P 24), some (mm_I ((0 : Int))), none, none] [] (mm_mk D u x) (mm_pI fun r4 D1 u2 x3 => (((r4) ≤ 0) → Q (.inl (some (mm_I (D1 24 6)))) (mm_mk D1 u2 x3)) ∧ (¬ ((r4) ≤ 0) → mt 122 0 [some (mm_P 24), some (mm_I (v1)), none] [] (mm_mk D1 u2 x3) (mm_pI fun r8 D5 u6 x7 => ((¬ (r8) = 0) → mt 123 22 [some (mm_P 24), some (mm_I (v1))] [] (mm_mk D5 u6 x7) Q) ∧ (¬ (¬ (r8) = 0) → (0 ≤ (D5 24 6)) ∧ (((D5 24 6) < 120) ∧ (∀ D11 : mm_D, D11 = mm_wr D5 27 (D5 24 6) ((0 : Int)) → ((mm_rng ((D11 24 6) + ((1 : Int)))) ∧ (∀ D13 : mm_D, D13 = mm_wr D11 24 6 ((D11 24 6) + ((1 : Int))) → (mt 123 22 [some (mm_P 24), some (mm_I (v1))] [] (mm_mk D13 u6 x7) Q)))))))))) : mt 123 22 [some (mm_P 24), some (mm_I (v1))] [] (mm_mk D u x) Q := by
  refine mu_aload (r := some (24)) mc_123_22 (by decide) rfl ?_
  refine mu_const mc_123_23 (by decide) (by decide) ?_
  refine mt_call (args := [mm_P 24, mm_I ((0 : Int))]) (rest := []) mc_123_24 (by decide) rfl rfl rfl ⟨by simp, rfl, by decide⟩ (mu_rcv (by decide) rfl (by decide)) H ?_
  rintro _ _ ⟨r4, D1, u2, x3, rfl, rfl, H⟩
  refine Or.inl ⟨_, rfl, ?_⟩
  refine mu_if_le mc_123_25 (fun c => ?_) (fun c => ?_)
  · replace H := H.1 c
    refine mu_aload (r := some (24)) mc_123_43 (by decide) rfl ?_
    refine mu_get mc_123_44 rfl ?_
    exact mt_ret mc_123_45 H
  · replace H := H.2 c
    refine mu_aload (r := some (24)) mc_123_26 (by decide) rfl ?_
    refine mu_load mc_123_27 (by decide) rfl ?_
    refine mt_call (args := [mm_P 24, mm_I (v1)]) (rest := []) mc_123_28 (by decide) rfl rfl rfl ⟨by simp, rfl, by decide⟩ (mu_rcv (by decide) rfl (by decide)) H ?_
    rintro _ _ ⟨r8, D5, u6, x7, rfl, rfl, H⟩
    refine Or.inl ⟨_, rfl, ?_⟩
    refine mu_if_ne mc_123_29 (fun c => ?_) (fun c => ?_)
    · replace H := H.1 c
      exact H
    · replace H := H.2 c
      refine mu_aload (r := some (24)) mc_123_30 (by decide) rfl ?_
      refine mu_get mc_123_31 rfl ?_
      refine mu_aload (r := some (24)) mc_123_32 (by decide) rfl ?_
      refine mu_get mc_123_33 rfl ?_
      refine mu_const mc_123_34 (by decide) (by decide) ?_
      have h9 := H.1
      replace H := H.2
      have h10 := H.1
      replace H := H.2
      refine mu_iast mc_123_35 rfl h9 h10 ?_
      obtain ⟨D11, eD11⟩ : ∃ z, z = mm_wr D5 27 (D5 24 6) ((0 : Int)) := ⟨_, rfl⟩
      replace H := H D11 eD11
      rw [← eD11]
      refine mu_aload (r := some (24)) mc_123_36 (by decide) rfl ?_
      refine mu_rfl mc_123_37 (by decide) rfl rfl ?_
      refine mu_get mc_123_38 rfl ?_
      refine mu_const mc_123_39 (by decide) (by decide) ?_
      have h12 := H.1
      replace H := H.2
      refine mu_iadd mc_123_40 h12 ?_
      refine mu_put mc_123_41 (by decide) (Or.inl rfl) ?_
      obtain ⟨D13, eD13⟩ : ∃ z, z = mm_wr D11 24 6 ((D11 24 6) + ((1 : Int))) := ⟨_, rfl⟩
      replace H := H D13 eD13
      show mt _ _ _ _ (mm_mk (mm_wr D11 24 6 ((D11 24 6) + ((1 : Int)))) _ _) _
      rw [← eD13]
      refine mu_rfl (n := 22) mc_123_42 (by decide) rfl rfl ?_
      exact H
