/-! printed by wip/p31/gen22.py -/
theorem q_X3_size_0 {D : mm_D} {u : Int} {x : Nat × (Nat × List Int)} {Q : mm_O → mm_H → Prop} {w : Nat} (hw : mm_isW w) (H : Q (.inl (some (mm_I (D w 1)))) (mm_mk D u x)) : mt 36 0 [some (mm_P w)] [] (mm_mk D u x) Q := by
  refine mu_aload (r := some (w)) mc_36_0 (by decide) rfl ?_
  refine mu_get mc_36_1 (mm_fvW _ hw).2.1 ?_
  exact mt_ret mc_36_2 H

theorem q_X3_letter_0 {D : mm_D} {u : Int} {x : Nat × (Nat × List Int)} {Q : mm_O → mm_H → Prop} (v1 : Int) {w : Nat} (hw : mm_isW w) (H : mt 70 0 [some (mm_I (v1)), some (mm_I (D w 1))] [] (mm_mk D u x) (mm_pI fun r4 D1 u2 x3 => (((r4) = 0) → Q (.inl (some (mm_I ((-1 : Int))))) (mm_mk D1 u2 x3)) ∧ (¬ ((r4) = 0) → (((((if w = 10 then 120 else 100 : Nat) : Int)) ≤ (v1)) → Q (.inl (some (mm_I ((-1 : Int))))) (mm_mk D1 u2 x3)) ∧ (¬ ((((if w = 10 then 120 else 100 : Nat) : Int)) ≤ (v1)) → (0 ≤ (v1)) ∧ (((v1) < (((if w = 10 then 120 else 100) : Nat) : Int)) ∧ (Q (.inl (some (mm_I (D1 (w + 1) (v1))))) (mm_mk D1 u2 x3))))))) : mt 37 0 [some (mm_P w), some (mm_I (v1))] [] (mm_mk D u x) Q := by
  refine mu_load mc_37_0 (by decide) rfl ?_
  refine mu_aload (r := some (w)) mc_37_1 (by decide) rfl ?_
  refine mu_get mc_37_2 (mm_fvW _ hw).2.1 ?_
  refine mt_call (args := [mm_I (v1), mm_I (D w 1)]) (rest := []) mc_37_3 (by decide) rfl rfl rfl ⟨Or.inl (by simp), rfl, by decide⟩ rfl H ?_
  rintro _ _ ⟨r4, D1, u2, x3, rfl, rfl, H⟩
  refine Or.inl ⟨_, rfl, ?_⟩
  refine mu_if_eq mc_37_4 (fun c => ?_) (fun c => ?_)
  · replace H := H.1 c
    refine mu_const mc_37_15 (by decide) (by decide) ?_
    exact mt_ret mc_37_16 H
  · replace H := H.2 c
    refine mu_load mc_37_5 (by decide) rfl ?_
    refine mu_aload (r := some (w)) mc_37_6 (by decide) rfl ?_
    refine mu_get mc_37_7 (mm_fvW _ hw).1 ?_
    refine mu_alen mc_37_8 (mm_fvW D1 hw).2.2 ?_
    refine mu_ic_ge mc_37_9 (fun c => ?_) (fun c => ?_)
    · replace H := H.1 c
      refine mu_const mc_37_15 (by decide) (by decide) ?_
      exact mt_ret mc_37_16 H
    · replace H := H.2 c
      refine mu_aload (r := some (w)) mc_37_10 (by decide) rfl ?_
      refine mu_get mc_37_11 (mm_fvW _ hw).1 ?_
      refine mu_load mc_37_12 (by decide) rfl ?_
      have h5 := H.1
      replace H := H.2
      have h6 := H.1
      replace H := H.2
      refine mu_iald mc_37_13 (mm_fvW D1 hw).2.2 h5 h6 ?_
      refine mu_rfl (n := 16) mc_37_14 (by decide) rfl rfl ?_
      exact mt_ret mc_37_16 H

theorem q_X3_add_0 {D : mm_D} {u : Int} {x : Nat × (Nat × List Int)} {Q : mm_O → mm_H → Prop} (v1 : Int) {w : Nat} (hw : mm_isW w) (H : mt 70 0 [some (mm_I (D w 1)), some (mm_I (((if w = 10 then 120 else 100 : Nat) : Int)))] [] (mm_mk D u x) (mm_pI fun r4 D1 u2 x3 => (((r4) = 0) → Q (.inl none) (mm_mk D1 u2 x3)) ∧ (¬ ((r4) = 0) → mt 70 0 [some (mm_I (v1)), some (mm_I ((26 : Int)))] [] (mm_mk D1 u2 x3) (mm_pI fun r8 D5 u6 x7 => (((r8) = 0) → Q (.inl none) (mm_mk D5 u6 x7)) ∧ (¬ ((r8) = 0) → (0 ≤ (D5 w 1)) ∧ (((D5 w 1) < (((if w = 10 then 120 else 100) : Nat) : Int)) ∧ (∀ D11 : mm_D, D11 = mm_wr D5 (w + 1) (D5 w 1) (v1) → ((mm_rng ((D11 w 1) + ((1 : Int)))) ∧ (∀ D13 : mm_D, D13 = mm_wr D11 w 1 ((D11 w 1) + ((1 : Int))) → (Q (.inl none) (mm_mk D13 u6 x7))))))))))) : mt 38 0 [some (mm_P w), some (mm_I (v1))] [] (mm_mk D u x) Q := by
  refine mu_aload (r := some (w)) mc_38_0 (by decide) rfl ?_
  refine mu_get mc_38_1 (mm_fvW _ hw).2.1 ?_
  refine mu_aload (r := some (w)) mc_38_2 (by decide) rfl ?_
  refine mu_get mc_38_3 (mm_fvW _ hw).1 ?_
  refine mu_alen mc_38_4 (mm_fvW D hw).2.2 ?_
  refine mt_call (args := [mm_I (D w 1), mm_I (((if w = 10 then 120 else 100 : Nat) : Int))]) (rest := []) mc_38_5 (by decide) rfl rfl rfl ⟨Or.inl (by simp), rfl, by decide⟩ rfl H ?_
  rintro _ _ ⟨r4, D1, u2, x3, rfl, rfl, H⟩
  refine Or.inl ⟨_, rfl, ?_⟩
  refine mu_if_eq mc_38_6 (fun c => ?_) (fun c => ?_)
  · replace H := H.1 c
    exact mt_retV mc_38_23 H
  · replace H := H.2 c
    refine mu_load mc_38_7 (by decide) rfl ?_
    refine mu_const mc_38_8 (by decide) (by decide) ?_
    refine mt_call (args := [mm_I (v1), mm_I ((26 : Int))]) (rest := []) mc_38_9 (by decide) rfl rfl rfl ⟨Or.inl (by simp), rfl, by decide⟩ rfl H ?_
    rintro _ _ ⟨r8, D5, u6, x7, rfl, rfl, H⟩
    refine Or.inl ⟨_, rfl, ?_⟩
    refine mu_if_eq mc_38_10 (fun c => ?_) (fun c => ?_)
    · replace H := H.1 c
      exact mt_retV mc_38_23 H
    · replace H := H.2 c
      refine mu_aload (r := some (w)) mc_38_11 (by decide) rfl ?_
      refine mu_get mc_38_12 (mm_fvW _ hw).1 ?_
      refine mu_aload (r := some (w)) mc_38_13 (by decide) rfl ?_
      refine mu_get mc_38_14 (mm_fvW _ hw).2.1 ?_
      refine mu_load mc_38_15 (by decide) rfl ?_
      have h9 := H.1
      replace H := H.2
      have h10 := H.1
      replace H := H.2
      refine mu_iast mc_38_16 (mm_fvW D5 hw).2.2 h9 h10 ?_
      obtain ⟨D11, eD11⟩ : ∃ z, z = mm_wr D5 (w + 1) (D5 w 1) (v1) := ⟨_, rfl⟩
      replace H := H D11 eD11
      rw [← eD11]
      refine mu_aload (r := some (w)) mc_38_17 (by decide) rfl ?_
      refine mu_rfl mc_38_18 (by decide) rfl rfl ?_
      refine mu_get mc_38_19 (mm_fvW _ hw).2.1 ?_
      refine mu_const mc_38_20 (by decide) (by decide) ?_
      have h12 := H.1
      replace H := H.2
      refine mu_iadd mc_38_21 h12 ?_
      refine mu_put mc_38_22 (mm_pvW hw) (Or.inl rfl) ?_
      obtain ⟨D13, eD13⟩ : ∃ z, z = mm_wr D11 w 1 ((D11 w 1) + ((1 : Int))) := ⟨_, rfl⟩
      replace H := H D13 eD13
      show mt _ _ _ _ (mm_mk (mm_wr D11 w 1 ((D11 w 1) + ((1 : Int)))) _ _) _
      rw [← eD13]
      exact mt_retV mc_38_23 H

theorem q_X3_shorten_0 {D : mm_D} {u : Int} {x : Nat × (Nat × List Int)} {Q : mm_O → mm_H → Prop} {w : Nat} (hw : mm_isW w) (H : (((D w 1) ≤ 0) → Q (.inl none) (mm_mk D u x)) ∧ (¬ ((D w 1) ≤ 0) → (mm_rng ((D w 1) - ((1 : Int)))) ∧ (∀ D2 : mm_D, D2 = mm_wr D w 1 ((D w 1) - ((1 : Int))) → (Q (.inl none) (mm_mk D2 u x))))) : mt 39 0 [some (mm_P w)] [] (mm_mk D u x) Q := by
  refine mu_aload (r := some (w)) mc_39_0 (by decide) rfl ?_
  refine mu_get mc_39_1 (mm_fvW _ hw).2.1 ?_
  refine mu_if_le mc_39_2 (fun c => ?_) (fun c => ?_)
  · replace H := H.1 c
    exact mt_retV mc_39_9 H
  · replace H := H.2 c
    refine mu_aload (r := some (w)) mc_39_3 (by decide) rfl ?_
    refine mu_rfl mc_39_4 (by decide) rfl rfl ?_
    refine mu_get mc_39_5 (mm_fvW _ hw).2.1 ?_
    refine mu_const mc_39_6 (by decide) (by decide) ?_
    have h1 := H.1
    replace H := H.2
    refine mu_isub mc_39_7 h1 ?_
    refine mu_put mc_39_8 (mm_pvW hw) (Or.inl rfl) ?_
    obtain ⟨D2, eD2⟩ : ∃ z, z = mm_wr D w 1 ((D w 1) - ((1 : Int))) := ⟨_, rfl⟩
    replace H := H D2 eD2
    show mt _ _ _ _ (mm_mk (mm_wr D w 1 ((D w 1) - ((1 : Int)))) _ _) _
    rw [← eD2]
    exact mt_retV mc_39_9 H

theorem q_X3_empty_0 {D : mm_D} {u : Int} {x : Nat × (Nat × List Int)} {Q : mm_O → mm_H → Prop} {w : Nat} (hw : mm_isW w) (H : ∀ D1 : mm_D, D1 = mm_wr D w 1 ((0 : Int)) → (Q (.inl none) (mm_mk D1 u x))) : mt 40 0 [some (mm_P w)] [] (mm_mk D u x) Q := by
  refine mu_aload (r := some (w)) mc_40_0 (by decide) rfl ?_
  refine mu_const mc_40_1 (by decide) (by decide) ?_
  refine mu_put mc_40_2 (mm_pvW hw) (Or.inl rfl) ?_
  obtain ⟨D1, eD1⟩ : ∃ z, z = mm_wr D w 1 ((0 : Int)) := ⟨_, rfl⟩
  replace H := H D1 eD1
  show mt _ _ _ _ (mm_mk (mm_wr D w 1 ((0 : Int))) _ _) _
  rw [← eD1]
  exact mt_retV mc_40_3 H
