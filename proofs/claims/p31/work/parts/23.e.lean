/-! printed by wip/p31/gen22.py -/
theorem q_X4_open_0 {D : mm_D} {u : Int} {x : Nat × (Nat × List Int)} {Q : mm_O → mm_H → Prop} (H : (((D 0 4) < ((4 : Int))) → (mm_rng ((D 0 4) + ((1 : Int)))) ∧ (∀ D2 : mm_D, D2 = mm_wr D 0 4 ((D 0 4) + ((1 : Int))) → ((mm_rng ((D2 0 4) - ((1 : Int)))) ∧ (Q (.inl (some (mm_I ((D2 0 4) - ((1 : Int)))))) (mm_mk D2 u x))))) ∧ (¬ ((D 0 4) < ((4 : Int))) → Q (.inr 2) (mm_mk D u (x.1 + 1, (x.2.1 + 6, x.2.2))))) : mt 43 0 [some (mm_P 0)] [] (mm_mk D u x) Q := by
  refine mu_aload (r := some (0)) mc_43_0 (by decide) rfl ?_
  refine mu_get mc_43_1 rfl ?_
  refine mu_const mc_43_2 (by decide) (by decide) ?_
  refine mu_ic_lt mc_43_3 (fun c => ?_) (fun c => ?_)
  · replace H := H.1 c
    refine mu_aload (r := some (0)) mc_43_9 (by decide) rfl ?_
    refine mu_rfl mc_43_10 (by decide) rfl rfl ?_
    refine mu_get mc_43_11 rfl ?_
    refine mu_const mc_43_12 (by decide) (by decide) ?_
    have h1 := H.1
    replace H := H.2
    refine mu_iadd mc_43_13 h1 ?_
    refine mu_put mc_43_14 (by decide) (Or.inl rfl) ?_
    obtain ⟨D2, eD2⟩ : ∃ z, z = mm_wr D 0 4 ((D 0 4) + ((1 : Int))) := ⟨_, rfl⟩
    replace H := H D2 eD2
    show mt _ _ _ _ (mm_mk (mm_wr D 0 4 ((D 0 4) + ((1 : Int)))) _ _) _
    rw [← eD2]
    refine mu_aload (r := some (0)) mc_43_15 (by decide) rfl ?_
    refine mu_get mc_43_16 rfl ?_
    refine mu_const mc_43_17 (by decide) (by decide) ?_
    have h3 := H.1
    replace H := H.2
    refine mu_isub mc_43_18 h3 ?_
    exact mt_ret mc_43_19 H
  · replace H := H.2 c
    exact mt_thr mc_43_4 H

theorem q_X4_append_0 {D : mm_D} {u : Int} {x : Nat × (Nat × List Int)} {Q : mm_O → mm_H → Prop} (v1 v2 : Int) (H : mt 71 0 [some (mm_P 0), some (mm_I (v1)), none] [] (mm_mk D u x) (mm_pRx (fun r4 D1 u2 x3 => mt 72 0 [some (mm_I (v2))] [] (mm_mk D1 u2 x3) (mm_pVx (fun D9 u10 x11 => (((D9 0 5) < ((100 : Int))) → mt 36 0 [some (mm_P r4)] [] (mm_mk D9 u10 x11) (mm_pI fun r20 D17 u18 x19 => mt 8 0 [some (mm_P 13), some (mm_I (v1)), some (mm_I (r20)), some (mm_I (v2)), none, none, none] [] (mm_mk D17 u18 x19) (mm_pV fun D21 u22 x23 => mt 38 0 [some (mm_P r4), some (mm_I (v2))] [] (mm_mk D21 u22 x23) (mm_pV fun D25 u26 x27 => (mm_rng ((D25 0 5) + ((1 : Int)))) ∧ (∀ D30 : mm_D, D30 = mm_wr D25 0 5 ((D25 0 5) + ((1 : Int))) → (mt 36 0 [some (mm_P r4)] [] (mm_mk D30 u26 x27) (mm_pI fun r34 D31 u32 x33 => Q (.inl (some (mm_I (r34)))) (mm_mk D31 u32 x33)))))))) ∧ (¬ ((D9 0 5) < ((100 : Int))) → Q (.inr 2) (mm_mk D9 u10 (x11.1 + 1, (x11.2.1 + 6, x11.2.2))))) (fun E16 D13 u14 x15 => Q (.inr E16) (mm_mk D13 u14 x15)))) (fun E8 D5 u6 x7 => Q (.inr E8) (mm_mk D5 u6 x7)))) : mt 44 0 [some (mm_P 0), some (mm_I (v1)), some (mm_I (v2)), none] [] (mm_mk D u x) Q := by
  refine mu_aload (r := some (0)) mc_44_0 (by decide) rfl ?_
  refine mu_load mc_44_1 (by decide) rfl ?_
  refine mt_call (args := [mm_P 0, mm_I (v1)]) (rest := []) mc_44_2 (by decide) rfl rfl rfl ⟨Or.inl (by simp), rfl, by decide⟩ (mu_rcv (by decide) rfl (by decide)) H ?_
  rintro _ _ (⟨r4, D1, u2, x3, rfl, rfl, hr4, H⟩ | ⟨E8, D5, u6, x7, rfl, rfl, H⟩)
  · refine Or.inl ⟨_, rfl, ?_⟩
    refine mu_astore (r := some (r4)) mc_44_3 (by decide) (by simp) (ls' := [some (mm_P 0), some (mm_I (v1)), some (mm_I (v2)), some (mm_P r4)]) rfl ?_
    refine mu_load mc_44_4 (by decide) rfl ?_
    refine mt_call (args := [mm_I (v2)]) (rest := []) mc_44_5 (by decide) rfl rfl rfl ⟨Or.inl (by simp), rfl, by decide⟩ rfl H ?_
    rintro _ _ (⟨D9, u10, x11, rfl, rfl, H⟩ | ⟨E16, D13, u14, x15, rfl, rfl, H⟩)
    · refine Or.inl ⟨_, rfl, ?_⟩
      refine mu_aload (r := some (0)) mc_44_6 (by decide) rfl ?_
      refine mu_get mc_44_7 rfl ?_
      refine mu_const mc_44_8 (by decide) (by decide) ?_
      refine mu_ic_lt mc_44_9 (fun c => ?_) (fun c => ?_)
      · replace H := H.1 c
        refine mu_aload (r := some (0)) mc_44_15 (by decide) rfl ?_
        refine mu_get mc_44_16 rfl ?_
        refine mu_load mc_44_17 (by decide) rfl ?_
        refine mu_aload (r := some (r4)) mc_44_18 (by decide) rfl ?_
        refine mt_call (args := [mm_P r4]) (rest := [mm_I (v1), mm_P 13]) mc_44_19 (by decide) rfl rfl rfl ⟨Or.inl (by simp), rfl, by decide⟩ (mu_rcvW hr4) H ?_
        rintro _ _ ⟨r20, D17, u18, x19, rfl, rfl, H⟩
        refine Or.inl ⟨_, rfl, ?_⟩
        refine mu_load mc_44_20 (by decide) rfl ?_
        refine mt_call (args := [mm_P 13, mm_I (v1), mm_I (r20), mm_I (v2)]) (rest := []) mc_44_21 (by decide) rfl rfl rfl ⟨Or.inl (by simp), rfl, by decide⟩ (mu_rcv (by decide) rfl (by decide)) H ?_
        rintro _ _ ⟨D21, u22, x23, rfl, rfl, H⟩
        refine Or.inl ⟨_, rfl, ?_⟩
        refine mu_aload (r := some (r4)) mc_44_22 (by decide) rfl ?_
        refine mu_load mc_44_23 (by decide) rfl ?_
        refine mt_call (args := [mm_P r4, mm_I (v2)]) (rest := []) mc_44_24 (by decide) rfl rfl rfl ⟨Or.inl (by simp), rfl, by decide⟩ (mu_rcvW hr4) H ?_
        rintro _ _ ⟨D25, u26, x27, rfl, rfl, H⟩
        refine Or.inl ⟨_, rfl, ?_⟩
        refine mu_aload (r := some (0)) mc_44_25 (by decide) rfl ?_
        refine mu_rfl mc_44_26 (by decide) rfl rfl ?_
        refine mu_get mc_44_27 rfl ?_
        refine mu_const mc_44_28 (by decide) (by decide) ?_
        have h29 := H.1
        replace H := H.2
        refine mu_iadd mc_44_29 h29 ?_
        refine mu_put mc_44_30 (by decide) (Or.inl rfl) ?_
        obtain ⟨D30, eD30⟩ : ∃ z, z = mm_wr D25 0 5 ((D25 0 5) + ((1 : Int))) := ⟨_, rfl⟩
        replace H := H D30 eD30
        show mt _ _ _ _ (mm_mk (mm_wr D25 0 5 ((D25 0 5) + ((1 : Int)))) _ _) _
        rw [← eD30]
        refine mu_aload (r := some (r4)) mc_44_31 (by decide) rfl ?_
        refine mt_call (args := [mm_P r4]) (rest := []) mc_44_32 (by decide) rfl rfl rfl ⟨Or.inl (by simp), rfl, by decide⟩ (mu_rcvW hr4) H ?_
        rintro _ _ ⟨r34, D31, u32, x33, rfl, rfl, H⟩
        refine Or.inl ⟨_, rfl, ?_⟩
        exact mt_ret mc_44_33 H
      · replace H := H.2 c
        exact mt_thr mc_44_10 H
    · exact Or.inr ⟨_, rfl, by decide, Or.inr ⟨mm_handN (by decide) _, by decide, H⟩⟩
  · exact Or.inr ⟨_, rfl, by decide, Or.inr ⟨mm_handN (by decide) _, by decide, H⟩⟩

theorem q_X4_texts_0 {D : mm_D} {u : Int} {x : Nat × (Nat × List Int)} {Q : mm_O → mm_H → Prop} (H : Q (.inl (some (mm_I (D 0 4)))) (mm_mk D u x)) : mt 45 0 [some (mm_P 0)] [] (mm_mk D u x) Q := by
  refine mu_aload (r := some (0)) mc_45_0 (by decide) rfl ?_
  refine mu_get mc_45_1 rfl ?_
  exact mt_ret mc_45_2 H

theorem q_X4_length_0 {D : mm_D} {u : Int} {x : Nat × (Nat × List Int)} {Q : mm_O → mm_H → Prop} (v1 : Int) (H : mt 71 0 [some (mm_P 0), some (mm_I (v1)), none] [] (mm_mk D u x) (mm_pRx (fun r4 D1 u2 x3 => mt 36 0 [some (mm_P r4)] [] (mm_mk D1 u2 x3) (mm_pI fun r12 D9 u10 x11 => Q (.inl (some (mm_I (r12)))) (mm_mk D9 u10 x11))) (fun E8 D5 u6 x7 => Q (.inr E8) (mm_mk D5 u6 x7)))) : mt 46 0 [some (mm_P 0), some (mm_I (v1))] [] (mm_mk D u x) Q := by
  refine mu_aload (r := some (0)) mc_46_0 (by decide) rfl ?_
  refine mu_load mc_46_1 (by decide) rfl ?_
  refine mt_call (args := [mm_P 0, mm_I (v1)]) (rest := []) mc_46_2 (by decide) rfl rfl rfl ⟨Or.inl (by simp), rfl, by decide⟩ (mu_rcv (by decide) rfl (by decide)) H ?_
  rintro _ _ (⟨r4, D1, u2, x3, rfl, rfl, hr4, H⟩ | ⟨E8, D5, u6, x7, rfl, rfl, H⟩)
  · refine Or.inl ⟨_, rfl, ?_⟩
    refine mt_call (args := [mm_P r4]) (rest := []) mc_46_3 (by decide) rfl rfl rfl ⟨Or.inl (by simp), rfl, by decide⟩ (mu_rcvW hr4) H ?_
    rintro _ _ ⟨r12, D9, u10, x11, rfl, rfl, H⟩
    refine Or.inl ⟨_, rfl, ?_⟩
    exact mt_ret mc_46_4 H
  · exact Or.inr ⟨_, rfl, by decide, Or.inr ⟨mm_handN (by decide) _, by decide, H⟩⟩

theorem q_X4_letterAt_0 {D : mm_D} {u : Int} {x : Nat × (Nat × List Int)} {Q : mm_O → mm_H → Prop} (v1 v2 : Int) (H : mt 71 0 [some (mm_P 0), some (mm_I (v1)), none] [] (mm_mk D u x) (mm_pRx (fun r4 D1 u2 x3 => mt 36 0 [some (mm_P r4)] [] (mm_mk D1 u2 x3) (mm_pI fun r12 D9 u10 x11 => mt 70 0 [some (mm_I (v2)), some (mm_I (r12))] [] (mm_mk D9 u10 x11) (mm_pI fun r16 D13 u14 x15 => ((¬ (r16) = 0) → mt 37 0 [some (mm_P r4), some (mm_I (v2))] [] (mm_mk D13 u14 x15) (mm_pI fun r20 D17 u18 x19 => Q (.inl (some (mm_I (r20)))) (mm_mk D17 u18 x19))) ∧ (¬ (¬ (r16) = 0) → Q (.inr 0) (mm_mk D13 u14 (x15.1 + 1, (x15.2.1 + 6, x15.2.2))))))) (fun E8 D5 u6 x7 => Q (.inr E8) (mm_mk D5 u6 x7)))) : mt 47 0 [some (mm_P 0), some (mm_I (v1)), some (mm_I (v2)), none] [] (mm_mk D u x) Q := by
  refine mu_aload (r := some (0)) mc_47_0 (by decide) rfl ?_
  refine mu_load mc_47_1 (by decide) rfl ?_
  refine mt_call (args := [mm_P 0, mm_I (v1)]) (rest := []) mc_47_2 (by decide) rfl rfl rfl ⟨Or.inl (by simp), rfl, by decide⟩ (mu_rcv (by decide) rfl (by decide)) H ?_
  rintro _ _ (⟨r4, D1, u2, x3, rfl, rfl, hr4, H⟩ | ⟨E8, D5, u6, x7, rfl, rfl, H⟩)
  · refine Or.inl ⟨_, rfl, ?_⟩
    refine mu_astore (r := some (r4)) mc_47_3 (by decide) (by simp) (ls' := [some (mm_P 0), some (mm_I (v1)), some (mm_I (v2)), some (mm_P r4)]) rfl ?_
    refine mu_load mc_47_4 (by decide) rfl ?_
    refine mu_aload (r := some (r4)) mc_47_5 (by decide) rfl ?_
    refine mt_call (args := [mm_P r4]) (rest := [mm_I (v2)]) mc_47_6 (by decide) rfl rfl rfl ⟨Or.inl (by simp), rfl, by decide⟩ (mu_rcvW hr4) H ?_
    rintro _ _ ⟨r12, D9, u10, x11, rfl, rfl, H⟩
    refine Or.inl ⟨_, rfl, ?_⟩
    refine mt_call (args := [mm_I (v2), mm_I (r12)]) (rest := []) mc_47_7 (by decide) rfl rfl rfl ⟨Or.inl (by simp), rfl, by decide⟩ rfl H ?_
    rintro _ _ ⟨r16, D13, u14, x15, rfl, rfl, H⟩
    refine Or.inl ⟨_, rfl, ?_⟩
    refine mu_if_ne mc_47_8 (fun c => ?_) (fun c => ?_)
    · replace H := H.1 c
      refine mu_aload (r := some (r4)) mc_47_14 (by decide) rfl ?_
      refine mu_load mc_47_15 (by decide) rfl ?_
      refine mt_call (args := [mm_P r4, mm_I (v2)]) (rest := []) mc_47_16 (by decide) rfl rfl rfl ⟨Or.inl (by simp), rfl, by decide⟩ (mu_rcvW hr4) H ?_
      rintro _ _ ⟨r20, D17, u18, x19, rfl, rfl, H⟩
      refine Or.inl ⟨_, rfl, ?_⟩
      exact mt_ret mc_47_17 H
    · replace H := H.2 c
      exact mt_thr mc_47_9 H
  · exact Or.inr ⟨_, rfl, by decide, Or.inr ⟨mm_handN (by decide) _, by decide, H⟩⟩

theorem q_X4_type_0 {D : mm_D} {u : Int} {x : Nat × (Nat × List Int)} {Q : mm_O → mm_H → Prop} (v1 : Int) (H : mt 72 0 [some (mm_I (v1))] [] (mm_mk D u x) (mm_pVx (fun D1 u2 x3 => mt 36 0 [some (mm_P 10)] [] (mm_mk D1 u2 x3) (mm_pI fun r12 D9 u10 x11 => (((r12) < ((120 : Int))) → mt 38 0 [some (mm_P 10), some (mm_I (v1))] [] (mm_mk D9 u10 x11) (mm_pV fun D13 u14 x15 => mt 36 0 [some (mm_P 10)] [] (mm_mk D13 u14 x15) (mm_pI fun r20 D17 u18 x19 => Q (.inl (some (mm_I (r20)))) (mm_mk D17 u18 x19)))) ∧ (¬ ((r12) < ((120 : Int))) → Q (.inr 2) (mm_mk D9 u10 (x11.1 + 1, (x11.2.1 + 6, x11.2.2)))))) (fun E8 D5 u6 x7 => Q (.inr E8) (mm_mk D5 u6 x7)))) : mt 48 0 [some (mm_P 0), some (mm_I (v1))] [] (mm_mk D u x) Q := by
  refine mu_load mc_48_0 (by decide) rfl ?_
  refine mt_call (args := [mm_I (v1)]) (rest := []) mc_48_1 (by decide) rfl rfl rfl ⟨Or.inl (by simp), rfl, by decide⟩ rfl H ?_
  rintro _ _ (⟨D1, u2, x3, rfl, rfl, H⟩ | ⟨E8, D5, u6, x7, rfl, rfl, H⟩)
  · refine Or.inl ⟨_, rfl, ?_⟩
    refine mu_aload (r := some (0)) mc_48_2 (by decide) rfl ?_
    refine mu_get mc_48_3 rfl ?_
    refine mt_call (args := [mm_P 10]) (rest := []) mc_48_4 (by decide) rfl rfl rfl ⟨Or.inl (by simp), rfl, by decide⟩ (mu_rcv (by decide) rfl (by decide)) H ?_
    rintro _ _ ⟨r12, D9, u10, x11, rfl, rfl, H⟩
    refine Or.inl ⟨_, rfl, ?_⟩
    refine mu_const mc_48_5 (by decide) (by decide) ?_
    refine mu_ic_lt mc_48_6 (fun c => ?_) (fun c => ?_)
    · replace H := H.1 c
      refine mu_aload (r := some (0)) mc_48_12 (by decide) rfl ?_
      refine mu_get mc_48_13 rfl ?_
      refine mu_load mc_48_14 (by decide) rfl ?_
      refine mt_call (args := [mm_P 10, mm_I (v1)]) (rest := []) mc_48_15 (by decide) rfl rfl rfl ⟨Or.inl (by simp), rfl, by decide⟩ (mu_rcv (by decide) rfl (by decide)) H ?_
      rintro _ _ ⟨D13, u14, x15, rfl, rfl, H⟩
      refine Or.inl ⟨_, rfl, ?_⟩
      refine mu_aload (r := some (0)) mc_48_16 (by decide) rfl ?_
      refine mu_get mc_48_17 rfl ?_
      refine mt_call (args := [mm_P 10]) (rest := []) mc_48_18 (by decide) rfl rfl rfl ⟨Or.inl (by simp), rfl, by decide⟩ (mu_rcv (by decide) rfl (by decide)) H ?_
      rintro _ _ ⟨r20, D17, u18, x19, rfl, rfl, H⟩
      refine Or.inl ⟨_, rfl, ?_⟩
      exact mt_ret mc_48_19 H
    · replace H := H.2 c
      exact mt_thr mc_48_7 H
  · exact Or.inr ⟨_, rfl, by decide, Or.inr ⟨mm_handN (by decide) _, by decide, H⟩⟩

theorem q_X4_erase_0 {D : mm_D} {u : Int} {x : Nat × (Nat × List Int)} {Q : mm_O → mm_H → Prop} (H : mt 36 0 [some (mm_P 10)] [] (mm_mk D u x) (mm_pI fun r4 D1 u2 x3 => ((¬ (r4) = 0) → mt 36 0 [some (mm_P 10)] [] (mm_mk D1 u2 x3) (mm_pI fun r8 D5 u6 x7 => (mm_rng ((r8) - ((1 : Int)))) ∧ (mt 37 0 [some (mm_P 10), some (mm_I ((r8) - ((1 : Int))))] [] (mm_mk D5 u6 x7) (mm_pI fun r13 D10 u11 x12 => mt 39 0 [some (mm_P 10)] [] (mm_mk D10 u11 x12) (mm_pV fun D14 u15 x16 => Q (.inl (some (mm_I (r13)))) (mm_mk D14 u15 x16)))))) ∧ (¬ (¬ (r4) = 0) → Q (.inr 2) (mm_mk D1 u2 (x3.1 + 1, (x3.2.1 + 6, x3.2.2)))))) : mt 49 0 [some (mm_P 0), none] [] (mm_mk D u x) Q := by
  refine mu_aload (r := some (0)) mc_49_0 (by decide) rfl ?_
  refine mu_get mc_49_1 rfl ?_
  refine mt_call (args := [mm_P 10]) (rest := []) mc_49_2 (by decide) rfl rfl rfl ⟨Or.inl (by simp), rfl, by decide⟩ (mu_rcv (by decide) rfl (by decide)) H ?_
  rintro _ _ ⟨r4, D1, u2, x3, rfl, rfl, H⟩
  refine Or.inl ⟨_, rfl, ?_⟩
  refine mu_if_ne mc_49_3 (fun c => ?_) (fun c => ?_)
  · replace H := H.1 c
    refine mu_aload (r := some (0)) mc_49_9 (by decide) rfl ?_
    refine mu_get mc_49_10 rfl ?_
    refine mu_aload (r := some (0)) mc_49_11 (by decide) rfl ?_
    refine mu_get mc_49_12 rfl ?_
    refine mt_call (args := [mm_P 10]) (rest := [mm_P 10]) mc_49_13 (by decide) rfl rfl rfl ⟨Or.inl (by simp), rfl, by decide⟩ (mu_rcv (by decide) rfl (by decide)) H ?_
    rintro _ _ ⟨r8, D5, u6, x7, rfl, rfl, H⟩
    refine Or.inl ⟨_, rfl, ?_⟩
    refine mu_const mc_49_14 (by decide) (by decide) ?_
    have h9 := H.1
    replace H := H.2
    refine mu_isub mc_49_15 h9 ?_
    refine mt_call (args := [mm_P 10, mm_I ((r8) - ((1 : Int)))]) (rest := []) mc_49_16 (by decide) rfl rfl rfl ⟨Or.inl (by simp), rfl, by decide⟩ (mu_rcv (by decide) rfl (by decide)) H ?_
    rintro _ _ ⟨r13, D10, u11, x12, rfl, rfl, H⟩
    refine Or.inl ⟨_, rfl, ?_⟩
    refine mu_store mc_49_17 (by decide) (by simp) (ls' := [some (mm_P 0), some (mm_I (r13))]) rfl ?_
    refine mu_aload (r := some (0)) mc_49_18 (by decide) rfl ?_
    refine mu_get mc_49_19 rfl ?_
    refine mt_call (args := [mm_P 10]) (rest := []) mc_49_20 (by decide) rfl rfl rfl ⟨Or.inl (by simp), rfl, by decide⟩ (mu_rcv (by decide) rfl (by decide)) H ?_
    rintro _ _ ⟨D14, u15, x16, rfl, rfl, H⟩
    refine Or.inl ⟨_, rfl, ?_⟩
    refine mu_load mc_49_21 (by decide) rfl ?_
    exact mt_ret mc_49_22 H
  · replace H := H.2 c
    exact mt_thr mc_49_4 H

theorem q_X4_wipe_0 {D : mm_D} {u : Int} {x : Nat × (Nat × List Int)} {Q : mm_O → mm_H → Prop} (H : mt 36 0 [some (mm_P 10)] [] (mm_mk D u x) (mm_pI fun r4 D1 u2 x3 => mt 40 0 [some (mm_P 10)] [] (mm_mk D1 u2 x3) (mm_pV fun D5 u6 x7 => Q (.inl (some (mm_I (r4)))) (mm_mk D5 u6 x7)))) : mt 50 0 [some (mm_P 0), none] [] (mm_mk D u x) Q := by
  refine mu_aload (r := some (0)) mc_50_0 (by decide) rfl ?_
  refine mu_get mc_50_1 rfl ?_
  refine mt_call (args := [mm_P 10]) (rest := []) mc_50_2 (by decide) rfl rfl rfl ⟨Or.inl (by simp), rfl, by decide⟩ (mu_rcv (by decide) rfl (by decide)) H ?_
  rintro _ _ ⟨r4, D1, u2, x3, rfl, rfl, H⟩
  refine Or.inl ⟨_, rfl, ?_⟩
  refine mu_store mc_50_3 (by decide) (by simp) (ls' := [some (mm_P 0), some (mm_I (r4))]) rfl ?_
  refine mu_aload (r := some (0)) mc_50_4 (by decide) rfl ?_
  refine mu_get mc_50_5 rfl ?_
  refine mt_call (args := [mm_P 10]) (rest := []) mc_50_6 (by decide) rfl rfl rfl ⟨Or.inl (by simp), rfl, by decide⟩ (mu_rcv (by decide) rfl (by decide)) H ?_
  rintro _ _ ⟨D5, u6, x7, rfl, rfl, H⟩
  refine Or.inl ⟨_, rfl, ?_⟩
  refine mu_load mc_50_7 (by decide) rfl ?_
  exact mt_ret mc_50_8 H

theorem q_X4_copy_0 {D : mm_D} {u : Int} {x : Nat × (Nat × List Int)} {Q : mm_O → mm_H → Prop} (v1 v2 v3 : Int) (H : mt 71 0 [some (mm_P 0), some (mm_I (v1)), none] [] (mm_mk D u x) (mm_pRx (fun r4 D1 u2 x3 => (((v2) < 0) → Q (.inr 1) (mm_mk D1 u2 (x3.1 + 1, (x3.2.1 + 6, x3.2.2)))) ∧ (¬ ((v2) < 0) → (((v3) < 0) → Q (.inr 1) (mm_mk D1 u2 (x3.1 + 1, (x3.2.1 + 6, x3.2.2)))) ∧ (¬ ((v3) < 0) → mt 36 0 [some (mm_P r4)] [] (mm_mk D1 u2 x3) (mm_pI fun r12 D9 u10 x11 => (mm_rng ((r12) - (v2))) ∧ ((((v3) ≤ ((r12) - (v2))) → mt 40 0 [some (mm_P 10)] [] (mm_mk D9 u10 x11) (mm_pV fun D14 u15 x16 => mt 51 24 [some (mm_P 0), some (mm_I (v1)), some (mm_I (v2)), some (mm_I (v3)), some (mm_P r4), some (mm_I ((0 : Int)))] [] (mm_mk D14 u15 x16) Q)) ∧ (¬ ((v3) ≤ ((r12) - (v2))) → Q (.inr 1) (mm_mk D9 u10 (x11.1 + 1, (x11.2.1 + 6, x11.2.2))))))))) (fun E8 D5 u6 x7 => Q (.inr E8) (mm_mk D5 u6 x7)))) : mt 51 0 [some (mm_P 0), some (mm_I (v1)), some (mm_I (v2)), some (mm_I (v3)), none, none] [] (mm_mk D u x) Q := by
  refine mu_aload (r := some (0)) mc_51_0 (by decide) rfl ?_
  refine mu_load mc_51_1 (by decide) rfl ?_
  refine mt_call (args := [mm_P 0, mm_I (v1)]) (rest := []) mc_51_2 (by decide) rfl rfl rfl ⟨Or.inl (by simp), rfl, by decide⟩ (mu_rcv (by decide) rfl (by decide)) H ?_
  rintro _ _ (⟨r4, D1, u2, x3, rfl, rfl, hr4, H⟩ | ⟨E8, D5, u6, x7, rfl, rfl, H⟩)
  · refine Or.inl ⟨_, rfl, ?_⟩
    refine mu_astore (r := some (r4)) mc_51_3 (by decide) (by simp) (ls' := [some (mm_P 0), some (mm_I (v1)), some (mm_I (v2)), some (mm_I (v3)), some (mm_P r4), none]) rfl ?_
    refine mu_load mc_51_4 (by decide) rfl ?_
    refine mu_if_lt mc_51_5 (fun c => ?_) (fun c => ?_)
    · replace H := H.1 c
      exact mt_thr mc_51_14 H
    · replace H := H.2 c
      refine mu_load mc_51_6 (by decide) rfl ?_
      refine mu_if_lt mc_51_7 (fun c => ?_) (fun c => ?_)
      · replace H := H.1 c
        exact mt_thr mc_51_14 H
      · replace H := H.2 c
        refine mu_load mc_51_8 (by decide) rfl ?_
        refine mu_aload (r := some (r4)) mc_51_9 (by decide) rfl ?_
        refine mt_call (args := [mm_P r4]) (rest := [mm_I (v3)]) mc_51_10 (by decide) rfl rfl rfl ⟨Or.inl (by simp), rfl, by decide⟩ (mu_rcvW hr4) H ?_
        rintro _ _ ⟨r12, D9, u10, x11, rfl, rfl, H⟩
        refine Or.inl ⟨_, rfl, ?_⟩
        refine mu_load mc_51_11 (by decide) rfl ?_
        have h13 := H.1
        replace H := H.2
        refine mu_isub mc_51_12 h13 ?_
        refine mu_ic_le mc_51_13 (fun c => ?_) (fun c => ?_)
        · replace H := H.1 c
          refine mu_aload (r := some (0)) mc_51_19 (by decide) rfl ?_
          refine mu_get mc_51_20 rfl ?_
          refine mt_call (args := [mm_P 10]) (rest := []) mc_51_21 (by decide) rfl rfl rfl ⟨Or.inl (by simp), rfl, by decide⟩ (mu_rcv (by decide) rfl (by decide)) H ?_
          rintro _ _ ⟨D14, u15, x16, rfl, rfl, H⟩
          refine Or.inl ⟨_, rfl, ?_⟩
          refine mu_const mc_51_22 (by decide) (by decide) ?_
          refine mu_store mc_51_23 (by decide) (by simp) (ls' := [some (mm_P 0), some (mm_I (v1)), some (mm_I (v2)), some (mm_I (v3)), some (mm_P r4), some (mm_I ((0 : Int)))]) rfl ?_
          exact H
        · replace H := H.2 c
          exact mt_thr mc_51_14 H
  · exact Or.inr ⟨_, rfl, by decide, Or.inr ⟨mm_handN (by decide) _, by decide, H⟩⟩
theorem q_X4_copy_24 {D : mm_D} {u : Int} {x : Nat × (Nat × List Int)} {Q : mm_O → mm_H → Prop} (v1 v2 v3 v5 : Int) {w4 : Nat} (hw4 : mm_isW w4) (H : (((v3) ≤ (v5)) → Q (.inl none) (mm_mk D u x)) ∧ (¬ ((v3) ≤ (v5)) → (mm_rng ((v2) + (v5))) ∧ (mt 37 0 [some (mm_P w4), some (mm_I ((v2) + (v5)))] [] (mm_mk D u x) (mm_pI fun r5 D2 u3 x4 => mt 38 0 [some (mm_P 10), some (mm_I (r5))] [] (mm_mk D2 u3 x4) (mm_pV fun D6 u7 x8 => (mm_rng ((v5) + (1 : Int))) ∧ (mt 51 24 [some (mm_P 0), some (mm_I (v1)), some (mm_I (v2)), some (mm_I (v3)), some (mm_P w4), some (mm_I ((v5) + (1 : Int)))] [] (mm_mk D6 u7 x8) Q)))))) : mt 51 24 [some (mm_P 0), some (mm_I (v1)), some (mm_I (v2)), some (mm_I (v3)), some (mm_P w4), some (mm_I (v5))] [] (mm_mk D u x) Q := by
  refine mu_load mc_51_24 (by decide) rfl ?_
  refine mu_load mc_51_25 (by decide) rfl ?_
  refine mu_ic_ge mc_51_26 (fun c => ?_) (fun c => ?_)
  · replace H := H.1 c
    exact mt_retV mc_51_37 H
  · replace H := H.2 c
    refine mu_aload (r := some (0)) mc_51_27 (by decide) rfl ?_
    refine mu_get mc_51_28 rfl ?_
    refine mu_aload (r := some (w4)) mc_51_29 (by decide) rfl ?_
    refine mu_load mc_51_30 (by decide) rfl ?_
    refine mu_load mc_51_31 (by decide) rfl ?_
    have h1 := H.1
    replace H := H.2
    refine mu_iadd mc_51_32 h1 ?_
    refine mt_call (args := [mm_P w4, mm_I ((v2) + (v5))]) (rest := [mm_P 10]) mc_51_33 (by decide) rfl rfl rfl ⟨Or.inl (by simp), rfl, by decide⟩ (mu_rcvW hw4) H ?_
    rintro _ _ ⟨r5, D2, u3, x4, rfl, rfl, H⟩
    refine Or.inl ⟨_, rfl, ?_⟩
    refine mt_call (args := [mm_P 10, mm_I (r5)]) (rest := []) mc_51_34 (by decide) rfl rfl rfl ⟨Or.inl (by simp), rfl, by decide⟩ (mu_rcv (by decide) rfl (by decide)) H ?_
    rintro _ _ ⟨D6, u7, x8, rfl, rfl, H⟩
    refine Or.inl ⟨_, rfl, ?_⟩
    have h10 := H.1
    replace H := H.2
    refine mu_iinc mc_51_35 rfl h10 (ls' := [some (mm_P 0), some (mm_I (v1)), some (mm_I (v2)), some (mm_I (v3)), some (mm_P w4), some (mm_I ((v5) + (1 : Int)))]) rfl ?_
    refine mu_rfl (n := 24) mc_51_36 (by decide) rfl rfl ?_
    exact H

theorem q_X4_patternLength_0 {D : mm_D} {u : Int} {x : Nat × (Nat × List Int)} {Q : mm_O → mm_H → Prop} (H : mt 36 0 [some (mm_P 10)] [] (mm_mk D u x) (mm_pI fun r4 D1 u2 x3 => Q (.inl (some (mm_I (r4)))) (mm_mk D1 u2 x3))) : mt 52 0 [some (mm_P 0)] [] (mm_mk D u x) Q := by
  refine mu_aload (r := some (0)) mc_52_0 (by decide) rfl ?_
  refine mu_get mc_52_1 rfl ?_
  refine mt_call (args := [mm_P 10]) (rest := []) mc_52_2 (by decide) rfl rfl rfl ⟨Or.inl (by simp), rfl, by decide⟩ (mu_rcv (by decide) rfl (by decide)) H ?_
  rintro _ _ ⟨r4, D1, u2, x3, rfl, rfl, H⟩
  refine Or.inl ⟨_, rfl, ?_⟩
  exact mt_ret mc_52_3 H

theorem q_X4_patternAt_0 {D : mm_D} {u : Int} {x : Nat × (Nat × List Int)} {Q : mm_O → mm_H → Prop} (v1 : Int) (H : mt 36 0 [some (mm_P 10)] [] (mm_mk D u x) (mm_pI fun r4 D1 u2 x3 => mt 70 0 [some (mm_I (v1)), some (mm_I (r4))] [] (mm_mk D1 u2 x3) (mm_pI fun r8 D5 u6 x7 => ((¬ (r8) = 0) → mt 37 0 [some (mm_P 10), some (mm_I (v1))] [] (mm_mk D5 u6 x7) (mm_pI fun r12 D9 u10 x11 => Q (.inl (some (mm_I (r12)))) (mm_mk D9 u10 x11))) ∧ (¬ (¬ (r8) = 0) → Q (.inr 0) (mm_mk D5 u6 (x7.1 + 1, (x7.2.1 + 6, x7.2.2))))))) : mt 53 0 [some (mm_P 0), some (mm_I (v1))] [] (mm_mk D u x) Q := by
  refine mu_load mc_53_0 (by decide) rfl ?_
  refine mu_aload (r := some (0)) mc_53_1 (by decide) rfl ?_
  refine mu_get mc_53_2 rfl ?_
  refine mt_call (args := [mm_P 10]) (rest := [mm_I (v1)]) mc_53_3 (by decide) rfl rfl rfl ⟨Or.inl (by simp), rfl, by decide⟩ (mu_rcv (by decide) rfl (by decide)) H ?_
  rintro _ _ ⟨r4, D1, u2, x3, rfl, rfl, H⟩
  refine Or.inl ⟨_, rfl, ?_⟩
  refine mt_call (args := [mm_I (v1), mm_I (r4)]) (rest := []) mc_53_4 (by decide) rfl rfl rfl ⟨Or.inl (by simp), rfl, by decide⟩ rfl H ?_
  rintro _ _ ⟨r8, D5, u6, x7, rfl, rfl, H⟩
  refine Or.inl ⟨_, rfl, ?_⟩
  refine mu_if_ne mc_53_5 (fun c => ?_) (fun c => ?_)
  · replace H := H.1 c
    refine mu_aload (r := some (0)) mc_53_11 (by decide) rfl ?_
    refine mu_get mc_53_12 rfl ?_
    refine mu_load mc_53_13 (by decide) rfl ?_
    refine mt_call (args := [mm_P 10, mm_I (v1)]) (rest := []) mc_53_14 (by decide) rfl rfl rfl ⟨Or.inl (by simp), rfl, by decide⟩ (mu_rcv (by decide) rfl (by decide)) H ?_
    rintro _ _ ⟨r12, D9, u10, x11, rfl, rfl, H⟩
    refine Or.inl ⟨_, rfl, ?_⟩
    exact mt_ret mc_53_15 H
  · replace H := H.2 c
    exact mt_thr mc_53_6 H

theorem q_X4_isPart_0 {D : mm_D} {u : Int} {x : Nat × (Nat × List Int)} {Q : mm_O → mm_H → Prop} (H : mt 74 0 [some (mm_P 0)] [] (mm_mk D u x) (mm_pI fun r4 D1 u2 x3 => (((r4) = ((-1 : Int))) → Q (.inl (some (mm_I ((0 : Int))))) (mm_mk D1 u2 x3)) ∧ (¬ ((r4) = ((-1 : Int))) → Q (.inl (some (mm_I ((1 : Int))))) (mm_mk D1 u2 x3)))) : mt 54 0 [some (mm_P 0)] [] (mm_mk D u x) Q := by
  refine mu_aload (r := some (0)) mc_54_0 (by decide) rfl ?_
  refine mt_call (args := [mm_P 0]) (rest := []) mc_54_1 (by decide) rfl rfl rfl ⟨Or.inl (by simp), rfl, by decide⟩ (mu_rcv (by decide) rfl (by decide)) H ?_
  rintro _ _ ⟨r4, D1, u2, x3, rfl, rfl, H⟩
  refine Or.inl ⟨_, rfl, ?_⟩
  refine mu_const mc_54_2 (by decide) (by decide) ?_
  refine mu_ic_eq mc_54_3 (fun c => ?_) (fun c => ?_)
  · replace H := H.1 c
    refine mu_const mc_54_6 (by decide) (by decide) ?_
    exact mt_retB mc_54_7 (by decide) H
  · replace H := H.2 c
    refine mu_const mc_54_4 (by decide) (by decide) ?_
    refine mu_rfl (n := 7) mc_54_5 (by decide) rfl rfl ?_
    exact mt_retB mc_54_7 (by decide) H

theorem q_X4_occurrences_0 {D : mm_D} {u : Int} {x : Nat × (Nat × List Int)} {Q : mm_O → mm_H → Prop} (H : mt 74 0 [some (mm_P 0)] [] (mm_mk D u x) (mm_pI fun r4 D1 u2 x3 => mt 20 0 [some (mm_P 14), some (mm_I (r4)), none, none] [] (mm_mk D1 u2 x3) (mm_pI fun r8 D5 u6 x7 => Q (.inl (some (mm_I (r8)))) (mm_mk D5 u6 x7)))) : mt 55 0 [some (mm_P 0)] [] (mm_mk D u x) Q := by
  refine mu_aload (r := some (0)) mc_55_0 (by decide) rfl ?_
  refine mu_get mc_55_1 rfl ?_
  refine mu_get mc_55_2 rfl ?_
  refine mu_aload (r := some (0)) mc_55_3 (by decide) rfl ?_
  refine mt_call (args := [mm_P 0]) (rest := [mm_P 14]) mc_55_4 (by decide) rfl rfl rfl ⟨Or.inl (by simp), rfl, by decide⟩ (mu_rcv (by decide) rfl (by decide)) H ?_
  rintro _ _ ⟨r4, D1, u2, x3, rfl, rfl, H⟩
  refine Or.inl ⟨_, rfl, ?_⟩
  refine mt_call (args := [mm_P 14, mm_I (r4)]) (rest := []) mc_55_5 (by decide) rfl rfl rfl ⟨Or.inl (by simp), rfl, by decide⟩ (mu_rcv (by decide) rfl (by decide)) H ?_
  rintro _ _ ⟨r8, D5, u6, x7, rfl, rfl, H⟩
  refine Or.inl ⟨_, rfl, ?_⟩
  exact mt_ret mc_55_6 H

theorem q_X4_occurrencesIn_0 {D : mm_D} {u : Int} {x : Nat × (Nat × List Int)} {Q : mm_O → mm_H → Prop} (v1 : Int) (H : mt 71 0 [some (mm_P 0), some (mm_I (v1)), none] [] (mm_mk D u x) (mm_pRx (fun r4 D1 u2 x3 => mt 74 0 [some (mm_P 0)] [] (mm_mk D1 u2 x3) (mm_pI fun r12 D9 u10 x11 => mt 17 0 [some (mm_P 14), some (mm_I (r12)), some (mm_I (v1)), none] [] (mm_mk D9 u10 x11) (mm_pI fun r16 D13 u14 x15 => Q (.inl (some (mm_I (r16)))) (mm_mk D13 u14 x15)))) (fun E8 D5 u6 x7 => Q (.inr E8) (mm_mk D5 u6 x7)))) : mt 56 0 [some (mm_P 0), some (mm_I (v1))] [] (mm_mk D u x) Q := by
  refine mu_aload (r := some (0)) mc_56_0 (by decide) rfl ?_
  refine mu_load mc_56_1 (by decide) rfl ?_
  refine mt_call (args := [mm_P 0, mm_I (v1)]) (rest := []) mc_56_2 (by decide) rfl rfl rfl ⟨Or.inl (by simp), rfl, by decide⟩ (mu_rcv (by decide) rfl (by decide)) H ?_
  rintro _ _ (⟨r4, D1, u2, x3, rfl, rfl, hr4, H⟩ | ⟨E8, D5, u6, x7, rfl, rfl, H⟩)
  · refine Or.inl ⟨_, rfl, ?_⟩
    refine mu_rfl mc_56_3 (by decide) rfl rfl ?_
    refine mu_aload (r := some (0)) mc_56_4 (by decide) rfl ?_
    refine mu_get mc_56_5 rfl ?_
    refine mu_get mc_56_6 rfl ?_
    refine mu_aload (r := some (0)) mc_56_7 (by decide) rfl ?_
    refine mt_call (args := [mm_P 0]) (rest := [mm_P 14]) mc_56_8 (by decide) rfl rfl rfl ⟨Or.inl (by simp), rfl, by decide⟩ (mu_rcv (by decide) rfl (by decide)) H ?_
    rintro _ _ ⟨r12, D9, u10, x11, rfl, rfl, H⟩
    refine Or.inl ⟨_, rfl, ?_⟩
    refine mu_load mc_56_9 (by decide) rfl ?_
    refine mt_call (args := [mm_P 14, mm_I (r12), mm_I (v1)]) (rest := []) mc_56_10 (by decide) rfl rfl rfl ⟨Or.inl (by simp), rfl, by decide⟩ (mu_rcv (by decide) rfl (by decide)) H ?_
    rintro _ _ ⟨r16, D13, u14, x15, rfl, rfl, H⟩
    refine Or.inl ⟨_, rfl, ?_⟩
    exact mt_ret mc_56_11 H
  · exact Or.inr ⟨_, rfl, by decide, Or.inr ⟨mm_handN (by decide) _, by decide, H⟩⟩

theorem q_X4_first_0 {D : mm_D} {u : Int} {x : Nat × (Nat × List Int)} {Q : mm_O → mm_H → Prop} (v1 : Int) (H : mt 71 0 [some (mm_P 0), some (mm_I (v1)), none] [] (mm_mk D u x) (mm_pRx (fun r4 D1 u2 x3 => mt 74 0 [some (mm_P 0)] [] (mm_mk D1 u2 x3) (mm_pI fun r12 D9 u10 x11 => mt 18 0 [some (mm_P 14), some (mm_I (r12)), some (mm_I (v1)), none] [] (mm_mk D9 u10 x11) (mm_pI fun r16 D13 u14 x15 => mt 75 0 [some (mm_P 0), some (mm_I (r16))] [] (mm_mk D13 u14 x15) (mm_pI fun r20 D17 u18 x19 => Q (.inl (some (mm_I (r20)))) (mm_mk D17 u18 x19))))) (fun E8 D5 u6 x7 => Q (.inr E8) (mm_mk D5 u6 x7)))) : mt 57 0 [some (mm_P 0), some (mm_I (v1))] [] (mm_mk D u x) Q := by
  refine mu_aload (r := some (0)) mc_57_0 (by decide) rfl ?_
  refine mu_load mc_57_1 (by decide) rfl ?_
  refine mt_call (args := [mm_P 0, mm_I (v1)]) (rest := []) mc_57_2 (by decide) rfl rfl rfl ⟨Or.inl (by simp), rfl, by decide⟩ (mu_rcv (by decide) rfl (by decide)) H ?_
  rintro _ _ (⟨r4, D1, u2, x3, rfl, rfl, hr4, H⟩ | ⟨E8, D5, u6, x7, rfl, rfl, H⟩)
  · refine Or.inl ⟨_, rfl, ?_⟩
    refine mu_rfl mc_57_3 (by decide) rfl rfl ?_
    refine mu_aload (r := some (0)) mc_57_4 (by decide) rfl ?_
    refine mu_aload (r := some (0)) mc_57_5 (by decide) rfl ?_
    refine mu_get mc_57_6 rfl ?_
    refine mu_get mc_57_7 rfl ?_
    refine mu_aload (r := some (0)) mc_57_8 (by decide) rfl ?_
    refine mt_call (args := [mm_P 0]) (rest := [mm_P 14, mm_P 0]) mc_57_9 (by decide) rfl rfl rfl ⟨Or.inl (by simp), rfl, by decide⟩ (mu_rcv (by decide) rfl (by decide)) H ?_
    rintro _ _ ⟨r12, D9, u10, x11, rfl, rfl, H⟩
    refine Or.inl ⟨_, rfl, ?_⟩
    refine mu_load mc_57_10 (by decide) rfl ?_
    refine mt_call (args := [mm_P 14, mm_I (r12), mm_I (v1)]) (rest := [mm_P 0]) mc_57_11 (by decide) rfl rfl rfl ⟨Or.inl (by simp), rfl, by decide⟩ (mu_rcv (by decide) rfl (by decide)) H ?_
    rintro _ _ ⟨r16, D13, u14, x15, rfl, rfl, H⟩
    refine Or.inl ⟨_, rfl, ?_⟩
    refine mt_call (args := [mm_P 0, mm_I (r16)]) (rest := []) mc_57_12 (by decide) rfl rfl rfl ⟨Or.inl (by simp), rfl, by decide⟩ (mu_rcv (by decide) rfl (by decide)) H ?_
    rintro _ _ ⟨r20, D17, u18, x19, rfl, rfl, H⟩
    refine Or.inl ⟨_, rfl, ?_⟩
    exact mt_ret mc_57_13 H
  · exact Or.inr ⟨_, rfl, by decide, Or.inr ⟨mm_handN (by decide) _, by decide, H⟩⟩

theorem q_X4_last_0 {D : mm_D} {u : Int} {x : Nat × (Nat × List Int)} {Q : mm_O → mm_H → Prop} (v1 : Int) (H : mt 71 0 [some (mm_P 0), some (mm_I (v1)), none] [] (mm_mk D u x) (mm_pRx (fun r4 D1 u2 x3 => mt 74 0 [some (mm_P 0)] [] (mm_mk D1 u2 x3) (mm_pI fun r12 D9 u10 x11 => mt 19 0 [some (mm_P 14), some (mm_I (r12)), some (mm_I (v1)), none] [] (mm_mk D9 u10 x11) (mm_pI fun r16 D13 u14 x15 => mt 75 0 [some (mm_P 0), some (mm_I (r16))] [] (mm_mk D13 u14 x15) (mm_pI fun r20 D17 u18 x19 => Q (.inl (some (mm_I (r20)))) (mm_mk D17 u18 x19))))) (fun E8 D5 u6 x7 => Q (.inr E8) (mm_mk D5 u6 x7)))) : mt 58 0 [some (mm_P 0), some (mm_I (v1))] [] (mm_mk D u x) Q := by
  refine mu_aload (r := some (0)) mc_58_0 (by decide) rfl ?_
  refine mu_load mc_58_1 (by decide) rfl ?_
  refine mt_call (args := [mm_P 0, mm_I (v1)]) (rest := []) mc_58_2 (by decide) rfl rfl rfl ⟨Or.inl (by simp), rfl, by decide⟩ (mu_rcv (by decide) rfl (by decide)) H ?_
  rintro _ _ (⟨r4, D1, u2, x3, rfl, rfl, hr4, H⟩ | ⟨E8, D5, u6, x7, rfl, rfl, H⟩)
  · refine Or.inl ⟨_, rfl, ?_⟩
    refine mu_rfl mc_58_3 (by decide) rfl rfl ?_
    refine mu_aload (r := some (0)) mc_58_4 (by decide) rfl ?_
    refine mu_aload (r := some (0)) mc_58_5 (by decide) rfl ?_
    refine mu_get mc_58_6 rfl ?_
    refine mu_get mc_58_7 rfl ?_
    refine mu_aload (r := some (0)) mc_58_8 (by decide) rfl ?_
    refine mt_call (args := [mm_P 0]) (rest := [mm_P 14, mm_P 0]) mc_58_9 (by decide) rfl rfl rfl ⟨Or.inl (by simp), rfl, by decide⟩ (mu_rcv (by decide) rfl (by decide)) H ?_
    rintro _ _ ⟨r12, D9, u10, x11, rfl, rfl, H⟩
    refine Or.inl ⟨_, rfl, ?_⟩
    refine mu_load mc_58_10 (by decide) rfl ?_
    refine mt_call (args := [mm_P 14, mm_I (r12), mm_I (v1)]) (rest := [mm_P 0]) mc_58_11 (by decide) rfl rfl rfl ⟨Or.inl (by simp), rfl, by decide⟩ (mu_rcv (by decide) rfl (by decide)) H ?_
    rintro _ _ ⟨r16, D13, u14, x15, rfl, rfl, H⟩
    refine Or.inl ⟨_, rfl, ?_⟩
    refine mt_call (args := [mm_P 0, mm_I (r16)]) (rest := []) mc_58_12 (by decide) rfl rfl rfl ⟨Or.inl (by simp), rfl, by decide⟩ (mu_rcv (by decide) rfl (by decide)) H ?_
    rintro _ _ ⟨r20, D17, u18, x19, rfl, rfl, H⟩
    refine Or.inl ⟨_, rfl, ?_⟩
    exact mt_ret mc_58_13 H
  · exact Or.inr ⟨_, rfl, by decide, Or.inr ⟨mm_handN (by decide) _, by decide, H⟩⟩

theorem q_X4_followers_0 {D : mm_D} {u : Int} {x : Nat × (Nat × List Int)} {Q : mm_O → mm_H → Prop} (H : mt 73 0 [some (mm_P 0), some (mm_I ((0 : Int))), none, none] [] (mm_mk D u x) (mm_pI fun r4 D1 u2 x3 => mt 59 8 [some (mm_P 0), some (mm_I (r4)), some (mm_I ((0 : Int))), some (mm_I ((0 : Int)))] [] (mm_mk D1 u2 x3) Q)) : mt 59 0 [some (mm_P 0), none, none, none] [] (mm_mk D u x) Q := by
  refine mu_aload (r := some (0)) mc_59_0 (by decide) rfl ?_
  refine mu_const mc_59_1 (by decide) (by decide) ?_
  refine mt_call (args := [mm_P 0, mm_I ((0 : Int))]) (rest := []) mc_59_2 (by decide) rfl rfl rfl ⟨Or.inl (by simp), rfl, by decide⟩ (mu_rcv (by decide) rfl (by decide)) H ?_
  rintro _ _ ⟨r4, D1, u2, x3, rfl, rfl, H⟩
  refine Or.inl ⟨_, rfl, ?_⟩
  refine mu_store mc_59_3 (by decide) (by simp) (ls' := [some (mm_P 0), some (mm_I (r4)), none, none]) rfl ?_
  refine mu_const mc_59_4 (by decide) (by decide) ?_
  refine mu_store mc_59_5 (by decide) (by simp) (ls' := [some (mm_P 0), some (mm_I (r4)), some (mm_I ((0 : Int))), none]) rfl ?_
  refine mu_const mc_59_6 (by decide) (by decide) ?_
  refine mu_store mc_59_7 (by decide) (by simp) (ls' := [some (mm_P 0), some (mm_I (r4)), some (mm_I ((0 : Int))), some (mm_I ((0 : Int)))]) rfl ?_
  exact H
theorem q_X4_followers_8 {D : mm_D} {u : Int} {x : Nat × (Nat × List Int)} {Q : mm_O → mm_H → Prop} (v1 v2 v3 : Int) (H : ((((26 : Int)) ≤ (v3)) → Q (.inl (some (mm_I (v2)))) (mm_mk D u x)) ∧ (¬ (((26 : Int)) ≤ (v3)) → mt 7 0 [some (mm_P 13), some (mm_I (v1)), some (mm_I (v3)), none] [] (mm_mk D u x) (mm_pI fun r4 D1 u2 x3 => (((r4) = ((-1 : Int))) → (mm_rng ((v3) + (1 : Int))) ∧ (mt 59 8 [some (mm_P 0), some (mm_I (v1)), some (mm_I (v2)), some (mm_I ((v3) + (1 : Int)))] [] (mm_mk D1 u2 x3) Q)) ∧ (¬ ((r4) = ((-1 : Int))) → (0 ≤ ((1 : Int)) ∧ 0 ≤ (v3) ∧ (v3) < 31) ∧ ((mm_rng (((1 : Int)) * 2 ^ (v3).toNat)) ∧ ((mm_rng ((v3) + (1 : Int))) ∧ (mt 59 8 [some (mm_P 0), some (mm_I (v1)), some (mm_I (mm_or (v2) (((1 : Int)) * 2 ^ (v3).toNat))), some (mm_I ((v3) + (1 : Int)))] [] (mm_mk D1 u2 x3) Q))))))) : mt 59 8 [some (mm_P 0), some (mm_I (v1)), some (mm_I (v2)), some (mm_I (v3))] [] (mm_mk D u x) Q := by
  refine mu_load mc_59_8 (by decide) rfl ?_
  refine mu_const mc_59_9 (by decide) (by decide) ?_
  refine mu_ic_ge mc_59_10 (fun c => ?_) (fun c => ?_)
  · replace H := H.1 c
    refine mu_load mc_59_26 (by decide) rfl ?_
    exact mt_ret mc_59_27 H
  · replace H := H.2 c
    refine mu_aload (r := some (0)) mc_59_11 (by decide) rfl ?_
    refine mu_get mc_59_12 rfl ?_
    refine mu_load mc_59_13 (by decide) rfl ?_
    refine mu_load mc_59_14 (by decide) rfl ?_
    refine mt_call (args := [mm_P 13, mm_I (v1), mm_I (v3)]) (rest := []) mc_59_15 (by decide) rfl rfl rfl ⟨Or.inl (by simp), rfl, by decide⟩ (mu_rcv (by decide) rfl (by decide)) H ?_
    rintro _ _ ⟨r4, D1, u2, x3, rfl, rfl, H⟩
    refine Or.inl ⟨_, rfl, ?_⟩
    refine mu_const mc_59_16 (by decide) (by decide) ?_
    refine mu_ic_eq mc_59_17 (fun c => ?_) (fun c => ?_)
    · replace H := H.1 c
      have h5 := H.1
      replace H := H.2
      refine mu_iinc mc_59_24 rfl h5 (ls' := [some (mm_P 0), some (mm_I (v1)), some (mm_I (v2)), some (mm_I ((v3) + (1 : Int)))]) rfl ?_
      refine mu_rfl (n := 8) mc_59_25 (by decide) rfl rfl ?_
      exact H
    · replace H := H.2 c
      refine mu_load mc_59_18 (by decide) rfl ?_
      refine mu_const mc_59_19 (by decide) (by decide) ?_
      refine mu_load mc_59_20 (by decide) rfl ?_
      have h6 := H.1
      replace H := H.2
      have h7 := H.1
      replace H := H.2
      refine mu_ishl mc_59_21 h6 h7 ?_
      refine mu_ior mc_59_22 ?_
      refine mu_store mc_59_23 (by decide) (by simp) (ls' := [some (mm_P 0), some (mm_I (v1)), some (mm_I (mm_or (v2) (((1 : Int)) * 2 ^ (v3).toNat))), some (mm_I (v3))]) rfl ?_
      have h8 := H.1
      replace H := H.2
      refine mu_iinc mc_59_24 rfl h8 (ls' := [some (mm_P 0), some (mm_I (v1)), some (mm_I (mm_or (v2) (((1 : Int)) * 2 ^ (v3).toNat))), some (mm_I ((v3) + (1 : Int)))]) rfl ?_
      refine mu_rfl (n := 8) mc_59_25 (by decide) rfl rfl ?_
      exact H

theorem q_X4_leaders_0 {D : mm_D} {u : Int} {x : Nat × (Nat × List Int)} {Q : mm_O → mm_H → Prop} (H : mt 60 4 [some (mm_P 0), some (mm_I ((0 : Int))), some (mm_I ((0 : Int)))] [] (mm_mk D u x) Q) : mt 60 0 [some (mm_P 0), none, none] [] (mm_mk D u x) Q := by
  refine mu_const mc_60_0 (by decide) (by decide) ?_
  refine mu_store mc_60_1 (by decide) (by simp) (ls' := [some (mm_P 0), some (mm_I ((0 : Int))), none]) rfl ?_
  refine mu_const mc_60_2 (by decide) (by decide) ?_
  refine mu_store mc_60_3 (by decide) (by simp) (ls' := [some (mm_P 0), some (mm_I ((0 : Int))), some (mm_I ((0 : Int)))]) rfl ?_
  exact H
theorem q_X4_leaders_4 {D : mm_D} {u : Int} {x : Nat × (Nat × List Int)} {Q : mm_O → mm_H → Prop} (v1 v2 : Int) (H : ((((26 : Int)) ≤ (v2)) → Q (.inl (some (mm_I (v1)))) (mm_mk D u x)) ∧ (¬ (((26 : Int)) ≤ (v2)) → mt 7 0 [some (mm_P 13), some (mm_I ((0 : Int))), some (mm_I (v2)), none] [] (mm_mk D u x) (mm_pI fun r4 D1 u2 x3 => mt 73 0 [some (mm_P 0), some (mm_I (r4)), none, none] [] (mm_mk D1 u2 x3) (mm_pI fun r8 D5 u6 x7 => (((r8) = ((-1 : Int))) → (mm_rng ((v2) + (1 : Int))) ∧ (mt 60 4 [some (mm_P 0), some (mm_I (v1)), some (mm_I ((v2) + (1 : Int)))] [] (mm_mk D5 u6 x7) Q)) ∧ (¬ ((r8) = ((-1 : Int))) → (0 ≤ ((1 : Int)) ∧ 0 ≤ (v2) ∧ (v2) < 31) ∧ ((mm_rng (((1 : Int)) * 2 ^ (v2).toNat)) ∧ ((mm_rng ((v2) + (1 : Int))) ∧ (mt 60 4 [some (mm_P 0), some (mm_I (mm_or (v1) (((1 : Int)) * 2 ^ (v2).toNat))), some (mm_I ((v2) + (1 : Int)))] [] (mm_mk D5 u6 x7) Q)))))))) : mt 60 4 [some (mm_P 0), some (mm_I (v1)), some (mm_I (v2))] [] (mm_mk D u x) Q := by
  refine mu_load mc_60_4 (by decide) rfl ?_
  refine mu_const mc_60_5 (by decide) (by decide) ?_
  refine mu_ic_ge mc_60_6 (fun c => ?_) (fun c => ?_)
  · replace H := H.1 c
    refine mu_load mc_60_24 (by decide) rfl ?_
    exact mt_ret mc_60_25 H
  · replace H := H.2 c
    refine mu_aload (r := some (0)) mc_60_7 (by decide) rfl ?_
    refine mu_aload (r := some (0)) mc_60_8 (by decide) rfl ?_
    refine mu_get mc_60_9 rfl ?_
    refine mu_const mc_60_10 (by decide) (by decide) ?_
    refine mu_load mc_60_11 (by decide) rfl ?_
    refine mt_call (args := [mm_P 13, mm_I ((0 : Int)), mm_I (v2)]) (rest := [mm_P 0]) mc_60_12 (by decide) rfl rfl rfl ⟨Or.inl (by simp), rfl, by decide⟩ (mu_rcv (by decide) rfl (by decide)) H ?_
    rintro _ _ ⟨r4, D1, u2, x3, rfl, rfl, H⟩
    refine Or.inl ⟨_, rfl, ?_⟩
    refine mt_call (args := [mm_P 0, mm_I (r4)]) (rest := []) mc_60_13 (by decide) rfl rfl rfl ⟨Or.inl (by simp), rfl, by decide⟩ (mu_rcv (by decide) rfl (by decide)) H ?_
    rintro _ _ ⟨r8, D5, u6, x7, rfl, rfl, H⟩
    refine Or.inl ⟨_, rfl, ?_⟩
    refine mu_const mc_60_14 (by decide) (by decide) ?_
    refine mu_ic_eq mc_60_15 (fun c => ?_) (fun c => ?_)
    · replace H := H.1 c
      have h9 := H.1
      replace H := H.2
      refine mu_iinc mc_60_22 rfl h9 (ls' := [some (mm_P 0), some (mm_I (v1)), some (mm_I ((v2) + (1 : Int)))]) rfl ?_
      refine mu_rfl (n := 4) mc_60_23 (by decide) rfl rfl ?_
      exact H
    · replace H := H.2 c
      refine mu_load mc_60_16 (by decide) rfl ?_
      refine mu_const mc_60_17 (by decide) (by decide) ?_
      refine mu_load mc_60_18 (by decide) rfl ?_
      have h10 := H.1
      replace H := H.2
      have h11 := H.1
      replace H := H.2
      refine mu_ishl mc_60_19 h10 h11 ?_
      refine mu_ior mc_60_20 ?_
      refine mu_store mc_60_21 (by decide) (by simp) (ls' := [some (mm_P 0), some (mm_I (mm_or (v1) (((1 : Int)) * 2 ^ (v2).toNat))), some (mm_I (v2))]) rfl ?_
      have h12 := H.1
      replace H := H.2
      refine mu_iinc mc_60_22 rfl h12 (ls' := [some (mm_P 0), some (mm_I (mm_or (v1) (((1 : Int)) * 2 ^ (v2).toNat))), some (mm_I ((v2) + (1 : Int)))]) rfl ?_
      refine mu_rfl (n := 4) mc_60_23 (by decide) rfl rfl ?_
      exact H

theorem q_X4_classes_0 {D : mm_D} {u : Int} {x : Nat × (Nat × List Int)} {Q : mm_O → mm_H → Prop} (H : mt 2 0 [some (mm_P 13)] [] (mm_mk D u x) (mm_pI fun r4 D1 u2 x3 => (mm_rng ((r4) - ((1 : Int)))) ∧ (Q (.inl (some (mm_I ((r4) - ((1 : Int)))))) (mm_mk D1 u2 x3)))) : mt 61 0 [some (mm_P 0)] [] (mm_mk D u x) Q := by
  refine mu_aload (r := some (0)) mc_61_0 (by decide) rfl ?_
  refine mu_get mc_61_1 rfl ?_
  refine mt_call (args := [mm_P 13]) (rest := []) mc_61_2 (by decide) rfl rfl rfl ⟨Or.inl (by simp), rfl, by decide⟩ (mu_rcv (by decide) rfl (by decide)) H ?_
  rintro _ _ ⟨r4, D1, u2, x3, rfl, rfl, H⟩
  refine Or.inl ⟨_, rfl, ?_⟩
  refine mu_const mc_61_3 (by decide) (by decide) ?_
  have h5 := H.1
  replace H := H.2
  refine mu_isub mc_61_4 h5 ?_
  exact mt_ret mc_61_5 H

theorem q_X4_longestAlike_0 {D : mm_D} {u : Int} {x : Nat × (Nat × List Int)} {Q : mm_O → mm_H → Prop} (H : mt 74 0 [some (mm_P 0)] [] (mm_mk D u x) (mm_pI fun r4 D1 u2 x3 => ((¬ (r4) = ((-1 : Int))) → mt 5 0 [some (mm_P 13), some (mm_I (r4))] [] (mm_mk D1 u2 x3) (mm_pI fun r8 D5 u6 x7 => Q (.inl (some (mm_I (r8)))) (mm_mk D5 u6 x7))) ∧ (¬ (¬ (r4) = ((-1 : Int))) → Q (.inl (some (mm_I ((-1 : Int))))) (mm_mk D1 u2 x3)))) : mt 62 0 [some (mm_P 0), none] [] (mm_mk D u x) Q := by
  refine mu_aload (r := some (0)) mc_62_0 (by decide) rfl ?_
  refine mt_call (args := [mm_P 0]) (rest := []) mc_62_1 (by decide) rfl rfl rfl ⟨Or.inl (by simp), rfl, by decide⟩ (mu_rcv (by decide) rfl (by decide)) H ?_
  rintro _ _ ⟨r4, D1, u2, x3, rfl, rfl, H⟩
  refine Or.inl ⟨_, rfl, ?_⟩
  refine mu_store mc_62_2 (by decide) (by simp) (ls' := [some (mm_P 0), some (mm_I (r4))]) rfl ?_
  refine mu_load mc_62_3 (by decide) rfl ?_
  refine mu_const mc_62_4 (by decide) (by decide) ?_
  refine mu_ic_ne mc_62_5 (fun c => ?_) (fun c => ?_)
  · replace H := H.1 c
    refine mu_aload (r := some (0)) mc_62_8 (by decide) rfl ?_
    refine mu_get mc_62_9 rfl ?_
    refine mu_load mc_62_10 (by decide) rfl ?_
    refine mt_call (args := [mm_P 13, mm_I (r4)]) (rest := []) mc_62_11 (by decide) rfl rfl rfl ⟨Or.inl (by simp), rfl, by decide⟩ (mu_rcv (by decide) rfl (by decide)) H ?_
    rintro _ _ ⟨r8, D5, u6, x7, rfl, rfl, H⟩
    refine Or.inl ⟨_, rfl, ?_⟩
    exact mt_ret mc_62_12 H
  · replace H := H.2 c
    refine mu_const mc_62_6 (by decide) (by decide) ?_
    refine mu_rfl (n := 12) mc_62_7 (by decide) rfl rfl ?_
    exact mt_ret mc_62_12 H

theorem q_X4_shortestAlike_0 {D : mm_D} {u : Int} {x : Nat × (Nat × List Int)} {Q : mm_O → mm_H → Prop} (H : mt 74 0 [some (mm_P 0)] [] (mm_mk D u x) (mm_pI fun r4 D1 u2 x3 => ((¬ (r4) = ((-1 : Int))) → mt 6 0 [some (mm_P 13), some (mm_I (r4))] [] (mm_mk D1 u2 x3) (mm_pI fun r8 D5 u6 x7 => Q (.inl (some (mm_I (r8)))) (mm_mk D5 u6 x7))) ∧ (¬ (¬ (r4) = ((-1 : Int))) → Q (.inl (some (mm_I ((-1 : Int))))) (mm_mk D1 u2 x3)))) : mt 63 0 [some (mm_P 0), none] [] (mm_mk D u x) Q := by
  refine mu_aload (r := some (0)) mc_63_0 (by decide) rfl ?_
  refine mt_call (args := [mm_P 0]) (rest := []) mc_63_1 (by decide) rfl rfl rfl ⟨Or.inl (by simp), rfl, by decide⟩ (mu_rcv (by decide) rfl (by decide)) H ?_
  rintro _ _ ⟨r4, D1, u2, x3, rfl, rfl, H⟩
  refine Or.inl ⟨_, rfl, ?_⟩
  refine mu_store mc_63_2 (by decide) (by simp) (ls' := [some (mm_P 0), some (mm_I (r4))]) rfl ?_
  refine mu_load mc_63_3 (by decide) rfl ?_
  refine mu_const mc_63_4 (by decide) (by decide) ?_
  refine mu_ic_ne mc_63_5 (fun c => ?_) (fun c => ?_)
  · replace H := H.1 c
    refine mu_aload (r := some (0)) mc_63_8 (by decide) rfl ?_
    refine mu_get mc_63_9 rfl ?_
    refine mu_load mc_63_10 (by decide) rfl ?_
    refine mt_call (args := [mm_P 13, mm_I (r4)]) (rest := []) mc_63_11 (by decide) rfl rfl rfl ⟨Or.inl (by simp), rfl, by decide⟩ (mu_rcv (by decide) rfl (by decide)) H ?_
    rintro _ _ ⟨r8, D5, u6, x7, rfl, rfl, H⟩
    refine Or.inl ⟨_, rfl, ?_⟩
    exact mt_ret mc_63_12 H
  · replace H := H.2 c
    refine mu_const mc_63_6 (by decide) (by decide) ?_
    refine mu_rfl (n := 12) mc_63_7 (by decide) rfl rfl ?_
    exact mt_ret mc_63_12 H

theorem q_X4_parts_0 {D : mm_D} {u : Int} {x : Nat × (Nat × List Int)} {Q : mm_O → mm_H → Prop} (H : mt 4 0 [some (mm_P 13), none, none] [] (mm_mk D u x) (mm_pI fun r4 D1 u2 x3 => Q (.inl (some (mm_I (r4)))) (mm_mk D1 u2 x3))) : mt 64 0 [some (mm_P 0)] [] (mm_mk D u x) Q := by
  refine mu_aload (r := some (0)) mc_64_0 (by decide) rfl ?_
  refine mu_get mc_64_1 rfl ?_
  refine mt_call (args := [mm_P 13]) (rest := []) mc_64_2 (by decide) rfl rfl rfl ⟨Or.inl (by simp), rfl, by decide⟩ (mu_rcv (by decide) rfl (by decide)) H ?_
  rintro _ _ ⟨r4, D1, u2, x3, rfl, rfl, H⟩
  refine Or.inl ⟨_, rfl, ?_⟩
  exact mt_ret mc_64_3 H

theorem q_X4_rank_0 {D : mm_D} {u : Int} {x : Nat × (Nat × List Int)} {Q : mm_O → mm_H → Prop} (H : mt 26 0 [some (mm_P 12), none, none, none, none] [] (mm_mk D u x) (mm_pV fun D1 u2 x3 => mt 29 0 [some (mm_P 12), some (mm_P 10), none, none, none, none, none, none] [] (mm_mk D1 u2 x3) (mm_pI fun r8 D5 u6 x7 => Q (.inl (some (mm_I (r8)))) (mm_mk D5 u6 x7)))) : mt 65 0 [some (mm_P 0)] [] (mm_mk D u x) Q := by
  refine mu_aload (r := some (0)) mc_65_0 (by decide) rfl ?_
  refine mu_get mc_65_1 rfl ?_
  refine mt_call (args := [mm_P 12]) (rest := []) mc_65_2 (by decide) rfl rfl rfl ⟨Or.inl (by simp), rfl, by decide⟩ (mu_rcv (by decide) rfl (by decide)) H ?_
  rintro _ _ ⟨D1, u2, x3, rfl, rfl, H⟩
  refine Or.inl ⟨_, rfl, ?_⟩
  refine mu_aload (r := some (0)) mc_65_3 (by decide) rfl ?_
  refine mu_get mc_65_4 rfl ?_
  refine mu_aload (r := some (0)) mc_65_5 (by decide) rfl ?_
  refine mu_get mc_65_6 rfl ?_
  refine mt_call (args := [mm_P 12, mm_P 10]) (rest := []) mc_65_7 (by decide) rfl rfl rfl ⟨Or.inl (by simp), rfl, by decide⟩ (mu_rcv (by decide) rfl (by decide)) H ?_
  rintro _ _ ⟨r8, D5, u6, x7, rfl, rfl, H⟩
  refine Or.inl ⟨_, rfl, ?_⟩
  exact mt_ret mc_65_8 H

theorem q_X4_toPart_0 {D : mm_D} {u : Int} {x : Nat × (Nat × List Int)} {Q : mm_O → mm_H → Prop} (v1 : Int) (H : mt 4 0 [some (mm_P 13), none, none] [] (mm_mk D u x) (mm_pI fun r4 D1 u2 x3 => mt 70 0 [some (mm_I (v1)), some (mm_I (r4))] [] (mm_mk D1 u2 x3) (mm_pI fun r8 D5 u6 x7 => ((¬ (r8) = 0) → mt 26 0 [some (mm_P 12), none, none, none, none] [] (mm_mk D5 u6 x7) (mm_pV fun D9 u10 x11 => mt 30 0 [some (mm_P 12), some (mm_I (v1)), some (mm_P 10), none, none, none, none, none] [] (mm_mk D9 u10 x11) (mm_pV fun D13 u14 x15 => mt 36 0 [some (mm_P 10)] [] (mm_mk D13 u14 x15) (mm_pI fun r20 D17 u18 x19 => Q (.inl (some (mm_I (r20)))) (mm_mk D17 u18 x19))))) ∧ (¬ (¬ (r8) = 0) → Q (.inr 0) (mm_mk D5 u6 (x7.1 + 1, (x7.2.1 + 6, x7.2.2))))))) : mt 66 0 [some (mm_P 0), some (mm_I (v1))] [] (mm_mk D u x) Q := by
  refine mu_load mc_66_0 (by decide) rfl ?_
  refine mu_aload (r := some (0)) mc_66_1 (by decide) rfl ?_
  refine mu_get mc_66_2 rfl ?_
  refine mt_call (args := [mm_P 13]) (rest := [mm_I (v1)]) mc_66_3 (by decide) rfl rfl rfl ⟨Or.inl (by simp), rfl, by decide⟩ (mu_rcv (by decide) rfl (by decide)) H ?_
  rintro _ _ ⟨r4, D1, u2, x3, rfl, rfl, H⟩
  refine Or.inl ⟨_, rfl, ?_⟩
  refine mt_call (args := [mm_I (v1), mm_I (r4)]) (rest := []) mc_66_4 (by decide) rfl rfl rfl ⟨Or.inl (by simp), rfl, by decide⟩ rfl H ?_
  rintro _ _ ⟨r8, D5, u6, x7, rfl, rfl, H⟩
  refine Or.inl ⟨_, rfl, ?_⟩
  refine mu_if_ne mc_66_5 (fun c => ?_) (fun c => ?_)
  · replace H := H.1 c
    refine mu_aload (r := some (0)) mc_66_11 (by decide) rfl ?_
    refine mu_get mc_66_12 rfl ?_
    refine mt_call (args := [mm_P 12]) (rest := []) mc_66_13 (by decide) rfl rfl rfl ⟨Or.inl (by simp), rfl, by decide⟩ (mu_rcv (by decide) rfl (by decide)) H ?_
    rintro _ _ ⟨D9, u10, x11, rfl, rfl, H⟩
    refine Or.inl ⟨_, rfl, ?_⟩
    refine mu_aload (r := some (0)) mc_66_14 (by decide) rfl ?_
    refine mu_get mc_66_15 rfl ?_
    refine mu_load mc_66_16 (by decide) rfl ?_
    refine mu_aload (r := some (0)) mc_66_17 (by decide) rfl ?_
    refine mu_get mc_66_18 rfl ?_
    refine mt_call (args := [mm_P 12, mm_I (v1), mm_P 10]) (rest := []) mc_66_19 (by decide) rfl rfl rfl ⟨Or.inl (by simp), rfl, by decide⟩ (mu_rcv (by decide) rfl (by decide)) H ?_
    rintro _ _ ⟨D13, u14, x15, rfl, rfl, H⟩
    refine Or.inl ⟨_, rfl, ?_⟩
    refine mu_aload (r := some (0)) mc_66_20 (by decide) rfl ?_
    refine mu_get mc_66_21 rfl ?_
    refine mt_call (args := [mm_P 10]) (rest := []) mc_66_22 (by decide) rfl rfl rfl ⟨Or.inl (by simp), rfl, by decide⟩ (mu_rcv (by decide) rfl (by decide)) H ?_
    rintro _ _ ⟨r20, D17, u18, x19, rfl, rfl, H⟩
    refine Or.inl ⟨_, rfl, ?_⟩
    exact mt_ret mc_66_23 H
  · replace H := H.2 c
    exact mt_thr mc_66_6 H

theorem q_X4_common_0 {D : mm_D} {u : Int} {x : Nat × (Nat × List Int)} {Q : mm_O → mm_H → Prop} (v1 : Int) (H : (((v1) < ((1 : Int))) → Q (.inr 1) (mm_mk D u (x.1 + 1, (x.2.1 + 6, x.2.2)))) ∧ (¬ ((v1) < ((1 : Int))) → (0 ≤ ((1 : Int)) ∧ 0 ≤ (D 0 4) ∧ (D 0 4) < 31) ∧ ((mm_rng (((1 : Int)) * 2 ^ (D 0 4).toNat)) ∧ ((((v1) < (((1 : Int)) * 2 ^ (D 0 4).toNat)) → mt 27 0 [some (mm_P 12), some (mm_I (v1)), some (mm_I ((1 : Int))), none, none, none, none] [] (mm_mk D u x) (mm_pV fun D3 u4 x5 => mt 31 0 [some (mm_P 12), some (mm_P 10), none, none, none] [] (mm_mk D3 u4 x5) (mm_pV fun D7 u8 x9 => mt 36 0 [some (mm_P 10)] [] (mm_mk D7 u8 x9) (mm_pI fun r14 D11 u12 x13 => Q (.inl (some (mm_I (r14)))) (mm_mk D11 u12 x13))))) ∧ (¬ ((v1) < (((1 : Int)) * 2 ^ (D 0 4).toNat)) → Q (.inr 1) (mm_mk D u (x.1 + 1, (x.2.1 + 6, x.2.2)))))))) : mt 67 0 [some (mm_P 0), some (mm_I (v1))] [] (mm_mk D u x) Q := by
  refine mu_load mc_67_0 (by decide) rfl ?_
  refine mu_const mc_67_1 (by decide) (by decide) ?_
  refine mu_ic_lt mc_67_2 (fun c => ?_) (fun c => ?_)
  · replace H := H.1 c
    exact mt_thr mc_67_9 H
  · replace H := H.2 c
    refine mu_load mc_67_3 (by decide) rfl ?_
    refine mu_const mc_67_4 (by decide) (by decide) ?_
    refine mu_aload (r := some (0)) mc_67_5 (by decide) rfl ?_
    refine mu_get mc_67_6 rfl ?_
    have h1 := H.1
    replace H := H.2
    have h2 := H.1
    replace H := H.2
    refine mu_ishl mc_67_7 h1 h2 ?_
    refine mu_ic_lt mc_67_8 (fun c => ?_) (fun c => ?_)
    · replace H := H.1 c
      refine mu_aload (r := some (0)) mc_67_14 (by decide) rfl ?_
      refine mu_get mc_67_15 rfl ?_
      refine mu_load mc_67_16 (by decide) rfl ?_
      refine mu_const mc_67_17 (by decide) (by decide) ?_
      refine mt_call (args := [mm_P 12, mm_I (v1), mm_I ((1 : Int))]) (rest := []) mc_67_18 (by decide) rfl rfl rfl ⟨Or.inl (by simp), rfl, by decide⟩ (mu_rcv (by decide) rfl (by decide)) H ?_
      rintro _ _ ⟨D3, u4, x5, rfl, rfl, H⟩
      refine Or.inl ⟨_, rfl, ?_⟩
      refine mu_aload (r := some (0)) mc_67_19 (by decide) rfl ?_
      refine mu_get mc_67_20 rfl ?_
      refine mu_aload (r := some (0)) mc_67_21 (by decide) rfl ?_
      refine mu_get mc_67_22 rfl ?_
      refine mt_call (args := [mm_P 12, mm_P 10]) (rest := []) mc_67_23 (by decide) rfl rfl rfl ⟨Or.inl (by simp), rfl, by decide⟩ (mu_rcv (by decide) rfl (by decide)) H ?_
      rintro _ _ ⟨D7, u8, x9, rfl, rfl, H⟩
      refine Or.inl ⟨_, rfl, ?_⟩
      refine mu_aload (r := some (0)) mc_67_24 (by decide) rfl ?_
      refine mu_get mc_67_25 rfl ?_
      refine mt_call (args := [mm_P 10]) (rest := []) mc_67_26 (by decide) rfl rfl rfl ⟨Or.inl (by simp), rfl, by decide⟩ (mu_rcv (by decide) rfl (by decide)) H ?_
      rintro _ _ ⟨r14, D11, u12, x13, rfl, rfl, H⟩
      refine Or.inl ⟨_, rfl, ?_⟩
      exact mt_ret mc_67_27 H
    · replace H := H.2 c
      exact mt_thr mc_67_9 H

theorem q_X4_repeated_0 {D : mm_D} {u : Int} {x : Nat × (Nat × List Int)} {Q : mm_O → mm_H → Prop} (v1 : Int) (H : ((((1 : Int)) ≤ (v1)) → mt 27 0 [some (mm_P 12), some (mm_I ((0 : Int))), some (mm_I (v1)), none, none, none, none] [] (mm_mk D u x) (mm_pV fun D1 u2 x3 => mt 31 0 [some (mm_P 12), some (mm_P 10), none, none, none] [] (mm_mk D1 u2 x3) (mm_pV fun D5 u6 x7 => mt 36 0 [some (mm_P 10)] [] (mm_mk D5 u6 x7) (mm_pI fun r12 D9 u10 x11 => Q (.inl (some (mm_I (r12)))) (mm_mk D9 u10 x11))))) ∧ (¬ (((1 : Int)) ≤ (v1)) → Q (.inr 1) (mm_mk D u (x.1 + 1, (x.2.1 + 6, x.2.2))))) : mt 68 0 [some (mm_P 0), some (mm_I (v1))] [] (mm_mk D u x) Q := by
  refine mu_load mc_68_0 (by decide) rfl ?_
  refine mu_const mc_68_1 (by decide) (by decide) ?_
  refine mu_ic_ge mc_68_2 (fun c => ?_) (fun c => ?_)
  · replace H := H.1 c
    refine mu_aload (r := some (0)) mc_68_8 (by decide) rfl ?_
    refine mu_get mc_68_9 rfl ?_
    refine mu_const mc_68_10 (by decide) (by decide) ?_
    refine mu_load mc_68_11 (by decide) rfl ?_
    refine mt_call (args := [mm_P 12, mm_I ((0 : Int)), mm_I (v1)]) (rest := []) mc_68_12 (by decide) rfl rfl rfl ⟨Or.inl (by simp), rfl, by decide⟩ (mu_rcv (by decide) rfl (by decide)) H ?_
    rintro _ _ ⟨D1, u2, x3, rfl, rfl, H⟩
    refine Or.inl ⟨_, rfl, ?_⟩
    refine mu_aload (r := some (0)) mc_68_13 (by decide) rfl ?_
    refine mu_get mc_68_14 rfl ?_
    refine mu_aload (r := some (0)) mc_68_15 (by decide) rfl ?_
    refine mu_get mc_68_16 rfl ?_
    refine mt_call (args := [mm_P 12, mm_P 10]) (rest := []) mc_68_17 (by decide) rfl rfl rfl ⟨Or.inl (by simp), rfl, by decide⟩ (mu_rcv (by decide) rfl (by decide)) H ?_
    rintro _ _ ⟨D5, u6, x7, rfl, rfl, H⟩
    refine Or.inl ⟨_, rfl, ?_⟩
    refine mu_aload (r := some (0)) mc_68_18 (by decide) rfl ?_
    refine mu_get mc_68_19 rfl ?_
    refine mt_call (args := [mm_P 10]) (rest := []) mc_68_20 (by decide) rfl rfl rfl ⟨Or.inl (by simp), rfl, by decide⟩ (mu_rcv (by decide) rfl (by decide)) H ?_
    rintro _ _ ⟨r12, D9, u10, x11, rfl, rfl, H⟩
    refine Or.inl ⟨_, rfl, ?_⟩
    exact mt_ret mc_68_21 H
  · replace H := H.2 c
    exact mt_thr mc_68_3 H

theorem q_X4_missing_0 {D : mm_D} {u : Int} {x : Nat × (Nat × List Int)} {Q : mm_O → mm_H → Prop} (v1 : Int) (H : (((v1) < ((1 : Int))) → Q (.inr 1) (mm_mk D u (x.1 + 1, (x.2.1 + 6, x.2.2)))) ∧ (¬ ((v1) < ((1 : Int))) → (((v1) ≤ ((26 : Int))) → mt 28 0 [some (mm_P 12), some (mm_I (v1)), none, none, none, none] [] (mm_mk D u x) (mm_pV fun D1 u2 x3 => mt 31 0 [some (mm_P 12), some (mm_P 10), none, none, none] [] (mm_mk D1 u2 x3) (mm_pV fun D5 u6 x7 => mt 36 0 [some (mm_P 10)] [] (mm_mk D5 u6 x7) (mm_pI fun r12 D9 u10 x11 => Q (.inl (some (mm_I (r12)))) (mm_mk D9 u10 x11))))) ∧ (¬ ((v1) ≤ ((26 : Int))) → Q (.inr 1) (mm_mk D u (x.1 + 1, (x.2.1 + 6, x.2.2)))))) : mt 69 0 [some (mm_P 0), some (mm_I (v1))] [] (mm_mk D u x) Q := by
  refine mu_load mc_69_0 (by decide) rfl ?_
  refine mu_const mc_69_1 (by decide) (by decide) ?_
  refine mu_ic_lt mc_69_2 (fun c => ?_) (fun c => ?_)
  · replace H := H.1 c
    exact mt_thr mc_69_6 H
  · replace H := H.2 c
    refine mu_load mc_69_3 (by decide) rfl ?_
    refine mu_const mc_69_4 (by decide) (by decide) ?_
    refine mu_ic_le mc_69_5 (fun c => ?_) (fun c => ?_)
    · replace H := H.1 c
      refine mu_aload (r := some (0)) mc_69_11 (by decide) rfl ?_
      refine mu_get mc_69_12 rfl ?_
      refine mu_load mc_69_13 (by decide) rfl ?_
      refine mt_call (args := [mm_P 12, mm_I (v1)]) (rest := []) mc_69_14 (by decide) rfl rfl rfl ⟨Or.inl (by simp), rfl, by decide⟩ (mu_rcv (by decide) rfl (by decide)) H ?_
      rintro _ _ ⟨D1, u2, x3, rfl, rfl, H⟩
      refine Or.inl ⟨_, rfl, ?_⟩
      refine mu_aload (r := some (0)) mc_69_15 (by decide) rfl ?_
      refine mu_get mc_69_16 rfl ?_
      refine mu_aload (r := some (0)) mc_69_17 (by decide) rfl ?_
      refine mu_get mc_69_18 rfl ?_
      refine mt_call (args := [mm_P 12, mm_P 10]) (rest := []) mc_69_19 (by decide) rfl rfl rfl ⟨Or.inl (by simp), rfl, by decide⟩ (mu_rcv (by decide) rfl (by decide)) H ?_
      rintro _ _ ⟨D5, u6, x7, rfl, rfl, H⟩
      refine Or.inl ⟨_, rfl, ?_⟩
      refine mu_aload (r := some (0)) mc_69_20 (by decide) rfl ?_
      refine mu_get mc_69_21 rfl ?_
      refine mt_call (args := [mm_P 10]) (rest := []) mc_69_22 (by decide) rfl rfl rfl ⟨Or.inl (by simp), rfl, by decide⟩ (mu_rcv (by decide) rfl (by decide)) H ?_
      rintro _ _ ⟨r12, D9, u10, x11, rfl, rfl, H⟩
      refine Or.inl ⟨_, rfl, ?_⟩
      exact mt_ret mc_69_23 H
    · replace H := H.2 c
      exact mt_thr mc_69_6 H

theorem q_X4_within_0 {D : mm_D} {u : Int} {x : Nat × (Nat × List Int)} {Q : mm_O → mm_H → Prop} (v0 v1 : Int) (H : (((v0) < 0) → Q (.inl (some (mm_I ((0 : Int))))) (mm_mk D u x)) ∧ (¬ ((v0) < 0) → (((v1) ≤ (v0)) → Q (.inl (some (mm_I ((0 : Int))))) (mm_mk D u x)) ∧ (¬ ((v1) ≤ (v0)) → Q (.inl (some (mm_I ((1 : Int))))) (mm_mk D u x)))) : mt 70 0 [some (mm_I (v0)), some (mm_I (v1))] [] (mm_mk D u x) Q := by
  refine mu_load mc_70_0 (by decide) rfl ?_
  refine mu_if_lt mc_70_1 (fun c => ?_) (fun c => ?_)
  · replace H := H.1 c
    refine mu_const mc_70_7 (by decide) (by decide) ?_
    exact mt_retB mc_70_8 (by decide) H
  · replace H := H.2 c
    refine mu_load mc_70_2 (by decide) rfl ?_
    refine mu_load mc_70_3 (by decide) rfl ?_
    refine mu_ic_ge mc_70_4 (fun c => ?_) (fun c => ?_)
    · replace H := H.1 c
      refine mu_const mc_70_7 (by decide) (by decide) ?_
      exact mt_retB mc_70_8 (by decide) H
    · replace H := H.2 c
      refine mu_const mc_70_5 (by decide) (by decide) ?_
      refine mu_rfl (n := 8) mc_70_6 (by decide) rfl rfl ?_
      exact mt_retB mc_70_8 (by decide) H

theorem q_X4_demandText_0 {D : mm_D} {u : Int} {x : Nat × (Nat × List Int)} {Q : mm_O → mm_H → Prop} (v1 : Int) (H : mt 70 0 [some (mm_I (v1)), some (mm_I (D 0 4))] [] (mm_mk D u x) (mm_pI fun r4 D1 u2 x3 => (((r4) = 0) → Q (.inr 0) (mm_mk D1 u2 (x3.1 + 1, (x3.2.1 + 6, x3.2.2)))) ∧ (¬ ((r4) = 0) → ((((4 : Int)) ≤ (v1)) → Q (.inr 0) (mm_mk D1 u2 (x3.1 + 1, (x3.2.1 + 6, x3.2.2)))) ∧ (¬ (((4 : Int)) ≤ (v1)) → (0 ≤ (v1) ∧ (v1) < 4) ∧ (∀ w6 : Nat, mm_isW w6 → w6 = 2 + 2 * (v1).toNat → (Q (.inl (some (mm_P w6))) (mm_mk D1 u2 x3))))))) : mt 71 0 [some (mm_P 0), some (mm_I (v1)), none] [] (mm_mk D u x) Q := by
  refine mu_load mc_71_0 (by decide) rfl ?_
  refine mu_aload (r := some (0)) mc_71_1 (by decide) rfl ?_
  refine mu_get mc_71_2 rfl ?_
  refine mt_call (args := [mm_I (v1), mm_I (D 0 4)]) (rest := []) mc_71_3 (by decide) rfl rfl rfl ⟨Or.inl (by simp), rfl, by decide⟩ rfl H ?_
  rintro _ _ ⟨r4, D1, u2, x3, rfl, rfl, H⟩
  refine Or.inl ⟨_, rfl, ?_⟩
  refine mu_if_eq mc_71_4 (fun c => ?_) (fun c => ?_)
  · replace H := H.1 c
    refine mu_rfl mc_71_15 (by decide) rfl rfl ?_
    refine mu_astore (r := none) mc_71_16 (by decide) (by simp) (ls' := [some (mm_P 0), some (mm_I (v1)), some (mm_N)]) rfl ?_
    refine mu_aload (r := none) mc_71_17 (by decide) rfl ?_
    refine mu_rfl (n := 19) mc_71_18 (by decide) rfl rfl ?_
    exact mt_thr mc_71_19 H
  · replace H := H.2 c
    refine mu_load mc_71_5 (by decide) rfl ?_
    refine mu_aload (r := some (0)) mc_71_6 (by decide) rfl ?_
    refine mu_get mc_71_7 rfl ?_
    refine mu_alenW mc_71_8 ?_
    refine mu_ic_ge mc_71_9 (fun c => ?_) (fun c => ?_)
    · replace H := H.1 c
      refine mu_rfl mc_71_15 (by decide) rfl rfl ?_
      refine mu_astore (r := none) mc_71_16 (by decide) (by simp) (ls' := [some (mm_P 0), some (mm_I (v1)), some (mm_N)]) rfl ?_
      refine mu_aload (r := none) mc_71_17 (by decide) rfl ?_
      refine mu_rfl (n := 19) mc_71_18 (by decide) rfl rfl ?_
      exact mt_thr mc_71_19 H
    · replace H := H.2 c
      refine mu_aload (r := some (0)) mc_71_10 (by decide) rfl ?_
      refine mu_get mc_71_11 rfl ?_
      refine mu_load mc_71_12 (by decide) rfl ?_
      have h5 := H.1
      replace H := H.2
      obtain ⟨w6, ew6⟩ : ∃ z, z = 2 + 2 * (v1).toNat := ⟨_, rfl⟩
      have hw6 := mm_isWi h5 ew6
      replace H := H w6 hw6 ew6
      refine mu_aald (q := w6) mc_71_13 h5 ew6 ?_
      refine mu_rfl (n := 16) mc_71_14 (by decide) rfl rfl ?_
      refine mu_astore (r := some (w6)) mc_71_16 (by decide) (by simp) (ls' := [some (mm_P 0), some (mm_I (v1)), some (mm_P w6)]) rfl ?_
      refine mu_aload (r := some (w6)) mc_71_17 (by decide) rfl ?_
      refine mu_rfl (n := 24) mc_71_18 (by decide) rfl rfl ?_
      refine mu_aload (r := some (w6)) mc_71_24 (by decide) rfl ?_
      exact mt_retR mc_71_25 H

theorem q_X4_demandLetter_0 {D : mm_D} {u : Int} {x : Nat × (Nat × List Int)} {Q : mm_O → mm_H → Prop} (v0 : Int) (H : mt 70 0 [some (mm_I (v0)), some (mm_I ((26 : Int)))] [] (mm_mk D u x) (mm_pI fun r4 D1 u2 x3 => ((¬ (r4) = 0) → Q (.inl none) (mm_mk D1 u2 x3)) ∧ (¬ (¬ (r4) = 0) → Q (.inr 1) (mm_mk D1 u2 (x3.1 + 1, (x3.2.1 + 6, x3.2.2)))))) : mt 72 0 [some (mm_I (v0))] [] (mm_mk D u x) Q := by
  refine mu_load mc_72_0 (by decide) rfl ?_
  refine mu_const mc_72_1 (by decide) (by decide) ?_
  refine mt_call (args := [mm_I (v0), mm_I ((26 : Int))]) (rest := []) mc_72_2 (by decide) rfl rfl rfl ⟨Or.inl (by simp), rfl, by decide⟩ rfl H ?_
  rintro _ _ ⟨r4, D1, u2, x3, rfl, rfl, H⟩
  refine Or.inl ⟨_, rfl, ?_⟩
  refine mu_if_ne mc_72_3 (fun c => ?_) (fun c => ?_)
  · replace H := H.1 c
    exact mt_retV mc_72_9 H
  · replace H := H.2 c
    exact mt_thr mc_72_4 H

theorem q_X4_walkPattern_0 {D : mm_D} {u : Int} {x : Nat × (Nat × List Int)} {Q : mm_O → mm_H → Prop} (v1 : Int) (H : mt 73 4 [some (mm_P 0), some (mm_I (v1)), some (mm_I (v1)), some (mm_I ((0 : Int)))] [] (mm_mk D u x) Q) : mt 73 0 [some (mm_P 0), some (mm_I (v1)), none, none] [] (mm_mk D u x) Q := by
  refine mu_load mc_73_0 (by decide) rfl ?_
  refine mu_store mc_73_1 (by decide) (by simp) (ls' := [some (mm_P 0), some (mm_I (v1)), some (mm_I (v1)), none]) rfl ?_
  refine mu_const mc_73_2 (by decide) (by decide) ?_
  refine mu_store mc_73_3 (by decide) (by simp) (ls' := [some (mm_P 0), some (mm_I (v1)), some (mm_I (v1)), some (mm_I ((0 : Int)))]) rfl ?_
  exact H
theorem q_X4_walkPattern_4 {D : mm_D} {u : Int} {x : Nat × (Nat × List Int)} {Q : mm_O → mm_H → Prop} (v1 v2 v3 : Int) (H : mt 36 0 [some (mm_P 10)] [] (mm_mk D u x) (mm_pI fun r4 D1 u2 x3 => (((r4) ≤ (v3)) → Q (.inl (some (mm_I (v2)))) (mm_mk D1 u2 x3)) ∧ (¬ ((r4) ≤ (v3)) → (((v2) = ((-1 : Int))) → Q (.inl (some (mm_I (v2)))) (mm_mk D1 u2 x3)) ∧ (¬ ((v2) = ((-1 : Int))) → mt 37 0 [some (mm_P 10), some (mm_I (v3))] [] (mm_mk D1 u2 x3) (mm_pI fun r8 D5 u6 x7 => mt 7 0 [some (mm_P 13), some (mm_I (v2)), some (mm_I (r8)), none] [] (mm_mk D5 u6 x7) (mm_pI fun r12 D9 u10 x11 => (mm_rng ((v3) + (1 : Int))) ∧ (mt 73 4 [some (mm_P 0), some (mm_I (v1)), some (mm_I (r12)), some (mm_I ((v3) + (1 : Int)))] [] (mm_mk D9 u10 x11) Q))))))) : mt 73 4 [some (mm_P 0), some (mm_I (v1)), some (mm_I (v2)), some (mm_I (v3))] [] (mm_mk D u x) Q := by
  refine mu_load mc_73_4 (by decide) rfl ?_
  refine mu_aload (r := some (0)) mc_73_5 (by decide) rfl ?_
  refine mu_get mc_73_6 rfl ?_
  refine mt_call (args := [mm_P 10]) (rest := [mm_I (v3)]) mc_73_7 (by decide) rfl rfl rfl ⟨Or.inl (by simp), rfl, by decide⟩ (mu_rcv (by decide) rfl (by decide)) H ?_
  rintro _ _ ⟨r4, D1, u2, x3, rfl, rfl, H⟩
  refine Or.inl ⟨_, rfl, ?_⟩
  refine mu_ic_ge mc_73_8 (fun c => ?_) (fun c => ?_)
  · replace H := H.1 c
    refine mu_load mc_73_23 (by decide) rfl ?_
    exact mt_ret mc_73_24 H
  · replace H := H.2 c
    refine mu_load mc_73_9 (by decide) rfl ?_
    refine mu_const mc_73_10 (by decide) (by decide) ?_
    refine mu_ic_eq mc_73_11 (fun c => ?_) (fun c => ?_)
    · replace H := H.1 c
      refine mu_load mc_73_23 (by decide) rfl ?_
      exact mt_ret mc_73_24 H
    · replace H := H.2 c
      refine mu_aload (r := some (0)) mc_73_12 (by decide) rfl ?_
      refine mu_get mc_73_13 rfl ?_
      refine mu_load mc_73_14 (by decide) rfl ?_
      refine mu_aload (r := some (0)) mc_73_15 (by decide) rfl ?_
      refine mu_get mc_73_16 rfl ?_
      refine mu_load mc_73_17 (by decide) rfl ?_
      refine mt_call (args := [mm_P 10, mm_I (v3)]) (rest := [mm_I (v2), mm_P 13]) mc_73_18 (by decide) rfl rfl rfl ⟨Or.inl (by simp), rfl, by decide⟩ (mu_rcv (by decide) rfl (by decide)) H ?_
      rintro _ _ ⟨r8, D5, u6, x7, rfl, rfl, H⟩
      refine Or.inl ⟨_, rfl, ?_⟩
      refine mt_call (args := [mm_P 13, mm_I (v2), mm_I (r8)]) (rest := []) mc_73_19 (by decide) rfl rfl rfl ⟨Or.inl (by simp), rfl, by decide⟩ (mu_rcv (by decide) rfl (by decide)) H ?_
      rintro _ _ ⟨r12, D9, u10, x11, rfl, rfl, H⟩
      refine Or.inl ⟨_, rfl, ?_⟩
      refine mu_store mc_73_20 (by decide) (by simp) (ls' := [some (mm_P 0), some (mm_I (v1)), some (mm_I (r12)), some (mm_I (v3))]) rfl ?_
      have h13 := H.1
      replace H := H.2
      refine mu_iinc mc_73_21 rfl h13 (ls' := [some (mm_P 0), some (mm_I (v1)), some (mm_I (r12)), some (mm_I ((v3) + (1 : Int)))]) rfl ?_
      refine mu_rfl (n := 4) mc_73_22 (by decide) rfl rfl ?_
      exact H

theorem q_X4_partState_0 {D : mm_D} {u : Int} {x : Nat × (Nat × List Int)} {Q : mm_O → mm_H → Prop} (H : mt 36 0 [some (mm_P 10)] [] (mm_mk D u x) (mm_pI fun r4 D1 u2 x3 => ((¬ (r4) = 0) → mt 73 0 [some (mm_P 0), some (mm_I ((0 : Int))), none, none] [] (mm_mk D1 u2 x3) (mm_pI fun r8 D5 u6 x7 => Q (.inl (some (mm_I (r8)))) (mm_mk D5 u6 x7))) ∧ (¬ (¬ (r4) = 0) → Q (.inl (some (mm_I ((-1 : Int))))) (mm_mk D1 u2 x3)))) : mt 74 0 [some (mm_P 0)] [] (mm_mk D u x) Q := by
  refine mu_aload (r := some (0)) mc_74_0 (by decide) rfl ?_
  refine mu_get mc_74_1 rfl ?_
  refine mt_call (args := [mm_P 10]) (rest := []) mc_74_2 (by decide) rfl rfl rfl ⟨Or.inl (by simp), rfl, by decide⟩ (mu_rcv (by decide) rfl (by decide)) H ?_
  rintro _ _ ⟨r4, D1, u2, x3, rfl, rfl, H⟩
  refine Or.inl ⟨_, rfl, ?_⟩
  refine mu_if_ne mc_74_3 (fun c => ?_) (fun c => ?_)
  · replace H := H.1 c
    refine mu_aload (r := some (0)) mc_74_6 (by decide) rfl ?_
    refine mu_const mc_74_7 (by decide) (by decide) ?_
    refine mt_call (args := [mm_P 0, mm_I ((0 : Int))]) (rest := []) mc_74_8 (by decide) rfl rfl rfl ⟨Or.inl (by simp), rfl, by decide⟩ (mu_rcv (by decide) rfl (by decide)) H ?_
    rintro _ _ ⟨r8, D5, u6, x7, rfl, rfl, H⟩
    refine Or.inl ⟨_, rfl, ?_⟩
    exact mt_ret mc_74_9 H
  · replace H := H.2 c
    refine mu_const mc_74_4 (by decide) (by decide) ?_
    refine mu_rfl (n := 9) mc_74_5 (by decide) rfl rfl ?_
    exact mt_ret mc_74_9 H

theorem q_X4_beginOfPattern_0 {D : mm_D} {u : Int} {x : Nat × (Nat × List Int)} {Q : mm_O → mm_H → Prop} (v1 : Int) (H : ((¬ (v1) = ((-1 : Int))) → mt 36 0 [some (mm_P 10)] [] (mm_mk D u x) (mm_pI fun r4 D1 u2 x3 => (mm_rng ((v1) - (r4))) ∧ ((mm_rng (((v1) - (r4)) + ((1 : Int)))) ∧ (Q (.inl (some (mm_I (((v1) - (r4)) + ((1 : Int)))))) (mm_mk D1 u2 x3))))) ∧ (¬ (¬ (v1) = ((-1 : Int))) → Q (.inl (some (mm_I ((-1 : Int))))) (mm_mk D u x))) : mt 75 0 [some (mm_P 0), some (mm_I (v1))] [] (mm_mk D u x) Q := by
  refine mu_load mc_75_0 (by decide) rfl ?_
  refine mu_const mc_75_1 (by decide) (by decide) ?_
  refine mu_ic_ne mc_75_2 (fun c => ?_) (fun c => ?_)
  · replace H := H.1 c
    refine mu_load mc_75_5 (by decide) rfl ?_
    refine mu_aload (r := some (0)) mc_75_6 (by decide) rfl ?_
    refine mu_get mc_75_7 rfl ?_
    refine mt_call (args := [mm_P 10]) (rest := [mm_I (v1)]) mc_75_8 (by decide) rfl rfl rfl ⟨Or.inl (by simp), rfl, by decide⟩ (mu_rcv (by decide) rfl (by decide)) H ?_
    rintro _ _ ⟨r4, D1, u2, x3, rfl, rfl, H⟩
    refine Or.inl ⟨_, rfl, ?_⟩
    have h5 := H.1
    replace H := H.2
    refine mu_isub mc_75_9 h5 ?_
    refine mu_const mc_75_10 (by decide) (by decide) ?_
    have h6 := H.1
    replace H := H.2
    refine mu_iadd mc_75_11 h6 ?_
    exact mt_ret mc_75_12 H
  · replace H := H.2 c
    refine mu_const mc_75_3 (by decide) (by decide) ?_
    refine mu_rfl (n := 12) mc_75_4 (by decide) rfl rfl ?_
    exact mt_ret mc_75_12 H
