theorem mm_mk31 (D : mm_D) (x x' : mm_Xt) : (mm_mk D 0 x).1.take 30 ++ [(1, [mm_L 0])] = (mm_mk D 0 x').1 := by
  have e : (List.range 31) = List.range 30 ++ [30] := by rw [List.range_succ]
  unfold mm_mk
  dsimp only
  rw [e, List.map_append, List.take_left' (by simp)]
  rfl
theorem mm_take_len (D : mm_D) (x : mm_Xt) (k : Nat) (h : k ≤ 31) : ((mm_mk D 0 x).1.take k).length = k := by
  unfold mm_mk
  simp
  omega
/-- the law's entry, up to its loop -/
theorem mm_law0 {s : List Int} {Q : mm_O → mm_H → Prop} (K : mt 139 13 [some (mm_P 999), some (mm_P 0), some (mm_P 24), some (mm_P 30), some (mm_I 0), none, none] [] (mm_mk mm_D0 0 (31, (9737, s))) Q) : mt 139 0 ([mm_P 999].map some ++ List.replicate (7 - [mm_P 999].length) none) [] ([], (0, (0, s))) Q := by
  have eA := mm_run_scr _ _ _ _ _ _ _ _ _ _ s (mm_ctOK_s mm_cA0)
  have eB := mm_run_scr _ _ _ _ _ _ _ _ _ _ s (mm_ctOK_s mm_cB0)
  obtain ⟨cA, hcA⟩ : ∃ z, z = (mm_mk mm_D0 0 (0, (0, []))).1.take 24 := ⟨_, rfl⟩
  obtain ⟨cB, hcB⟩ : ∃ z, z = (mm_mk mm_D0 0 (0, (0, []))).1.take 30 := ⟨_, rfl⟩
  have lA : cA.length = 24 := by rw [hcA]; exact mm_take_len _ _ _ (by decide)
  have lB : cB.length = 30 := by rw [hcB]; exact mm_take_len _ _ _ (by decide)
  rw [← hcA] at eA eB
  rw [← hcB] at eB
  refine mt_op mc_139_0 (by decide) (by decide) (ls' := [some (mm_P 999), none, none, none, none, none, none]) (st' := [mm_P 0]) (h' := ([(14, (mm_fk 4).map mm_df)], (1, (6, s)))) (j := none) rfl ?_
  refine mu_rfl mc_139_1 (by decide) rfl rfl ?_
  refine mt_call (args := [mm_P 0]) (rest := [mm_P 0]) (Q1 := fun o h => o = .inl none ∧ h = (cA, (24, (8999, s)))) mc_139_2 (by decide) rfl rfl rfl ⟨by decide, rfl, by decide⟩ rfl ⟨2000, _, _, eA, rfl, rfl⟩ ?_
  rintro _ _ ⟨rfl, rfl⟩
  refine Or.inl ⟨_, rfl, ?_⟩
  refine mu_astore (r := some 0) mc_139_3 (by decide) (by decide) (ls' := [some (mm_P 999), some (mm_P 0), none, none, none, none, none]) rfl ?_
  refine mt_op mc_139_4 (by decide) (by decide) (ls' := [some (mm_P 999), some (mm_P 0), none, none, none, none, none]) (st' := [mm_P 24]) (h' := (cA ++ [(15, (mm_fk 5).map mm_df)], (25, (9012, s)))) (j := none) ?_ ?_
  · show mm_push 15 ((mm_fk 5).map mm_df) _ [] (cA, (24, (8999, s))) = _
    unfold mm_push
    rw [if_pos ⟨lA, by show cA.length < 900; omega⟩]
    show some (_, (mm_P cA.length :: [], ((cA ++ _, (24 + 1, (8999 + 13, s))), none))) = _
    rw [lA]
  refine mu_rfl mc_139_5 (by decide) rfl rfl ?_
  refine mt_call (args := [mm_P 24]) (rest := [mm_P 24]) (Q1 := fun o h => o = .inl none ∧ h = (cB, (30, (9736, s)))) mc_139_6 (by decide) rfl rfl rfl ⟨by decide, rfl, by decide⟩ ?_ ⟨500, _, _, eB, rfl, rfl⟩ ?_
  · show decide (((cA ++ [(15, (mm_fk 5).map mm_df)])[24]?).map (·.1) = some 15) = true
    rw [List.getElem?_append_right (by omega), lA]
    rfl
  rintro _ _ ⟨rfl, rfl⟩
  refine Or.inl ⟨_, rfl, ?_⟩
  refine mu_astore (r := some 24) mc_139_7 (by decide) (by decide) (ls' := [some (mm_P 999), some (mm_P 0), some (mm_P 24), none, none, none, none]) rfl ?_
  refine mu_const mc_139_8 (by decide) (by decide) ?_
  refine mt_op mc_139_9 (by decide) (by decide) (ls' := [some (mm_P 999), some (mm_P 0), some (mm_P 24), none, none, none, none]) (st' := [mm_P 30]) (h' := mm_mk mm_D0 0 (31, (9737, s))) (j := none) ?_ ?_
  · show (if (0 : Int) ≤ 1 ∧ (1 : Int) < 100000 then mm_push 1 (List.replicate 1 (mm_L 0)) _ [] (cB, (30, (9736, s))) else none) = _
    rw [if_pos (by decide)]
    unfold mm_push
    rw [if_pos ⟨lB, by show cB.length < 900; omega⟩]
    show some (_, (mm_P cB.length :: [], ((cB ++ [(1, [mm_L 0])], (30 + 1, (9736 + 1, s))), none))) = _
    rw [lB, hcB, mm_mk31 mm_D0 _ (31, (9737, s))]
    rfl
  refine mu_astore (r := some 30) mc_139_10 (by decide) (by decide) (ls' := [some (mm_P 999), some (mm_P 0), some (mm_P 24), some (mm_P 30), none, none, none]) rfl ?_
  refine mu_const mc_139_11 (by decide) (by decide) ?_
  refine mu_store mc_139_12 (by decide) (by decide) (ls' := [some (mm_P 999), some (mm_P 0), some (mm_P 24), some (mm_P 30), some (mm_I 0), none, none]) rfl ?_
  exact K
