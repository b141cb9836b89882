/-! the law's loop -/
theorem sv_R0 : sv_R mm_D0 tx0 0 [] := ⟨sv_T0, ⟨rfl, rfl⟩, fun j hj => by omega, rfl, fun i h => absurd h (by simp)⟩
theorem lw_sw {z : Int} : mm_sw z = 646 ∨ mm_sw z ∈ mm_swT := by
  unfold mm_sw
  by_cases h : z < 0 ∨ 27 < z
  · rw [if_pos h]
    exact Or.inl rfl
  · rw [if_neg h]
    right
    have hz : z.toNat < mm_swT.length := by
      show z.toNat < 28
      omega
    rw [List.getD_eq_getElem?_getD, List.getElem?_eq_getElem hz]
    exact List.getElem_mem hz
theorem lw_loop {s : List Int} (hl : s.length ≤ 2048) (hr : ∀ z, z ∈ s → mm_rng z) {Q : mm_O → mm_H → Prop} (H : ∀ (D : mm_D) (u : Int) (x : mm_Xt), x.1 ≤ 1000 → x.2.1 ≤ 100000 → Q (.inl (some (mm_I 1))) (mm_mk D u x)) : ∀ (m : Nat) (v4 : Int) (D : mm_D) (u : Int) (x : mm_Xt) (tx : Nat → wd) (k : Int) (P : wd) (o5 o6 : Option mm_V), 0 ≤ v4 → v4 ≤ 2048 → (s.length : Int) < v4 + 4 * m → sv_C D tx k P → sv_R D tx k P → x.2.2 = 0 :: s → x.1 + m ≤ 1000 → x.2.1 + 6 * m ≤ 100000 → mt 139 13 [some (mm_P 999), some (mm_P 0), some (mm_P 24), some (mm_P 30), some (mm_I v4), o5, o6] [] (mm_mk D u x) Q := by
  intro m
  induction m with
  | zero =>
    intro v4 D u x tx k P o5 o6 h0 h48 hm C R hx h1 h2
    apply q_L_law_13
    refine ⟨0, s, hx, by constructor <;> omega, fun _ => H D u x (by omega) (by omega), fun q => absurd (show (s.length : Int) - 4 < v4 by omega) q⟩
  | succ m ih =>
    intro v4 D u x tx k P o5 o6 h0 h48 hm C R hx h1 h2
    apply q_L_law_13
    refine ⟨0, s, hx, by constructor <;> omega, fun _ => H D u x (by omega) (by omega), fun q => ⟨h0, _, lw_arg hx h0 (by omega), ?_⟩⟩
    have h4 : 0 ≤ v4 ∧ v4 + 4 ≤ (s.length : Int) := by omega
    have K : lw_K x v4 Q := by
      intro D' u' x' tx' k' P' o5 o6 C' R' e1 e2 e3
      apply q_L_law_646
      exact ⟨by constructor <;> omega, ih (v4 + 4) D' u' x' tx' k' P' _ _ (by omega) (by omega) (by omega) C' R' (e1.trans hx) (by omega) (by omega)⟩
    rcases lw_sw (z := mm_and (wg s v4.toNat) 31) with e | e
    · rw [e]
      exact K _ _ _ _ _ _ _ _ C R rfl (Nat.le_succ _) (Nat.le_add_right _ _)
    · generalize mm_sw (mm_and (wg s v4.toNat) 31) = y at e ⊢
      simp only [mm_swT, List.mem_cons, List.not_mem_nil, or_false] at e
      rcases e with rfl | rfl | rfl | rfl | rfl | rfl | rfl | rfl | rfl | rfl | rfl | rfl | rfl | rfl | rfl | rfl | rfl | rfl | rfl | rfl | rfl | rfl | rfl | rfl | rfl | rfl | rfl | rfl
      · exact lw_25 C R K
      · exact lw_30 C R K
      · exact lw_55 C R K hx h4 hl
      · exact lw_100 C R K
      · exact lw_107 C R K hx h4 hl
      · exact lw_142 C R K hx h4 hl
      · exact lw_187 C R K hx h4 hl
      · exact lw_222 C R K
      · exact lw_247 C R K
      · exact lw_254 C R K hx h4 hl hr
      · exact lw_296 C R K
      · exact lw_303 C R K hx h4 hl
      · exact lw_338 C R K
      · exact lw_345 C R K
      · exact lw_352 C R K hx h4 hl
      · exact lw_387 C R K hx h4 hl
      · exact lw_422 C R K hx h4 hl
      · exact lw_457 C R K
      · exact lw_464 C R K
      · exact lw_471 C R K
      · exact lw_478 C R K
      · exact lw_485 C R K
      · exact lw_492 C R K
      · exact lw_499 C R K
      · exact lw_506 C R K hx h4 hl
      · exact lw_541 C R K hx h4 hl hr
      · exact lw_576 C R K hx h4 hl
      · exact lw_611 C R K hx h4 hl
theorem mm_law : mm_LAW := by
  intro scr hl hr
  have key := mm_law0 (s := 0 :: scr) (Q := fun o h => o = .inl (some (mm_I 1)) ∧ h.2.1 ≤ 601024 ∧ h.2.2.1 ≤ 7293034) (lw_loop hl hr (fun D u x h1 h2 => ⟨rfl, by show x.1 ≤ 601024; omega, by show x.2.1 ≤ 7293034; omega⟩) 520 0 mm_D0 0 (31, (9737, 0 :: scr)) tx0 0 [] none none (by decide) (by decide) (by omega) sv_C0 sv_R0 rfl (show 31 + 520 ≤ 1000 by decide) (show 9737 + 6 * 520 ≤ 100000 by decide))
  obtain ⟨n, o, h', e, rfl, h1, h2⟩ := key
  exact ⟨n, h', e, h1, h2⟩
