/-! the loop that leads steps to the state split off -/
theorem au_in_of {n f : Int} {rep : Int → wd} (hfF : f ≠ -1 → ¬ wm_F (au_M n f rep) (rep f)) {s : Int} (hs : 0 ≤ s ∧ s < n) {w : wd} (hw : rep s <:+ w) (hF : wm_F (au_M n f rep) w) : au_in n f s := by
  refine ⟨hs, fun e => ?_⟩
  rw [e] at hw hs
  exact hfF (by omega) (wm_F_suf hF hw)
theorem sp_sb37 {D E : mm_D} {n f : Int} {rep : Int → wd} {x : wd} {en : Nat → wd → Int → Int} (J : au_J D n f rep x en) (hfF : f ≠ -1 → ¬ wm_F (au_M n f rep) (rep f)) {s0 c t v1 v4 : Int} (h201 : n < 201) (hs0 : au_in n f s0) (hc : 0 ≤ c ∧ c < 26) (ht : au_in n f t) (hcl : wm_cl (au_M n f rep) (rep s0 ++ [c]) (rep t))
    (e20 : ∀ s, au_in n f s → s ≠ t → E 20 s = D 20 s) {u : Int} {x9 : mm_Xt} {Q : mm_O → mm_H → Prop}
    (H : ∀ D' : mm_D, (∀ r, r ≠ 18 → D' r = E r) → (∀ k, n * 26 ≤ k → D' 18 k = E 18 k) → (∀ s, 0 ≤ s ∧ s < n → rep s <:+ rep s0 → D 18 (s * 26 + c) = t → D' 18 (s * 26 + c) = n) → (∀ s a, 0 ≤ s ∧ s < n → 0 ≤ a ∧ a < 26 → ¬ (a = c ∧ rep s <:+ rep s0 ∧ D 18 (s * 26 + c) = t) → D' 18 (s * 26 + a) = D 18 (s * 26 + a)) → Q (.inl (some (mm_I n))) (mm_mk D' u x9)) :
    ∀ (m : Nat) (v6 v7 : Int) (D2 : mm_D), (v6 = -1 ∨ (au_in n f v6 ∧ rep v6 <:+ rep s0)) → (v6 ≠ -1 → (rep v6).length < m) → 0 ≤ v7 → v7 + m ≤ 200 → (∀ r, r ≠ 18 → D2 r = E r) → (∀ k, n * 26 ≤ k → D2 18 k = E 18 k) →
      (∀ s, 0 ≤ s ∧ s < n → rep s <:+ rep s0 → D 18 (s * 26 + c) = t → (v6 = -1 ∨ (rep v6).length < (rep s).length) → D2 18 (s * 26 + c) = n) →
      (∀ s a, 0 ≤ s ∧ s < n → 0 ≤ a ∧ a < 26 → ¬ (a = c ∧ rep s <:+ rep s0 ∧ D 18 (s * 26 + c) = t ∧ (v6 = -1 ∨ (rep v6).length < (rep s).length)) → D2 18 (s * 26 + a) = D 18 (s * 26 + a)) →
      mt 10 37 [some (mm_P 13), some (mm_I v1), some (mm_I c), some (mm_I t), some (mm_I v4), some (mm_I n), some (mm_I v6), some (mm_I v7)] [] (mm_mk D2 u x9) Q := by
  obtain ⟨j1, j2, j3, j4, j5, j6, j7, j8, j9, j10, j11⟩ := J
  have hF0 : wm_F (au_M n f rep) (rep s0) := ⟨rep s0, ⟨s0, hs0, rfl⟩, List.suffix_refl _⟩
  have htl : (rep s0).length + 1 ≤ (rep t).length := by
    have := hcl.2.1.length_le
    rwa [List.length_append, List.length_singleton] at this
  intro m
  induction m with
  | zero =>
    intro v6 v7 D2 hv hm h7 h72 h1 h2 h3 h4
    have e : v6 = -1 := by
      by_cases e : v6 = -1
      · exact e
      · exact absurd (hm e) (by omega)
    apply q_X0_stateBehind_37
    refine ⟨fun c => absurd c (by omega), fun _ => ?_⟩
    apply sp_step
    apply mm_pIi
    have : sd_step D2 v6 c = -1 := if_neg (by omega)
    rw [this]
    exact ⟨fun _ => H D2 h1 h2 (fun s a b d => h3 s a b d (Or.inl e)) (fun s a q1 q2 q3 => h4 s a q1 q2 (fun q => q3 ⟨q.1, q.2.1, q.2.2.1⟩)), fun q => absurd (fun e => by have := ht.1.1; omega) q⟩
  | succ m ih =>
    intro v6 v7 D2 hv hm h7 h72 h1 h2 h3 h4
    apply q_X0_stateBehind_37
    refine ⟨fun c => absurd c (by omega), fun _ => ?_⟩
    apply sp_step
    apply mm_pIi
    by_cases e : v6 = -1
    · have : sd_step D2 v6 c = -1 := if_neg (by omega)
      rw [this]
      exact ⟨fun _ => H D2 h1 h2 (fun s a b d => h3 s a b d (Or.inl e)) (fun s a q1 q2 q3 => h4 s a q1 q2 (fun q => q3 ⟨q.1, q.2.1, q.2.2.1⟩)), fun q => absurd (fun e => by have := ht.1.1; omega) q⟩
    · obtain ⟨hi, hsuf⟩ := hv.resolve_left e
      have hml := hm e
      have hi1 := hi.1
      have est : sd_step D2 v6 c = D 18 (v6 * 26 + c) := by
        have : sd_step D2 v6 c = D2 18 (v6 * 26 + c) := if_pos (by omega)
        rw [this]
        exact h4 v6 c hi.1 hc (fun q => by rcases q.2.2.2 with q | q <;> omega)
      rw [est]
      by_cases hq : D 18 (v6 * 26 + c) = t
      · refine ⟨fun q => absurd hq q, fun _ => ?_⟩
        apply sp_putStep _ _ _ (by omega) (by omega) hc.1 hc.2
        apply mm_pVi
        apply sp_link
        apply mm_pIi
        refine ⟨by constructor <;> omega, ?_⟩
        have hne : v6 ≠ t := by
          intro q
          have := hsuf.length_le
          rw [q] at this
          omega
        have elk : sd_link (mm_wr D2 18 (v6 * 26 + c) n) v6 = D 20 v6 := by
          have : sd_link (mm_wr D2 18 (v6 * 26 + c) n) v6 = mm_wr D2 18 (v6 * 26 + c) n 20 v6 := if_pos (by omega)
          rw [this, mm_wr_r (by decide), h1 20 (by decide), e20 v6 hi hne]
        rw [elk]
        have lk : v6 ≠ 0 → au_in n f (D 20 v6) ∧ au_lk (au_M n f rep) (rep v6) (rep (D 20 v6)) := j10 v6 hi
        have ll : v6 ≠ 0 → (rep (D 20 v6)).length < (rep v6).length := by
          intro q
          obtain ⟨_, _, l3, l4, _⟩ := lk q
          have := l3.length_le
          by_cases q2 : (rep (D 20 v6)).length = (rep v6).length
          · exact absurd (l3.eq_of_length q2) l4
          · omega
        have l0 : v6 = 0 → D 20 v6 = -1 := fun q => by rw [q]; exact j9
        have self : D 20 v6 = -1 ∨ (rep (D 20 v6)).length < (rep v6).length := by
          by_cases q : v6 = 0
          · exact Or.inl (l0 q)
          · exact Or.inr (ll q)
        refine ih (D 20 v6) (v7 + 1) _ ?_ ?_ (by omega) (by omega) (fun r hr => ?_) (fun k hk => ?_) (fun s s1 s2 s3 s4 => ?_) (fun s a s1 s2 s3 => ?_)
        · by_cases q : v6 = 0
          · exact Or.inl (l0 q)
          · exact Or.inr ⟨(lk q).1, (lk q).2.2.1.trans hsuf⟩
        · intro q
          have := ll (fun q2 => q (l0 q2))
          omega
        · rw [mm_wr_row hr]
          exact h1 r hr
        · rw [mm_wr_k (by omega)]
          exact h2 k hk
        · by_cases q : s = v6
          · rw [q, mm_wr_eq]
          · rw [mm_wr_k (by omega)]
            refine h3 s s1 s2 s3 (Or.inr ?_)
            by_cases q2 : (rep v6).length < (rep s).length
            · exact q2
            · exfalso
              have s5 := ws_cmp s2 hsuf (by omega)
              have s6 := au_in_of hfF s1 s2 hF0
              have s7 : rep s ≠ rep v6 := fun q3 => q (j5 _ _ s1 hi.1 q3)
              have s8 : v6 ≠ 0 := by
                intro q3
                rw [q3, j4] at s5 s7
                exact s7 (List.suffix_nil.mp s5)
              have s9 := ((lk s8).2.2.2.2 _ ⟨s, s6, rfl⟩ s5 s7).length_le
              have s10 := (lk s8).1.1.1
              rcases s4 with s4 | s4 <;> omega
        · have q0 : ¬ (s * 26 + a = v6 * 26 + c) := by
            intro q
            have q1 : s = v6 := by omega
            have q2 : a = c := by omega
            exact s3 ⟨q2, by rw [q1]; exact hsuf, by rw [q1]; exact hq, by rw [q1]; exact self⟩
          rw [mm_wr_k q0]
          refine h4 s a s1 s2 (fun q => s3 ⟨q.1, q.2.1, q.2.2.1, ?_⟩)
          rcases q.2.2.2 with q | q
          · exact absurd q e
          · rcases self with q2 | q2
            · exact Or.inl q2
            · exact Or.inr (by omega)
      · refine ⟨fun _ => H D2 h1 h2 (fun s a b d => ?_) (fun s a q1 q2 q3 => h4 s a q1 q2 (fun q => q3 ⟨q.1, q.2.1, q.2.2.1⟩)), fun q => absurd hq q⟩
        refine h3 s a b d (Or.inr ?_)
        by_cases q2 : (rep v6).length < (rep s).length
        · exact q2
        · exfalso
          apply hq
          have s5 := ws_cmp b hsuf (by omega)
          have s6 := au_in_of hfF a b hF0
          have k1 := j8 s c s6 hc
          rw [d] at k1
          have k2 : wm_cl (au_M n f rep) (rep s ++ [c]) (rep t) := by
            rcases k1 with ⟨k, _⟩ | ⟨k, _⟩ | ⟨_, k⟩
            · exact absurd k ht.2
            · have := ht.1.1
              omega
            · exact k
          have k3 : wm_cl (au_M n f rep) (rep v6 ++ [c]) (rep t) := wm_cl_mid k2 (ws_snoc.mpr s5) ((ws_snoc.mpr hsuf).trans hcl.2.1)
          have kF : wm_F (au_M n f rep) (rep v6 ++ [c]) := ⟨_, k3.1, k3.2.1⟩
          rcases j8 v6 c hi hc with ⟨_, _, k⟩ | ⟨_, _, k⟩ | ⟨k5, k⟩
          · exact absurd kF k
          · exact absurd kF k
          · exact j5 _ _ k5.1 ht.1 (wm_cl_uniq k k3)
