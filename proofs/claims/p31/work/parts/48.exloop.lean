/-! the loop that leads steps to a fresh state -/
theorem sp_ex24 {D E : mm_D} {n : Int} {rep : Int → wd} {en : Nat → wd → Int → Int} (J : au_J D n (-1) rep [] en) {w0 c v1 : Int} (h201 : n < 201) (hc : 0 ≤ c ∧ c < 26)
    (e20 : ∀ s, 0 ≤ s ∧ s < n → E 20 s = D 20 s) {u : Int} {x9 : mm_Xt} {Q : mm_O → mm_H → Prop}
    (H1 : ∀ D' : mm_D, (∀ r, r ≠ 18 → D' r = E r) → (∀ k, n * 26 ≤ k → D' 18 k = E 18 k) → (∀ s, 0 ≤ s ∧ s < n → rep s <:+ rep w0 → D 18 (s * 26 + c) = -1 ∧ D' 18 (s * 26 + c) = n) → (∀ s a, 0 ≤ s ∧ s < n → 0 ≤ a ∧ a < 26 → ¬ (a = c ∧ rep s <:+ rep w0) → D' 18 (s * 26 + a) = D 18 (s * 26 + a)) → mt 14 0 [some (mm_P 13), some (mm_I n), some (mm_I 0)] [] (mm_mk D' u x9) (mm_pV fun D5 u6 x7 => Q (.inl (some (mm_I n))) (mm_mk D5 u6 x7)))
    (H2 : ∀ (D' : mm_D) (s0 : Int), 0 ≤ s0 ∧ s0 < n → rep s0 <:+ rep w0 → D 18 (s0 * 26 + c) ≠ -1 → (∀ r, r ≠ 18 → D' r = E r) → (∀ k, n * 26 ≤ k → D' 18 k = E 18 k) → (∀ s, 0 ≤ s ∧ s < n → rep s <:+ rep w0 → (rep s0).length < (rep s).length → D 18 (s * 26 + c) = -1 ∧ D' 18 (s * 26 + c) = n) → (∀ s a, 0 ≤ s ∧ s < n → 0 ≤ a ∧ a < 26 → ¬ (a = c ∧ rep s <:+ rep w0 ∧ (rep s0).length < (rep s).length) → D' 18 (s * 26 + a) = D 18 (s * 26 + a)) → mt 10 0 [some (mm_P 13), some (mm_I s0), some (mm_I c), none, none, none, none, none] [] (mm_mk D' u x9) (mm_pI fun r D1 u1 x1 => mt 14 0 [some (mm_P 13), some (mm_I n), some (mm_I r)] [] (mm_mk D1 u1 x1) (mm_pV fun D5 u6 x7 => Q (.inl (some (mm_I n))) (mm_mk D5 u6 x7)))) :
    ∀ (m : Nat) (v4 v5 : Int) (D2 : mm_D), (v4 = -1 ∨ ((0 ≤ v4 ∧ v4 < n) ∧ rep v4 <:+ rep w0)) → (v4 ≠ -1 → (rep v4).length < m) → 0 ≤ v5 → v5 + m ≤ 200 → (∀ r, r ≠ 18 → D2 r = E r) → (∀ k, n * 26 ≤ k → D2 18 k = E 18 k) →
      (∀ s, 0 ≤ s ∧ s < n → rep s <:+ rep w0 → (v4 = -1 ∨ (rep v4).length < (rep s).length) → D 18 (s * 26 + c) = -1 ∧ D2 18 (s * 26 + c) = n) →
      (∀ s a, 0 ≤ s ∧ s < n → 0 ≤ a ∧ a < 26 → ¬ (a = c ∧ rep s <:+ rep w0 ∧ (v4 = -1 ∨ (rep v4).length < (rep s).length)) → D2 18 (s * 26 + a) = D 18 (s * 26 + a)) →
      mt 9 24 [some (mm_P 13), some (mm_I v1), some (mm_I c), some (mm_I n), some (mm_I v4), some (mm_I v5)] [] (mm_mk D2 u x9) Q := by
  obtain ⟨j1, j2, j3, j4, j5, j6, j7, j8, j9, j10, j11⟩ := J
  intro m
  have neg : ∀ (v4 v5 : Int) (D2 : mm_D), v4 = -1 → v5 < 201 → (∀ r, r ≠ 18 → D2 r = E r) → (∀ k, n * 26 ≤ k → D2 18 k = E 18 k) →
      (∀ s, 0 ≤ s ∧ s < n → rep s <:+ rep w0 → (v4 = -1 ∨ (rep v4).length < (rep s).length) → D 18 (s * 26 + c) = -1 ∧ D2 18 (s * 26 + c) = n) →
      (∀ s a, 0 ≤ s ∧ s < n → 0 ≤ a ∧ a < 26 → ¬ (a = c ∧ rep s <:+ rep w0 ∧ (v4 = -1 ∨ (rep v4).length < (rep s).length)) → D2 18 (s * 26 + a) = D 18 (s * 26 + a)) →
      mt 9 24 [some (mm_P 13), some (mm_I v1), some (mm_I c), some (mm_I n), some (mm_I v4), some (mm_I v5)] [] (mm_mk D2 u x9) Q := by
    intro v4 v5 D2 e h5 h1 h2 h3 h4
    apply q_X0_extend_24
    refine ⟨fun c => absurd c (by omega), fun _ => ⟨fun _ => ⟨fun q => absurd e q, fun _ => ?_⟩, fun q => absurd e q⟩⟩
    exact H1 D2 h1 h2 (fun s a b => h3 s a b (Or.inl e)) (fun s a q1 q2 q3 => h4 s a q1 q2 (fun q => q3 ⟨q.1, q.2.1⟩))
  induction m with
  | zero =>
    intro v4 v5 D2 hv hm h7 h72 h1 h2 h3 h4
    have e : v4 = -1 := by
      by_cases e : v4 = -1
      · exact e
      · exact absurd (hm e) (by omega)
    exact neg v4 v5 D2 e (by omega) h1 h2 h3 h4
  | succ m ih =>
    intro v4 v5 D2 hv hm h7 h72 h1 h2 h3 h4
    by_cases e : v4 = -1
    · exact neg v4 v5 D2 e (by omega) h1 h2 h3 h4
    · obtain ⟨hi, hsuf⟩ := hv.resolve_left e
      have hml := hm e
      have est : sd_step D2 v4 c = D 18 (v4 * 26 + c) := by
        have : sd_step D2 v4 c = D2 18 (v4 * 26 + c) := if_pos (by omega)
        rw [this]
        exact h4 v4 c hi hc (fun q => by rcases q.2.2 with q | q <;> omega)
      apply q_X0_extend_24
      refine ⟨fun c => absurd c (by omega), fun _ => ⟨fun q => absurd q e, fun _ => ?_⟩⟩
      apply sp_step
      apply mm_pIi
      rw [est]
      refine ⟨fun hq => ?_, fun hq => ⟨fun _ => ?_, fun q => absurd e q⟩⟩
      · apply sp_putStep _ _ _ (by omega) (by omega) hc.1 hc.2
        apply mm_pVi
        apply sp_link
        apply mm_pIi
        refine ⟨by constructor <;> omega, ?_⟩
        have elk : sd_link (mm_wr D2 18 (v4 * 26 + c) n) v4 = D 20 v4 := by
          have : sd_link (mm_wr D2 18 (v4 * 26 + c) n) v4 = mm_wr D2 18 (v4 * 26 + c) n 20 v4 := if_pos (by omega)
          rw [this, mm_wr_r (by decide), h1 20 (by decide), e20 v4 hi]
        rw [elk]
        have lk : v4 ≠ 0 → au_in n (-1) (D 20 v4) ∧ au_lk (au_M n (-1) rep) (rep v4) (rep (D 20 v4)) := j10 v4 ⟨hi, e⟩
        have ll : v4 ≠ 0 → (rep (D 20 v4)).length < (rep v4).length := by
          intro q
          obtain ⟨_, _, l3, l4, _⟩ := lk q
          have := l3.length_le
          by_cases q2 : (rep (D 20 v4)).length = (rep v4).length
          · exact absurd (l3.eq_of_length q2) l4
          · omega
        have l0 : v4 = 0 → D 20 v4 = -1 := fun q => by rw [q]; exact j9
        have self : D 20 v4 = -1 ∨ (rep (D 20 v4)).length < (rep v4).length := by
          by_cases q : v4 = 0
          · exact Or.inl (l0 q)
          · exact Or.inr (ll q)
        refine ih (D 20 v4) (v5 + 1) _ ?_ ?_ (by omega) (by omega) (fun r hr => ?_) (fun k hk => ?_) (fun s s1 s2 s4 => ?_) (fun s a s1 s2 s3 => ?_)
        · by_cases q : v4 = 0
          · exact Or.inl (l0 q)
          · exact Or.inr ⟨(lk q).1.1, (lk q).2.2.1.trans hsuf⟩
        · intro q
          have := ll (fun q2 => q (l0 q2))
          omega
        · rw [mm_wr_row hr]
          exact h1 r hr
        · rw [mm_wr_k (by omega)]
          exact h2 k hk
        · by_cases q : s = v4
          · rw [q, mm_wr_eq]
            exact ⟨hq, rfl⟩
          · rw [mm_wr_k (by omega)]
            refine h3 s s1 s2 (Or.inr ?_)
            by_cases q2 : (rep v4).length < (rep s).length
            · exact q2
            · exfalso
              have s5 := ws_cmp s2 hsuf (by omega)
              have s6 : au_in n (-1) s := ⟨s1, by omega⟩
              have s7 : rep s ≠ rep v4 := fun q3 => q (j5 _ _ s1 hi q3)
              have s8 : v4 ≠ 0 := by
                intro q3
                rw [q3, j4] at s5 s7
                exact s7 (List.suffix_nil.mp s5)
              have s9 := ((lk s8).2.2.2.2 _ ⟨s, s6, rfl⟩ s5 s7).length_le
              have s10 := (lk s8).1.1.1
              rcases s4 with s4 | s4 <;> omega
        · have q0 : ¬ (s * 26 + a = v4 * 26 + c) := by
            intro q
            have q1 : s = v4 := by omega
            have q2 : a = c := by omega
            exact s3 ⟨q2, by rw [q1]; exact hsuf, by rw [q1]; exact self⟩
          rw [mm_wr_k q0]
          refine h4 s a s1 s2 (fun q => s3 ⟨q.1, q.2.1, ?_⟩)
          rcases q.2.2 with q | q
          · exact absurd q e
          · rcases self with q2 | q2
            · exact Or.inl q2
            · exact Or.inr (by omega)
      · exact H2 D2 v4 hi hsuf hq h1 h2 (fun s a b d => h3 s a b (Or.inr d)) (fun s a q1 q2 q3 => h4 s a q1 q2 (fun q => q3 ⟨q.1, q.2.1, q.2.2.resolve_left e⟩))
