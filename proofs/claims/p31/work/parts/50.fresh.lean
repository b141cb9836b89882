/-! a fresh state, its link still to come -/
theorem au_fresh {D D' : mm_D} {n : Int} {rep : Int → wd} {en : Nat → wd → Int → Int} (J : au_J D n (-1) rep [] en) (h201 : n < 201) {w0 c : Int} (hw0 : 0 ≤ w0 ∧ w0 < n) (hc : 0 ≤ c ∧ c < 26) (hnF : ¬ wm_F (au_M n (-1) rep) (rep w0 ++ [c]))
    (d13 : D' 13 6 = n + 1) (d19 : ∀ k, D' 19 k = if k = n then ((rep w0).length : Int) + 1 else D 19 k) (d20 : ∀ k, k ≠ n → D' 20 k = D 20 k)
    (d18t : ∀ s, 0 ≤ s ∧ s < n → rep s <:+ rep w0 → D 18 (s * 26 + c) = -1 → D' 18 (s * 26 + c) = n)
    (d18o : ∀ s a, 0 ≤ s ∧ s < n → 0 ≤ a ∧ a < 26 → ¬ (a = c ∧ rep s <:+ rep w0 ∧ D 18 (s * 26 + c) = -1) → D' 18 (s * 26 + a) = D 18 (s * 26 + a))
    (den : ∀ r s j, r = 15 ∨ r = 16 ∨ r = 17 → 0 ≤ s ∧ s < n → 0 ≤ j ∧ j < 4 → D' r (s * 4 + j) = D r (s * 4 + j)) :
    au_J D' (n + 1) n (fun s => if s = n then rep w0 ++ [c] else rep s) (rep w0 ++ [c]) en ∧ au_M (n + 1) n (fun s => if s = n then rep w0 ++ [c] else rep s) = au_M n (-1) rep := by
  obtain ⟨j1, j2, j3, j4, j5, j6, j7, j8, j9, j10, j11⟩ := J
  obtain ⟨x, hx⟩ : ∃ x, x = rep w0 ++ [c] := ⟨_, rfl⟩
  rw [← hx] at hnF ⊢
  have rn : (fun s => if s = n then x else rep s) n = x := if_pos rfl
  have ro : ∀ s, s < n → (fun s => if s = n then x else rep s) s = rep s := fun s h => if_neg (by omega)
  have inE : ∀ s, au_in (n + 1) n s ↔ au_in n (-1) s := by
    intro s
    constructor
    · rintro ⟨h1, h2⟩
      exact ⟨by omega, by omega⟩
    · rintro ⟨h1, h2⟩
      exact ⟨by omega, by omega⟩
  have hMe : au_M (n + 1) n (fun s => if s = n then x else rep s) = au_M n (-1) rep := by
    funext w
    apply propext
    constructor
    · rintro ⟨s, h1, h3⟩
      have h2 := (inE s).mp h1
      rw [ro s h2.1.2] at h3
      exact ⟨s, h2, h3⟩
    · rintro ⟨s, h1, h3⟩
      exact ⟨s, (inE s).mpr h1, by rw [ro s h1.1.2]; exact h3⟩
  have cas : ∀ s, 0 ≤ s ∧ s < n → rep s ≠ x := by
    intro s h e
    exact hnF ⟨rep s, ⟨s, ⟨h, by omega⟩, rfl⟩, by rw [e]; exact List.suffix_refl x⟩
  have hnl : ∀ (w : wd) (a : Int), ¬ w ++ [a] <:+ ([] : wd) := by
    intro w a h
    have := h.length_le
    simp at this
  refine ⟨⟨d13, by omega, by omega, ?_, ?_, ?_, ?_, ?_, ?_, ?_, ?_⟩, hMe⟩
  · rw [ro 0 (by omega)]
    exact j4
  · intro s s' h h' e
    by_cases c1 : s = n <;> by_cases c2 : s' = n
    · omega
    · rw [c1, rn, ro s' (by omega)] at e
      exact absurd e.symm (cas s' (by omega))
    · rw [c2, rn, ro s (by omega)] at e
      exact absurd e (cas s (by omega))
    · rw [ro s (by omega), ro s' (by omega)] at e
      exact j5 s s' (by omega) (by omega) e
  · rw [hMe]
    exact j6
  · intro s h
    rw [d19]
    by_cases c1 : s = n
    · rw [if_pos c1, c1, rn, hx]
      simp
    · rw [if_neg c1, ro s (by omega)]
      exact j7 s (by omega)
  · rw [hMe]
    intro s a h ha
    have hs := (inE s).mp h
    rw [ro s hs.1.2]
    by_cases c2 : a = c ∧ rep s <:+ rep w0 ∧ D 18 (s * 26 + c) = -1
    · obtain ⟨q1, q2, q3⟩ := c2
      subst q1
      rw [d18t s hs.1 q2 q3]
      refine Or.inl ⟨rfl, by rw [hx]; exact ws_snoc.mpr q2, ?_⟩
      have := j8 s a hs ha
      rw [q3] at this
      rcases this with ⟨_, h2, _⟩ | ⟨_, _, h2⟩ | ⟨h1, _⟩
      · exact absurd h2 (hnl _ _)
      · exact h2
      · have := h1.1.1
        omega
    · rw [d18o s a hs.1 ha c2]
      rcases j8 s a hs ha with ⟨_, h2, _⟩ | ⟨h1, h2, h3⟩ | ⟨h1, h2⟩
      · exact absurd h2 (hnl _ _)
      · refine Or.inr (Or.inl ⟨h1, fun q => c2 ?_, h3⟩)
        rw [hx] at q
        obtain ⟨y, e, hy⟩ := ws_last q
        obtain ⟨e1, e2⟩ := List.append_inj' e rfl
        cases e2
        rw [← e1] at hy
        exact ⟨rfl, hy, h1⟩
      · refine Or.inr (Or.inr ⟨(inE _).mpr h1, ?_⟩)
        rw [ro _ h1.1.2]
        exact h2
  · rw [d20 0 (by omega)]
    exact j9
  · rw [hMe]
    intro s h h0
    have hs := (inE s).mp h
    have hs1 := hs.1
    rw [d20 s (by omega), ro s hs.1.2]
    obtain ⟨l1, l2⟩ := j10 s hs h0
    rw [ro _ l1.1.2]
    exact ⟨(inE _).mpr l1, l2⟩
  · intro s r j h h0 hr hj
    have hs := (inE s).mp h
    rw [ro s hs.1.2, den r s j hr hs.1 hj]
    exact j11 s r j hs h0 hr hj
