/-! the order of states by length -/
def au_O (D : mm_D) (n : Int) : Prop :=
  (∀ j : Int, 0 ≤ j → j < n → 0 ≤ D 21 j ∧ D 21 j < n) ∧
  (∀ s : Int, 0 ≤ s → s < n → ∃ j : Int, 0 ≤ j ∧ j < n ∧ D 21 j = s) ∧
  (∀ i j : Int, 0 ≤ i → i < j → j < n → D 21 i ≠ D 21 j) ∧
  (∀ i j : Int, 0 ≤ i → i ≤ j → j < n → D 19 (D 21 i) ≤ D 19 (D 21 j))
theorem au_O_new {D : mm_D} {n len mo p : Int} (hn : n < 201) (hO : au_O D n) (h0 : 0 ≤ p) (h1 : p ≤ n) (h2 : 0 < p → sd_long D (D 21 (p - 1)) ≤ len) (h3 : ∀ j : Int, p ≤ j → j < n → len < sd_long D (D 21 j)) : au_O (sd_new D n len mo p) (n + 1) := by
  obtain ⟨o1, o2, o3, o4⟩ := hO
  have lg : ∀ j : Int, 0 ≤ j → j < n → sd_long D (D 21 j) = D 19 (D 21 j) := by
    intro j a b
    have := o1 j a b
    unfold sd_long
    rw [if_pos (by omega)]
  have e21 : ∀ k, sd_new D n len mo p 21 k = if k = p then n else if p < k ∧ k ≤ n then D 21 (k - 1) else D 21 k := fun k => rfl
  have e19 : ∀ k, sd_new D n len mo p 19 k = if k = n then len else D 19 k := fun k => rfl
  have a1 : ∀ k, k < p → sd_new D n len mo p 21 k = D 21 k := by
    intro k h
    rw [e21, if_neg (by omega), if_neg (by omega)]
  have a2 : sd_new D n len mo p 21 p = n := by rw [e21, if_pos rfl]
  have a3 : ∀ k, p < k → k ≤ n → sd_new D n len mo p 21 k = D 21 (k - 1) := by
    intro k h h'
    rw [e21, if_neg (by omega), if_pos ⟨h, h'⟩]
  have b1 : ∀ j, 0 ≤ j → j < n → sd_new D n len mo p 19 (D 21 j) = D 19 (D 21 j) := by
    intro j h h'
    have := o1 j h h'
    rw [e19, if_neg (by omega)]
  have b2 : sd_new D n len mo p 19 n = len := by rw [e19, if_pos rfl]
  have lo : ∀ i, 0 ≤ i → i < p → D 19 (D 21 i) ≤ len := by
    intro i h h'
    have q1 := h2 (by omega)
    rw [lg (p - 1) (by omega) (by omega)] at q1
    have q2 := o4 i (p - 1) h (by omega) (by omega)
    omega
  have hi : ∀ i, p ≤ i → i < n → len < D 19 (D 21 i) := by
    intro i h h'
    have q1 := h3 i h h'
    rwa [lg i (by omega) h'] at q1
  have tri : ∀ k, 0 ≤ k → k < n + 1 → k < p ∨ k = p ∨ (p < k ∧ k ≤ n) := by
    intro k _ _
    omega
  refine ⟨fun j h h' => ?_, fun s h h' => ?_, fun i j hi0 hij hj => ?_, fun i j hi0 hij hj => ?_⟩
  · rcases tri j h h' with c | c | c
    · rw [a1 j c]
      have := o1 j h (by omega)
      omega
    · rw [c, a2]
      omega
    · rw [a3 j c.1 c.2]
      have := o1 (j - 1) (by omega) (by omega)
      omega
  · by_cases c : s = n
    · exact ⟨p, h0, by omega, by rw [a2, c]⟩
    · obtain ⟨j, j0, j1, j2⟩ := o2 s h (by omega)
      by_cases d : j < p
      · exact ⟨j, j0, by omega, by rw [a1 j d, j2]⟩
      · refine ⟨j + 1, by omega, by omega, ?_⟩
        rw [a3 (j + 1) (by omega) (by omega), show j + 1 - 1 = j by omega, j2]
  · rcases tri i hi0 (by omega) with c | c | c <;> rcases tri j (by omega) hj with d | d | d
    · rw [a1 i c, a1 j d]
      exact o3 i j hi0 hij (by omega)
    · rw [a1 i c, d, a2]
      have := o1 i hi0 (by omega)
      omega
    · rw [a1 i c, a3 j d.1 d.2]
      exact o3 i (j - 1) hi0 (by omega) (by omega)
    · omega
    · omega
    · rw [c, a2, a3 j d.1 d.2]
      have := o1 (j - 1) (by omega) (by omega)
      omega
    · omega
    · omega
    · rw [a3 i c.1 c.2, a3 j d.1 d.2]
      exact o3 (i - 1) (j - 1) (by omega) (by omega) (by omega)
  · rcases tri i hi0 (by omega) with c | c | c <;> rcases tri j (by omega) hj with d | d | d
    · rw [a1 i c, a1 j d, b1 i hi0 (by omega), b1 j (by omega) (by omega)]
      exact o4 i j hi0 hij (by omega)
    · rw [a1 i c, d, a2, b2, b1 i hi0 (by omega)]
      exact lo i hi0 c
    · rw [a1 i c, a3 j d.1 d.2, b1 i hi0 (by omega), b1 (j - 1) (by omega) (by omega)]
      exact o4 i (j - 1) hi0 (by omega) (by omega)
    · omega
    · rw [c, d]
      exact Int.le_refl _
    · rw [c, a2, a3 j d.1 d.2, b2, b1 (j - 1) (by omega) (by omega)]
      exact Int.le_of_lt (hi (j - 1) (by omega) (by omega))
    · omega
    · omega
    · rw [a3 i c.1 c.2, a3 j d.1 d.2, b1 (i - 1) (by omega) (by omega), b1 (j - 1) (by omega) (by omega)]
      exact o4 (i - 1) (j - 1) (by omega) (by omega) (by omega)
theorem au_O_row {D D' : mm_D} {n : Int} (h1 : D' 21 = D 21) (h2 : D' 19 = D 19) (h : au_O D n) : au_O D' n := by
  unfold au_O at h ⊢
  rw [h1, h2]
  exact h
