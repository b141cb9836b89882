/-! extend -/
theorem sp_extend {D : mm_D} {n : Int} {rep : Int → wd} {en : Nat → wd → Int → Int} (J : au_J D n (-1) rep [] en) (hO : au_O D n) {w0 c : Int} (hw0 : 0 ≤ w0 ∧ w0 < n) (hc : 0 ≤ c ∧ c < 26) (h201 : n < 200) (hl : (rep w0).length ≤ 150)
    (hen : ∀ w d, wm_cl (au_M n (-1) rep) w d → w ≠ [] → ∀ r j, en r w j = en r d j)
    (henx : ¬ wm_F (au_M n (-1) rep) (rep w0 ++ [c]) → ∀ j, en 15 (rep w0 ++ [c]) j = 0 ∧ en 16 (rep w0 ++ [c]) j = -1 ∧ en 17 (rep w0 ++ [c]) j = -1) {u : Int} {x9 : mm_Xt} {Q : mm_O → mm_H → Prop}
    (H : ∀ (D' : mm_D) (n' v : Int) (rep' : Int → wd) (p : wd), au_J D' n' (-1) rep' [] en → au_O D' n' → (0 ≤ v ∧ v < n') → rep' v = rep w0 ++ [c] → wm_p (au_M n (-1) rep) (rep w0 ++ [c]) p → au_M n' (-1) rep' = wm_ext (au_M n (-1) rep) (rep w0 ++ [c]) p → n ≤ n' ∧ n' ≤ n + 2 → (∀ s, 0 ≤ s ∧ s < n → rep' s = rep s) → (∀ r, r < 13 ∨ 22 ≤ r ∨ r = 14 → D' r = D r) → (∀ k, k ≠ 6 → D' 13 k = D 13 k) → Q (.inl (some (mm_I v))) (mm_mk D' u x9)) :
    mt 9 0 [some (mm_P 13), some (mm_I w0), some (mm_I c), none, none, none] [] (mm_mk D u x9) Q := by
  have J0 := J
  obtain ⟨j1, j2, j3, j4, j5, j6, j7, j8, j9, j10, j11⟩ := J
  have in0 : ∀ s, 0 ≤ s ∧ s < n → au_in n (-1) s := fun s h => ⟨h, by omega⟩
  have hnl : ∀ (w : wd) (a : Int), ¬ w ++ [a] <:+ ([] : wd) := by
    intro w a h
    have := h.length_le
    simp at this
  have hns : ∀ (w : wd) (a : Int), w ++ [a] ≠ [] := by
    intro w a
    simp
  have stF : ∀ s, 0 ≤ s ∧ s < n → (D 18 (s * 26 + c) ≠ -1 ↔ wm_F (au_M n (-1) rep) (rep s ++ [c])) := by
    intro s hs
    rcases j8 s c (in0 s hs) hc with ⟨_, h2, _⟩ | ⟨h1, _, h2⟩ | ⟨h1, h2⟩
    · exact absurd h2 (hnl _ _)
    · exact ⟨fun q => absurd h1 q, fun q => absurd q h2⟩
    · exact ⟨fun _ => ⟨_, h2.1, h2.2.1⟩, fun _ => h1.2⟩
  have est : sd_step D w0 c = D 18 (w0 * 26 + c) := if_pos (by omega)
  have elg : sd_long D w0 = ((rep w0).length : Int) := by
    have : sd_long D w0 = D 19 w0 := if_pos (by omega)
    rw [this, j7 w0 hw0]
  apply q_X0_extend_0
  apply sp_step
  apply mm_pIi
  rw [est]
  refine ⟨fun q => ?_, fun q => ?_⟩
  · have hnF : ¬ wm_F (au_M n (-1) rep) (rep w0 ++ [c]) := fun h => (stF w0 hw0).mpr h q
    apply sp_long
    apply mm_pIi
    rw [elg]
    refine ⟨by constructor <;> omega, ?_⟩
    refine sp_addState (n := n) ⟨by omega, by omega⟩ j1 (by omega) (fun j a b => ?_) ?_
    · have := hO.1 j a b
      omega
    intro p1 p2 p3 p4 p5
    apply mm_pIi
    have O2 := au_O_new (mo := -1) (by omega) hO p2 p3 p4 p5
    generalize hN : sd_new D n (((rep w0).length : Int) + 1) (-1) p1 = N at *
    have n18 : ∀ k, N 18 k = if n * 26 ≤ k ∧ k < n * 26 + 26 then sd_step D (-1) (k - n * 26) else D 18 k := fun k => by rw [← hN]; rfl
    have n20 : ∀ k, N 20 k = if k = n then -1 else D 20 k := fun k => by rw [← hN]; rfl
    have n19 : ∀ k, N 19 k = if k = n then ((rep w0).length : Int) + 1 else D 19 k := fun k => by rw [← hN]; rfl
    have n13 : ∀ k, N 13 k = if k = 6 then n + 1 else D 13 k := fun k => by rw [← hN]; rfl
    have n15 : ∀ k, N 15 k = if n * 4 ≤ k ∧ k < n * 4 + 4 then sd_cnt D (-1) (k - n * 4) else D 15 k := fun k => by rw [← hN]; rfl
    have n16 : ∀ k, N 16 k = if n * 4 ≤ k ∧ k < n * 4 + 4 then sd_fst D (-1) (k - n * 4) else D 16 k := fun k => by rw [← hN]; rfl
    have n17 : ∀ k, N 17 k = if n * 4 ≤ k ∧ k < n * 4 + 4 then sd_lst D (-1) (k - n * 4) else D 17 k := fun k => by rw [← hN]; rfl
    have nr : ∀ r, r < 13 ∨ 22 ≤ r ∨ r = 14 → N r = D r := by
      intro r hr
      rw [← hN]
      funext k
      unfold sd_new
      rw [if_neg (by omega), if_neg (by omega), if_neg (by omega), if_neg (by omega), if_neg (by omega), if_neg (by omega), if_neg (by omega), if_neg (by omega)]
    have plm : ∀ j, sd_pl (-1) j = -1 := fun j => if_neg (by omega)
    -- what every end of the loop knows
    have base : ∀ D' : mm_D, (∀ r, r ≠ 18 → D' r = N r) → (∀ k, n * 26 ≤ k → D' 18 k = N 18 k) → (∀ s, 0 ≤ s ∧ s < n → rep s <:+ rep w0 → D 18 (s * 26 + c) = -1 → D' 18 (s * 26 + c) = n) → (∀ s a, 0 ≤ s ∧ s < n → 0 ≤ a ∧ a < 26 → ¬ (a = c ∧ rep s <:+ rep w0 ∧ D 18 (s * 26 + c) = -1) → D' 18 (s * 26 + a) = D 18 (s * 26 + a)) →
        (au_J D' (n + 1) n (fun s => if s = n then rep w0 ++ [c] else rep s) (rep w0 ++ [c]) en ∧ au_M (n + 1) n (fun s => if s = n then rep w0 ++ [c] else rep s) = au_M n (-1) rep) ∧ au_O D' (n + 1) ∧ (∀ a, 0 ≤ a ∧ a < 26 → D' 18 (n * 26 + a) = -1) ∧ (∀ r j, r = 15 ∨ r = 16 ∨ r = 17 → 0 ≤ j ∧ j < 4 → D' r (n * 4 + j) = en r (rep w0 ++ [c]) j) := by
      intro D' d1 d2 d3 d4
      refine ⟨au_fresh J0 (by omega) hw0 hc hnF ?_ ?_ ?_ d3 d4 ?_, ?_, ?_, ?_⟩
      · rw [d1 13 (by decide), n13, if_pos rfl]
      · intro k
        rw [d1 19 (by decide), n19]
      · intro k hk
        rw [d1 20 (by decide), n20, if_neg hk]
      · intro r s j hr hs hj
        rcases hr with rfl | rfl | rfl
        · rw [d1 15 (by decide), n15, if_neg (by omega)]
        · rw [d1 16 (by decide), n16, if_neg (by omega)]
        · rw [d1 17 (by decide), n17, if_neg (by omega)]
      · exact au_O_row (d1 21 (by decide)) (d1 19 (by decide)) O2
      · intro a ha
        rw [d2 _ (by omega), n18, if_pos (by omega)]
        exact if_neg (by omega)
      · obtain hx := henx hnF
        intro r j hr hj
        rcases hr with rfl | rfl | rfl
        · rw [d1 15 (by decide), n15, if_pos (by omega), (hx j).1]
          exact if_pos (plm _)
        · rw [d1 16 (by decide), n16, if_pos (by omega), (hx j).2.1]
          exact if_pos (plm _)
        · rw [d1 17 (by decide), n17, if_pos (by omega), (hx j).2.2]
          exact if_pos (plm _)
    sorry
  · have hF : wm_F (au_M n (-1) rep) (rep w0 ++ [c]) := (stF w0 hw0).mp q
    refine sp_stateBehind J0 hO (by decide) (fun h => absurd rfl h) (Or.inl rfl) (by omega) (in0 w0 hw0) hc hF hl (fun d hd => hen _ d hd (hns _ _)) ?_
    intro D' n' v rep' b1 b2 b3 b4 b5 b6 b7 b8 b9 b10 b11
    apply mm_pIi
    exact H D' n' v rep' _ b1 b2 b3.1 b4 (wm_p_self hF) b7 (by omega) b6 b8 b9
