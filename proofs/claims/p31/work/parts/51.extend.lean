/-! extend -/
theorem sp_extend {D : mm_D} {n : Int} {rep : Int → wd} {en : Nat → wd → Int → Int} (J : au_J D n (-1) rep [] en) (hO : au_O D n) {w0 c : Int} (hw0 : 0 ≤ w0 ∧ w0 < n) (hc : 0 ≤ c ∧ c < 26) (h201 : n < 200) (hl : (rep w0).length ≤ 150)
    (hen : ∀ w d, wm_cl (au_M n (-1) rep) w d → w ≠ [] → ∀ r j, en r w j = en r d j)
    (henx : ¬ wm_F (au_M n (-1) rep) (rep w0 ++ [c]) → ∀ j, en 15 (rep w0 ++ [c]) j = 0 ∧ en 16 (rep w0 ++ [c]) j = -1 ∧ en 17 (rep w0 ++ [c]) j = -1) {u : Int} {x9 : mm_Xt} {Q : mm_O → mm_H → Prop}
    (H : ∀ (D' : mm_D) (n' v : Int) (rep' : Int → wd) (p : wd), au_J D' n' (-1) rep' [] en → au_O D' n' → (0 ≤ v ∧ v < n') → rep' v = rep w0 ++ [c] → wm_p (au_M n (-1) rep) (rep w0 ++ [c]) p → au_M n' (-1) rep' = wm_ext (au_M n (-1) rep) (rep w0 ++ [c]) p → n ≤ n' ∧ n' ≤ n + 2 → (∀ s, 0 ≤ s ∧ s < n → rep' s = rep s) → (∀ r, r < 13 ∨ 22 ≤ r ∨ r = 14 → D' r = D r) → (∀ k, k ≠ 6 → D' 13 k = D 13 k) → Q (.inl (some (mm_I v))) (mm_mk D' u x9)) :
    mt 9 0 [some (mm_P 13), some (mm_I w0), some (mm_I c), none, none, none] [] (mm_mk D u x9) Q := by
  have J0 := J
  obtain ⟨j1, j2, j3, j4, j5, j6, j7, j8, j9, j10, j11⟩ := J
  have in0 : ∀ s, 0 ≤ s ∧ s < n → au_in n (-1) s := fun s h => ⟨h, by omega⟩
  have hnl : ∀ (w : wd) (a : Int), ¬ w ++ [a] <:+ ([] : wd) := by
    intro w a h
    have := h.length_le
    simp at this
  have hns : ∀ (w : wd) (a : Int), w ++ [a] ≠ [] := by
    intro w a
    simp
  have stF : ∀ s, 0 ≤ s ∧ s < n → (D 18 (s * 26 + c) ≠ -1 ↔ wm_F (au_M n (-1) rep) (rep s ++ [c])) := by
    intro s hs
    rcases j8 s c (in0 s hs) hc with ⟨_, h2, _⟩ | ⟨h1, _, h2⟩ | ⟨h1, h2⟩
    · exact absurd h2 (hnl _ _)
    · exact ⟨fun q => absurd h1 q, fun q => absurd q h2⟩
    · exact ⟨fun _ => ⟨_, h2.1, h2.2.1⟩, fun _ => h1.2⟩
  have est : sd_step D w0 c = D 18 (w0 * 26 + c) := if_pos (by omega)
  have elg : sd_long D w0 = ((rep w0).length : Int) := by
    have : sd_long D w0 = D 19 w0 := if_pos (by omega)
    rw [this, j7 w0 hw0]
  apply q_X0_extend_0
  apply sp_step
  apply mm_pIi
  rw [est]
  refine ⟨fun q => ?_, fun q => ?_⟩
  · have hnF : ¬ wm_F (au_M n (-1) rep) (rep w0 ++ [c]) := fun h => (stF w0 hw0).mpr h q
    apply sp_long
    apply mm_pIi
    rw [elg]
    refine ⟨by constructor <;> omega, ?_⟩
    refine sp_addState (n := n) ⟨by omega, by omega⟩ j1 (by omega) (fun j a b => ?_) ?_
    · have := hO.1 j a b
      omega
    intro p1 p2 p3 p4 p5
    apply mm_pIi
    have O2 := au_O_new (mo := -1) (by omega) hO p2 p3 p4 p5
    generalize hN : sd_new D n (((rep w0).length : Int) + 1) (-1) p1 = N at *
    have n18 : ∀ k, N 18 k = if n * 26 ≤ k ∧ k < n * 26 + 26 then sd_step D (-1) (k - n * 26) else D 18 k := fun k => by rw [← hN]; rfl
    have n20 : ∀ k, N 20 k = if k = n then -1 else D 20 k := fun k => by rw [← hN]; rfl
    have n19 : ∀ k, N 19 k = if k = n then ((rep w0).length : Int) + 1 else D 19 k := fun k => by rw [← hN]; rfl
    have n13 : ∀ k, N 13 k = if k = 6 then n + 1 else D 13 k := fun k => by rw [← hN]; rfl
    have n15 : ∀ k, N 15 k = if n * 4 ≤ k ∧ k < n * 4 + 4 then sd_cnt D (-1) (k - n * 4) else D 15 k := fun k => by rw [← hN]; rfl
    have n16 : ∀ k, N 16 k = if n * 4 ≤ k ∧ k < n * 4 + 4 then sd_fst D (-1) (k - n * 4) else D 16 k := fun k => by rw [← hN]; rfl
    have n17 : ∀ k, N 17 k = if n * 4 ≤ k ∧ k < n * 4 + 4 then sd_lst D (-1) (k - n * 4) else D 17 k := fun k => by rw [← hN]; rfl
    have nr : ∀ r, r < 13 ∨ 22 ≤ r ∨ r = 14 → N r = D r := by
      intro r hr
      rw [← hN]
      funext k
      unfold sd_new
      rw [if_neg (by omega), if_neg (by omega), if_neg (by omega), if_neg (by omega), if_neg (by omega), if_neg (by omega), if_neg (by omega), if_neg (by omega)]
    have plm : ∀ j, sd_pl (-1) j = -1 := fun j => if_neg (by omega)
    obtain ⟨r1, hr1⟩ : ∃ g : Int → wd, g = fun s => if s = n then rep w0 ++ [c] else rep s := ⟨_, rfl⟩
    have r1n : r1 n = rep w0 ++ [c] := by
      rw [hr1]
      exact if_pos rfl
    have r1o : ∀ s, s < n → r1 s = rep s := by
      intro s h
      rw [hr1]
      exact if_neg (by omega)
    -- what every end of the loop knows
    have base : ∀ D' : mm_D, (∀ r, r ≠ 18 → D' r = N r) → (∀ k, n * 26 ≤ k → D' 18 k = N 18 k) → (∀ s, 0 ≤ s ∧ s < n → rep s <:+ rep w0 → D 18 (s * 26 + c) = -1 → D' 18 (s * 26 + c) = n) → (∀ s a, 0 ≤ s ∧ s < n → 0 ≤ a ∧ a < 26 → ¬ (a = c ∧ rep s <:+ rep w0 ∧ D 18 (s * 26 + c) = -1) → D' 18 (s * 26 + a) = D 18 (s * 26 + a)) →
        (au_J D' (n + 1) n r1 (rep w0 ++ [c]) en ∧ au_M (n + 1) n r1 = au_M n (-1) rep) ∧ au_O D' (n + 1) ∧ (∀ a, 0 ≤ a ∧ a < 26 → D' 18 (n * 26 + a) = -1) ∧ (∀ r j, r = 15 ∨ r = 16 ∨ r = 17 → 0 ≤ j ∧ j < 4 → D' r (n * 4 + j) = en r (rep w0 ++ [c]) j) := by
      intro D' d1 d2 d3 d4
      rw [hr1]
      refine ⟨au_fresh J0 (by omega) hw0 hc hnF ?_ ?_ ?_ d3 d4 ?_, ?_, ?_, ?_⟩
      · rw [d1 13 (by decide), n13, if_pos rfl]
      · intro k
        rw [d1 19 (by decide), n19]
      · intro k hk
        rw [d1 20 (by decide), n20, if_neg hk]
      · intro r s j hr hs hj
        rcases hr with rfl | rfl | rfl
        · rw [d1 15 (by decide), n15, if_neg (by omega)]
        · rw [d1 16 (by decide), n16, if_neg (by omega)]
        · rw [d1 17 (by decide), n17, if_neg (by omega)]
      · exact au_O_row (d1 21 (by decide)) (d1 19 (by decide)) O2
      · intro a ha
        rw [d2 _ (by omega), n18, if_pos (by omega)]
        exact if_neg (by omega)
      · obtain hx := henx hnF
        intro r j hr hj
        rcases hr with rfl | rfl | rfl
        · rw [d1 15 (by decide), n15, if_pos (by omega), (hx j).1]
          exact if_pos (plm _)
        · rw [d1 16 (by decide), n16, if_pos (by omega), (hx j).2.1]
          exact if_pos (plm _)
        · rw [d1 17 (by decide), n17, if_pos (by omega), (hx j).2.2]
          exact if_pos (plm _)
    -- ends of the new word that were there
    have old : ∀ w : wd, w <:+ rep w0 ++ [c] → wm_F (au_M n (-1) rep) w → w = [] ∨ ∃ (q : wd) (s : Int), w = q ++ [c] ∧ (0 ≤ s ∧ s < n) ∧ q <:+ rep s ∧ rep s <:+ rep w0 ∧ D 18 (s * 26 + c) ≠ -1 := by
      intro w h1 h2
      rcases ws_of_snoc h1 with h | ⟨q, h, h3⟩
      · exact Or.inl h
      · right
        rw [h] at h2
        obtain ⟨d, hd⟩ := wm_cl_ex j6 (w := q) ⟨rep w0, ⟨w0, in0 w0 hw0, rfl⟩, h3⟩
        have h4 := ((wm_cl_snoc j6 hd (a := c)).1).mp h2
        have h5 := hd.2.2 _ ⟨w0, in0 w0 hw0, rfl⟩ h3
        obtain ⟨s, hs, e⟩ := hd.1
        rw [← e] at h4 h5
        exact ⟨q, s, h, hs.1, by rw [e]; exact hd.2.1, h5, (stF s hs.1).mpr h4⟩
    have hMw : au_M n (-1) rep (rep w0) := ⟨w0, in0 w0 hw0, rfl⟩
    refine sp_ex24 (D := D) (E := N) J0 (w0 := w0) (by omega) hc (fun s hs => by rw [n20, if_neg (by omega)]) ?_ ?_ ((rep w0).length + 1) w0 0 _ (Or.inr ⟨hw0, List.suffix_refl _⟩) (fun _ => by omega) (by decide) (by omega) (fun _ _ => rfl) (fun _ _ => rfl) ?_ ?_
    · intro D' d1 d2 d3 d4
      obtain ⟨⟨Jf, hM⟩, Of, h18, he⟩ := base D' d1 d2 (fun s a b _ => (d3 s a b).2) (fun s a q1 q2 q3 => d4 s a q1 q2 (fun q => q3 ⟨q.1, q.2, (d3 s q1 q.2).1⟩))
      have hp : wm_p (au_M n (-1) rep) (rep w0 ++ [c]) [] := by
        refine ⟨List.nil_suffix, ⟨[], j6.1, List.suffix_refl _⟩, fun w h1 h2 => ?_⟩
        rcases old w h1 h2 with h | ⟨q, s, h3, h4, h5, h6, h7⟩
        · rw [h]
          exact List.suffix_refl _
        · exact absurd (d3 s h4 h6).1 h7
      apply sp_putLink _ _ (by omega) (by omega)
      apply mm_pVi
      have e0 : r1 0 = [] := (r1o 0 (by omega)).trans j4
      obtain ⟨K1, K2⟩ := au_join Jf (by omega) r1n ⟨rep w0, c, rfl, by rw [hM]; exact hMw⟩ (by rw [hM]; exact hnF) (sp := 0) ⟨by omega, by omega⟩ (by rw [hM, e0]; exact hp) h18 he
      rw [hM, e0] at K2
      refine H _ (n + 1) n r1 [] K1 (au_O_row (mm_wr_row (by decide)) (mm_wr_row (by decide)) Of) (by omega) r1n hp K2 (by omega) (fun s hs => r1o s (by omega)) ?_ ?_
      · intro r hr
        rw [mm_wr_row (by omega), d1 r (by omega), nr r hr]
      · intro k hk
        rw [mm_wr_r (by decide), d1 13 (by decide), n13, if_neg hk]
    · intro D' s0 hs0 hsuf hne d1 d2 d3 d4
      have hF0 := (stF s0 hs0).mp hne
      have short : ∀ s, 0 ≤ s ∧ s < n → rep s <:+ rep w0 → D 18 (s * 26 + c) = -1 → (rep s0).length < (rep s).length := by
        intro s h1 h2 h3
        by_cases h4 : (rep s0).length < (rep s).length
        · exact h4
        · exact absurd h3 ((stF s h1).mpr (wm_F_suf hF0 (ws_snoc.mpr (ws_cmp h2 hsuf (by omega)))))
      obtain ⟨⟨Jf, hM⟩, Of, h18, he⟩ := base D' d1 d2 (fun s a b e => (d3 s a b (short s a b e)).2) (fun s a q1 q2 q3 => d4 s a q1 q2 (fun q => q3 ⟨q.1, q.2.1, (d3 s q1 q.2.1 q.2.2).1⟩))
      have er : r1 s0 = rep s0 := r1o s0 (by omega)
      have ern := r1n
      have hp : wm_p (au_M n (-1) rep) (rep w0 ++ [c]) (rep s0 ++ [c]) := by
        refine ⟨ws_snoc.mpr hsuf, hF0, fun w h1 h2 => ?_⟩
        rcases old w h1 h2 with h | ⟨q, s, h3, h4, h5, h6, h7⟩
        · rw [h]
          exact List.nil_suffix
        · rw [h3]
          refine ws_snoc.mpr (h5.trans (ws_cmp h6 hsuf ?_))
          by_cases h8 : (rep s0).length < (rep s).length
          · exact absurd (d3 s h4 h6 h8).1 h7
          · omega
      have hsl := hsuf.length_le
      refine sp_stateBehind Jf Of (by omega) (fun _ => by rw [hM, ern]; exact hnF) (Or.inr ⟨rep w0, c, rfl, by rw [hM]; exact hMw⟩) (by omega) ⟨by omega, by omega⟩ hc (by rw [hM, er]; exact hF0) (by rw [er]; omega) (fun d hd => by rw [hM, er] at hd; rw [er]; exact hen _ d hd (hns _ _)) ?_
      intro D3 n' v rep' b1 b2 b3 b4 b5 b6 b7 b8 b9 b10 b11
      rw [hM, er] at b7
      rw [er] at b4
      have brn : rep' n = rep w0 ++ [c] := (b6 n (by omega)).trans ern
      apply mm_pIi
      apply sp_putLink _ _ (by omega) (by omega)
      apply mm_pVi
      have hp2 : wm_p (au_M n' n rep') (rep w0 ++ [c]) (rep' v) := by
        rw [b7, b4]
        exact ⟨hp.1, (wm_F_pp hF0).mpr hF0, fun w h1 h2 => hp.2.2 w h1 ((wm_F_pp hF0).mp h2)⟩
      obtain ⟨K1, K2⟩ := au_join b1 (by omega) brn ⟨rep w0, c, rfl, by rw [b7]; exact Or.inl hMw⟩ (by rw [b7]; exact fun q => hnF ((wm_F_pp hF0).mp q)) b3 hp2 (fun a ha => by rw [b10 a (by omega) ha]; exact h18 a ha) (fun r j hr hj => by rw [b11 r j (by omega) hr hj]; exact he r j hr hj)
      have K3 : au_M n' (-1) rep' = wm_ext (au_M n (-1) rep) (rep w0 ++ [c]) (rep s0 ++ [c]) := by
        rw [K2, b7, b4]
        funext w
        apply propext
        constructor
        · rintro (h | h | h)
          · rcases wm_ext_pp.mp h with h | h
            · exact Or.inl h
            · exact Or.inr (Or.inr h)
          · exact Or.inr (Or.inl h)
          · exact Or.inr (Or.inr h)
        · rintro (h | h | h)
          · exact Or.inl (Or.inl h)
          · exact Or.inr (Or.inl h)
          · exact Or.inr (Or.inr h)
      refine H _ n' n rep' _ K1 (au_O_row (mm_wr_row (by decide)) (mm_wr_row (by decide)) b2) (by omega) brn hp K3 (by omega) (fun s hs => (b6 s (by omega)).trans (r1o s (by omega))) ?_ ?_
      · intro r hr
        rw [mm_wr_row (by omega), b8 r hr, d1 r (by omega), nr r hr]
      · intro k hk
        rw [mm_wr_r (by decide), b9 k hk, d1 13 (by decide), n13, if_neg hk]
    · intro s h1 h2 h3
      have := h2.length_le
      rcases h3 with h3 | h3 <;> omega
    · intro s a h1 h2 h3
      rw [n18, if_neg (by omega)]
  · have hF : wm_F (au_M n (-1) rep) (rep w0 ++ [c]) := (stF w0 hw0).mp q
    refine sp_stateBehind J0 hO (by decide) (fun h => absurd rfl h) (Or.inl rfl) (by omega) (in0 w0 hw0) hc hF hl (fun d hd => hen _ d hd (hns _ _)) ?_
    intro D' n' v rep' b1 b2 b3 b4 b5 b6 b7 b8 b9 b10 b11
    apply mm_pIi
    exact H D' n' v rep' _ b1 b2 b3.1 b4 (wm_p_self hF) b7 (by omega) b6 b8 b9
