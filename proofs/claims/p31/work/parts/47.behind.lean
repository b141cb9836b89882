/-! stateBehind -/
theorem sp_stateBehind {D : mm_D} {n f : Int} {rep : Int → wd} {x : wd} {en : Nat → wd → Int → Int} (J : au_J D n f rep x en) (hO : au_O D n) (hf0 : -1 ≤ f) (hfF : f ≠ -1 → ¬ wm_F (au_M n f rep) (rep f)) (hx : x = [] ∨ ∃ T a, x = T ++ [a] ∧ au_M n f rep T) {s0 c : Int} (h201 : n < 201) (hs0 : au_in n f s0) (hc : 0 ≤ c ∧ c < 26) (hF : wm_F (au_M n f rep) (rep s0 ++ [c])) (hl : (rep s0).length ≤ 150)
    (hen : ∀ d, wm_cl (au_M n f rep) (rep s0 ++ [c]) d → ∀ r j, en r (rep s0 ++ [c]) j = en r d j) {u : Int} {x9 : mm_Xt} {Q : mm_O → mm_H → Prop}
    (H : ∀ (D' : mm_D) (n' v : Int) (rep' : Int → wd), au_J D' n' f rep' x en → au_O D' n' → au_in n' f v → rep' v = rep s0 ++ [c] → n ≤ n' ∧ n' ≤ n + 1 → (∀ s, 0 ≤ s ∧ s < n → rep' s = rep s) → au_M n' f rep' = wm_ext (au_M n f rep) (rep s0 ++ [c]) (rep s0 ++ [c]) → (∀ r, r < 13 ∨ 22 ≤ r ∨ r = 14 → D' r = D r) → (∀ k, k ≠ 6 → D' 13 k = D 13 k) → (∀ a, f ≠ -1 → 0 ≤ a ∧ a < 26 → D' 18 (f * 26 + a) = D 18 (f * 26 + a)) → (∀ r j, f ≠ -1 → r = 15 ∨ r = 16 ∨ r = 17 → 0 ≤ j ∧ j < 4 → D' r (f * 4 + j) = D r (f * 4 + j)) → Q (.inl (some (mm_I v))) (mm_mk D' u x9)) :
    mt 10 0 [some (mm_P 13), some (mm_I s0), some (mm_I c), none, none, none, none, none] [] (mm_mk D u x9) Q := by
  have J0 := J
  obtain ⟨j1, j2, j3, j4, j5, j6, j7, j8, j9, j10, j11⟩ := J
  have hs1 := hs0.1
  have est : sd_step D s0 c = D 18 (s0 * 26 + c) := if_pos (by omega)
  obtain ⟨t, et⟩ : ∃ t, t = D 18 (s0 * 26 + c) := ⟨_, rfl⟩
  have k := j8 s0 c hs0 hc
  rw [← et] at k est
  obtain ⟨ht, hcl⟩ : au_in n f t ∧ wm_cl (au_M n f rep) (rep s0 ++ [c]) (rep t) := by
    rcases k with ⟨_, _, k⟩ | ⟨_, _, k⟩ | k
    · exact absurd hF k
    · exact absurd hF k
    · exact k
  have ht1 := ht.1
  have el0 : sd_long D s0 = ((rep s0).length : Int) := by
    have : sd_long D s0 = D 19 s0 := if_pos (by omega)
    rw [this, j7 s0 hs0.1]
  have elt : sd_long D t = ((rep t).length : Int) := by
    have : sd_long D t = D 19 t := if_pos (by omega)
    rw [this, j7 t ht.1]
  have hpl : (rep s0 ++ [c]).length = (rep s0).length + 1 := by rw [List.length_append, List.length_singleton]
  apply q_X0_stateBehind_0
  apply sp_step
  apply mm_pIi
  apply sp_long
  apply mm_pIi
  rw [est, el0]
  refine ⟨by constructor <;> omega, ?_⟩
  apply sp_long
  apply mm_pIi
  rw [elt]
  refine ⟨fun q => ?_, fun q => ?_⟩
  · have hne : rep t ≠ rep s0 ++ [c] := by
      intro e
      apply q
      rw [e, hpl]
      omega
    have hnp : ¬ au_M n f rep (rep s0 ++ [c]) := fun h => hne (ws_anti (hcl.2.2 _ h (List.suffix_refl _)) hcl.2.1)
    refine sp_addState (n := n) ⟨by omega, h201⟩ j1 (by omega) (fun j a b => ?_) ?_
    · have := hO.1 j a b
      omega
    intro p1 p2 p3 p4 p5
    apply mm_pIi
    apply sp_link
    apply mm_pIi
    have elk : sd_link (sd_new D n (((rep s0).length : Int) + 1) t p1) t = D 20 t := by
      have : sd_link (sd_new D n (((rep s0).length : Int) + 1) t p1) t = if t = n then -1 else D 20 t := if_pos (by omega)
      rw [this, if_neg (by omega)]
    rw [elk]
    apply sp_putLink _ _ (by omega) (by omega)
    apply mm_pVi
    apply sp_putLink _ _ (by omega) (by omega)
    apply mm_pVi
    have O2 := au_O_new (mo := t) h201 hO p2 p3 p4 p5
    generalize hN : sd_new D n (((rep s0).length : Int) + 1) t p1 = N at *
    have n18 : ∀ k, N 18 k = if n * 26 ≤ k ∧ k < n * 26 + 26 then sd_step D t (k - n * 26) else D 18 k := fun k => by rw [← hN]; rfl
    have n20 : ∀ k, N 20 k = if k = n then -1 else D 20 k := fun k => by rw [← hN]; rfl
    have n19 : ∀ k, N 19 k = if k = n then ((rep s0).length : Int) + 1 else D 19 k := fun k => by rw [← hN]; rfl
    have n13 : ∀ k, N 13 k = if k = 6 then n + 1 else D 13 k := fun k => by rw [← hN]; rfl
    have n15 : ∀ k, N 15 k = if n * 4 ≤ k ∧ k < n * 4 + 4 then sd_cnt D t (k - n * 4) else D 15 k := fun k => by rw [← hN]; rfl
    have n16 : ∀ k, N 16 k = if n * 4 ≤ k ∧ k < n * 4 + 4 then sd_fst D t (k - n * 4) else D 16 k := fun k => by rw [← hN]; rfl
    have n17 : ∀ k, N 17 k = if n * 4 ≤ k ∧ k < n * 4 + 4 then sd_lst D t (k - n * 4) else D 17 k := fun k => by rw [← hN]; rfl
    have nr : ∀ r, r < 13 ∨ 22 ≤ r ∨ r = 14 → N r = D r := by
      intro r hr
      rw [← hN]
      funext k
      unfold sd_new
      rw [if_neg (by omega), if_neg (by omega), if_neg (by omega), if_neg (by omega), if_neg (by omega), if_neg (by omega), if_neg (by omega), if_neg (by omega)]
    have E20 : ∀ k, mm_wr (mm_wr N 20 n (D 20 t)) 20 t n 20 k = if k = t then n else if k = n then D 20 t else D 20 k := by
      intro k
      by_cases c1 : k = t
      · rw [c1, mm_wr_eq, if_pos rfl]
      · rw [mm_wr_k c1, if_neg c1]
        by_cases c2 : k = n
        · rw [c2, mm_wr_eq, if_pos rfl]
        · rw [mm_wr_k c2, if_neg c2, n20, if_neg c2]
    have Er : ∀ r, r ≠ 20 → mm_wr (mm_wr N 20 n (D 20 t)) 20 t n r = N r := fun r hr => by rw [mm_wr_row hr, mm_wr_row hr]
    refine sp_sb37 (D := D) (E := mm_wr (mm_wr N 20 n (D 20 t)) 20 t n) J0 hfF h201 hs0 hc ht hcl ?_ ?_ ((rep s0).length + 1) s0 0 _ (Or.inr ⟨hs0, List.suffix_refl _⟩) (fun _ => by omega) (by decide) (by omega) (fun _ _ => rfl) (fun _ _ => rfl) ?_ ?_
    · intro s hs hst
      have := hs.1.2
      rw [E20, if_neg hst, if_neg (by omega)]
    · intro D' d1 d2 d3 d4
      have inS : ∀ s, 0 ≤ s ∧ s < n → rep s <:+ rep s0 → au_in n f s := fun s h1 h2 => au_in_of hfF h1 h2 ⟨_, ⟨s0, hs0, rfl⟩, List.suffix_refl _⟩
      have J2 : au_J D' (n + 1) f (fun s => if s = n then rep s0 ++ [c] else rep s) x en := by
        refine au_split (D := D) J0 hx h201 hs0 hc ht hcl hne (fun h e => hfF h (by rw [e]; exact hF)) hf0 (fun r j => hen _ hcl r j) ?_ ?_ ?_ ?_ d3 d4 ?_
        · rw [d1 13 (by decide), Er 13 (by decide), n13, if_pos rfl]
        · intro k
          rw [d1 19 (by decide), Er 19 (by decide), n19]
        · intro k
          rw [d1 20 (by decide), E20]
        · intro a ha
          rw [d2 _ (by omega), Er 18 (by decide), n18, if_pos (by omega), show n * 26 + a - n * 26 = a by omega]
          exact if_pos (by omega)
        · have hplt : ∀ j, 0 ≤ j ∧ j < 4 → sd_pl t j = t * 4 + j := fun j hj => if_pos (by omega)
          intro r hr
          rcases hr with rfl | rfl | rfl
          · refine ⟨fun j hj => ?_, fun s j hs hj => ?_⟩
            · rw [d1 15 (by decide), Er 15 (by decide), n15, if_pos (by omega), show n * 4 + j - n * 4 = j by omega]
              unfold sd_cnt
              rw [hplt j hj, if_neg (by omega)]
            · rw [d1 15 (by decide), Er 15 (by decide), n15, if_neg (by omega)]
          · refine ⟨fun j hj => ?_, fun s j hs hj => ?_⟩
            · rw [d1 16 (by decide), Er 16 (by decide), n16, if_pos (by omega), show n * 4 + j - n * 4 = j by omega]
              unfold sd_fst
              rw [hplt j hj, if_neg (by omega)]
            · rw [d1 16 (by decide), Er 16 (by decide), n16, if_neg (by omega)]
          · refine ⟨fun j hj => ?_, fun s j hs hj => ?_⟩
            · rw [d1 17 (by decide), Er 17 (by decide), n17, if_pos (by omega), show n * 4 + j - n * 4 = j by omega]
              unfold sd_lst
              rw [hplt j hj, if_neg (by omega)]
            · rw [d1 17 (by decide), Er 17 (by decide), n17, if_neg (by omega)]
      refine H D' (n + 1) n (fun s => if s = n then rep s0 ++ [c] else rep s) J2 ?_ ⟨by omega, by omega⟩ (if_pos rfl) (by omega) (fun s hs => if_neg (by omega)) (au_M_new (by omega) j3.1) ?_ ?_ ?_ ?_
      · exact au_O_row (by rw [d1 21 (by decide), Er 21 (by decide)]) (by rw [d1 19 (by decide), Er 19 (by decide)]) O2
      · intro r hr
        rw [d1 r (by omega), Er r (by omega), nr r hr]
      · intro k hk
        rw [d1 13 (by decide), Er 13 (by decide), n13, if_neg hk]
      · intro a hf ha
        refine d4 f a (by omega) ha (fun q => ?_)
        exact (inS f (by omega) q.2.1).2 rfl
      · intro r j hf hr hj
        rcases hr with rfl | rfl | rfl
        · rw [d1 15 (by decide), Er 15 (by decide), n15, if_neg (by omega)]
        · rw [d1 16 (by decide), Er 16 (by decide), n16, if_neg (by omega)]
        · rw [d1 17 (by decide), Er 17 (by decide), n17, if_neg (by omega)]
    · intro s h1 h2 h3 h4
      have := h2.length_le
      rcases h4 with h4 | h4 <;> omega
    · intro s a h1 h2 h3
      rw [Er 18 (by decide), n18, if_neg (by omega)]
  · have e : rep t = rep s0 ++ [c] := by
      refine (hcl.2.1.eq_of_length ?_).symm
      rw [hpl]
      have := Decidable.not_not.mp q
      omega
    refine H D n t rep J0 hO ht e (by omega) (fun _ _ => rfl) ?_ (fun _ _ => rfl) (fun _ _ => rfl) (fun _ _ _ => rfl) (fun _ _ _ _ _ => rfl)
    funext w
    apply propext
    rw [wm_ext_pp]
    exact ⟨Or.inl, fun h => h.elim id (fun h => by rw [h, ← e]; exact hcl.1)⟩
