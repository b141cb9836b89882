/-! addState as a function of the ints -/
def sd_cp (D : mm_D) (n mo a : Int) : mm_D := fun r k => if r = 18 ∧ n * 26 ≤ k ∧ k < n * 26 + a then sd_step D mo (k - n * 26) else D r k
/-- the ints after a state n of length len, with the steps and ends of mo, at place p of the order -/
def sd_new (D : mm_D) (n len mo p : Int) : mm_D := fun r k =>
  if r = 13 then (if k = 6 then n + 1 else D 13 k)
  else if r = 19 then (if k = n then len else D 19 k)
  else if r = 20 then (if k = n then -1 else D 20 k)
  else if r = 18 then (if n * 26 ≤ k ∧ k < n * 26 + 26 then sd_step D mo (k - n * 26) else D 18 k)
  else if r = 15 then (if n * 4 ≤ k ∧ k < n * 4 + 4 then sd_cnt D mo (k - n * 4) else D 15 k)
  else if r = 16 then (if n * 4 ≤ k ∧ k < n * 4 + 4 then sd_fst D mo (k - n * 4) else D 16 k)
  else if r = 17 then (if n * 4 ≤ k ∧ k < n * 4 + 4 then sd_lst D mo (k - n * 4) else D 17 k)
  else if r = 21 then (if k = p then n else if p < k ∧ k ≤ n then D 21 (k - 1) else D 21 k)
  else D r k
theorem sd_cnt_row {D D' : mm_D} (h : D' 15 = D 15) (s t : Int) : sd_cnt D' s t = sd_cnt D s t := by unfold sd_cnt; rw [h]
theorem sd_fst_row {D D' : mm_D} (h : D' 16 = D 16) (s t : Int) : sd_fst D' s t = sd_fst D s t := by unfold sd_fst; rw [h]
theorem sd_lst_row {D D' : mm_D} (h : D' 17 = D 17) (s t : Int) : sd_lst D' s t = sd_lst D s t := by unfold sd_lst; rw [h]
theorem sd_step_row {D D' : mm_D} (h : D' 18 = D 18) (s t : Int) : sd_step D' s t = sd_step D s t := by unfold sd_step; rw [h]
theorem sd_long_row {D D' : mm_D} (h : D' 19 = D 19) (s : Int) : sd_long D' s = sd_long D s := by unfold sd_long; rw [h]
theorem sd_link_row {D D' : mm_D} (h : D' 20 = D 20) (s : Int) : sd_link D' s = sd_link D s := by unfold sd_link; rw [h]
theorem sd_cp_r (D : mm_D) (n mo a : Int) {r : Nat} (h : r ≠ 18) : sd_cp D n mo a r = D r := by
  funext k
  exact if_neg (fun c => h c.1)
theorem sd_take_r (D : mm_D) (s f t : Int) {r : Nat} (h : r ≠ 15 ∧ r ≠ 16 ∧ r ≠ 17) : sd_take D s f t r = D r := by
  funext k
  exact sd_take_no r h
theorem sd_ins_r (D : mm_D) (p s : Int) {r : Nat} (h : r ≠ 21) : sd_ins D p s r = D r := by
  funext k
  exact if_neg h
section LI
variable {D : mm_D} {u : Int} {x : mm_Xt} {Q : mm_O → mm_H → Prop}
theorem sp_cp {n mo len : Int} (hn : 0 ≤ n ∧ n < 201) (hm : mo ≠ n) (H : mt 11 22 [some (mm_P 13), some (mm_I len), some (mm_I mo), some (mm_I n), some (mm_I 26)] [] (mm_mk (sd_cp D n mo 26) u x) Q) : ∀ (m : Nat) (a : Int), 0 ≤ a → a + m = 26 → mt 11 22 [some (mm_P 13), some (mm_I len), some (mm_I mo), some (mm_I n), some (mm_I a)] [] (mm_mk (sd_cp D n mo a) u x) Q := by
  intro m
  induction m with
  | zero =>
    intro a h0 h1
    have : a = 26 := by omega
    rw [this]
    exact H
  | succ m ih =>
    intro a h0 h1
    apply q_X0_addState_22
    refine ⟨fun c => absurd c (by omega), fun _ => ?_⟩
    apply sp_step
    apply mm_pIi
    apply sp_putStep _ _ _ hn.1 hn.2 h0 (by omega)
    apply mm_pVi
    refine ⟨by constructor <;> omega, ?_⟩
    have e0 : sd_step (sd_cp D n mo a) mo a = sd_step D mo a := by
      unfold sd_step
      by_cases c : (0 ≤ mo ∧ mo < 201) ∧ 0 ≤ a ∧ a < 26
      · rw [if_pos c, if_pos c]
        exact if_neg (by omega)
      · rw [if_neg c, if_neg c]
    have : mm_wr (sd_cp D n mo a) 18 (n * 26 + a) (sd_step (sd_cp D n mo a) mo a) = sd_cp D n mo (a + 1) := by
      rw [e0]
      funext r k
      unfold mm_wr
      by_cases h : r = 18 ∧ k = n * 26 + a
      · have e : k - n * 26 = a := by omega
        rw [if_pos h]
        unfold sd_cp
        rw [if_pos ⟨h.1, by omega, by omega⟩, e]
      · rw [if_neg h]
        unfold sd_cp
        by_cases h2 : r = 18 ∧ n * 26 ≤ k ∧ k < n * 26 + a
        · rw [if_pos h2, if_pos (show r = 18 ∧ n * 26 ≤ k ∧ k < n * 26 + (a + 1) by omega)]
        · rw [if_neg h2, if_neg (show ¬ (r = 18 ∧ n * 26 ≤ k ∧ k < n * 26 + (a + 1)) by omega)]
    rw [this]
    exact ih (a + 1) (by omega) (by omega)
theorem sd_new_eq (n len mo p : Int) : mm_wr (sd_ins (sd_take (sd_cp (mm_wr (mm_wr D 19 n len) 20 n (-1)) n mo 26) n mo 4) p n) 13 6 (n + 1) = sd_new D n len mo p := by
  have b : ∀ r, r ≠ 19 → r ≠ 20 → mm_wr (mm_wr D 19 n len) 20 n (-1) r = D r := by
    intro r h1 h2
    rw [mm_wr_row h2, mm_wr_row h1]
  have b19 : ∀ k, mm_wr (mm_wr D 19 n len) 20 n (-1) 19 k = if k = n then len else D 19 k := by
    intro k
    rw [mm_wr_r (by decide)]
    unfold mm_wr
    by_cases h : k = n
    · rw [if_pos ⟨rfl, h⟩, if_pos h]
    · rw [if_neg (fun c => h c.2), if_neg h]
  have b20 : ∀ k, mm_wr (mm_wr D 19 n len) 20 n (-1) 20 k = if k = n then -1 else D 20 k := by
    intro k
    by_cases h : k = n
    · rw [h, mm_wr_eq, if_pos rfl]
    · rw [mm_wr_k h, if_neg h, mm_wr_r (by decide)]
  generalize hB : mm_wr (mm_wr D 19 n len) 20 n (-1) = B at b b19 b20 ⊢
  have tk : ∀ r, r ≠ 18 → r ≠ 15 ∧ r ≠ 16 ∧ r ≠ 17 → sd_take (sd_cp B n mo 26) n mo 4 r = B r := by
    intro r h1 h2
    rw [sd_take_r _ _ _ _ h2, sd_cp_r _ _ _ _ h1]
  funext r k
  by_cases h13 : r = 13
  · subst h13
    have e : sd_new D n len mo p 13 k = if k = 6 then n + 1 else D 13 k := rfl
    rw [e]
    by_cases hk : k = 6
    · rw [hk, mm_wr_eq, if_pos rfl]
    · rw [mm_wr_k hk, sd_ins_r _ _ _ (by decide), tk _ (by decide) (by decide), b _ (by decide) (by decide), if_neg hk]
  rw [mm_wr_r h13]
  by_cases h21 : r = 21
  · subst h21
    have e : sd_new D n len mo p 21 k = if k = p then n else if p < k ∧ k ≤ n then D 21 (k - 1) else D 21 k := rfl
    have e2 : sd_ins (sd_take (sd_cp B n mo 26) n mo 4) p n 21 k = if k = p then n else if p < k ∧ k ≤ n then sd_take (sd_cp B n mo 26) n mo 4 21 (k - 1) else sd_take (sd_cp B n mo 26) n mo 4 21 k := rfl
    rw [e, e2, tk _ (by decide) (by decide), b _ (by decide) (by decide)]
  rw [sd_ins_r _ _ _ h21]
  by_cases h15 : r = 15
  · subst h15
    have e : sd_new D n len mo p 15 k = if n * 4 ≤ k ∧ k < n * 4 + 4 then sd_cnt D mo (k - n * 4) else D 15 k := rfl
    have e3 : sd_cp B n mo 26 15 = D 15 := by rw [sd_cp_r _ _ _ _ (by decide), b _ (by decide) (by decide)]
    rw [e]
    unfold sd_take
    rw [if_pos rfl, sd_cnt_row e3, e3]
    by_cases h : n * 4 ≤ k ∧ k < n * 4 + 4
    · rw [if_pos ⟨Or.inl rfl, h⟩, if_pos h]
    · rw [if_neg (fun c => h c.2), if_neg h]
  by_cases h16 : r = 16
  · subst h16
    have e : sd_new D n len mo p 16 k = if n * 4 ≤ k ∧ k < n * 4 + 4 then sd_fst D mo (k - n * 4) else D 16 k := rfl
    have e3 : sd_cp B n mo 26 16 = D 16 := by rw [sd_cp_r _ _ _ _ (by decide), b _ (by decide) (by decide)]
    rw [e]
    unfold sd_take
    rw [if_neg (by decide : ¬ (16 = 15)), if_pos rfl, sd_fst_row e3, e3]
    by_cases h : n * 4 ≤ k ∧ k < n * 4 + 4
    · rw [if_pos ⟨Or.inr (Or.inl rfl), h⟩, if_pos h]
    · rw [if_neg (fun c => h c.2), if_neg h]
  by_cases h17 : r = 17
  · subst h17
    have e : sd_new D n len mo p 17 k = if n * 4 ≤ k ∧ k < n * 4 + 4 then sd_lst D mo (k - n * 4) else D 17 k := rfl
    have e3 : sd_cp B n mo 26 17 = D 17 := by rw [sd_cp_r _ _ _ _ (by decide), b _ (by decide) (by decide)]
    rw [e]
    unfold sd_take
    rw [if_neg (by decide : ¬ (17 = 15)), if_neg (by decide : ¬ (17 = 16)), sd_lst_row e3, e3]
    by_cases h : n * 4 ≤ k ∧ k < n * 4 + 4
    · rw [if_pos ⟨Or.inr (Or.inr rfl), h⟩, if_pos h]
    · rw [if_neg (fun c => h c.2), if_neg h]
  rw [sd_take_r _ _ _ _ ⟨h15, h16, h17⟩]
  by_cases h18 : r = 18
  · subst h18
    have e : sd_new D n len mo p 18 k = if n * 26 ≤ k ∧ k < n * 26 + 26 then sd_step D mo (k - n * 26) else D 18 k := rfl
    rw [e]
    unfold sd_cp
    rw [sd_step_row (b 18 (by decide) (by decide)), b 18 (by decide) (by decide)]
    by_cases h : n * 26 ≤ k ∧ k < n * 26 + 26
    · rw [if_pos ⟨rfl, h⟩, if_pos h]
    · rw [if_neg (fun c => h c.2), if_neg h]
  rw [sd_cp_r _ _ _ _ h18]
  by_cases h19 : r = 19
  · subst h19
    exact b19 k
  by_cases h20 : r = 20
  · subst h20
    exact b20 k
  rw [b r h19 h20]
  unfold sd_new
  rw [if_neg h13, if_neg h19, if_neg h20, if_neg h18, if_neg h15, if_neg h16, if_neg h17, if_neg h21]
theorem sp_addState {n len mo : Int} (hn : 0 ≤ n ∧ n < 201) (h6 : D 13 6 = n) (hm : mo ≠ n) (hby : ∀ j : Int, 0 ≤ j → j < n → D 21 j ≠ n) (H : ∀ p : Int, 0 ≤ p → p ≤ n → (0 < p → sd_long D (D 21 (p - 1)) ≤ len) → (∀ j : Int, p ≤ j → j < n → len < sd_long D (D 21 j)) → Q (.inl (some (mm_I n))) (mm_mk (sd_new D n len mo p) u x)) : mt 11 0 [some (mm_P 13), some (mm_I len), some (mm_I mo), none, none] [] (mm_mk D u x) Q := by
  apply q_X0_addState_0
  rw [h6]
  apply sp_within
  apply mm_pIi
  rw [sd_b1 ⟨hn.1, hn.2⟩]
  refine ⟨fun _ => ⟨hn.1, hn.2, fun D7 e7 => ?_⟩, fun c => absurd (by decide) c⟩
  apply sp_putLink _ _ hn.1 hn.2
  apply mm_pVi
  subst e7
  have e : mm_wr (mm_wr D 19 n len) 20 n (-1) = sd_cp (mm_wr (mm_wr D 19 n len) 20 n (-1)) n mo 0 := by
    funext r k
    unfold sd_cp
    rw [if_neg (by omega)]
  rw [e]
  refine sp_cp hn hm ?_ 26 0 (by decide) (by decide)
  apply q_X0_addState_22
  refine ⟨fun _ => ?_, fun c => absurd (by decide) c⟩
  apply sp_takeOver hn hm
  apply mm_pVi
  have r19 : ∀ k, sd_take (sd_cp (mm_wr (mm_wr D 19 n len) 20 n (-1)) n mo 26) n mo 4 19 k = if k = n then len else D 19 k := by
    intro k
    rw [sd_take_r _ _ _ _ (by decide), sd_cp_r _ _ _ _ (by decide), mm_wr_r (by decide)]
    unfold mm_wr
    by_cases h : k = n
    · rw [if_pos ⟨rfl, h⟩, if_pos h]
    · rw [if_neg (fun c => h c.2), if_neg h]
  have r21 : sd_take (sd_cp (mm_wr (mm_wr D 19 n len) 20 n (-1)) n mo 26) n mo 4 21 = D 21 := by
    rw [sd_take_r _ _ _ _ (by decide), sd_cp_r _ _ _ _ (by decide), mm_wr_row (by decide), mm_wr_row (by decide)]
  have l1 : sd_long (sd_take (sd_cp (mm_wr (mm_wr D 19 n len) 20 n (-1)) n mo 26) n mo 4) n = len := by
    unfold sd_long
    rw [if_pos hn, r19, if_pos rfl]
  have l2 : ∀ s, s ≠ n → sd_long (sd_take (sd_cp (mm_wr (mm_wr D 19 n len) 20 n (-1)) n mo 26) n mo 4) s = sd_long D s := by
    intro s h
    unfold sd_long
    rw [r19, if_neg h]
  apply sp_sortIn hn
  rw [r21, l1]
  intro p h0 h1 h2 h3
  apply mm_pVi
  have e6 : sd_ins (sd_take (sd_cp (mm_wr (mm_wr D 19 n len) 20 n (-1)) n mo 26) n mo 4) p n 13 6 = n := by
    rw [sd_ins_r _ _ _ (by decide), sd_take_r _ _ _ _ (by decide), sd_cp_r _ _ _ _ (by decide), mm_wr_r (by decide), mm_wr_r (by decide), h6]
  rw [e6]
  refine ⟨by constructor <;> omega, fun D10 e10 => ?_⟩
  rw [e10, sd_new_eq]
  refine H p h0 h1 (fun c => ?_) (fun j c1 c2 => ?_)
  · rw [← l2 _ (hby (p - 1) (by omega) (by omega))]
    exact h2 c
  · rw [← l2 _ (hby j (by omega) c2)]
    exact h3 j c1 c2
end LI
