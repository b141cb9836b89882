/-! a state added -/
def sd_take (D : mm_D) (s f t : Int) : mm_D := fun r k =>
  if (r = 15 ∨ r = 16 ∨ r = 17) ∧ s * 4 ≤ k ∧ k < s * 4 + t then
    (if r = 15 then sd_cnt D f (k - s * 4) else if r = 16 then sd_fst D f (k - s * 4) else sd_lst D f (k - s * 4))
  else D r k
section LH
variable {D : mm_D} {u : Int} {x : mm_Xt} {Q : mm_O → mm_H → Prop}
theorem sd_take_f {s f t : Int} (r : Nat) (hf : f ≠ s) (ht : 0 ≤ t ∧ t < 4) : sd_take D s f t r (f * 4 + t) = D r (f * 4 + t) := by
  unfold sd_take
  rw [if_neg]
  intro c
  omega
theorem sd_take_no {s f t k : Int} (r : Nat) (h : r ≠ 15 ∧ r ≠ 16 ∧ r ≠ 17) : sd_take D s f t r k = D r k := by
  unfold sd_take
  rw [if_neg]
  intro c
  omega
theorem sd_take_s {s f t : Int} (ht : 0 ≤ t ∧ t < 4) : mm_wr (mm_wr (mm_wr (sd_take D s f t) 15 (s * 4 + t) (sd_cnt D f t)) 16 (s * 4 + t) (sd_fst D f t)) 17 (s * 4 + t) (sd_lst D f t) = sd_take D s f (t + 1) := by
  funext r k
  unfold mm_wr
  by_cases hk : k = s * 4 + t
  · have e : k - s * 4 = t := by omega
    have c1 : s * 4 ≤ k := by omega
    have c2 : k < s * 4 + (t + 1) := by omega
    have c3 : ¬ k < s * 4 + t := by omega
    unfold sd_take
    rw [e]
    by_cases h15 : r = 15
    · subst h15
      rw [if_neg (by omega), if_neg (by omega), if_pos ⟨rfl, hk⟩, if_pos ⟨Or.inl rfl, c1, c2⟩, if_pos rfl]
    · by_cases h16 : r = 16
      · subst h16
        rw [if_neg (by omega), if_pos ⟨rfl, hk⟩, if_pos ⟨Or.inr (Or.inl rfl), c1, c2⟩, if_neg (by omega), if_pos rfl]
      · by_cases h17 : r = 17
        · subst h17
          rw [if_pos ⟨rfl, hk⟩, if_pos ⟨Or.inr (Or.inr rfl), c1, c2⟩, if_neg (by omega), if_neg (by omega)]
        · rw [if_neg (fun c => h17 c.1), if_neg (fun c => h16 c.1), if_neg (fun c => h15 c.1), if_neg (by omega), if_neg (by omega)]
  · rw [if_neg (fun c => hk c.2), if_neg (fun c => hk c.2), if_neg (fun c => hk c.2)]
    unfold sd_take
    by_cases h : (r = 15 ∨ r = 16 ∨ r = 17) ∧ s * 4 ≤ k ∧ k < s * 4 + t
    · rw [if_pos h, if_pos (show (r = 15 ∨ r = 16 ∨ r = 17) ∧ s * 4 ≤ k ∧ k < s * 4 + (t + 1) from ⟨h.1, h.2.1, by omega⟩)]
    · rw [if_neg h, if_neg (show ¬ ((r = 15 ∨ r = 16 ∨ r = 17) ∧ s * 4 ≤ k ∧ k < s * 4 + (t + 1)) by omega)]
theorem sp_take2 {s f : Int} (t : Int) (hs : 0 ≤ s ∧ s < 201) (ht : 0 ≤ t ∧ t < 4) (hf : f ≠ s) (o4 o5 : Option mm_V) (H : ∀ o4 o5, mt 23 2 [some (mm_P 14), some (mm_I s), some (mm_I f), some (mm_I (t + 1)), o4, o5] [] (mm_mk (sd_take D s f (t + 1)) u x) Q) : mt 23 2 [some (mm_P 14), some (mm_I s), some (mm_I f), some (mm_I t), o4, o5] [] (mm_mk (sd_take D s f t) u x) Q := by
  apply q_X1_takeOver_2
  refine ⟨fun c => absurd c (by omega), fun _ => ?_⟩
  apply sp_placeOf
  apply mm_pIi
  apply sp_placeOf
  apply mm_pIi
  have hp : sd_pl s t = s * 4 + t := if_pos ⟨hs, ht⟩
  rw [hp]
  have h0 : 0 ≤ s * 4 + t := by omega
  have h1 : s * 4 + t < 804 := by omega
  have hr : mm_rng (t + 1) := by constructor <;> omega
  refine ⟨fun c => absurd c (by omega), fun _ => ?_⟩
  have key := sd_take_s (D := D) (s := s) (f := f) ht
  by_cases hq : sd_pl f t = -1
  · rw [hq]
    refine ⟨fun c => absurd rfl c, fun _ => ⟨h0, h1, fun D45 e45 => ⟨fun c => absurd rfl c, fun _ => ⟨h0, h1, fun D63 e63 => ⟨fun c => absurd rfl c, fun _ => ⟨h0, h1, fun D72 e72 => ⟨hr, ?_⟩⟩⟩⟩⟩⟩⟩
    have : D72 = sd_take D s f (t + 1) := by
      rw [e72, e63, e45, ← key]
      unfold sd_cnt sd_fst sd_lst
      rw [if_pos hq, if_pos hq, if_pos hq]
    rw [this]
    exact H _ _
  · have hq2 := (sd_pl_lt f t).2 hq
    have hq3 := (sd_pl_lt f t).1
    have hqe : sd_pl f t = f * 4 + t := by
      unfold sd_pl at hq ⊢
      split at hq
      · rw [if_pos (by assumption)]
      · exact absurd rfl hq
    refine ⟨fun _ => ⟨hq2, hq3, h0, h1, fun D14 e14 => ⟨fun _ => ⟨hq2, hq3, h0, h1, fun D19 e19 => ⟨fun _ => ⟨hq2, hq3, h0, h1, fun D24 e24 => ⟨hr, ?_⟩⟩, fun c => absurd hq c⟩⟩, fun c => absurd hq c⟩⟩, fun c => absurd hq c⟩
    have : D24 = sd_take D s f (t + 1) := by
      rw [e24, e19, e14, ← key]
      unfold sd_cnt sd_fst sd_lst
      rw [if_neg hq, if_neg hq, if_neg hq, hqe, sd_take_f 15 hf ht]
      have e2 : ∀ v, mm_wr (sd_take D s f t) 15 (s * 4 + t) v 16 (f * 4 + t) = D 16 (f * 4 + t) := fun v => (mm_wr_r (by decide)).trans (sd_take_f 16 hf ht)
      rw [e2]
      have e3 : ∀ v v', mm_wr (mm_wr (sd_take D s f t) 15 (s * 4 + t) v) 16 (s * 4 + t) v' 17 (f * 4 + t) = D 17 (f * 4 + t) := fun v v' => (mm_wr_r (by decide)).trans ((mm_wr_r (by decide)).trans (sd_take_f 17 hf ht))
      rw [e3]
    rw [this]
    exact H _ _
theorem sp_takeOver {s f : Int} (hs : 0 ≤ s ∧ s < 201) (hf : f ≠ s) (H : Q (.inl none) (mm_mk (sd_take D s f 4) u x)) : mt 23 0 [some (mm_P 14), some (mm_I s), some (mm_I f), none, none, none] [] (mm_mk D u x) Q := by
  apply q_X1_takeOver_0
  have e : D = sd_take D s f 0 := by
    funext r k
    unfold sd_take
    rw [if_neg (by omega)]
  rw [e]
  refine sp_take2 0 hs (by decide) hf _ _ (fun _ _ => ?_)
  refine sp_take2 1 hs (by decide) hf _ _ (fun _ _ => ?_)
  refine sp_take2 2 hs (by decide) hf _ _ (fun _ _ => ?_)
  refine sp_take2 3 hs (by decide) hf _ _ (fun _ _ => ?_)
  show mt 23 2 [some (mm_P 14), some (mm_I s), some (mm_I f), some (mm_I 4), _, _] [] (mm_mk (sd_take D s f 4) u x) Q
  apply q_X1_takeOver_2
  exact ⟨fun _ => H, fun c => absurd (by decide) c⟩
/-- the order with a new state in it -/
def sd_ins (D : mm_D) (p s : Int) : mm_D := fun r k => if r = 21 then (if k = p then s else if p < k ∧ k ≤ s then D 21 (k - 1) else D 21 k) else D r k
def sd_hole (D : mm_D) (p s : Int) : mm_D := fun r k => if r = 21 ∧ p < k ∧ k ≤ s then D 21 (k - 1) else D r k
theorem sd_hole_long (p s q : Int) : sd_long (sd_hole D p s) q = sd_long D q := by
  have e : sd_hole D p s 19 q = D 19 q := if_neg (by omega)
  unfold sd_long
  rw [e]
theorem sp_sort9 {s : Int} (hs : 0 ≤ s ∧ s < 201) : ∀ (n : Nat), (n : Int) ≤ s → (∀ j : Int, n ≤ j → j < s → sd_long D s < sd_long D (D 21 j)) → (∀ p : Int, 0 ≤ p → p ≤ s → (0 < p → sd_long D (D 21 (p - 1)) ≤ sd_long D s) → (∀ j : Int, p ≤ j → j < s → sd_long D s < sd_long D (D 21 j)) → Q (.inl none) (mm_mk (sd_ins D p s) u x)) → mt 12 9 [some (mm_P 13), some (mm_I s), some (mm_I (n : Int))] [] (mm_mk (sd_hole D n s) u x) Q := by
  intro n
  have key : ∀ p : Int, mm_wr (sd_hole D p s) 21 p s = sd_ins D p s := by
    intro p
    funext r k
    unfold mm_wr sd_hole sd_ins
    by_cases h1 : r = 21
    · subst h1
      by_cases h2 : k = p
      · rw [if_pos ⟨rfl, h2⟩, if_pos rfl, if_pos h2]
      · rw [if_neg (fun c => h2 c.2), if_pos rfl, if_neg h2]
        by_cases h3 : p < k ∧ k ≤ s
        · rw [if_pos ⟨rfl, h3⟩, if_pos h3]
        · rw [if_neg (fun c => h3 c.2), if_neg h3]
    · rw [if_neg (fun c => h1 c.1), if_neg (fun c => h1 c.1), if_neg h1]
  have hat : ∀ n : Nat, sd_hole D (n : Int) s 21 ((n : Int) - 1) = D 21 ((n : Int) - 1) := by
    intro n
    unfold sd_hole
    rw [if_neg (by omega)]
  induction n with
  | zero =>
    intro hn hj H
    apply q_X0_sortIn_9
    refine ⟨fun _ => ⟨by omega, by omega, fun D3 e => ?_⟩, fun c => absurd (by omega) c⟩
    rw [e, key]
    exact H _ (by omega) hn (fun c => absurd c (by omega)) hj
  | succ n ih =>
    intro hn hj H
    apply q_X0_sortIn_9
    refine ⟨fun c => absurd c (by omega), fun _ => ⟨by constructor <;> omega, by omega, by omega, ?_⟩⟩
    apply sp_long
    apply mm_pIi
    apply sp_long
    apply mm_pIi
    rw [sd_hole_long, sd_hole_long, hat]
    refine ⟨fun c => ⟨by omega, by omega, fun D17 e => ?_⟩, fun c => ⟨by constructor <;> omega, by omega, by omega, by omega, by omega, fun D23 e => ⟨by constructor <;> omega, ?_⟩⟩⟩
    · rw [e, key]
      exact H _ (by omega) hn (fun _ => c) hj
    · have e1 : ((n + 1 : Nat) : Int) + -1 = (n : Int) := by omega
      have e2 : ((n + 1 : Nat) : Int) - 1 = (n : Int) := by omega
      rw [e1]
      have : D23 = sd_hole D (n : Int) s := by
        rw [e, e2]
        funext r k
        unfold mm_wr
        by_cases h1 : r = 21
        · subst h1
          by_cases h2 : k = ((n + 1 : Nat) : Int)
          · rw [if_pos ⟨rfl, h2⟩]
            unfold sd_hole
            rw [if_pos ⟨rfl, by omega, by omega⟩]
            congr 1
            omega
          · rw [if_neg (fun c => h2 c.2)]
            unfold sd_hole
            by_cases h3 : ((n + 1 : Nat) : Int) < k ∧ k ≤ s
            · rw [if_pos ⟨rfl, h3⟩, if_pos ⟨rfl, by omega, h3.2⟩]
            · rw [if_neg (fun c => h3 c.2), if_neg (by omega)]
        · rw [if_neg (fun c => h1 c.1)]
          unfold sd_hole
          rw [if_neg (fun c => h1 c.1), if_neg (fun c => h1 c.1)]
      rw [this]
      refine ih (by omega) ?_ H
      intro j h3 h4
      by_cases h5 : j = (n : Int)
      · rw [h5, ← e2]
        omega
      · exact hj j (by omega) h4
theorem sp_sortIn {s : Int} (hs : 0 ≤ s ∧ s < 201) (H : ∀ p : Int, 0 ≤ p → p ≤ s → (0 < p → sd_long D (D 21 (p - 1)) ≤ sd_long D s) → (∀ j : Int, p ≤ j → j < s → sd_long D s < sd_long D (D 21 j)) → Q (.inl none) (mm_mk (sd_ins D p s) u x)) : mt 12 0 [some (mm_P 13), some (mm_I s), none] [] (mm_mk D u x) Q := by
  apply q_X0_sortIn_0
  apply sp_within
  apply mm_pIi
  rw [sd_b1 ⟨hs.1, hs.2⟩]
  refine ⟨fun _ => ?_, fun c => absurd (by decide) c⟩
  have e : D = sd_hole D ((s.toNat : Nat) : Int) s := by
    funext r k
    unfold sd_hole
    rw [if_neg (by omega)]
  have := sp_sort9 (D := D) (u := u) (x := x) (Q := Q) hs s.toNat (by omega) (fun j h1 h2 => absurd h2 (by omega)) H
  rw [← e, Int.toNat_of_nonneg hs.1] at this
  exact this
end LH
