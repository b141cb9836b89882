/-! the small methods of the class as functions of the ints -/
theorem mm_pIi {K : Int → mm_D → Int → mm_Xt → Prop} {r : Int} {D : mm_D} {u : Int} {x : mm_Xt} (h : K r D u x) : mm_pI K (.inl (some (mm_I r))) (mm_mk D u x) := ⟨r, D, u, x, rfl, rfl, h⟩
theorem mm_pVi {K : mm_D → Int → mm_Xt → Prop} {D : mm_D} {u : Int} {x : mm_Xt} (h : K D u x) : mm_pV K (.inl none) (mm_mk D u x) := ⟨D, u, x, rfl, rfl, h⟩
theorem mm_pIxi {K : Int → mm_D → Int → mm_Xt → Prop} {KX : Nat → mm_D → Int → mm_Xt → Prop} {r : Int} {D : mm_D} {u : Int} {x : mm_Xt} (h : K r D u x) : mm_pIx K KX (.inl (some (mm_I r))) (mm_mk D u x) := Or.inl ⟨r, D, u, x, rfl, rfl, h⟩
theorem mm_pIxx {K : Int → mm_D → Int → mm_Xt → Prop} {KX : Nat → mm_D → Int → mm_Xt → Prop} {E : Nat} {D : mm_D} {u : Int} {x : mm_Xt} (h : KX E D u x) : mm_pIx K KX (.inr E) (mm_mk D u x) := Or.inr ⟨E, D, u, x, rfl, rfl, h⟩
theorem mm_pVxi {K : mm_D → Int → mm_Xt → Prop} {KX : Nat → mm_D → Int → mm_Xt → Prop} {D : mm_D} {u : Int} {x : mm_Xt} (h : K D u x) : mm_pVx K KX (.inl none) (mm_mk D u x) := Or.inl ⟨D, u, x, rfl, rfl, h⟩
theorem mm_pVxx {K : mm_D → Int → mm_Xt → Prop} {KX : Nat → mm_D → Int → mm_Xt → Prop} {E : Nat} {D : mm_D} {u : Int} {x : mm_Xt} (h : KX E D u x) : mm_pVx K KX (.inr E) (mm_mk D u x) := Or.inr ⟨E, D, u, x, rfl, rfl, h⟩
theorem mm_pRxi {K : Nat → mm_D → Int → mm_Xt → Prop} {KX : Nat → mm_D → Int → mm_Xt → Prop} {r : Nat} {D : mm_D} {u : Int} {x : mm_Xt} (hw : mm_isW r) (h : K r D u x) : mm_pRx K KX (.inl (some (mm_P r))) (mm_mk D u x) := Or.inl ⟨r, D, u, x, rfl, rfl, hw, h⟩
theorem mm_pRxx {K : Nat → mm_D → Int → mm_Xt → Prop} {KX : Nat → mm_D → Int → mm_Xt → Prop} {E : Nat} {D : mm_D} {u : Int} {x : mm_Xt} (h : KX E D u x) : mm_pRx K KX (.inr E) (mm_mk D u x) := Or.inr ⟨E, D, u, x, rfl, rfl, h⟩
/-- one of two tests is bool -/
def sd_b (p : Prop) [Decidable p] : Int := if p then 1 else 0
theorem sd_b1 {p : Prop} [Decidable p] (h : p) : sd_b p = 1 := if_pos h
theorem sd_b0 {p : Prop} [Decidable p] (h : ¬ p) : sd_b p = 0 := if_neg h
theorem sd_bn {p : Prop} [Decidable p] : sd_b p = 0 ↔ ¬ p := by unfold sd_b; split <;> simp_all
def sd_step (D : mm_D) (s a : Int) : Int := if (0 ≤ s ∧ s < 201) ∧ 0 ≤ a ∧ a < 26 then D 18 (s * 26 + a) else -1
def sd_long (D : mm_D) (s : Int) : Int := if 0 ≤ s ∧ s < 201 then D 19 s else 0
def sd_link (D : mm_D) (s : Int) : Int := if 0 ≤ s ∧ s < 201 then D 20 s else -1
def sd_pl (s t : Int) : Int := if (0 ≤ s ∧ s < 201) ∧ 0 ≤ t ∧ t < 4 then s * 4 + t else -1
def sd_cnt (D : mm_D) (s t : Int) : Int := if sd_pl s t = -1 then 0 else D 15 (sd_pl s t)
def sd_fst (D : mm_D) (s t : Int) : Int := if sd_pl s t = -1 then -1 else D 16 (sd_pl s t)
def sd_lst (D : mm_D) (s t : Int) : Int := if sd_pl s t = -1 then -1 else D 17 (sd_pl s t)
def sd_aot (D : mm_D) (s : Int) : Int := if 0 ≤ s ∧ s < 201 then D 23 s else D 12 2
def sd_let (D : mm_D) (w : Nat) (i : Int) : Int := if (0 ≤ i ∧ i < D w 1) ∧ i < (if w = 10 then 120 else 100) then D (w + 1) i else -1
section LF
variable {D : mm_D} {u : Int} {x : mm_Xt} {Q : mm_O → mm_H → Prop}
theorem sp_within (a b : Int) (H : Q (.inl (some (mm_I (sd_b (0 ≤ a ∧ a < b))))) (mm_mk D u x)) : mt 70 0 [some (mm_I a), some (mm_I b)] [] (mm_mk D u x) Q := by
  apply q_X4_within_0
  refine ⟨fun c => ?_, fun c => ⟨fun d => ?_, fun d => ?_⟩⟩
  · rwa [sd_b0 (by omega)] at H
  · rwa [sd_b0 (by omega)] at H
  · rwa [sd_b1 (by omega)] at H
theorem sp_step (s a : Int) (H : Q (.inl (some (mm_I (sd_step D s a)))) (mm_mk D u x)) : mt 7 0 [some (mm_P 13), some (mm_I s), some (mm_I a), none] [] (mm_mk D u x) Q := by
  apply q_X0_step_0
  unfold sd_step at H
  refine ⟨fun c => ?_, fun c => ⟨fun d => ?_, fun d => ⟨fun e => ?_, fun e => ⟨fun f => ?_, fun f => ?_⟩⟩⟩⟩
  · rwa [if_neg (by omega)] at H
  · rwa [if_neg (by omega)] at H
  · rwa [if_neg (by omega)] at H
  · rwa [if_neg (by omega)] at H
  · rw [if_pos (by omega)] at H
    exact ⟨by constructor <;> omega, by constructor <;> omega, by omega, by omega, H⟩
theorem sp_long (s : Int) (H : Q (.inl (some (mm_I (sd_long D s)))) (mm_mk D u x)) : mt 5 0 [some (mm_P 13), some (mm_I s)] [] (mm_mk D u x) Q := by
  apply q_X0_longestOf_0
  unfold sd_long at H
  refine ⟨fun c => ?_, fun c => ⟨fun d => ?_, fun d => ?_⟩⟩
  · rwa [if_neg (by omega)] at H
  · rwa [if_neg (by omega)] at H
  · rw [if_pos (by omega)] at H
    exact ⟨by omega, by omega, H⟩
theorem sp_link (s : Int) (H : Q (.inl (some (mm_I (sd_link D s)))) (mm_mk D u x)) : mt 13 0 [some (mm_P 13), some (mm_I s)] [] (mm_mk D u x) Q := by
  apply q_X0_linkOf_0
  apply sp_within
  apply mm_pIi
  unfold sd_link at H
  refine ⟨fun c => ?_, fun c => ?_⟩
  · rw [sd_bn] at c
    rwa [if_neg (by omega)] at H
  · rw [sd_bn] at c
    rw [if_pos (by omega)] at H
    exact ⟨by omega, by omega, H⟩
theorem sp_short (s : Int) (hr : mm_rng (sd_long D (sd_link D s) + 1)) (H : Q (.inl (some (mm_I (sd_long D (sd_link D s) + 1)))) (mm_mk D u x)) : mt 6 0 [some (mm_P 13), some (mm_I s)] [] (mm_mk D u x) Q := by
  apply q_X0_shortestOf_0
  apply sp_link
  apply mm_pIi
  apply sp_long
  apply mm_pIi
  exact ⟨hr, H⟩
theorem sp_stateAt (p : Int) (H : Q (.inl (some (mm_I (if (0 ≤ p ∧ p < D 13 6) ∧ p < 201 then D 21 p else -1)))) (mm_mk D u x)) : mt 3 0 [some (mm_P 13), some (mm_I p)] [] (mm_mk D u x) Q := by
  apply q_X0_stateAt_0
  apply sp_within
  apply mm_pIi
  refine ⟨fun c => ?_, fun c => ⟨fun d => ?_, fun d => ?_⟩⟩
  · rw [sd_bn] at c
    rwa [if_neg (by omega)] at H
  · rwa [if_neg (by omega)] at H
  · rw [sd_bn] at c
    rw [if_pos (by omega)] at H
    exact ⟨by omega, by omega, H⟩
theorem sp_putLink (s v : Int) (h0 : 0 ≤ s) (h1 : s < 201) (H : Q (.inl none) (mm_mk (mm_wr D 20 s v) u x)) : mt 14 0 [some (mm_P 13), some (mm_I s), some (mm_I v)] [] (mm_mk D u x) Q := by
  apply q_X0_putLink_0
  apply sp_within
  apply mm_pIi
  rw [sd_b1 ⟨h0, h1⟩]
  exact ⟨fun c => absurd c (by decide), fun _ => ⟨h0, h1, fun D7 e => e ▸ H⟩⟩
theorem sp_putStep (s a v : Int) (h0 : 0 ≤ s) (h1 : s < 201) (h2 : 0 ≤ a) (h3 : a < 26) (H : Q (.inl none) (mm_mk (mm_wr D 18 (s * 26 + a) v) u x)) : mt 15 0 [some (mm_P 13), some (mm_I s), some (mm_I a), some (mm_I v), none] [] (mm_mk D u x) Q := by
  apply q_X0_putStep_0
  refine ⟨fun c => ?_, fun c => ⟨fun d => ?_, fun d => ⟨fun e => ?_, fun e => ⟨fun f => ?_, fun f => ?_⟩⟩⟩⟩
  · omega
  · omega
  · omega
  · omega
  · exact ⟨by constructor <;> omega, by constructor <;> omega, by omega, by omega, fun D5 e => e ▸ H⟩
theorem sp_placeOf (s t : Int) (H : Q (.inl (some (mm_I (sd_pl s t)))) (mm_mk D u x)) : mt 24 0 [some (mm_I s), some (mm_I t), none] [] (mm_mk D u x) Q := by
  apply q_X1_placeOf_0
  unfold sd_pl at H
  refine ⟨fun c => ?_, fun c => ⟨fun d => ?_, fun d => ⟨fun e => ?_, fun e => ⟨fun f => ?_, fun f => ?_⟩⟩⟩⟩
  · rwa [if_neg (by omega)] at H
  · rwa [if_neg (by omega)] at H
  · rwa [if_neg (by omega)] at H
  · rwa [if_neg (by omega)] at H
  · rw [if_pos (by omega)] at H
    exact ⟨by constructor <;> omega, by constructor <;> omega, H⟩
theorem sd_pl_lt (s t : Int) : sd_pl s t < 804 ∧ (sd_pl s t ≠ -1 → 0 ≤ sd_pl s t) := by
  unfold sd_pl
  split <;> constructor <;> omega
theorem sp_countOf (s t : Int) (H : Q (.inl (some (mm_I (sd_cnt D s t)))) (mm_mk D u x)) : mt 17 0 [some (mm_P 14), some (mm_I s), some (mm_I t), none] [] (mm_mk D u x) Q := by
  apply q_X1_countOf_0
  apply sp_placeOf
  apply mm_pIi
  unfold sd_cnt at H
  refine ⟨fun c => ?_, fun c => ?_⟩
  · rw [if_neg c] at H
    exact ⟨(sd_pl_lt s t).2 c, (sd_pl_lt s t).1, H⟩
  · rwa [if_pos (Decidable.not_not.mp c)] at H
theorem sp_firstOf (s t : Int) (H : Q (.inl (some (mm_I (sd_fst D s t)))) (mm_mk D u x)) : mt 18 0 [some (mm_P 14), some (mm_I s), some (mm_I t), none] [] (mm_mk D u x) Q := by
  apply q_X1_firstOf_0
  apply sp_placeOf
  apply mm_pIi
  unfold sd_fst at H
  refine ⟨fun c => ?_, fun c => ?_⟩
  · rw [if_neg c] at H
    exact ⟨(sd_pl_lt s t).2 c, (sd_pl_lt s t).1, H⟩
  · rwa [if_pos (Decidable.not_not.mp c)] at H
theorem sp_lastOf (s t : Int) (H : Q (.inl (some (mm_I (sd_lst D s t)))) (mm_mk D u x)) : mt 19 0 [some (mm_P 14), some (mm_I s), some (mm_I t), none] [] (mm_mk D u x) Q := by
  apply q_X1_lastOf_0
  apply sp_placeOf
  apply mm_pIi
  unfold sd_lst at H
  refine ⟨fun c => ?_, fun c => ?_⟩
  · rw [if_neg c] at H
    exact ⟨(sd_pl_lt s t).2 c, (sd_pl_lt s t).1, H⟩
  · rwa [if_pos (Decidable.not_not.mp c)] at H
end LF
