/-! the methods that write, and the small loops over texts -/
section LG
variable {D : mm_D} {u : Int} {x : mm_Xt} {Q : mm_O → mm_H → Prop}
theorem sp_size {w : Nat} (hw : mm_isW w) (H : Q (.inl (some (mm_I (D w 1)))) (mm_mk D u x)) : mt 36 0 [some (mm_P w)] [] (mm_mk D u x) Q := q_X3_size_0 hw H
def sd_room (w : Nat) : Int := if w = 10 then 120 else 100
theorem sd_roomE (w : Nat) : (((if w = 10 then 120 else 100 : Nat) : Int)) = sd_room w := by unfold sd_room; split <;> rfl
theorem sp_letter (i : Int) {w : Nat} (hw : mm_isW w) (h0 : 0 ≤ i) (h1 : i < D w 1) (h2 : i < sd_room w) (H : Q (.inl (some (mm_I (D (w + 1) i)))) (mm_mk D u x)) : mt 37 0 [some (mm_P w), some (mm_I i)] [] (mm_mk D u x) Q := by
  apply q_X3_letter_0 _ hw
  apply sp_within
  apply mm_pIi
  rw [sd_b1 ⟨h0, h1⟩, sd_roomE]
  refine ⟨fun c => absurd c (by decide), fun _ => ⟨fun c => absurd c (by omega), fun _ => ⟨h0, h2, H⟩⟩⟩
theorem sp_letterNo (i : Int) {w : Nat} (hw : mm_isW w) (h0 : ¬ (0 ≤ i ∧ i < D w 1)) (H : Q (.inl (some (mm_I (-1)))) (mm_mk D u x)) : mt 37 0 [some (mm_P w), some (mm_I i)] [] (mm_mk D u x) Q := by
  apply q_X3_letter_0 _ hw
  apply sp_within
  apply mm_pIi
  rw [sd_b0 h0]
  exact ⟨fun _ => H, fun c => absurd rfl c⟩
theorem sp_add (a : Int) {w : Nat} (hw : mm_isW w) (h0 : 0 ≤ D w 1) (h2 : D w 1 < sd_room w) (ha : 0 ≤ a ∧ a < 26) (H : Q (.inl none) (mm_mk (mm_wr (mm_wr D (w + 1) (D w 1) a) w 1 (D w 1 + 1)) u x)) : mt 38 0 [some (mm_P w), some (mm_I a)] [] (mm_mk D u x) Q := by
  apply q_X3_add_0 _ hw
  rw [sd_roomE]
  apply sp_within
  apply mm_pIi
  rw [sd_b1 ⟨h0, h2⟩]
  refine ⟨fun c => absurd c (by decide), fun _ => ?_⟩
  apply sp_within
  apply mm_pIi
  rw [sd_b1 ha]
  refine ⟨fun c => absurd c (by decide), fun _ => ?_⟩
  have e1 : ∀ v, mm_wr D (w + 1) (D w 1) v w 1 = D w 1 := fun v => mm_wr_ne (fun c => absurd c.1 (by omega))
  have hroom : sd_room w ≤ 120 := by unfold sd_room; split <;> omega
  refine ⟨h0, h2, fun D11 e => ?_⟩
  subst e
  rw [e1]
  exact ⟨by constructor <;> omega, fun D13 e => e ▸ H⟩
theorem sp_addNo (a : Int) {w : Nat} (hw : mm_isW w) (h0 : 0 ≤ D w 1) (h2 : D w 1 < sd_room w) (ha : ¬ (0 ≤ a ∧ a < 26)) (H : Q (.inl none) (mm_mk D u x)) : mt 38 0 [some (mm_P w), some (mm_I a)] [] (mm_mk D u x) Q := by
  apply q_X3_add_0 _ hw
  rw [sd_roomE]
  apply sp_within
  apply mm_pIi
  rw [sd_b1 ⟨h0, h2⟩]
  refine ⟨fun c => absurd c (by decide), fun _ => ?_⟩
  apply sp_within
  apply mm_pIi
  rw [sd_b0 ha]
  exact ⟨fun _ => H, fun c => absurd rfl c⟩
theorem sp_shorten {w : Nat} (hw : mm_isW w) (h0 : 0 < D w 1) (hr : mm_rng (D w 1 - 1)) (H : Q (.inl none) (mm_mk (mm_wr D w 1 (D w 1 - 1)) u x)) : mt 39 0 [some (mm_P w)] [] (mm_mk D u x) Q := by
  apply q_X3_shorten_0 hw
  exact ⟨fun c => absurd c (by omega), fun _ => ⟨hr, fun D2 e => e ▸ H⟩⟩
theorem sp_empty {w : Nat} (hw : mm_isW w) (H : Q (.inl none) (mm_mk (mm_wr D w 1 0) u x)) : mt 40 0 [some (mm_P w)] [] (mm_mk D u x) Q := by
  apply q_X3_empty_0 hw
  exact fun D1 e => e ▸ H
theorem sp_aheadOf (s : Int) (H : Q (.inl (some (mm_I (sd_aot D s)))) (mm_mk D u x)) : mt 33 0 [some (mm_P 12), some (mm_I s)] [] (mm_mk D u x) Q := by
  apply q_X2_aheadOf_0
  apply sp_within
  apply mm_pIi
  unfold sd_aot at H
  refine ⟨fun c => ?_, fun c => ?_⟩
  · rw [sd_bn] at c
    rwa [if_neg (by omega)] at H
  · rw [sd_bn] at c
    rw [if_pos (by omega)] at H
    exact ⟨by omega, by omega, H⟩
theorem sp_putAhead (s v : Int) (h0 : 0 ≤ s) (h1 : s < 201) (H : Q (.inl none) (mm_mk (mm_wr D 23 s v) u x)) : mt 34 0 [some (mm_P 12), some (mm_I s), some (mm_I v)] [] (mm_mk D u x) Q := by
  apply q_X2_putAhead_0
  apply sp_within
  apply mm_pIi
  rw [sd_b1 ⟨h0, h1⟩]
  exact ⟨fun c => absurd c (by decide), fun _ => ⟨h0, h1, fun D7 e => e ▸ H⟩⟩
/-- an end noted -/
def sd_note (D : mm_D) (p v : Int) : mm_D := fun r k =>
  if k = p ∧ r = 15 then D 15 p + 1
  else if k = p ∧ r = 17 then v
  else if k = p ∧ r = 16 ∧ D 15 p = 0 then v
  else D r k
theorem sp_note (s t v : Int) (hs : 0 ≤ s ∧ s < 201) (ht : 0 ≤ t ∧ t < 4) (hr : mm_rng (D 15 (s * 4 + t) + 1)) (H : Q (.inl none) (mm_mk (sd_note D (s * 4 + t) v) u x)) : mt 22 0 [some (mm_P 14), some (mm_I s), some (mm_I t), some (mm_I v), none] [] (mm_mk D u x) Q := by
  apply q_X1_note_0
  apply sp_placeOf
  apply mm_pIi
  have hp : sd_pl s t = s * 4 + t := if_pos ⟨hs, ht⟩
  rw [hp]
  generalize hq : s * 4 + t = p at *
  have hp0 : 0 ≤ p := by omega
  have hp1 : p < 804 := by omega
  refine ⟨fun _ => ⟨hp0, hp1, fun c => ?_, fun c => ?_⟩, fun c => absurd (by omega) c⟩
  · refine ⟨hp0, hp1, fun D9 e9 => ⟨hp0, hp1, ?_, hp0, hp1, fun D15 e15 => ?_⟩⟩
    · subst e9
      rw [mm_wr_r (by decide)]
      exact hr
    · subst e15 e9
      have : mm_wr (mm_wr D 17 p v) 15 p (mm_wr D 17 p v 15 p + 1) = sd_note D p v := by
        rw [show mm_wr D 17 p v 15 p = D 15 p from mm_wr_r (by decide)]
        funext r k
        unfold mm_wr sd_note
        by_cases h1 : k = p <;> by_cases h2 : r = 15 <;> by_cases h3 : r = 17 <;> by_cases h4 : r = 16 <;> simp_all
      rwa [this]
  · have c0 : D 15 p = 0 := Decidable.not_not.mp c
    refine ⟨hp0, hp1, fun D18 e18 => ⟨hp0, hp1, fun D21 e21 => ⟨hp0, hp1, ?_, hp0, hp1, fun D27 e27 => ?_⟩⟩⟩
    · subst e21 e18
      rw [mm_wr_r (by decide), mm_wr_r (by decide)]
      exact hr
    · subst e27 e21 e18
      have : mm_wr (mm_wr (mm_wr D 16 p v) 17 p v) 15 p (mm_wr (mm_wr D 16 p v) 17 p v 15 p + 1) = sd_note D p v := by
        rw [show mm_wr (mm_wr D 16 p v) 17 p v 15 p = D 15 p from (mm_wr_r (by decide)).trans (mm_wr_r (by decide))]
        funext r k
        unfold mm_wr sd_note
        by_cases h1 : k = p <;> by_cases h2 : r = 15 <;> by_cases h3 : r = 17 <;> by_cases h4 : r = 16 <;> simp_all
      rwa [this]
theorem sp_countInAll (s : Int) (hr : ∀ t, 0 ≤ t → t < 4 → 0 ≤ sd_cnt D s t ∧ sd_cnt D s t ≤ 1000) (H : Q (.inl (some (mm_I (sd_cnt D s 0 + sd_cnt D s 1 + sd_cnt D s 2 + sd_cnt D s 3)))) (mm_mk D u x)) : mt 20 0 [some (mm_P 14), some (mm_I s), none, none] [] (mm_mk D u x) Q := by
  apply q_X1_countInAll_0
  have a0 := hr 0 (by decide) (by decide)
  have a1 := hr 1 (by decide) (by decide)
  have a2 := hr 2 (by decide) (by decide)
  have a3 := hr 3 (by decide) (by decide)
  apply q_X1_countInAll_4
  refine ⟨fun c => absurd c (by decide), fun _ => ?_⟩
  apply sp_countOf
  apply mm_pIi
  refine ⟨by constructor <;> omega, by decide, ?_⟩
  show mt 20 4 [some (mm_P 14), some (mm_I s), some (mm_I _), some (mm_I 1)] [] (mm_mk D u x) Q
  apply q_X1_countInAll_4
  refine ⟨fun c => absurd c (by decide), fun _ => ?_⟩
  apply sp_countOf
  apply mm_pIi
  refine ⟨by constructor <;> omega, by decide, ?_⟩
  show mt 20 4 [some (mm_P 14), some (mm_I s), some (mm_I _), some (mm_I 2)] [] (mm_mk D u x) Q
  apply q_X1_countInAll_4
  refine ⟨fun c => absurd c (by decide), fun _ => ?_⟩
  apply sp_countOf
  apply mm_pIi
  refine ⟨by constructor <;> omega, by decide, ?_⟩
  show mt 20 4 [some (mm_P 14), some (mm_I s), some (mm_I _), some (mm_I 3)] [] (mm_mk D u x) Q
  apply q_X1_countInAll_4
  refine ⟨fun c => absurd c (by decide), fun _ => ?_⟩
  apply sp_countOf
  apply mm_pIi
  refine ⟨by constructor <;> omega, by decide, ?_⟩
  show mt 20 4 [some (mm_P 14), some (mm_I s), some (mm_I _), some (mm_I 4)] [] (mm_mk D u x) Q
  apply q_X1_countInAll_4
  refine ⟨fun _ => ?_, fun c => absurd (by decide) c⟩
  simp only [Int.zero_add] at *
  exact H
end LG
