/-! the guide: what lies ahead of each state; words counted -/
theorem au_J_row {D D' : mm_D} {n f : Int} {rep : Int → wd} {x : wd} {en : Nat → wd → Int → Int} (h : ∀ r, r = 13 ∨ (15 ≤ r ∧ r ≤ 20) → D' r = D r) (J : au_J D n f rep x en) : au_J D' n f rep x en := by
  unfold au_J at J ⊢
  rw [h 13 (by decide), h 18 (by decide), h 19 (by decide), h 20 (by decide)]
  obtain ⟨b1, b2, b3, b4, b5, b6, b7, b8, b9, b10, b11⟩ := J
  refine ⟨b1, b2, b3, b4, b5, b6, b7, b8, b9, b10, fun s r j q1 q2 q3 q4 => ?_⟩
  rw [h r (by omega)]
  exact b11 s r j q1 q2 q3 q4
theorem sv_dig {j e i : Nat} (h1 : e ≤ 100) (h2 : i ≤ 100) : (j * 10201 + e * 101 + i) / 10201 = j ∧ (j * 10201 + e * 101 + i) % 10201 / 101 = e ∧ (j * 10201 + e * 101 + i) % 101 = i := by
  have h : (j * 10201 + e * 101 + i) % 10201 = e * 101 + i := by omega
  refine ⟨by omega, ?_, by omega⟩
  rw [h]
  omega
theorem sv_fin {tx : Nat → wd} {k : Int} {P : wd} (T : sv_T tx k P) {S : wd → Prop} {m : Int} (h : sz S m) (hS : ∀ w, S w → fac tx w) : m ≤ 40804 := by
  obtain ⟨L, a1, a2, a3⟩ := h
  have h1 := List.Nodup.length_le_of_subset a1 (l₂ := (List.range 40804).map (fun c => ((tx (c / 10201)).take (c % 10201 / 101)).drop (c % 101))) (fun w hw => ?_)
  · rw [List.length_map, List.length_range] at h1
    omega
  · have hf := hS w ((a2 w).mp hw)
    rw [List.mem_map]
    by_cases h0 : w = []
    · exact ⟨0, List.mem_range.mpr (by decide), by rw [h0]; rfl⟩
    · obtain ⟨j, e, e1, e2⟩ := fac_ix hf h0
      have l1 := sv_len (T := T) j
      have hj : j < 4 := by
        by_cases q : j < 4
        · exact q
        · rw [T.2.2.2.2.2 j (by have := T.1; omega)] at e1
          simp at e1
      have l2 : ((tx j).take (e + 1)).length = e + 1 := by
        rw [List.length_take]
        omega
      have l3 := List.length_pos_iff.mpr h0
      have l4 := e2.length_le
      refine ⟨j * 10201 + (e + 1) * 101 + (e + 1 - w.length), List.mem_range.mpr (by omega), ?_⟩
      obtain ⟨g1, g2, g3⟩ := sv_dig (j := j) (e := e + 1) (i := e + 1 - w.length) (by omega) (by omega)
      rw [g1, g2, g3]
      rw [List.suffix_iff_eq_drop, l2] at e2
      exact e2.symm
section SH
variable {D : mm_D} {u : Int} {x : mm_Xt} {Q : mm_O → mm_H → Prop} {tx : Nat → wd} {k : Int} {P : wd} {n : Int} {rep : Int → wd} {V : wd → Int → Prop} {out : Int}
theorem sv_ah (J : au_J D n (-1) rep [] (en_of tx)) (O : au_O D n) (T : tM tx (au_M n (-1) rep)) {D2 : mm_D} (hr : ∀ r, r ≠ 12 → r ≠ 23 → D2 r = D r) (h12 : D2 12 2 = out) (hV1 : ∀ w, ¬ fac tx w → V w out) (hV2 : ∀ w c r, wm_cl (au_M n (-1) rep) w c → V c r → V w r) {p : Int} (hp : 0 ≤ p ∧ p < n) (inv : ∀ q, p < q → q < n → V (rep (D 21 q)) (D2 23 (D 21 q))) {a : Int} (ha : 0 ≤ a ∧ a < 26) : V (rep (D 21 p) ++ [a]) (sd_aot D2 (sd_step D2 (D 21 p) a)) := by
  have hs := O.1 p hp.1 hp.2
  have J0 := J
  obtain ⟨j1, j2, j3, j4, j5, j6, j7, j8, j9, j10, j11⟩ := J
  rw [sd_step_row (hr 18 (by decide) (by decide))]
  have hst := sv_step J0 (z := rep (D 21 p)) (v := D 21 p) (Or.inr ⟨hs, wm_cl_self ⟨_, ⟨hs, by omega⟩, rfl⟩⟩) ha
  rcases hst with ⟨h1, h2⟩ | ⟨h1, h2⟩
  · rw [h1]
    have : sd_aot D2 (-1) = D2 12 2 := if_neg (by omega)
    rw [this, h12]
    exact hV1 _ (fun f => h2 ((tM_F T).mpr f))
  · generalize sd_step D (D 21 p) a = t at *
    have : sd_aot D2 t = D2 23 t := if_pos (by omega)
    rw [this]
    obtain ⟨q, q1, q2, q3⟩ := O.2.1 t h1.1 h1.2
    have hlen := h2.2.1.length_le
    rw [List.length_append, List.length_singleton] at hlen
    have hpq : p < q := by
      by_cases e : p < q
      · exact e
      · exfalso
        have := O.2.2.2 q p q1 (by omega) hp.2
        rw [q3, j7 _ h1, j7 _ hs] at this
        omega
    have := inv q hpq q2
    rw [q3] at this
    exact hV2 _ _ _ h2 this
theorem sv_ahF (J : au_J D n (-1) rep [] (en_of tx)) (O : au_O D n) (T : tM tx (au_M n (-1) rep)) {D2 : mm_D} (h12 : D2 12 2 = out) (hV1 : ∀ w, ¬ fac tx w → V w out) (hV2 : ∀ w c r, wm_cl (au_M n (-1) rep) w c → V c r → V w r) (inv : ∀ q, -1 < q → q < n → V (rep (D 21 q)) (D2 23 (D 21 q))) {w : wd} {v : Int} (h : sv_st n rep w v) : V w (sd_aot D2 v) := by
  have j2 := J.2.1
  rcases h with ⟨h1, h2⟩ | ⟨h1, h2⟩
  · rw [h1]
    have : sd_aot D2 (-1) = D2 12 2 := if_neg (by omega)
    rw [this, h12]
    exact hV1 _ (fun f => h2 ((tM_F T).mpr f))
  · have : sd_aot D2 v = D2 23 v := if_pos (by omega)
    rw [this]
    obtain ⟨q, q1, q2, q3⟩ := O.2.1 v h1.1 h1.2
    have := inv q (by omega) q2
    rw [q3] at this
    exact hV2 _ _ _ h2 this
theorem sv_put (O : au_O D n) {D2 : mm_D} {p v : Int} (hp : 0 ≤ p ∧ p < n) (inv : ∀ q, p < q → q < n → V (rep (D 21 q)) (D2 23 (D 21 q))) (h : V (rep (D 21 p)) v) : ∀ q, p - 1 < q → q < n → V (rep (D 21 q)) (mm_wr D2 23 (D 21 p) v 23 (D 21 q)) := by
  intro q h1 h2
  by_cases e : q = p
  · rw [e, mm_wr_eq]
    exact h
  · rw [mm_wr_k (fun z => O.2.2.1 p q hp.1 (by omega) h2 z.symm)]
    exact inv q (by omega) h2
/-- words that lead on -/
def sv_V1 (tx : Nat → wd) (w : wd) (r : Int) : Prop := sz (fun z => fac tx (w ++ z)) r
theorem sv_V1a (w : wd) (h : ¬ fac tx w) : sv_V1 tx w 0 := sz_0 (fun z q => h (fac_preL z w q))
theorem sv_V1b (T : tM tx (au_M n (-1) rep)) (w c : wd) (r : Int) (h : wm_cl (au_M n (-1) rep) w c) (q : sv_V1 tx c r) : sv_V1 tx w r := sz_c q (fun z => (fac_cl T h).1.symm)
theorem sv_V1n (T : sv_T tx k P) {w : wd} {r : Int} (h : sv_V1 tx w r) : 0 ≤ r ∧ r ≤ 40804 := ⟨sz_nn h, sv_fin T (sz_app h w) (fun v q => by obtain ⟨z, h1, h2⟩ := q; rw [h1]; exact h2)⟩
theorem sp_countWords (C : sv_C D tx k P) (J : au_J D n (-1) rep [] (en_of tx)) (O : au_O D n) (T : tM tx (au_M n (-1) rep)) (H : ∀ D', (∀ r, r ≠ 12 → r ≠ 23 → D' r = D r) → D' 12 2 = 0 → (∀ q, -1 < q → q < n → sv_V1 tx (rep (D 21 q)) (D' 23 (D 21 q))) → Q (.inl none) (mm_mk D' u x)) : mt 26 0 [some (mm_P 12), none, none, none, none] [] (mm_mk D u x) Q := by
  have j1 := J.1
  have j2 := J.2.1
  have lp : ∀ (m : Nat) (p : Int) (D2 : mm_D) (o2 o3 o4 : Option mm_V), p + 1 = m → p < n → (∀ r, r ≠ 12 → r ≠ 23 → D2 r = D r) → D2 12 2 = 0 → (∀ q, p < q → q < n → sv_V1 tx (rep (D 21 q)) (D2 23 (D 21 q))) → mt 26 9 [some (mm_P 12), some (mm_I p), o2, o3, o4] [] (mm_mk D2 u x) Q := by
    intro m
    induction m with
    | zero =>
      intro p D2 o2 o3 o4 hp hn hr h12 inv
      apply q_X2_countWords_9
      have : p = -1 := by omega
      rw [this] at inv
      exact ⟨fun _ => H D2 hr h12 inv, fun q => absurd q (by omega)⟩
    | succ m ih =>
      intro p D2 o2 o3 o4 hp hn hr h12 inv
      apply q_X2_countWords_9
      refine ⟨fun q => absurd q (by omega), fun _ => ?_⟩
      apply sp_stateAt
      apply mm_pIi
      rw [hr 13 (by decide) (by decide), hr 21 (by decide) (by decide), j1, if_pos (by omega)]
      have hs := O.1 p (by omega) hn
      have inn : ∀ (z : Nat) (a : Nat) (v3 : Int), a + z = 26 → sz (fun w => fac tx (rep (D 21 p) ++ w) ∧ (w = [] ∨ ∃ b w', w = b :: w' ∧ b < (a : Int))) v3 → mt 26 20 [some (mm_P 12), some (mm_I p), some (mm_I (D 21 p)), some (mm_I v3), some (mm_I (a : Int))] [] (mm_mk D2 u x) Q := by
        intro z
        induction z with
        | zero =>
          intro a v3 ha hz
          apply q_X2_countWords_20
          refine ⟨fun _ => ?_, fun q => absurd q (by omega)⟩
          apply sp_putAhead _ _ (by omega) (by omega)
          apply mm_pVi
          refine ⟨by constructor <;> omega, ?_⟩
          have hv : sv_V1 tx (rep (D 21 p)) v3 := sz_c hz (fun w => ⟨fun q => q.1, fun q => ⟨q, ?_⟩⟩)
          · rw [show p + -1 = p - 1 by omega]
            exact ih (p - 1) _ _ _ _ (by omega) (by omega) (fun r h1 h2 => by rw [mm_wr_row h2]; exact hr r h1 h2) (by rw [mm_wr_r (by decide)]; exact h12) (sv_put O ⟨by omega, hn⟩ inv hv)
          · cases w with
            | nil => exact Or.inl rfl
            | cons b w' =>
              have := fac_let C.1 q (a := b) (by simp)
              exact Or.inr ⟨b, w', rfl, by omega⟩
        | succ z ih2 =>
          intro a v3 ha hz
          apply q_X2_countWords_20
          refine ⟨fun q => absurd q (by omega), fun _ => ?_⟩
          apply sp_step
          apply mm_pIi
          apply sp_aheadOf
          apply mm_pIi
          have hv := sv_ah J O T hr h12 sv_V1a (sv_V1b T) ⟨by omega, hn⟩ inv (a := (a : Int)) (by omega)
          have hb := sv_V1n C.1 hv
          have hb2 := sv_fin C.1 (sz_app hz (rep (D 21 p))) (fun v q => by obtain ⟨z, h1, h2⟩ := q; rw [h1]; exact h2.1)
          have hb3 := sz_nn hz
          refine ⟨by constructor <;> omega, by constructor <;> omega, ih2 (a + 1) _ (by omega) (sz_c (sz_add hz (sz_cons hv (a : Int)) (fun w h1 h2 => ?_)) (fun w => ⟨fun q => ?_, fun q => ?_⟩))⟩
          · obtain ⟨w', e, _⟩ := h2
            rcases h1.2 with h1 | ⟨b, w2, e2, h3⟩
            · rw [h1] at e
              cases e
            · rw [e] at e2
              have := (List.cons.inj e2).1
              omega
          · rcases q with q | ⟨w', e, q⟩
            · refine ⟨q.1, ?_⟩
              rcases q.2 with q2 | ⟨b, w2, e2, h3⟩
              · exact Or.inl q2
              · exact Or.inr ⟨b, w2, e2, by omega⟩
            · rw [List.append_assoc] at q
              rw [e]
              exact ⟨q, Or.inr ⟨_, w', rfl, by omega⟩⟩
          · rcases q.2 with q2 | ⟨b, w2, e2, h3⟩
            · exact Or.inl ⟨q.1, Or.inl q2⟩
            · by_cases e : b = (a : Int)
              · refine Or.inr ⟨w2, by rw [e2, e], ?_⟩
                rw [List.append_assoc, ← e]
                have q1 := q.1
                rw [e2] at q1
                exact q1
              · exact Or.inl ⟨q.1, Or.inr ⟨b, w2, e2, by omega⟩⟩
      refine inn 26 0 1 (by omega) (sz_c (sz_1 (sz_0 (S := fun _ => False) (fun _ => id)) (v := []) id) (fun w => ⟨fun q => ?_, fun q => ?_⟩))
      · rcases q with q | q
        · rw [q, List.append_nil]
          exact ⟨(tM_F T).mp ⟨_, ⟨_, ⟨hs, by omega⟩, rfl⟩, List.suffix_refl _⟩, Or.inl rfl⟩
        · exact absurd q id
      · rcases q.2 with q2 | ⟨b, w2, e2, h3⟩
        · exact Or.inl q2
        · have q1 := q.1
          rw [e2] at q1
          have := fac_let C.1 q1 (a := b) (by simp)
          omega
  apply q_X2_countWords_0
  intro D1 e1
  apply q_X0_stateCount_0
  apply mm_pIi
  have r1 : ∀ r, r ≠ 12 → D1 r = D r := fun r h => by rw [e1, mm_wr_row h]
  rw [r1 13 (by decide), j1]
  exact ⟨by constructor <;> omega, lp n.toNat (n - 1) D1 _ _ _ (by omega) (by omega) (fun r h _ => r1 r h) (by rw [e1, mm_wr_eq]) (fun q h1 h2 => by omega)⟩
end SH
