/-! the class: missing -/
def sv_ab (m : Int) (z : wd) : Prop := ∀ a, a ∈ z → 0 ≤ a ∧ a < m
def sv_V3 (tx : Nat → wd) (m : Int) (w : wd) (r : Int) : Prop := (¬ fac tx w ∧ r = 0) ∨ (fac tx w ∧ (∃ z : wd, sv_ab m z ∧ (z.length : Int) = r ∧ ¬ fac tx (w ++ z)) ∧ ∀ z : wd, sv_ab m z → ¬ fac tx (w ++ z) → r ≤ (z.length : Int))
theorem ab_nil (m : Int) : sv_ab m [] := fun a h => absurd h (by simp)
theorem ab_cons {m a : Int} {z : wd} : sv_ab m (a :: z) ↔ (0 ≤ a ∧ a < m) ∧ sv_ab m z := by
  constructor
  · exact fun h => ⟨h a (by simp), fun b hb => h b (List.mem_cons_of_mem _ hb)⟩
  · rintro ⟨h1, h2⟩ b hb
    rcases List.mem_cons.mp hb with hb | hb
    · rw [hb]
      exact h1
    · exact h2 b hb
theorem ab_app {m : Int} {z z' : wd} : sv_ab m (z ++ z') ↔ sv_ab m z ∧ sv_ab m z' := by
  constructor
  · exact fun h => ⟨fun b hb => h b (List.mem_append_left _ hb), fun b hb => h b (List.mem_append_right _ hb)⟩
  · rintro ⟨h1, h2⟩ b hb
    rcases List.mem_append.mp hb with hb | hb
    · exact h1 b hb
    · exact h2 b hb
theorem ab_rep {m : Int} (h : 1 ≤ m) (n : Nat) : sv_ab m (List.replicate n 0) := by
  intro a ha
  rw [List.eq_of_mem_replicate ha]
  omega
section SK
variable {D : mm_D} {u : Int} {x : mm_Xt} {Q : mm_O → mm_H → Prop} {tx : Nat → wd} {k : Int} {P : wd} {n : Int} {rep : Int → wd} {m : Int}
theorem sv_V3a (w : wd) (h : ¬ fac tx w) : sv_V3 tx m w 0 := Or.inl ⟨h, rfl⟩
theorem sv_V3b (T : tM tx (au_M n (-1) rep)) (w c : wd) (r : Int) (h : wm_cl (au_M n (-1) rep) w c) (q : sv_V3 tx m c r) : sv_V3 tx m w r := by
  have e := fun z => (fac_cl T (z := z) h).1
  have e0 := e []
  rw [List.append_nil, List.append_nil] at e0
  rcases q with ⟨q1, q2⟩ | ⟨q1, ⟨z, q2, q3, q5⟩, q4⟩
  · exact Or.inl ⟨fun y => q1 (e0.mp y), q2⟩
  · exact Or.inr ⟨e0.mpr q1, ⟨z, q2, q3, fun y => q5 ((e z).mp y)⟩, fun z a y => q4 z a (fun t => y ((e z).mpr t))⟩
theorem sv_V3n (T : sv_T tx k P) (hm : 1 ≤ m) {w : wd} {r : Int} (h : sv_V3 tx m w r) : 0 ≤ r ∧ r + (w.length : Int) ≤ 101 ∨ (0 ≤ r ∧ r ≤ 0) := by
  rcases h with ⟨_, h⟩ | ⟨h0, ⟨z, h1, h2, h3⟩, h4⟩
  · right
    omega
  · left
    have l1 := fac_len T h0
    have := h4 (List.replicate (101 - w.length) 0) (ab_rep hm _) (fun f => by
      have := fac_len T f
      rw [List.length_append, List.length_replicate] at this
      omega)
    rw [List.length_replicate] at this
    omega
theorem sp_measureGaps (hm : 1 ≤ m ∧ m ≤ 26) (C : sv_C D tx k P) (J : au_J D n (-1) rep [] (en_of tx)) (O : au_O D n) (T : tM tx (au_M n (-1) rep)) (H : ∀ D', (∀ r, r ≠ 12 → r ≠ 23 → D' r = D r) → D' 12 2 = 0 → (∀ q, -1 < q → q < n → sv_V3 tx m (rep (D 21 q)) (D' 23 (D 21 q))) → Q (.inl none) (mm_mk D' u x)) : mt 28 0 [some (mm_P 12), some (mm_I m), none, none, none, none] [] (mm_mk D u x) Q := by
  have j1 := J.1
  have j2 := J.2.1
  have lp : ∀ (y : Nat) (p : Int) (D2 : mm_D) (o2 o3 o4 : Option mm_V), p + 1 = y → p < n → (∀ r, r ≠ 12 → r ≠ 23 → D2 r = D r) → D2 12 2 = 0 → (∀ q, p < q → q < n → sv_V3 tx m (rep (D 21 q)) (D2 23 (D 21 q))) → mt 28 9 [some (mm_P 12), some (mm_I m), some (mm_I p), o2, o3, o4] [] (mm_mk D2 u x) Q := by
    intro y
    induction y with
    | zero =>
      intro p D2 o2 o3 o4 hp hn hr h12 inv
      apply q_X2_measureGaps_9
      have : p = -1 := by omega
      rw [this] at inv
      exact ⟨fun _ => H D2 hr h12 inv, fun q => absurd q (by omega)⟩
    | succ y ih =>
      intro p D2 o2 o3 o4 hp hn hr h12 inv
      apply q_X2_measureGaps_9
      refine ⟨fun q => absurd q (by omega), fun _ => ?_⟩
      apply sp_stateAt
      apply mm_pIi
      rw [hr 13 (by decide) (by decide), hr 21 (by decide) (by decide), j1, if_pos (by omega)]
      have hs := O.1 p (by omega) hn
      have fs : fac tx (rep (D 21 p)) := (tM_F T).mp ⟨_, ⟨_, ⟨hs, by omega⟩, rfl⟩, List.suffix_refl _⟩
      have inn : ∀ (z : Nat) (a : Nat) (v4 : Int), a + z = m.toNat → (0 ≤ v4 ∧ v4 ≤ 100) → (∀ (b : Int) (w : wd), 0 ≤ b → b < (a : Int) → sv_ab m w → ¬ fac tx (rep (D 21 p) ++ b :: w) → v4 ≤ (w.length : Int)) → (v4 = 100 ∨ ∃ (b : Int) (w : wd), 0 ≤ b ∧ b < (a : Int) ∧ sv_ab m w ∧ ¬ fac tx (rep (D 21 p) ++ b :: w) ∧ (w.length : Int) = v4) → mt 28 20 [some (mm_P 12), some (mm_I m), some (mm_I p), some (mm_I (D 21 p)), some (mm_I v4), some (mm_I (a : Int))] [] (mm_mk D2 u x) Q := by
        intro z
        induction z with
        | zero =>
          intro a v4 ha h4 hA hB
          apply q_X2_measureGaps_20
          refine ⟨fun _ => ⟨by constructor <;> omega, ?_⟩, fun q => absurd q (by omega)⟩
          apply sp_putAhead _ _ (by omega) (by omega)
          apply mm_pVi
          refine ⟨by constructor <;> omega, ?_⟩
          rw [show p + -1 = p - 1 by omega]
          refine ih (p - 1) _ _ _ _ (by omega) (by omega) (fun r h1 h2 => by rw [mm_wr_row h2]; exact hr r h1 h2) (by rw [mm_wr_r (by decide)]; exact h12) (sv_put O ⟨by omega, hn⟩ inv (Or.inr ⟨fs, ?_, fun w hw1 hw2 => ?_⟩))
          · rcases hB with hB | ⟨b, w, h1, h2, h3, h5, h6⟩
            · refine ⟨List.replicate 101 0, ab_rep hm.1 _, by rw [List.length_replicate, hB]; rfl, fun f => ?_⟩
              have := fac_len C.1 f
              rw [List.length_append, List.length_replicate] at this
              omega
            · exact ⟨b :: w, ab_cons.mpr ⟨⟨h1, by omega⟩, h3⟩, by rw [List.length_cons]; omega, h5⟩
          · cases w with
            | nil => exact absurd (by rw [List.append_nil]; exact fs) hw2
            | cons b w =>
              obtain ⟨h1, h2⟩ := ab_cons.mp hw1
              have := hA b w h1.1 (by omega) h2 hw2
              rw [List.length_cons]
              omega
        | succ z ih2 =>
          intro a v4 ha h4 hA hB
          apply q_X2_measureGaps_20
          refine ⟨fun q => absurd q (by omega), fun _ => ?_⟩
          apply sp_step
          apply mm_pIi
          apply sp_aheadOf
          apply mm_pIi
          have hv := sv_ah J O T hr h12 sv_V3a (sv_V3b T) ⟨by omega, hn⟩ inv (a := (a : Int)) (by omega)
          have hb := sv_V3n C.1 hm.1 hv
          generalize sd_aot D2 (sd_step D2 (D 21 p) (a : Int)) = r at *
          have ea : ∀ y : wd, rep (D 21 p) ++ (a : Int) :: y = (rep (D 21 p) ++ [(a : Int)]) ++ y := fun y => by rw [List.append_assoc]; rfl
          refine ⟨by constructor <;> omega, ih2 (a + 1) _ (by omega) (by split <;> omega) (fun b w h0 h1 h2 h3 => ?_) ?_⟩
          · by_cases e : b = (a : Int)
            · rw [e, ea] at h3
              have : r ≤ (w.length : Int) := by
                rcases hv with ⟨q1, q2⟩ | ⟨q1, q2, q3⟩
                · omega
                · exact q3 w h2 h3
              split <;> omega
            · have := hA b w h0 (by omega) h2 h3
              split <;> omega
          · by_cases c : r < v4
            · rw [if_pos c]
              rcases hv with ⟨q1, q2⟩ | ⟨q1, ⟨w, q2, q4, q5⟩, q3⟩
              · exact Or.inr ⟨a, [], by omega, by omega, ab_nil m, q1, by rw [q2]; rfl⟩
              · exact Or.inr ⟨a, w, by omega, by omega, q2, by rw [ea]; exact q5, q4⟩
            · rw [if_neg c]
              rcases hB with hB | ⟨b, w, h0, h1, h2, h3⟩
              · exact Or.inl hB
              · exact Or.inr ⟨b, w, h0, by omega, h2, h3⟩
      exact inn m.toNat 0 100 (by omega) (by decide) (fun b w h0 h1 => by omega) (Or.inl rfl)
  apply q_X2_measureGaps_0
  intro D1 e1
  apply q_X0_stateCount_0
  apply mm_pIi
  have r1 : ∀ r, r ≠ 12 → D1 r = D r := fun r h => by rw [e1, mm_wr_row h]
  rw [r1 13 (by decide), j1]
  exact ⟨by constructor <;> omega, lp n.toNat (n - 1) D1 _ _ _ (by omega) (by omega) (fun r h _ => r1 r h) (by rw [e1, mm_wr_eq]) (fun q h1 h2 => by omega)⟩
/-- what missing looks for -/
def sv_mis (tx : Nat → wd) (m : Int) (W : wd) : Prop := sv_ab m W ∧ ¬ fac tx W ∧ (∀ W2, sv_ab m W2 → ¬ fac tx W2 → W.length ≤ W2.length) ∧ ∀ W2, sv_ab m W2 → ¬ fac tx W2 → W2.length = W.length → W = W2 ∨ lx W W2
theorem mis_uniq {W W' : wd} (h : sv_mis tx m W) (h' : sv_mis tx m W') : W = W' := by
  have e : W'.length = W.length := Nat.le_antisymm (h'.2.2.1 _ h.1 h.2.1) (h.2.2.1 _ h'.1 h'.2.1)
  rcases h.2.2.2 W' h'.1 h'.2.1 e with q | q
  · exact q
  · rcases h'.2.2.2 W h.1 h.2.1 e.symm with q2 | q2
    · exact q2.symm
    · exact absurd q2 (lx_asy q)
theorem cs_missing (C : sv_C D tx k P) (H1 : 1 ≤ m → m ≤ 26 → ∀ D' W, sv_F D D' → sv_C D' tx k W → sv_mis tx m W → Q (.inl (some (mm_I (W.length : Int)))) (mm_mk D' u x)) (H2 : ¬ (1 ≤ m ∧ m ≤ 26) → Q (.inr 1) (mm_mk D u (sv_thr x))) : mt 69 0 [some (mm_P 0), some (mm_I m)] [] (mm_mk D u x) Q := by
  have w10 : mm_isW 10 := by unfold mm_isW; omega
  apply q_X4_missing_0
  refine ⟨fun q => H2 (fun y => by omega), fun q => ⟨fun q2 => ?_, fun q2 => H2 (fun y => by omega)⟩⟩
  have hm : 1 ≤ m ∧ m ≤ 26 := ⟨by omega, by omega⟩
  obtain ⟨n, rep, J, O, T, N, W⟩ := C.2.2.2.2
  refine sp_measureGaps hm C J O T (fun D1 r1 h12 inv => ?_)
  apply mm_pVi
  have C1 : sv_C D1 tx k P := sv_C_row (fun r _ h1 h2 => r1 r h1 h2) C
  have J1 : au_J D1 n (-1) rep [] (en_of tx) := au_J_row (fun r h => r1 r (by omega) (by omega)) J
  have hV : ∀ w v, sv_st n rep w v → sv_V3 tx m w (sd_aot D1 v) := fun w v h => sv_ahF J O T h12 sv_V3a (sv_V3b T) inv h
  have h0 := hV [] 0 (sv_root J1)
  have hb := sv_V3n C.1 hm.1 h0
  rcases h0 with ⟨q1, _⟩ | ⟨_, ⟨z0, q2, q4, q5⟩, q3⟩
  · exact absurd (fac_nil tx) q1
  · rw [List.nil_append] at q5
    simp only [List.nil_append] at q3
    refine sp_way (S := fun W => (sv_ab m W ∧ ¬ fac tx W) ∧ W.length = z0.length) (M := z0.length) (bd := m) C1 J1 (fun W h => ⟨h.2, h.1.1⟩) hm.2 (by rw [List.length_nil] at hb; omega) (fun w v a left h1 h2 h3 h4 h5 h6 => ?_) q4.symm ⟨z0, ⟨q2, q5⟩, rfl⟩ (fun D' W r3 C3 h1 h2 => ?_)
    · have hv := hV _ _ (sv_step J1 h1 (a := a) ⟨h5, by omega⟩)
      obtain ⟨W0, ⟨⟨g1, g2⟩, g3⟩, s0, e0⟩ := h2
      have abw : sv_ab m (w ++ [a]) := by
        rw [← e0] at g1
        exact ab_app.mpr ⟨(ab_app.mp g1).1, ab_cons.mpr ⟨⟨h5, h6⟩, ab_nil m⟩⟩
      constructor
      · intro e
        rcases hv with ⟨y1, y2⟩ | ⟨y1, ⟨z, y2, y4, y5⟩, y3⟩
        · refine ⟨w ++ [a], ⟨⟨abw, y1⟩, ?_⟩, List.prefix_refl _⟩
          rw [List.length_append, List.length_singleton]
          omega
        · refine ⟨(w ++ [a]) ++ z, ⟨⟨ab_app.mpr ⟨abw, y2⟩, y5⟩, ?_⟩, List.prefix_append _ _⟩
          rw [List.length_append, List.length_append, List.length_singleton]
          omega
      · rintro ⟨W, ⟨⟨y6, y7⟩, y8⟩, z, e⟩
        rw [← e] at y6 y7 y8
        rw [List.length_append, List.length_append, List.length_singleton] at y8
        rcases hv with ⟨y1, y2⟩ | ⟨y1, ⟨z', y2, y4, y5⟩, y3⟩
        · have := q3 (w ++ [a]) abw y1
          rw [List.length_append, List.length_singleton] at this
          omega
        · have := y3 z (ab_app.mp y6).2 y7
          have := q3 ((w ++ [a]) ++ z') (ab_app.mpr ⟨abw, y2⟩) y5
          rw [List.length_append, List.length_append, List.length_singleton] at this
          omega
    · apply mm_pVi
      apply sp_size w10
      apply mm_pIi
      rw [C3.2.2.2.1.1]
      refine H1 hm.1 hm.2 D' W (fun r h => by rw [r3 r (by omega) (by omega), r1 r (by omega) (by omega)]) C3 ⟨h1.1.1, h1.1.2, fun W2 a b => ?_, fun W2 a b e => h2 W2 ⟨⟨a, b⟩, by rw [e]; exact h1.2⟩⟩
      have := q3 W2 a b
      have := h1.2
      omega
end SK
