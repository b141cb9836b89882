/-! a letter more: the ends are noted along the links -/
theorem sd_note_o {D : mm_D} {p v : Int} {r : Nat} {k : Int} (h : k ≠ p ∨ (r ≠ 15 ∧ r ≠ 16 ∧ r ≠ 17)) : sd_note D p v r k = D r k := by
  unfold sd_note
  rw [if_neg (by omega), if_neg (by omega), if_neg (by omega)]
theorem sp_gr24 {E : mm_D} {n : Int} {rep : Int → wd} {tx : Nat → wd} (J : au_J E n (-1) rep [] (en_of tx)) {t : Nat} {c v4 : Int} (ht : t < 4) (hl : (tx t).length < 100) {u : Int} {x9 : mm_Xt} {Q : mm_O → mm_H → Prop}
    (H : ∀ D' : mm_D, (∀ r, r ≠ 15 → r ≠ 16 → r ≠ 17 → D' r = E r) → (∀ s r j, au_in n (-1) s → s ≠ 0 → r = 15 ∨ r = 16 ∨ r = 17 → 0 ≤ j ∧ j < 4 → D' r (s * 4 + j) = en_of (txa tx t c) r (rep s) j) → Q (.inl none) (mm_mk D' u x9)) :
    ∀ (m : Nat) (v5 v6 : Int) (D2 : mm_D), (0 ≤ v5 ∧ v5 < n) → rep v5 <:+ tx t ++ [c] → (rep v5).length < m → 0 ≤ v6 → v6 + m ≤ 201 → (∀ r, r ≠ 15 → r ≠ 16 → r ≠ 17 → D2 r = E r) →
      (∀ s r j, au_in n (-1) s → s ≠ 0 → r = 15 ∨ r = 16 ∨ r = 17 → 0 ≤ j ∧ j < 4 → rep s <:+ tx t ++ [c] ∧ (rep v5).length < (rep s).length → D2 r (s * 4 + j) = en_of (txa tx t c) r (rep s) j) →
      (∀ s r j, au_in n (-1) s → s ≠ 0 → r = 15 ∨ r = 16 ∨ r = 17 → 0 ≤ j ∧ j < 4 → ¬ (rep s <:+ tx t ++ [c] ∧ (rep v5).length < (rep s).length) → D2 r (s * 4 + j) = en_of tx r (rep s) j) →
      mt 8 24 [some (mm_P 13), some (mm_I (t : Int)), some (mm_I ((tx t).length : Int)), some (mm_I c), some (mm_I v4), some (mm_I v5), some (mm_I v6)] [] (mm_mk D2 u x9) Q := by
  obtain ⟨j1, j2, j3, j4, j5, j6, j7, j8, j9, j10, j11⟩ := J
  have rep0 : ∀ s, 0 ≤ s ∧ s < n → s ≠ 0 → rep s ≠ [] := fun s h h0 e => h0 (j5 s 0 h (by omega) (by rw [e, j4]))
  intro m
  induction m with
  | zero => intro v5 v6 D2 _ _ h; omega
  | succ m ih =>
    intro v5 v6 D2 hv hsuf hm h6 h62 h1 h2 h3
    apply q_X0_grow_24
    refine ⟨fun q => absurd q (by omega), fun _ => ⟨fun q => ?_, fun q => ?_⟩⟩
    · have e0 : v5 = 0 := by omega
      refine H D2 h1 (fun s r j a b d e => ?_)
      by_cases k : rep s <:+ tx t ++ [c]
      · refine h2 s r j a b d e ⟨k, ?_⟩
        rw [e0, j4]
        exact List.length_pos_iff.mpr (rep0 s a.1 b)
      · rw [h3 s r j a b d e (fun q => k q.1)]
        exact (en_txa_no (Or.inr (Or.inr k))).symm
    · have hv0 : v5 ≠ 0 := by omega
      have iv : au_in n (-1) v5 := ⟨hv, by omega⟩
      have e15 : ∀ r j, r = 15 ∨ r = 16 ∨ r = 17 → 0 ≤ j ∧ j < 4 → D2 r (v5 * 4 + j) = en_of tx r (rep v5) j := fun r j a b => h3 v5 r j iv hv0 a b (fun q => by omega)
      have tj : (0 : Int) ≤ (t : Int) ∧ (t : Int) < 4 := by omega
      have nb := en_b tx (rep v5) (t : Int)
      have tt : ((t : Int)).toNat = t := rfl
      rw [tt] at nb
      refine sp_note _ _ _ (by omega) tj ?_ ?_
      · rw [e15 15 t (Or.inl rfl) tj]
        constructor <;> omega
      apply mm_pVi
      apply sp_link
      apply mm_pIi
      have elk : sd_link (sd_note D2 (v5 * 4 + (t : Int)) ((tx t).length : Int)) v5 = E 20 v5 := by
        have : sd_link (sd_note D2 (v5 * 4 + (t : Int)) ((tx t).length : Int)) v5 = sd_note D2 (v5 * 4 + (t : Int)) ((tx t).length : Int) 20 v5 := if_pos (by omega)
        rw [this, sd_note_o (Or.inr (by decide)), h1 20 (by decide) (by decide) (by decide)]
      rw [elk]
      obtain ⟨l1, l2, l3, l4, l5⟩ := j10 v5 iv hv0
      have ll : (rep (E 20 v5)).length < (rep v5).length := by
        have := l3.length_le
        by_cases q2 : (rep (E 20 v5)).length = (rep v5).length
        · exact absurd (l3.eq_of_length q2) l4
        · omega
      refine ⟨by constructor <;> omega, ih (E 20 v5) (v6 + 1) _ l1.1 (l3.trans hsuf) (by omega) (by omega) (by omega) (fun r a b d => ?_) (fun s r j a b d e k => ?_) (fun s r j a b d e k => ?_)⟩
      · rw [← h1 r a b d]
        funext k
        exact sd_note_o (Or.inr ⟨a, b, d⟩)
      · by_cases qs : s = v5
        · subst qs
          by_cases qj : j = (t : Int)
          · subst qj
            obtain ⟨y1, y2, y3⟩ := en_txa_yes (tx := tx) (t := t) (c := c) (rep0 s hv hv0) hsuf
            have z1 := e15 15 _ (Or.inl rfl) e
            have z2 := e15 16 _ (Or.inr (Or.inl rfl)) e
            rcases d with rfl | rfl | rfl
            · rw [y1, ← z1]
              unfold sd_note
              rw [if_pos ⟨rfl, rfl⟩]
            · rw [y3, ← z1, ← z2]
              unfold sd_note
              rw [if_neg (by omega), if_neg (by omega)]
              by_cases q0 : D2 15 (s * 4 + (t : Int)) = 0
              · rw [if_pos ⟨rfl, rfl, q0⟩, if_pos q0]
              · rw [if_neg (fun q => q0 q.2.2), if_neg q0]
            · rw [y2]
              unfold sd_note
              rw [if_neg (by omega), if_pos ⟨rfl, rfl⟩]
          · rw [sd_note_o (Or.inl (by omega)), e15 r j d e]
            exact (en_txa_no (Or.inl (by omega))).symm
        · rw [sd_note_o (Or.inl (by omega))]
          refine h2 s r j a b d e ⟨k.1, ?_⟩
          by_cases q2 : (rep v5).length < (rep s).length
          · exact q2
          · exfalso
            have s5 := ws_cmp k.1 hsuf (by omega)
            have s7 : rep s ≠ rep v5 := fun q3 => qs (j5 _ _ a.1 hv q3)
            have s9 := (l5 _ ⟨s, a, rfl⟩ s5 s7).length_le
            omega
      · have qs : s ≠ v5 := by
          intro q
          rw [q] at k
          exact k ⟨hsuf, ll⟩
        rw [sd_note_o (Or.inl (by omega))]
        exact h3 s r j a b d e (fun q => k ⟨q.1, by omega⟩)
theorem sp_grow {D : mm_D} {n : Int} {rep : Int → wd} {tx : Nat → wd} (J : au_J D n (-1) rep [] (en_of tx)) (hO : au_O D n) (hT : tM tx (au_M n (-1) rep)) (hW : ∀ j : Nat, j < 4 → (0 ≤ D 22 (j : Int) ∧ D 22 (j : Int) < n) ∧ rep (D 22 (j : Int)) = tx j) {t : Nat} {c : Int} (ht : t < 4) (hc : 0 ≤ c ∧ c < 26) (hn : n < 200) (hl : (tx t).length < 100) {u : Int} {x9 : mm_Xt} {Q : mm_O → mm_H → Prop}
    (H : ∀ (D' : mm_D) (n' : Int) (rep' : Int → wd), au_J D' n' (-1) rep' [] (en_of (txa tx t c)) → au_O D' n' → tM (txa tx t c) (au_M n' (-1) rep') → (n ≤ n' ∧ n' ≤ n + 2) → (∀ j : Nat, j < 4 → (0 ≤ D' 22 (j : Int) ∧ D' 22 (j : Int) < n') ∧ rep' (D' 22 (j : Int)) = txa tx t c j) → (∀ r, r < 13 ∨ 23 ≤ r → D' r = D r) → Q (.inl none) (mm_mk D' u x9)) :
    mt 8 0 [some (mm_P 13), some (mm_I (t : Int)), some (mm_I ((tx t).length : Int)), some (mm_I c), none, none, none] [] (mm_mk D u x9) Q := by
  apply q_X0_grow_0
  apply sp_within
  apply mm_pIi
  have w1 : (0 : Int) ≤ (t : Int) ∧ (t : Int) < ((4 : Nat) : Int) := by omega
  rw [sd_b1 w1]
  refine ⟨fun _ => ⟨by omega, by omega, ?_⟩, fun q => absurd (by decide) q⟩
  obtain ⟨w2, w3⟩ := hW t ht
  refine sp_extend J hO w2 hc hn (by rw [w3]; omega) (fun w d a b r j => tM_en hT a b r j) (fun a j => en_nofac (fun q => a ((tM_F hT).mpr q)) j) ?_
  intro D1 n1 v rep1 p a1 a2 a3 a4 a5 a6 a7 a8 a9 a10
  rw [w3] at a4 a5 a6
  apply mm_pIi
  refine ⟨by omega, by omega, fun D2 e2 => ?_⟩
  have r2 : ∀ r, r ≠ 22 → D2 r = D1 r := fun r h => by rw [e2, mm_wr_row h]
  have hT1 : tM (txa tx t c) (au_M n1 (-1) rep1) := by rw [a6]; exact tM_ext hT a5
  have J1 := a1
  obtain ⟨j1, j2, j3, j4, j5, j6, j7, j8, j9, j10, j11⟩ := a1
  have J2 : au_J D2 n1 (-1) rep1 [] (en_of tx) := by
    unfold au_J at J1 ⊢
    rw [r2 13 (by decide), r2 18 (by decide), r2 19 (by decide), r2 20 (by decide)]
    obtain ⟨b1, b2, b3, b4, b5, b6, b7, b8, b9, b10, b11⟩ := J1
    refine ⟨b1, b2, b3, b4, b5, b6, b7, b8, b9, b10, fun s r j q1 q2 q3 q4 => ?_⟩
    rw [r2 r (by omega)]
    exact b11 s r j q1 q2 q3 q4
  have hlX : (rep1 v).length = (tx t).length + 1 := by rw [a4, List.length_append, List.length_singleton]
  refine sp_gr24 J2 ht hl ?_ ((rep1 v).length + 1) v 0 D2 a3 (by rw [a4]; exact List.suffix_refl _) (by omega) (by decide) (by omega) (fun _ _ _ _ => rfl) (fun s r j _ _ _ _ k => ?_) (fun s r j q1 q2 q3 q4 _ => ?_)
  · intro D' d1 d2
    refine H D' n1 rep1 ?_ ?_ hT1 a7 (fun j hj => ?_) (fun r hr => ?_)
    · refine ⟨?_, j2, j3, j4, j5, j6, fun s h => ?_, fun s a h1 h2 => ?_, ?_, fun s h1 h2 => ?_, d2⟩
      · rw [d1 13 (by decide) (by decide) (by decide), r2 13 (by decide)]
        exact j1
      · rw [d1 19 (by decide) (by decide) (by decide), r2 19 (by decide)]
        exact j7 s h
      · rw [d1 18 (by decide) (by decide) (by decide), r2 18 (by decide)]
        exact j8 s a h1 h2
      · rw [d1 20 (by decide) (by decide) (by decide), r2 20 (by decide)]
        exact j9
      · rw [d1 20 (by decide) (by decide) (by decide), r2 20 (by decide)]
        exact j10 s h1 h2
    · refine au_O_row ?_ ?_ a2
      · rw [d1 21 (by decide) (by decide) (by decide), r2 21 (by decide)]
      · rw [d1 19 (by decide) (by decide) (by decide), r2 19 (by decide)]
    · rw [d1 22 (by decide) (by decide) (by decide), e2]
      by_cases q : j = t
      · rw [q, mm_wr_eq, txa_t]
        exact ⟨a3, a4⟩
      · rw [mm_wr_k (by omega), txa_o tx c q, a9 22 (by decide)]
        obtain ⟨k1, k2⟩ := hW j hj
        rw [a8 _ k1]
        exact ⟨by omega, k2⟩
    · rw [d1 r (by omega) (by omega) (by omega), r2 r (by omega), a9 r (by omega)]
  · have := k.1.length_le
    rw [List.length_append, List.length_singleton] at this
    omega
  · rw [r2 r (by omega)]
    exact j11 s r j q1 q2 q3 q4
