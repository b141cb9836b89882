/-! the reference: how it holds the texts, and its small methods -/
def sv_R (D : mm_D) (tx : Nat → wd) (k : Int) (P : wd) : Prop := sv_T tx k P ∧ (D 24 3 = k ∧ D 24 4 = sv_tot tx) ∧ (∀ j : Nat, (j : Int) < k → D 26 (j : Int) = ((tx j).length : Int) ∧ sv_lay D 25 (100 * (j : Int)) (tx j)) ∧ (D 24 6 = (P.length : Int) ∧ sv_lay D 27 0 P)
def sv_E (D D' : mm_D) : Prop := ∀ r, r < 24 → D' r = D r
theorem sv_E_r (D : mm_D) : sv_E D D := fun _ _ => rfl
theorem sv_E_t {D D' D'' : mm_D} (h : sv_E D D') (h' : sv_E D' D'') : sv_E D D'' := fun r hr => (h' r hr).trans (h r hr)
theorem sv_E_w {D : mm_D} {r : Nat} {p v : Int} (h : 24 ≤ r) : sv_E D (mm_wr D r p v) := fun r' hr => mm_wr_row (by omega)
theorem sv_E_ww {D D' : mm_D} {r : Nat} {p v : Int} (k : sv_E D D') (h : 24 ≤ r) : sv_E D (mm_wr D' r p v) := sv_E_t k (sv_E_w h)
theorem sv_R_row {D D' : mm_D} {tx : Nat → wd} {k : Int} {P : wd} (R : sv_R D tx k P) (h3 : D' 24 3 = D 24 3) (h4 : D' 24 4 = D 24 4) (h6 : D' 24 6 = D 24 6) (h25 : D' 25 = D 25) (h26 : D' 26 = D 26) (h27 : D' 27 = D 27) : sv_R D' tx k P := by
  obtain ⟨r1, r2, r3, r4⟩ := R
  refine ⟨r1, by rw [h3, h4]; exact r2, fun j hj => ⟨by rw [h26]; exact (r3 j hj).1, sv_lay_row h25 (r3 j hj).2⟩, by rw [h6]; exact r4.1, sv_lay_row h27 r4.2⟩
theorem sv_R_f {D : mm_D} {tx : Nat → wd} {k : Int} {P : wd} (R : sv_R D tx k P) {p v : Int} (h : p ≠ 3 ∧ p ≠ 4 ∧ p ≠ 6) : sv_R (mm_wr D 24 p v) tx k P := sv_R_row R (mm_wr_k (Ne.symm h.1)) (mm_wr_k (Ne.symm h.2.1)) (mm_wr_k (Ne.symm h.2.2)) (mm_wr_row (by decide)) (mm_wr_row (by decide)) (mm_wr_row (by decide))
theorem sv_R_x {D : mm_D} {tx : Nat → wd} {k : Int} {P : wd} (R : sv_R D tx k P) {r : Nat} {p v : Int} (h : r = 28 ∨ r = 29) : sv_R (mm_wr D r p v) tx k P := by
  rcases h with rfl | rfl <;> exact sv_R_row R (mm_wr_r (by decide)) (mm_wr_r (by decide)) (mm_wr_r (by decide)) (mm_wr_row (by decide)) (mm_wr_row (by decide)) (mm_wr_row (by decide))
section RA
variable {D : mm_D} {u : Int} {x : mm_Xt} {Q : mm_O → mm_H → Prop} {tx : Nat → wd} {k : Int} {P : wd}
theorem sv_txt (R : sv_R D tx k P) {t : Int} (h : 0 ≤ t ∧ t < k) : D 26 t = ((tx t.toNat).length : Int) ∧ sv_lay D 25 (100 * t) (tx t.toNat) := by
  have := R.2.2.1 t.toNat (by omega)
  rw [Int.toNat_of_nonneg h.1] at this
  exact this
theorem rp_thrown (H : Q (.inl (some (mm_I (D 24 0)))) (mm_mk D u x)) : mt 77 0 [some (mm_P 24)] [] (mm_mk D u x) Q := q_X5_thrown_0 H
theorem rp_holds (v : Int) (H : Q (.inl (some (mm_I (sd_b (v = 0))))) (mm_mk (mm_wr D 24 0 v) u x)) : mt 78 0 [some (mm_P 24), some (mm_I v)] [] (mm_mk D u x) Q := by
  apply q_X5_holds_0
  intro D1 e
  subst e
  refine ⟨fun q => ?_, fun q => ?_⟩
  · rwa [sd_b0 q] at H
  · rwa [sd_b1 (Decidable.not_not.mp q)] at H
theorem rp_isText (v : Int) (H : Q (.inl (some (mm_I (sd_b (0 ≤ v ∧ v < D 24 3))))) (mm_mk D u x)) : mt 79 0 [some (mm_P 24), some (mm_I v)] [] (mm_mk D u x) Q := by
  apply q_X5_isText_0
  refine ⟨fun q => ?_, fun q => ⟨fun q2 => ?_, fun q2 => ?_⟩⟩
  · rwa [sd_b0 (by omega)] at H
  · rwa [sd_b0 (by omega)] at H
  · rwa [sd_b1 (by omega)] at H
theorem rp_isLetter (v : Int) (H : Q (.inl (some (mm_I (sd_b (0 ≤ v ∧ v < 26))))) (mm_mk D u x)) : mt 82 0 [some (mm_I v)] [] (mm_mk D u x) Q := by
  apply q_X5_isLetter_0
  refine ⟨fun q => ?_, fun q => ⟨fun q2 => ?_, fun q2 => ?_⟩⟩
  · rwa [sd_b0 (by omega)] at H
  · rwa [sd_b0 (by omega)] at H
  · rwa [sd_b1 (by omega)] at H
theorem rs_clear (H : ∀ D', sv_E D D' → sv_R D' tx0 0 [] → D' 24 0 = 0 → Q (.inl none) (mm_mk D' u x)) : mt 80 0 [some (mm_P 24)] [] (mm_mk D u x) Q := by
  apply q_X5_clear_0
  intro D1 e1 D2 e2 D3 e3 D4 e4
  subst e1 e2 e3 e4
  exact H _ (sv_E_ww (sv_E_ww (sv_E_ww (sv_E_w (by decide)) (by decide)) (by decide)) (by decide)) ⟨sv_T0, ⟨rfl, rfl⟩, fun j hj => by omega, rfl, fun i h => absurd h (by simp)⟩ rfl
theorem rs_begin (R : sv_R D tx k P) (H1 : k < 4 → ∀ D', sv_E D D' → sv_R D' tx (k + 1) P → D' 24 0 = 0 → Q (.inl (some (mm_I k))) (mm_mk D' u x)) (H2 : ¬ k < 4 → ∀ D' r, sv_E D D' → sv_R D' tx k P → D' 24 0 = 1 → Q (.inl (some (mm_I r))) (mm_mk D' u x)) : mt 81 0 [some (mm_P 24)] [] (mm_mk D u x) Q := by
  have R0 := R
  obtain ⟨r1, r2, r3, r4⟩ := R
  have k4 := r1.1
  apply q_X5_open_0
  rw [r2.1]
  refine ⟨fun q => ?_, fun q => ?_⟩
  · apply rp_holds
    apply mm_pIi
    rw [sd_b1 rfl]
    refine ⟨fun _ => ?_, fun y => absurd (by decide) y⟩
    have e3 : mm_wr D 24 0 0 24 3 = k := by rw [mm_wr_k (by decide)]; exact r2.1
    rw [e3]
    refine ⟨by omega, by omega, fun D7 e7 => ?_⟩
    have e73 : D7 24 3 = k := by rw [e7, mm_wr_r (by decide)]; exact e3
    rw [e73]
    refine ⟨by constructor <;> omega, fun D9 e9 => ?_⟩
    have e93 : D9 24 3 = k + 1 := by rw [e9, mm_wr_eq]
    rw [e93, show k + 1 - 1 = k by omega]
    refine ⟨by constructor <;> omega, H1 (by omega) D9 ?_ ⟨⟨by omega, r1.2.1, r1.2.2.1, r1.2.2.2.1, r1.2.2.2.2.1, fun j hj => r1.2.2.2.2.2 j (by omega)⟩, ⟨e93, ?_⟩, fun j hj => ?_, ?_, ?_⟩ ?_⟩
    · rw [e9, e7]
      exact sv_E_ww (sv_E_ww (sv_E_w (by decide)) (by decide)) (by decide)
    · rw [e9, mm_wr_k (by decide), e7, mm_wr_r (by decide), mm_wr_k (by decide)]
      exact r2.2
    · refine ⟨?_, sv_lay_row (D := D) ?_ ?_⟩
      · rw [e9, mm_wr_r (by decide), e7]
        by_cases q2 : (j : Int) = k
        · rw [q2, mm_wr_eq, r1.2.2.2.2.2 j (by omega)]
          rfl
        · rw [mm_wr_k q2, mm_wr_r (by decide)]
          exact (r3 j (by omega)).1
      · rw [e9, mm_wr_row (by decide), e7, mm_wr_row (by decide), mm_wr_row (by decide)]
      · by_cases q2 : (j : Int) = k
        · rw [r1.2.2.2.2.2 j (by omega)]
          exact fun i h => absurd h (by simp)
        · exact (r3 j (by omega)).2
    · rw [e9, mm_wr_k (by decide), e7, mm_wr_r (by decide), mm_wr_k (by decide)]
      exact r4.1
    · refine sv_lay_row (D := D) ?_ r4.2
      rw [e9, mm_wr_row (by decide), e7, mm_wr_row (by decide), mm_wr_row (by decide)]
    · rw [e9, mm_wr_k (by decide), e7, mm_wr_r (by decide), mm_wr_eq]
  · apply rp_holds
    apply mm_pIi
    rw [sd_b0 (by decide)]
    refine ⟨fun y => absurd rfl y, fun _ => ?_⟩
    exact H2 (by omega) _ _ (sv_E_w (by decide)) (sv_R_f R0 (by decide)) (mm_wr_eq _ _ _ _)
theorem rs_append {t a : Int} (R : sv_R D tx k P) (H1 : 0 ≤ t → t < k → 0 ≤ a → a < 26 → sv_tot tx < 100 → ∀ D', sv_E D D' → sv_R D' (txa tx t.toNat a) k P → D' 24 0 = 0 → Q (.inl (some (mm_I (((tx t.toNat).length : Int) + 1)))) (mm_mk D' u x)) (H2 : ∀ c, (¬ (0 ≤ t ∧ t < k) ∧ c = 1) ∨ ((0 ≤ t ∧ t < k) ∧ ¬ (0 ≤ a ∧ a < 26) ∧ c = 2) ∨ ((0 ≤ t ∧ t < k) ∧ (0 ≤ a ∧ a < 26) ∧ ¬ sv_tot tx < 100 ∧ c = 3) → ∀ D' r, sv_E D D' → sv_R D' tx k P → D' 24 0 = c → Q (.inl (some (mm_I r))) (mm_mk D' u x)) : mt 83 0 [some (mm_P 24), some (mm_I t), some (mm_I a)] [] (mm_mk D u x) Q := by
  have R0 := R
  obtain ⟨r1, r2, r3, r4⟩ := R
  have k4 := r1.1
  have thr : ∀ c, c ≠ 0 → ((¬ (0 ≤ t ∧ t < k) ∧ c = 1) ∨ ((0 ≤ t ∧ t < k) ∧ ¬ (0 ≤ a ∧ a < 26) ∧ c = 2) ∨ ((0 ≤ t ∧ t < k) ∧ (0 ≤ a ∧ a < 26) ∧ ¬ sv_tot tx < 100 ∧ c = 3)) → ∀ (G : mm_D → Int → mm_Xt → Prop), mt 78 0 [some (mm_P 24), some (mm_I c)] [] (mm_mk D u x) (mm_pI fun r D9 u10 x11 => (¬ r = 0 → G D9 u10 x11) ∧ (¬ ¬ r = 0 → Q (.inl (some (mm_I 0))) (mm_mk D9 u10 x11))) := by
    intro c hc h G
    apply rp_holds
    apply mm_pIi
    rw [sd_b0 hc]
    exact ⟨fun y => absurd rfl y, fun _ => H2 c h _ _ (sv_E_w (by decide)) (sv_R_f R0 (by decide)) (mm_wr_eq _ _ _ _)⟩
  apply q_X5_append_0
  apply rp_isText
  apply mm_pIi
  rw [r2.1]
  by_cases q : 0 ≤ t ∧ t < k
  · rw [sd_b1 q]
    refine ⟨fun _ => ?_, fun y => absurd (by decide) y⟩
    apply rp_isLetter
    apply mm_pIi
    by_cases qa : 0 ≤ a ∧ a < 26
    · rw [sd_b1 qa]
      refine ⟨fun _ => ⟨fun q4 => ?_, fun q4 => ?_⟩, fun y => absurd (by decide) y⟩
      · rw [r2.2] at q4
        have tl := r1.2.1
        have hlt : (tx t.toNat).length < 100 := by
          have : t.toNat = 0 ∨ t.toNat = 1 ∨ t.toNat = 2 ∨ t.toNat = 3 := by omega
          unfold sv_tot at q4 tl
          rcases this with e | e | e | e <;> rw [e] <;> omega
        have tot0 := sv_tot_0 tx
        obtain ⟨t1, t2⟩ := sv_txt R0 q
        have et : ((t.toNat : Nat) : Int) = t := Int.toNat_of_nonneg q.1
        apply rp_holds
        apply mm_pIi
        rw [sd_b1 rfl]
        refine ⟨fun _ => ?_, fun y => absurd (by decide) y⟩
        have g26 : ∀ p, mm_wr D 24 0 0 26 p = D 26 p := fun p => mm_wr_r (by decide)
        rw [g26, t1]
        refine ⟨by constructor <;> omega, by omega, by omega, by constructor <;> omega, by omega, by omega, fun D19 e19 => ?_⟩
        have f26 : ∀ p, D19 26 p = D 26 p := fun p => by rw [e19, mm_wr_r (by decide), mm_wr_r (by decide)]
        rw [f26, t1]
        refine ⟨by omega, by omega, by constructor <;> omega, by omega, by omega, fun D25 e25 => ?_⟩
        have f4 : D25 24 4 = sv_tot tx := by rw [e25, mm_wr_r (by decide), e19, mm_wr_r (by decide), mm_wr_k (by decide)]; exact r2.2
        rw [f4]
        refine ⟨by constructor <;> omega, fun D27 e27 => ⟨by omega, by omega, ?_⟩⟩
        have h26 : ∀ p, D27 26 p = if p = t then ((tx t.toNat).length : Int) + 1 else D 26 p := by
          intro p
          rw [e27, mm_wr_r (by decide), e25]
          by_cases e : p = t
          · rw [e, mm_wr_eq, if_pos rfl]
          · rw [mm_wr_k e, if_neg e, f26]
        have h25 : D27 25 = mm_wr D 25 (100 * t + ((tx t.toNat).length : Int)) a 25 := by
          rw [e27, mm_wr_row (by decide), e25, mm_wr_row (by decide), e19]
          funext p
          unfold mm_wr
          by_cases e : p = 100 * t + ((tx t.toNat).length : Int)
          · rw [if_pos ⟨rfl, e⟩, if_pos ⟨rfl, e⟩]
          · rw [if_neg (fun y => e y.2), if_neg (by omega), if_neg (fun y => e y.2)]
        rw [h26, if_pos rfl]
        refine H1 q.1 q.2 qa.1 qa.2 (by omega) D27 ?_ ⟨sv_T_txa r1 (by omega) qa (by omega), ⟨?_, ?_⟩, fun j hj => ⟨?_, ?_⟩, ?_, ?_⟩ ?_
        · rw [e27, e25, e19]
          exact sv_E_ww (sv_E_ww (sv_E_ww (sv_E_w (by decide)) (by decide)) (by decide)) (by decide)
        · rw [e27, mm_wr_k (by decide), e25, mm_wr_r (by decide), e19, mm_wr_r (by decide), mm_wr_k (by decide)]
          exact r2.1
        · rw [e27, mm_wr_eq, sv_tot_txa tx a (by omega)]
        · rw [h26]
          by_cases e : j = t.toNat
          · rw [if_pos (by omega), e, txa_t, List.length_append, List.length_singleton]
            rfl
          · rw [if_neg (by omega), txa_o tx a e]
            exact (r3 j hj).1
        · by_cases e : j = t.toNat
          · rw [e, txa_t, et]
            exact sv_lay_row h25 (sv_lay_add t2)
          · rw [txa_o tx a e]
            intro i hi
            have := sv_len (T := r1) j
            rw [h25, mm_wr_k (by omega)]
            exact (r3 j hj).2 i hi
        · rw [e27, mm_wr_k (by decide), e25, mm_wr_r (by decide), e19, mm_wr_r (by decide), mm_wr_k (by decide)]
          exact r4.1
        · refine sv_lay_row (D := D) ?_ r4.2
          rw [e27, mm_wr_row (by decide), e25, mm_wr_row (by decide), e19, mm_wr_row (by decide), mm_wr_row (by decide)]
        · rw [e27, mm_wr_k (by decide), e25, mm_wr_r (by decide), e19, mm_wr_r (by decide), mm_wr_eq]
      · rw [r2.2] at q4
        exact thr 3 (by decide) (Or.inr (Or.inr ⟨q, qa, by omega, rfl⟩)) _
    · rw [sd_b0 qa]
      refine ⟨fun y => absurd rfl y, fun _ => ?_⟩
      exact thr 2 (by decide) (Or.inr (Or.inl ⟨q, qa, rfl⟩)) _
  · rw [sd_b0 q]
    refine ⟨fun y => absurd rfl y, fun _ => ?_⟩
    exact thr 1 (by decide) (Or.inl ⟨q, rfl⟩) _
theorem rs_texts (R : sv_R D tx k P) (H : ∀ D', sv_E D D' → sv_R D' tx k P → Q (.inl (some (mm_I k))) (mm_mk D' u x)) : mt 84 0 [some (mm_P 24)] [] (mm_mk D u x) Q := by
  apply q_X5_texts_0
  intro D1 e1
  subst e1
  rw [mm_wr_k (by decide), R.2.1.1]
  exact H _ (sv_E_w (by decide)) (sv_R_f R (by decide))
theorem rs_length {t : Int} (R : sv_R D tx k P) (H1 : 0 ≤ t → t < k → ∀ D', sv_E D D' → sv_R D' tx k P → D' 24 0 = 0 → Q (.inl (some (mm_I ((tx t.toNat).length : Int)))) (mm_mk D' u x)) (H2 : ¬ (0 ≤ t ∧ t < k) → ∀ D' r, sv_E D D' → sv_R D' tx k P → D' 24 0 = 1 → Q (.inl (some (mm_I r))) (mm_mk D' u x)) : mt 85 0 [some (mm_P 24), some (mm_I t)] [] (mm_mk D u x) Q := by
  have k4 := R.1.1
  apply q_X5_length_0
  apply rp_isText
  apply mm_pIi
  rw [R.2.1.1]
  by_cases q : 0 ≤ t ∧ t < k
  · rw [sd_b1 q]
    refine ⟨fun y => absurd y (by decide), fun _ => ?_⟩
    apply rp_holds
    apply mm_pIi
    rw [sd_b1 rfl]
    refine ⟨fun y => absurd y (by decide), fun _ => ⟨by omega, by omega, ?_⟩⟩
    rw [mm_wr_r (by decide), (sv_txt R q).1]
    exact H1 q.1 q.2 _ (sv_E_w (by decide)) (sv_R_f R (by decide)) (mm_wr_eq _ _ _ _)
  · rw [sd_b0 q]
    refine ⟨fun _ => ?_, fun y => absurd rfl y⟩
    apply rp_holds
    apply mm_pIi
    rw [sd_b0 (by decide)]
    exact ⟨fun _ => H2 q _ _ (sv_E_w (by decide)) (sv_R_f R (by decide)) (mm_wr_eq _ _ _ _), fun y => absurd rfl y⟩
theorem rs_letterAt {t i : Int} (R : sv_R D tx k P) (H1 : 0 ≤ t → t < k → 0 ≤ i → i < ((tx t.toNat).length : Int) → ∀ D', sv_E D D' → sv_R D' tx k P → D' 24 0 = 0 → Q (.inl (some (mm_I (wg (tx t.toNat) i.toNat)))) (mm_mk D' u x)) (H2 : ¬ ((0 ≤ t ∧ t < k) ∧ 0 ≤ i ∧ i < ((tx t.toNat).length : Int)) → ∀ D' r, sv_E D D' → sv_R D' tx k P → D' 24 0 = 1 → Q (.inl (some (mm_I r))) (mm_mk D' u x)) : mt 86 0 [some (mm_P 24), some (mm_I t), some (mm_I i), none] [] (mm_mk D u x) Q := by
  have k4 := R.1.1
  have thr : ¬ ((0 ≤ t ∧ t < k) ∧ 0 ≤ i ∧ i < ((tx t.toNat).length : Int)) → ∀ (G : mm_D → Int → mm_Xt → Prop), mt 78 0 [some (mm_P 24), some (mm_I 1)] [] (mm_mk D u x) (mm_pI fun r D9 u10 x11 => (r = 0 → Q (.inl (some (mm_I 0))) (mm_mk D9 u10 x11)) ∧ (¬ r = 0 → G D9 u10 x11)) := by
    intro h G
    apply rp_holds
    apply mm_pIi
    rw [sd_b0 (by decide)]
    exact ⟨fun _ => H2 h _ _ (sv_E_w (by decide)) (sv_R_f R (by decide)) (mm_wr_eq _ _ _ _), fun y => absurd rfl y⟩
  apply q_X5_letterAt_0
  apply rp_isText
  apply mm_pIi
  rw [R.2.1.1]
  by_cases q : 0 ≤ t ∧ t < k
  · rw [sd_b1 q]
    refine ⟨fun y => absurd y (by decide), fun _ => ⟨fun y => thr (by omega) _, fun y => ⟨by omega, by omega, fun y2 => ?_, fun y2 => ?_⟩⟩⟩
    · rw [(sv_txt R q).1] at y2
      exact thr (by omega) _
    · rw [(sv_txt R q).1] at y2
      have hlen := sv_len (T := R.1) t.toNat
      apply rp_holds
      apply mm_pIi
      rw [sd_b1 rfl]
      refine ⟨fun y => absurd y (by decide), fun _ => ⟨by constructor <;> omega, by constructor <;> omega, by omega, by omega, ?_⟩⟩
      have := (sv_txt R q).2 i.toNat (by omega)
      rw [Int.toNat_of_nonneg (by omega)] at this
      rw [mm_wr_r (by decide), this]
      exact H1 q.1 q.2 (by omega) (by omega) _ (sv_E_w (by decide)) (sv_R_f R (by decide)) (mm_wr_eq _ _ _ _)
  · rw [sd_b0 q]
    exact ⟨fun _ => thr (fun y => q y.1) _, fun y => absurd rfl y⟩
theorem sv_R_pat {D' : mm_D} {P' : wd} (R : sv_R D tx k P) (h3 : D' 24 3 = D 24 3) (h4 : D' 24 4 = D 24 4) (h25 : D' 25 = D 25) (h26 : D' 26 = D 26) (hl : (P'.length : Int) ≤ 120) (ha : ∀ a, a ∈ P' → 0 ≤ a ∧ a < 26) (h6 : D' 24 6 = (P'.length : Int)) (h27 : sv_lay D' 27 0 P') : sv_R D' tx k P' := by
  obtain ⟨r1, r2, r3, r4⟩ := R
  exact ⟨⟨r1.1, r1.2.1, hl, r1.2.2.2.1, ha, r1.2.2.2.2.2⟩, by rw [h3, h4]; exact r2, fun j hj => ⟨by rw [h26]; exact (r3 j hj).1, sv_lay_row h25 (r3 j hj).2⟩, h6, h27⟩
theorem rs_type {a : Int} (R : sv_R D tx k P) (H1 : 0 ≤ a → a < 26 → (P.length : Int) < 120 → ∀ D', sv_E D D' → sv_R D' tx k (P ++ [a]) → D' 24 0 = 0 → Q (.inl (some (mm_I ((P.length : Int) + 1)))) (mm_mk D' u x)) (H2 : ∀ c, (¬ (0 ≤ a ∧ a < 26) ∧ c = 1) ∨ ((0 ≤ a ∧ a < 26) ∧ ¬ (P.length : Int) < 120 ∧ c = 2) → ∀ D' r, sv_E D D' → sv_R D' tx k P → D' 24 0 = c → Q (.inl (some (mm_I r))) (mm_mk D' u x)) : mt 87 0 [some (mm_P 24), some (mm_I a)] [] (mm_mk D u x) Q := by
  have hlen := R.1.2.2.1
  have thr : ∀ c, c ≠ 0 → ((¬ (0 ≤ a ∧ a < 26) ∧ c = 1) ∨ ((0 ≤ a ∧ a < 26) ∧ ¬ (P.length : Int) < 120 ∧ c = 2)) → ∀ (G : mm_D → Int → mm_Xt → Prop), mt 78 0 [some (mm_P 24), some (mm_I c)] [] (mm_mk D u x) (mm_pI fun r D9 u10 x11 => (¬ r = 0 → G D9 u10 x11) ∧ (¬ ¬ r = 0 → Q (.inl (some (mm_I 0))) (mm_mk D9 u10 x11))) := by
    intro c hc h G
    apply rp_holds
    apply mm_pIi
    rw [sd_b0 hc]
    exact ⟨fun y => absurd rfl y, fun _ => H2 c h _ _ (sv_E_w (by decide)) (sv_R_f R (by decide)) (mm_wr_eq _ _ _ _)⟩
  apply q_X5_type_0
  apply rp_isLetter
  apply mm_pIi
  by_cases q : 0 ≤ a ∧ a < 26
  · rw [sd_b1 q, R.2.2.2.1]
    refine ⟨fun _ => ⟨fun q2 => ?_, fun q2 => thr 2 (by decide) (Or.inr ⟨q, by omega, rfl⟩) _⟩, fun y => absurd (by decide) y⟩
    apply rp_holds
    apply mm_pIi
    have e6 : mm_wr D 24 0 0 24 6 = (P.length : Int) := by rw [mm_wr_k (by decide)]; exact R.2.2.2.1
    rw [sd_b1 rfl, e6]
    refine ⟨fun _ => ⟨by omega, by omega, fun D11 e11 => ?_⟩, fun y => absurd (by decide) y⟩
    have e116 : D11 24 6 = (P.length : Int) := by rw [e11, mm_wr_r (by decide)]; exact e6
    rw [e116]
    refine ⟨by constructor <;> omega, fun D13 e13 => ?_⟩
    have e136 : D13 24 6 = (P.length : Int) + 1 := by rw [e13, mm_wr_eq]
    rw [e136]
    have hl := sv_lay_add (a := a) R.2.2.2.2
    rw [Int.zero_add] at hl
    refine H1 q.1 q.2 (by omega) D13 ?_ (sv_R_pat R ?_ ?_ ?_ ?_ ?_ (fun b h => ?_) ?_ (fun i hi => ?_)) ?_
    · rw [e13, e11]
      exact sv_E_ww (sv_E_ww (sv_E_w (by decide)) (by decide)) (by decide)
    · rw [e13, mm_wr_k (by decide), e11, mm_wr_r (by decide), mm_wr_k (by decide)]
    · rw [e13, mm_wr_k (by decide), e11, mm_wr_r (by decide), mm_wr_k (by decide)]
    · rw [e13, mm_wr_row (by decide), e11, mm_wr_row (by decide), mm_wr_row (by decide)]
    · rw [e13, mm_wr_row (by decide), e11, mm_wr_row (by decide), mm_wr_row (by decide)]
    · rw [List.length_append, List.length_singleton]
      omega
    · rcases List.mem_append.mp h with h | h
      · exact R.1.2.2.2.2.1 b h
      · rw [List.mem_singleton.mp h]
        exact q
    · rw [e136, List.length_append, List.length_singleton]
      rfl
    · rw [e13, mm_wr_r (by decide), e11]
      have := hl i hi
      unfold mm_wr at this ⊢
      rw [if_neg (by omega : ¬ (27 = 24 ∧ (0 : Int) + (i : Int) = 0))]
      exact this
    · rw [e13, mm_wr_k (by decide), e11, mm_wr_r (by decide), mm_wr_eq]
  · rw [sd_b0 q]
    exact ⟨fun y => absurd rfl y, fun _ => thr 1 (by decide) (Or.inl ⟨q, rfl⟩) _⟩
theorem rs_erase (R : sv_R D tx k P) (H1 : P ≠ [] → ∀ D', sv_E D D' → sv_R D' tx k (P.take (P.length - 1)) → D' 24 0 = 0 → Q (.inl (some (mm_I (wg P (P.length - 1))))) (mm_mk D' u x)) (H2 : P = [] → ∀ D' r, sv_E D D' → sv_R D' tx k P → D' 24 0 = 1 → Q (.inl (some (mm_I r))) (mm_mk D' u x)) : mt 88 0 [some (mm_P 24)] [] (mm_mk D u x) Q := by
  have hlen := R.1.2.2.1
  apply q_X5_erase_0
  rw [R.2.2.2.1]
  refine ⟨fun q => ?_, fun q => ?_⟩
  · have hne : P ≠ [] := fun e => q (by rw [e]; rfl)
    have hpos := List.length_pos_iff.mpr hne
    apply rp_holds
    apply mm_pIi
    have e6 : mm_wr D 24 0 0 24 6 = (P.length : Int) := by rw [mm_wr_k (by decide)]; exact R.2.2.2.1
    rw [sd_b1 rfl, e6]
    refine ⟨fun _ => ⟨by constructor <;> omega, fun D6 e6' => ?_⟩, fun y => absurd (by decide) y⟩
    have e66 : D6 24 6 = (P.length : Int) - 1 := by rw [e6', mm_wr_eq]
    have e27 : D6 27 = D 27 := by rw [e6', mm_wr_row (by decide), mm_wr_row (by decide)]
    have e1 := R.2.2.2.2 (P.length - 1) (by omega)
    rw [show (0 : Int) + ((P.length - 1 : Nat) : Int) = (P.length : Int) - 1 by omega] at e1
    rw [e66, e27, e1]
    refine ⟨by omega, by omega, H1 hne D6 ?_ (sv_R_pat R ?_ ?_ ?_ ?_ ?_ (fun a h => R.1.2.2.2.2.1 a (List.mem_of_mem_take h)) ?_ (fun i hi => ?_)) ?_⟩
    · rw [e6']
      exact sv_E_ww (sv_E_w (by decide)) (by decide)
    · rw [e6', mm_wr_k (by decide), mm_wr_k (by decide)]
    · rw [e6', mm_wr_k (by decide), mm_wr_k (by decide)]
    · rw [e6', mm_wr_row (by decide), mm_wr_row (by decide)]
    · rw [e6', mm_wr_row (by decide), mm_wr_row (by decide)]
    · rw [List.length_take]
      omega
    · rw [e66, List.length_take]
      omega
    · rw [List.length_take] at hi
      rw [e27, wg_take (by omega)]
      exact R.2.2.2.2 i (by omega)
    · rw [e6', mm_wr_k (by decide), mm_wr_eq]
  · apply rp_holds
    apply mm_pIi
    rw [sd_b0 (by decide)]
    exact ⟨fun y => absurd rfl y, fun _ => H2 (List.length_eq_zero_iff.mp (by omega)) _ _ (sv_E_w (by decide)) (sv_R_f R (by decide)) (mm_wr_eq _ _ _ _)⟩
theorem rs_wipe (R : sv_R D tx k P) (H : ∀ D', sv_E D D' → sv_R D' tx k [] → Q (.inl (some (mm_I (P.length : Int)))) (mm_mk D' u x)) : mt 89 0 [some (mm_P 24), none] [] (mm_mk D u x) Q := by
  apply q_X5_wipe_0
  intro D1 e1 D2 e2
  have e6 : D1 24 6 = (P.length : Int) := by rw [e1, mm_wr_k (by decide)]; exact R.2.2.2.1
  rw [e6]
  subst e1 e2
  exact H _ (sv_E_ww (sv_E_w (by decide)) (by decide)) (sv_R_pat R ((mm_wr_k (by decide)).trans (mm_wr_k (by decide))) ((mm_wr_k (by decide)).trans (mm_wr_k (by decide))) ((mm_wr_row (by decide)).trans (mm_wr_row (by decide))) ((mm_wr_row (by decide)).trans (mm_wr_row (by decide))) (by decide) (fun a h => absurd h (by simp)) (mm_wr_eq _ _ _ _) (fun i h => absurd h (by simp)))
theorem rs_patternLength (R : sv_R D tx k P) (H : ∀ D', sv_E D D' → sv_R D' tx k P → Q (.inl (some (mm_I (P.length : Int)))) (mm_mk D' u x)) : mt 92 0 [some (mm_P 24)] [] (mm_mk D u x) Q := by
  apply q_X5_patternLength_0
  intro D1 e1
  subst e1
  rw [mm_wr_k (by decide), R.2.2.2.1]
  exact H _ (sv_E_w (by decide)) (sv_R_f R (by decide))
theorem rs_patternAt {i : Int} (R : sv_R D tx k P) (H1 : 0 ≤ i → i < (P.length : Int) → ∀ D', sv_E D D' → sv_R D' tx k P → D' 24 0 = 0 → Q (.inl (some (mm_I (wg P i.toNat)))) (mm_mk D' u x)) (H2 : ¬ (0 ≤ i ∧ i < (P.length : Int)) → ∀ D' r, sv_E D D' → sv_R D' tx k P → D' 24 0 = 1 → Q (.inl (some (mm_I r))) (mm_mk D' u x)) : mt 93 0 [some (mm_P 24), some (mm_I i)] [] (mm_mk D u x) Q := by
  have hlen := R.1.2.2.1
  have thr : ¬ (0 ≤ i ∧ i < (P.length : Int)) → ∀ (G : mm_D → Int → mm_Xt → Prop), mt 78 0 [some (mm_P 24), some (mm_I 1)] [] (mm_mk D u x) (mm_pI fun r D9 u10 x11 => (r = 0 → Q (.inl (some (mm_I 0))) (mm_mk D9 u10 x11)) ∧ (¬ r = 0 → G D9 u10 x11)) := by
    intro h G
    apply rp_holds
    apply mm_pIi
    rw [sd_b0 (by decide)]
    exact ⟨fun _ => H2 h _ _ (sv_E_w (by decide)) (sv_R_f R (by decide)) (mm_wr_eq _ _ _ _), fun y => absurd rfl y⟩
  apply q_X5_patternAt_0
  rw [R.2.2.2.1]
  refine ⟨fun q => thr (by omega) _, fun q => ⟨fun q2 => thr (by omega) _, fun q2 => ?_⟩⟩
  apply rp_holds
  apply mm_pIi
  rw [sd_b1 rfl]
  refine ⟨fun y => absurd y (by decide), fun _ => ⟨by omega, by omega, ?_⟩⟩
  have := R.2.2.2.2 i.toNat (by omega)
  rw [show (0 : Int) + (i.toNat : Int) = i by omega] at this
  rw [mm_wr_r (by decide), this]
  exact H1 (by omega) (by omega) _ (sv_E_w (by decide)) (sv_R_f R (by decide)) (mm_wr_eq _ _ _ _)
/-- letters from a place on become the pattern -/
theorem rp_lays (R : sv_R D tx k P) {p : Int} {W : wd} (hl : (W.length : Int) ≤ 100) (hp : 0 ≤ p) (hp4 : p + (W.length : Int) ≤ 400) (hW : sv_lay D 25 p W) (ha : ∀ a, a ∈ W → 0 ≤ a ∧ a < 26) (H : ∀ D', sv_E D D' → sv_R D' tx k W → D' 24 0 = D 24 0 → Q (.inl none) (mm_mk D' u x)) : mt 90 0 [some (mm_P 24), some (mm_I p), some (mm_I (W.length : Int)), none] [] (mm_mk D u x) Q := by
  apply q_X5_lays_0
  have lp : ∀ (m i : Nat) (D2 : mm_D), i + m = W.length → (∀ r, r ≠ 27 → D2 r = D r) → (∀ j : Nat, j < i → D2 27 (j : Int) = wg W j) → mt 90 2 [some (mm_P 24), some (mm_I p), some (mm_I (W.length : Int)), some (mm_I (i : Int))] [] (mm_mk D2 u x) Q := by
    intro m
    induction m with
    | zero =>
      intro i D2 hi hr hw
      apply q_X5_lays_2
      refine ⟨fun _ D1 e1 => ?_, fun y => absurd y (by omega)⟩
      refine H D1 (fun r h => ?_) (sv_R_pat R ?_ ?_ ?_ ?_ (by omega) ha ?_ (fun j hj => ?_)) ?_
      · rw [e1, mm_wr_row (by omega), hr r (by omega)]
      · rw [e1, mm_wr_k (by decide), hr 24 (by decide)]
      · rw [e1, mm_wr_k (by decide), hr 24 (by decide)]
      · rw [e1, mm_wr_row (by decide), hr 25 (by decide)]
      · rw [e1, mm_wr_row (by decide), hr 26 (by decide)]
      · rw [e1, mm_wr_eq]
      · rw [e1, mm_wr_r (by decide), Int.zero_add]
        exact hw j (by omega)
      · rw [e1, mm_wr_k (by decide), hr 24 (by decide)]
    | succ m ih =>
      intro i D2 hi hr hw
      apply q_X5_lays_2
      refine ⟨fun y => absurd y (by omega), fun _ => ⟨by constructor <;> omega, by omega, by omega, by omega, by omega, fun D7 e7 => ⟨by constructor <;> omega, ih (i + 1) D7 (by omega) (fun r h => by rw [e7, mm_wr_row h]; exact hr r h) (fun j hj => ?_)⟩⟩⟩
      rw [e7]
      by_cases e : j = i
      · rw [e, mm_wr_eq, hr 25 (by decide)]
        exact hW i (by omega)
      · rw [mm_wr_k (by omega)]
        exact hw j (by omega)
  exact lp W.length 0 D (by omega) (fun _ _ => rfl) (fun j hj => by omega)
theorem sv_lay_sub {o : Int} {r : Nat} {w : wd} (h : sv_lay D r o w) (f m : Nat) : sv_lay D r (o + (f : Int)) ((w.drop f).take m) := by
  intro i hi
  rw [List.length_take, List.length_drop] at hi
  rw [wg_take (by omega), wg_drop, ← h (f + i) (by omega)]
  congr 1
  omega
theorem rs_copy {t f m : Int} (hf : mm_rng f) (R : sv_R D tx k P) (H1 : 0 ≤ t → t < k → 0 ≤ f → 0 ≤ m → m ≤ ((tx t.toNat).length : Int) - f → ∀ D', sv_E D D' → sv_R D' tx k (((tx t.toNat).drop f.toNat).take m.toNat) → D' 24 0 = 0 → Q (.inl none) (mm_mk D' u x)) (H2 : ∀ c, (¬ (0 ≤ t ∧ t < k) ∧ c = 1) ∨ ((0 ≤ t ∧ t < k) ∧ ¬ (0 ≤ f ∧ 0 ≤ m ∧ m ≤ ((tx t.toNat).length : Int) - f) ∧ c = 2) → ∀ D', sv_E D D' → sv_R D' tx k P → D' 24 0 = c → Q (.inl none) (mm_mk D' u x)) : mt 91 0 [some (mm_P 24), some (mm_I t), some (mm_I f), some (mm_I m), none] [] (mm_mk D u x) Q := by
  have k4 := R.1.1
  unfold mm_rng at hf
  have thr : ∀ c, c ≠ 0 → ((¬ (0 ≤ t ∧ t < k) ∧ c = 1) ∨ ((0 ≤ t ∧ t < k) ∧ ¬ (0 ≤ f ∧ 0 ≤ m ∧ m ≤ ((tx t.toNat).length : Int) - f) ∧ c = 2)) → ∀ (G : mm_D → Int → mm_Xt → Prop), mt 78 0 [some (mm_P 24), some (mm_I c)] [] (mm_mk D u x) (mm_pI fun r D9 u10 x11 => (r = 0 → Q (.inl none) (mm_mk D9 u10 x11)) ∧ (¬ r = 0 → G D9 u10 x11)) := by
    intro c hc h G
    apply rp_holds
    apply mm_pIi
    rw [sd_b0 hc]
    exact ⟨fun _ => H2 c h _ (sv_E_w (by decide)) (sv_R_f R (by decide)) (mm_wr_eq _ _ _ _), fun y => absurd rfl y⟩
  apply q_X5_copy_0
  apply rp_isText
  apply mm_pIi
  rw [R.2.1.1]
  by_cases q : 0 ≤ t ∧ t < k
  · obtain ⟨t1, t2⟩ := sv_txt R q
    have hlen := sv_len (T := R.1) t.toNat
    rw [sd_b1 q, t1]
    refine ⟨fun _ => ⟨fun y => thr 2 (by decide) (Or.inr ⟨q, by omega, rfl⟩) _, fun qf => ⟨fun y => thr 2 (by decide) (Or.inr ⟨q, by omega, rfl⟩) _, fun qm => ⟨by omega, by omega, fun y => thr 2 (by decide) (Or.inr ⟨q, by omega, rfl⟩) _, fun qf2 => ⟨by omega, by omega, by constructor <;> omega, fun qm2 => ?_, fun y => thr 2 (by decide) (Or.inr ⟨q, by omega, rfl⟩) _⟩⟩⟩⟩, fun y => absurd (by decide) y⟩
    apply rp_holds
    apply mm_pIi
    rw [sd_b1 rfl]
    refine ⟨fun y => absurd y (by decide), fun _ => ⟨by constructor <;> omega, by constructor <;> omega, ?_⟩⟩
    have hsub := sv_lay_sub t2 f.toNat m.toNat
    have hWl : (((tx t.toNat).drop f.toNat).take m.toNat).length = m.toNat := by
      rw [List.length_take, List.length_drop]
      omega
    rw [Int.toNat_of_nonneg (by omega)] at hsub
    have key := rp_lays (u := u) (x := x) (Q := mm_pV fun D46 u47 x48 => Q (.inl none) (mm_mk D46 u47 x48)) (W := ((tx t.toNat).drop f.toNat).take m.toNat) (p := 100 * t + f) (sv_R_f R (p := 0) (v := 0) (by decide)) (by rw [hWl]; omega) (by omega) (by rw [hWl]; omega) (sv_lay_row (mm_wr_row (by decide)) hsub) (fun a h => R.1.2.2.2.1 t.toNat a (List.mem_of_mem_drop (List.mem_of_mem_take h))) (fun D' e1 R' e2 => ?_)
    · rw [hWl, Int.toNat_of_nonneg (by omega)] at key
      exact key
    · apply mm_pVi
      exact H1 q.1 q.2 (by omega) (by omega) qm2 D' (sv_E_t (sv_E_w (by decide)) e1) R' (by rw [e2, mm_wr_eq])
  · rw [sd_b0 q]
    exact ⟨fun y => absurd rfl y, fun _ => thr 1 (by decide) (Or.inl ⟨q, rfl⟩) _⟩
end RA
