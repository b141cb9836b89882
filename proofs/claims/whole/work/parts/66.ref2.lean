/-! the reference: places of the pattern -/
section RB
variable {D : mm_D} {u : Int} {x : mm_Xt} {Q : mm_O → mm_H → Prop} {tx : Nat → wd} {k : Int} {P : wd}
theorem rp_stands (R : sv_R D tx k P) {t i s : Nat} (ht : (t : Int) < k) (hi : i ≤ 100) (hs : s ≤ P.length) (H : Q (.inl (some (mm_I (cI (stn (tx t) (P.drop s) i))))) (mm_mk D u x)) : mt 94 0 [some (mm_P 24), some (mm_I (s : Int)), some (mm_I (t : Int)), some (mm_I (i : Int)), none, none] [] (mm_mk D u x) Q := by
  have k4 := R.1.1
  have hlen := R.1.2.2.1
  have htl := sv_len (T := R.1) t
  have ht1 := sv_txt R (t := (t : Int)) (by omega)
  have tt : ((t : Int)).toNat = t := rfl
  rw [tt] at ht1
  obtain ⟨t1, t2⟩ := ht1
  have hdl : (P.drop s).length = P.length - s := List.length_drop
  have no : ¬ stn (tx t) (P.drop s) i → ∀ v5, mt 94 23 [some (mm_P 24), some (mm_I (s : Int)), some (mm_I (t : Int)), some (mm_I (i : Int)), some (mm_I 0), some (mm_I v5)] [] (mm_mk D u x) Q := by
    intro h v5
    rw [cI_0 h] at H
    apply q_X5_stands_23
    exact ⟨fun _ => ⟨Or.inl rfl, H⟩, fun _ => ⟨fun _ => ⟨Or.inl rfl, H⟩, fun y => absurd rfl y⟩⟩
  have lp : ∀ (m j : Nat), s < P.length → i + (P.length - s) ≤ (tx t).length → s + j + m = P.length → (∀ j', j' < j → wg (tx t) (i + j') = wg (P.drop s) j') → mt 94 23 [some (mm_P 24), some (mm_I (s : Int)), some (mm_I (t : Int)), some (mm_I (i : Int)), some (mm_I 1), some (mm_I ((s : Int) + (j : Int)))] [] (mm_mk D u x) Q := by
    intro m
    induction m with
    | zero =>
      intro j hs2 hl hj h
      apply q_X5_stands_23
      rw [R.2.2.2.1]
      have hst : stn (tx t) (P.drop s) i := stn_of (fun e => by rw [e] at hdl; simp at hdl; omega) (by omega) (fun j' hj' => h j' (by omega))
      rw [cI_1 hst] at H
      exact ⟨fun _ => ⟨Or.inr rfl, H⟩, fun y => absurd y (by omega)⟩
    | succ m ih =>
      intro j hs2 hl hj h
      apply q_X5_stands_23
      rw [R.2.2.2.1]
      have a1 := t2 (i + j) (by omega)
      have a2 := R.2.2.2.2 (s + j) (by omega)
      rw [show 100 * (t : Int) + ((i + j : Nat) : Int) = 100 * (t : Int) + (i : Int) + ((s : Int) + (j : Int)) - (s : Int) by omega] at a1
      rw [show (0 : Int) + ((s + j : Nat) : Int) = (s : Int) + (j : Int) by omega] at a2
      have a3 : wg (P.drop s) j = wg P (s + j) := wg_drop P s j
      rw [a1, a2, ← a3]
      refine ⟨fun y => absurd y (by omega), fun _ => ⟨fun y => absurd y (by decide), fun _ => ⟨by constructor <;> omega, by constructor <;> omega, by constructor <;> omega, by constructor <;> omega, by omega, by omega, by omega, by omega, fun y => ⟨by constructor <;> omega, no (fun z => y (stn_wg z (by omega))) _⟩, fun y => ⟨by constructor <;> omega, ?_⟩⟩⟩⟩
      rw [show (s : Int) + (j : Int) + 1 = (s : Int) + ((j + 1 : Nat) : Int) by omega]
      refine ih (j + 1) hs2 hl (by omega) (fun j' hj' => ?_)
      by_cases e : j' = j
      · rw [e]
        exact Decidable.not_not.mp y
      · exact h j' (by omega)
  apply q_X5_stands_0
  rw [R.2.2.2.1, t1]
  refine ⟨fun y => no (fun z => ?_) _, fun y => ⟨fun y2 => absurd y2 (by omega), fun _ => ⟨by constructor <;> omega, by constructor <;> omega, by omega, by omega, fun y3 => no (fun z => ?_) _, fun y3 => ?_⟩⟩⟩
  · have := List.length_pos_iff.mpr z.1
    omega
  · have := stn_len z
    omega
  · have := lp (P.length - s) 0 (by omega) (by omega) (by omega) (fun j' h => by omega)
    rw [show (s : Int) + ((0 : Nat) : Int) = (s : Int) by omega] at this
    exact this
theorem rp_countIn (R : sv_R D tx k P) {t s : Nat} (ht : (t : Int) < k) (hs : s ≤ P.length) (H : Q (.inl (some (mm_I (en_of tx 15 (P.drop s) (t : Int))))) (mm_mk D u x)) : mt 95 0 [some (mm_P 24), some (mm_I (s : Int)), some (mm_I (t : Int)), none, none] [] (mm_mk D u x) Q := by
  have k4 := R.1.1
  have htl := sv_len (T := R.1) t
  have t1 := (sv_txt R (t := (t : Int)) (by omega)).1
  have tt : ((t : Int)).toNat = t := rfl
  rw [tt] at t1
  apply q_X5_countIn_0
  have lp : ∀ (m i : Nat), i + m = (tx t).length → mt 95 4 [some (mm_P 24), some (mm_I (s : Int)), some (mm_I (t : Int)), some (mm_I (cN (stn (tx t) (P.drop s)) i)), some (mm_I (i : Int))] [] (mm_mk D u x) Q := by
    intro m
    induction m with
    | zero =>
      intro i hi
      apply q_X5_countIn_4
      rw [t1]
      refine ⟨by omega, by omega, fun _ => ?_, fun y => absurd y (by omega)⟩
      rw [show i = (tx t).length by omega, cN_starts]
      exact H
    | succ m ih =>
      intro i hi
      apply q_X5_countIn_4
      rw [t1]
      have hb := cN_b (stn (tx t) (P.drop s)) i
      refine ⟨by omega, by omega, fun y => absurd y (by omega), fun _ => ?_⟩
      refine rp_stands R ht (by omega) hs ?_
      apply mm_pIi
      have nx := ih (i + 1) (by omega)
      rw [cN_s] at nx
      by_cases c : stn (tx t) (P.drop s) i
      · rw [cI_1 c] at nx ⊢
        exact ⟨fun y => absurd y (by decide), fun _ => ⟨by constructor <;> omega, by constructor <;> omega, nx⟩⟩
      · rw [cI_0 c] at nx ⊢
        exact ⟨fun _ => ⟨by constructor <;> omega, by constructor <;> omega, nx⟩, fun y => absurd rfl y⟩
  exact lp (tx t).length 0 (by omega)
theorem en_none (T : sv_T tx k P) (w : wd) {t : Nat} (h : k ≤ (t : Int)) : en_of tx 15 w (t : Int) = 0 := by
  show cN (oc (tx t) w) (tx t).length = 0
  rw [T.2.2.2.2.2 t h]
  rfl
theorem rp_count (R : sv_R D tx k P) {s : Nat} (hs : s ≤ P.length) (H : Q (.inl (some (mm_I (en_all tx (P.drop s))))) (mm_mk D u x)) : mt 96 0 [some (mm_P 24), some (mm_I (s : Int)), none, none] [] (mm_mk D u x) Q := by
  have k4 := R.1.1
  apply q_X5_count_0
  have sb : ∀ i : Nat, 0 ≤ sm (fun t => en_of tx 15 (P.drop s) (t : Int)) i ∧ sm (fun t => en_of tx 15 (P.drop s) (t : Int)) i ≤ 100 * (i : Int) := by
    intro i
    induction i with
    | zero => exact ⟨Int.le_refl _, Int.le_refl _⟩
    | succ i ih =>
      have := en15_b R.1 (P.drop s) (i : Int)
      show 0 ≤ sm _ i + en_of tx 15 (P.drop s) (i : Int) ∧ sm _ i + en_of tx 15 (P.drop s) (i : Int) ≤ _
      omega
  have lp : ∀ (m i : Nat), (i : Int) + m = k → mt 96 4 [some (mm_P 24), some (mm_I (s : Int)), some (mm_I (sm (fun t => en_of tx 15 (P.drop s) (t : Int)) i)), some (mm_I (i : Int))] [] (mm_mk D u x) Q := by
    intro m
    induction m with
    | zero =>
      intro i hi
      apply q_X5_count_4
      rw [R.2.1.1]
      refine ⟨fun _ => ?_, fun y => absurd y (by omega)⟩
      rw [sm_k (by omega) (fun t ht => en_none R.1 _ (by omega))]
      exact H
    | succ m ih =>
      intro i hi
      apply q_X5_count_4
      rw [R.2.1.1]
      refine ⟨fun y => absurd y (by omega), fun _ => ?_⟩
      refine rp_countIn R (by omega) hs ?_
      apply mm_pIi
      have := en15_b R.1 (P.drop s) (i : Int)
      have := sb i
      exact ⟨by constructor <;> omega, by constructor <;> omega, ih (i + 1) (by omega)⟩
  have := lp k.toNat 0 (by omega)
  exact this
theorem rp_count0 (R : sv_R D tx k P) (H : Q (.inl (some (mm_I (en_all tx P)))) (mm_mk D u x)) : mt 96 0 [some (mm_P 24), some (mm_I (0 : Int)), none, none] [] (mm_mk D u x) Q := rp_count (s := 0) R (Nat.zero_le _) (by rw [List.drop_zero]; exact H)
theorem rs_isPart (R : sv_R D tx k P) (H : ∀ D', sv_E D D' → sv_R D' tx k P → Q (.inl (some (mm_I (cI (P ≠ [] ∧ fac tx P))))) (mm_mk D' u x)) : mt 97 0 [some (mm_P 24)] [] (mm_mk D u x) Q := by
  apply q_X5_isPart_0
  intro D1 e1
  subst e1
  have R1 := sv_R_f R (p := 0) (v := 0) (by decide)
  have H1 := H _ (sv_E_w (by decide)) R1
  refine rp_count0 R1 ?_
  apply mm_pIi
  have hp := en_all_pos (w := P) R.1
  refine ⟨fun q => ?_, fun q => ?_⟩
  · rwa [cI_0 (fun y => by have := hp.mpr y; omega)] at H1
  · rwa [cI_1 (hp.mp (by omega))] at H1
theorem rs_occurrences (R : sv_R D tx k P) (H : ∀ D', sv_E D D' → sv_R D' tx k P → Q (.inl (some (mm_I (en_all tx P)))) (mm_mk D' u x)) : mt 98 0 [some (mm_P 24)] [] (mm_mk D u x) Q := by
  apply q_X5_occurrences_0
  intro D1 e1
  subst e1
  have R1 := sv_R_f R (p := 0) (v := 0) (by decide)
  refine rp_count0 R1 ?_
  apply mm_pIi
  exact H _ (sv_E_w (by decide)) R1
theorem rs_occurrencesIn {t : Int} (R : sv_R D tx k P) (H1 : 0 ≤ t → t < k → ∀ D', sv_E D D' → sv_R D' tx k P → D' 24 0 = 0 → Q (.inl (some (mm_I (en_of tx 15 P t)))) (mm_mk D' u x)) (H2 : ¬ (0 ≤ t ∧ t < k) → ∀ D' r, sv_E D D' → sv_R D' tx k P → D' 24 0 = 1 → Q (.inl (some (mm_I r))) (mm_mk D' u x)) : mt 99 0 [some (mm_P 24), some (mm_I t)] [] (mm_mk D u x) Q := by
  apply q_X5_occurrencesIn_0
  apply rp_isText
  apply mm_pIi
  rw [R.2.1.1]
  by_cases q : 0 ≤ t ∧ t < k
  · rw [sd_b1 q]
    refine ⟨fun y => absurd y (by decide), fun _ => ?_⟩
    apply rp_holds
    apply mm_pIi
    rw [sd_b1 rfl]
    refine ⟨fun y => absurd y (by decide), fun _ => ?_⟩
    have R1 := sv_R_f R (p := 0) (v := 0) (by decide)
    have et : ((t.toNat : Nat) : Int) = t := Int.toNat_of_nonneg q.1
    have key := rp_countIn (u := u) (x := x) (t := t.toNat) (s := 0) (Q := mm_pI fun r20 D17 u18 x19 => Q (.inl (some (mm_I (r20)))) (mm_mk D17 u18 x19)) R1 (by omega) (Nat.zero_le _) ?_
    · rw [et] at key
      exact key
    · apply mm_pIi
      rw [List.drop_zero, et]
      exact H1 q.1 q.2 _ (sv_E_w (by decide)) R1 (mm_wr_eq _ _ _ _)
  · rw [sd_b0 q]
    refine ⟨fun _ => ?_, fun y => absurd rfl y⟩
    apply rp_holds
    apply mm_pIi
    rw [sd_b0 (by decide)]
    exact ⟨fun _ => H2 q _ _ (sv_E_w (by decide)) (sv_R_f R (by decide)) (mm_wr_eq _ _ _ _), fun y => absurd rfl y⟩
theorem rs_first {t : Int} (R : sv_R D tx k P) (H1 : 0 ≤ t → t < k → ∀ D', sv_E D D' → sv_R D' tx k P → D' 24 0 = 0 → Q (.inl (some (mm_I (sv_bg P (en_of tx 16 P t))))) (mm_mk D' u x)) (H2 : ¬ (0 ≤ t ∧ t < k) → ∀ D' r, sv_E D D' → sv_R D' tx k P → D' 24 0 = 1 → Q (.inl (some (mm_I r))) (mm_mk D' u x)) : mt 100 0 [some (mm_P 24), some (mm_I t), none, none] [] (mm_mk D u x) Q := by
  have k4 := R.1.1
  apply q_X5_first_0
  apply rp_isText
  apply mm_pIi
  rw [R.2.1.1]
  by_cases q : 0 ≤ t ∧ t < k
  · rw [sd_b1 q]
    refine ⟨fun y => absurd y (by decide), fun _ => ?_⟩
    apply rp_holds
    apply mm_pIi
    rw [sd_b1 rfl]
    refine ⟨fun _ => ⟨by omega, by omega, ?_⟩, fun y => absurd (by decide) y⟩
    have R1 := sv_R_f R (p := 0) (v := 0) (by decide)
    have t1 := (sv_txt R1 q).1
    have htl := sv_len (T := R.1) t.toNat
    rw [t1]
    refine ⟨by constructor <;> omega, ?_⟩
    have et : ((t.toNat : Nat) : Int) = t := Int.toNat_of_nonneg q.1
    have HH := H1 q.1 q.2 _ (sv_E_w (by decide)) R1 (mm_wr_eq _ _ _ _)
    have lp : ∀ (m : Nat) (v2 : Int), m ≤ (tx t.toNat).length → ((v2 = -1 ∧ ∀ e, m ≤ e → e < (tx t.toNat).length → ¬ stn (tx t.toNat) P e) ∨ ∃ e : Nat, m ≤ e ∧ e < (tx t.toNat).length ∧ v2 = (e : Int) ∧ stn (tx t.toNat) P e ∧ ∀ e', m ≤ e' → e' < e → ¬ stn (tx t.toNat) P e') → mt 100 21 [some (mm_P 24), some (mm_I t), some (mm_I v2), some (mm_I ((m : Int) - 1))] [] (mm_mk (mm_wr D 24 0 0) u x) Q := by
      intro m
      induction m with
      | zero =>
        intro v2 _ h
        apply q_X5_first_21
        refine ⟨fun _ => ?_, fun y => absurd y (by omega)⟩
        have : fN (stn (tx t.toNat) P) (tx t.toNat).length = v2 := fN_u (h.imp (fun y => ⟨y.1, fun e he => y.2 e (Nat.zero_le _) he⟩) (fun y => by
          obtain ⟨e, _, e1, e2, e3, e4⟩ := y
          exact ⟨e, e1, e2, e3, fun e' he' => e4 e' (Nat.zero_le _) he'⟩))
        rw [← this, fN_starts]
        exact HH
      | succ m ih =>
        intro v2 hm h
        apply q_X5_first_21
        refine ⟨fun y => absurd y (by omega), fun _ => ?_⟩
        have key := rp_stands (u := u) (x := x) (t := t.toNat) (i := m) (s := 0) (Q := mm_pI fun r4 D1 u2 x3 => (((r4) = 0) → (mm_rng ((((m + 1 : Nat) : Int) - 1) + (-1 : Int))) ∧ (mt 100 21 [some (mm_P 24), some (mm_I t), some (mm_I (v2)), some (mm_I ((((m + 1 : Nat) : Int) - 1) + (-1 : Int)))] [] (mm_mk D1 u2 x3) Q)) ∧ (¬ ((r4) = 0) → (mm_rng ((((m + 1 : Nat) : Int) - 1) + (-1 : Int))) ∧ (mt 100 21 [some (mm_P 24), some (mm_I t), some (mm_I (((m + 1 : Nat) : Int) - 1)), some (mm_I ((((m + 1 : Nat) : Int) - 1) + (-1 : Int)))] [] (mm_mk D1 u2 x3) Q))) R1 (by omega) (by omega) (Nat.zero_le _) ?_
        · rw [et, show ((m : Nat) : Int) = ((m + 1 : Nat) : Int) - 1 by omega] at key
          exact key
        · apply mm_pIi
          rw [List.drop_zero, show (((m + 1 : Nat) : Int) - 1) + (-1 : Int) = (m : Int) - 1 by omega, show ((m + 1 : Nat) : Int) - 1 = (m : Int) by omega]
          by_cases c : stn (tx t.toNat) P m
          · rw [cI_1 c]
            refine ⟨fun y => absurd y (by decide), fun _ => ⟨by constructor <;> omega, ih (m : Int) (by omega) (Or.inr ⟨m, Nat.le_refl _, by omega, rfl, c, fun e' h1 h2 => by omega⟩)⟩⟩
          · rw [cI_0 c]
            refine ⟨fun _ => ⟨by constructor <;> omega, ih v2 (by omega) ?_⟩, fun y => absurd rfl y⟩
            rcases h with ⟨h1, h2⟩ | ⟨e, e0, e1, e2, e3, e4⟩
            · refine Or.inl ⟨h1, fun e a b => ?_⟩
              by_cases d : e = m
              · rw [d]; exact c
              · exact h2 e (by omega) b
            · refine Or.inr ⟨e, by omega, e1, e2, e3, fun e' a b => ?_⟩
              by_cases d : e' = m
              · rw [d]; exact c
              · exact e4 e' (by omega) b
    have := lp (tx t.toNat).length (-1) (Nat.le_refl _) (Or.inl ⟨rfl, fun e a b => by omega⟩)
    exact this
  · rw [sd_b0 q]
    refine ⟨fun _ => ?_, fun y => absurd rfl y⟩
    apply rp_holds
    apply mm_pIi
    rw [sd_b0 (by decide)]
    exact ⟨fun y => absurd rfl y, fun _ => H2 q _ _ (sv_E_w (by decide)) (sv_R_f R (by decide)) (mm_wr_eq _ _ _ _)⟩
theorem rs_last {t : Int} (R : sv_R D tx k P) (H1 : 0 ≤ t → t < k → ∀ D', sv_E D D' → sv_R D' tx k P → D' 24 0 = 0 → Q (.inl (some (mm_I (sv_bg P (en_of tx 17 P t))))) (mm_mk D' u x)) (H2 : ¬ (0 ≤ t ∧ t < k) → ∀ D' r, sv_E D D' → sv_R D' tx k P → D' 24 0 = 1 → Q (.inl (some (mm_I r))) (mm_mk D' u x)) : mt 101 0 [some (mm_P 24), some (mm_I t), none, none] [] (mm_mk D u x) Q := by
  have k4 := R.1.1
  apply q_X5_last_0
  apply rp_isText
  apply mm_pIi
  rw [R.2.1.1]
  by_cases q : 0 ≤ t ∧ t < k
  · rw [sd_b1 q]
    refine ⟨fun y => absurd y (by decide), fun _ => ?_⟩
    apply rp_holds
    apply mm_pIi
    rw [sd_b1 rfl]
    refine ⟨fun _ => ?_, fun y => absurd (by decide) y⟩
    have R1 := sv_R_f R (p := 0) (v := 0) (by decide)
    have t1 := (sv_txt R1 q).1
    have htl := sv_len (T := R.1) t.toNat
    have et : ((t.toNat : Nat) : Int) = t := Int.toNat_of_nonneg q.1
    have HH := H1 q.1 q.2 _ (sv_E_w (by decide)) R1 (mm_wr_eq _ _ _ _)
    have lp : ∀ (m i : Nat), i + m = (tx t.toNat).length → mt 101 16 [some (mm_P 24), some (mm_I t), some (mm_I (laN (stn (tx t.toNat) P) i)), some (mm_I (i : Int))] [] (mm_mk (mm_wr D 24 0 0) u x) Q := by
      intro m
      induction m with
      | zero =>
        intro i hi
        apply q_X5_last_16
        rw [t1]
        refine ⟨by omega, by omega, fun _ => ?_, fun y => absurd y (by omega)⟩
        rw [show i = (tx t.toNat).length by omega, laN_starts]
        exact HH
      | succ m ih =>
        intro i hi
        apply q_X5_last_16
        rw [t1]
        refine ⟨by omega, by omega, fun y => absurd y (by omega), fun _ => ?_⟩
        have nx := ih (i + 1) (by omega)
        rw [laN_s] at nx
        have key := rp_stands (u := u) (x := x) (t := t.toNat) (i := i) (s := 0) (Q := mm_pI fun r6 D3 u4 x5 => (((r6) = 0) → (mm_rng (((i : Nat) : Int) + (1 : Int))) ∧ (mt 101 16 [some (mm_P 24), some (mm_I t), some (mm_I (laN (stn (tx t.toNat) P) i)), some (mm_I ((i : Int) + (1 : Int)))] [] (mm_mk D3 u4 x5) Q)) ∧ (¬ ((r6) = 0) → (mm_rng ((i : Int) + (1 : Int))) ∧ (mt 101 16 [some (mm_P 24), some (mm_I t), some (mm_I (i : Int)), some (mm_I ((i : Int) + (1 : Int)))] [] (mm_mk D3 u4 x5) Q))) R1 (by omega) (by omega) (Nat.zero_le _) ?_
        · rw [et] at key
          exact key
        · apply mm_pIi
          rw [List.drop_zero]
          by_cases c : stn (tx t.toNat) P i
          · rw [if_pos c] at nx
            rw [cI_1 c]
            exact ⟨fun y => absurd y (by decide), fun _ => ⟨by constructor <;> omega, nx⟩⟩
          · rw [if_neg c] at nx
            rw [cI_0 c]
            exact ⟨fun _ => ⟨by constructor <;> omega, nx⟩, fun y => absurd rfl y⟩
    exact lp (tx t.toNat).length 0 (by omega)
  · rw [sd_b0 q]
    refine ⟨fun _ => ?_, fun y => absurd rfl y⟩
    apply rp_holds
    apply mm_pIi
    rw [sd_b0 (by decide)]
    exact ⟨fun y => absurd rfl y, fun _ => H2 q _ _ (sv_E_w (by decide)) (sv_R_f R (by decide)) (mm_wr_eq _ _ _ _)⟩
end RB
