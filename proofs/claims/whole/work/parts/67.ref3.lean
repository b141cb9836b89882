/-! the reference: letters beside the pattern; parts alike with it -/
section RC
variable {D : mm_D} {u : Int} {x : mm_Xt} {Q : mm_O → mm_H → Prop} {tx : Nat → wd} {k : Int} {P : wd}
def sv_B (tx : Nat → wd) (P : wd) (away : Int) (t i : Nat) (a : Int) : Prop := (P = [] ∧ a = wg (tx t) i) ∨ (P ≠ [] ∧ stn (tx t) P i ∧ 0 ≤ (i : Int) + away ∧ (i : Int) + away < ((tx t).length : Int) ∧ a = wg (tx t) ((i : Int) + away).toNat)
theorem rp_beside {away : Int} (R : sv_R D tx k P) (ha : -1 ≤ away ∧ away ≤ 120) (H : ∀ z, bm z (fun a => ∃ t i : Nat, (t : Int) < k ∧ i < (tx t).length ∧ sv_B tx P away t i a) → Q (.inl (some (mm_I z))) (mm_mk D u x)) : mt 102 0 [some (mm_P 24), some (mm_I away), none, none, none, none, none] [] (mm_mk D u x) Q := by
  have k4 := R.1.1
  apply q_X5_beside_0
  have lp : ∀ (m t : Nat) (z : Int) (o4 o5 o6 : Option mm_V), (t : Int) + m = k → bm z (fun a => ∃ t' i' : Nat, t' < t ∧ (t' : Int) < k ∧ i' < (tx t').length ∧ sv_B tx P away t' i' a) → mt 102 4 [some (mm_P 24), some (mm_I away), some (mm_I z), some (mm_I (t : Int)), o4, o5, o6] [] (mm_mk D u x) Q := by
    intro m
    induction m with
    | zero =>
      intro t z o4 o5 o6 ht hz
      apply q_X5_beside_4
      rw [R.2.1.1]
      refine ⟨fun _ => H z (bm_c hz (fun a _ => ⟨fun q => ?_, fun q => ?_⟩)), fun y => absurd y (by omega)⟩
      · obtain ⟨t', i', _, h⟩ := q
        exact ⟨t', i', h⟩
      · obtain ⟨t', i', h1, h⟩ := q
        exact ⟨t', i', by omega, h1, h⟩
    | succ m ih =>
      intro t z o4 o5 o6 ht hz
      have htl := sv_len (T := R.1) t
      have ht1 := sv_txt R (t := (t : Int)) (by omega)
      have tt : ((t : Int)).toNat = t := rfl
      rw [tt] at ht1
      obtain ⟨t1, t2⟩ := ht1
      have let26 : ∀ j, j < (tx t).length → 0 ≤ wg (tx t) j ∧ wg (tx t) j < 26 := fun j hj => R.1.2.2.2.1 t _ (wg_mem hj)
      have inn : ∀ (y i : Nat) (z : Int) (o5 o6 : Option mm_V), i + y = (tx t).length → bm z (fun a => ∃ t' i' : Nat, (t' < t ∨ (t' = t ∧ i' < i)) ∧ (t' : Int) < k ∧ i' < (tx t').length ∧ sv_B tx P away t' i' a) → mt 102 10 [some (mm_P 24), some (mm_I away), some (mm_I z), some (mm_I (t : Int)), some (mm_I (i : Int)), o5, o6] [] (mm_mk D u x) Q := by
        intro y
        induction y with
        | zero =>
          intro i z o5 o6 hi hz
          apply q_X5_beside_10
          rw [t1]
          refine ⟨by omega, by omega, fun _ => ⟨by constructor <;> omega, ih (t + 1) z _ _ _ (by omega) (bm_c hz (fun a _ => ⟨fun q => ?_, fun q => ?_⟩))⟩, fun y => absurd y (by omega)⟩
          · obtain ⟨t', i', h1, h⟩ := q
            exact ⟨t', i', by omega, h⟩
          · obtain ⟨t', i', h1, h2, h3, h⟩ := q
            refine ⟨t', i', ?_, h2, h3, h⟩
            by_cases e : t' = t
            · rw [e] at h3
              exact Or.inr ⟨e, by omega⟩
            · exact Or.inl (by omega)
        | succ y ih2 =>
          intro i z o5 o6 hi hz
          -- one more letter, or none
          have yes : ∀ (c : Int) (o5 o6 : Option mm_V), 0 ≤ c → c < 26 → (∀ a, sv_B tx P away t i a ↔ a = c) → mt 102 10 [some (mm_P 24), some (mm_I away), some (mm_I (mm_or z ((1 : Int) * 2 ^ c.toNat))), some (mm_I (t : Int)), some (mm_I ((i : Int) + 1)), o5, o6] [] (mm_mk D u x) Q := by
            intro c o5 o6 c0 c1 hB
            refine ih2 (i + 1) _ _ _ (by omega) (bm_c (bm_or hz (a := c.toNat) (by omega)) (fun a _ => ⟨fun q => ?_, fun q => ?_⟩))
            · rcases q with ⟨t', i', h1, h⟩ | q
              · exact ⟨t', i', by omega, h⟩
              · exact ⟨t, i, Or.inr ⟨rfl, by omega⟩, by omega, by omega, (hB _).mpr (by omega)⟩
            · obtain ⟨t', i', h1, h2, h3, h⟩ := q
              by_cases e : t' = t ∧ i' = i
              · rw [e.1, e.2] at h
                have := (hB _).mp h
                exact Or.inr (by omega)
              · exact Or.inl ⟨t', i', by omega, h2, h3, h⟩
          have not : ∀ (o5 o6 : Option mm_V), (∀ a, ¬ sv_B tx P away t i a) → mt 102 10 [some (mm_P 24), some (mm_I away), some (mm_I (mm_or z 0)), some (mm_I (t : Int)), some (mm_I ((i : Int) + 1)), o5, o6] [] (mm_mk D u x) Q := by
            intro o5 o6 hB
            rw [bm_or0 hz]
            refine ih2 (i + 1) _ _ _ (by omega) (bm_c hz (fun a _ => ⟨fun q => ?_, fun q => ?_⟩))
            · obtain ⟨t', i', h1, h⟩ := q
              exact ⟨t', i', by omega, h⟩
            · obtain ⟨t', i', h1, h2, h3, h⟩ := q
              by_cases e : t' = t ∧ i' = i
              · rw [e.1, e.2] at h
                exact absurd h (hB _)
              · exact ⟨t', i', by omega, h2, h3, h⟩
          have lw : ∀ j : Nat, j < (tx t).length → ∀ p : Int, p = 100 * (t : Int) + (j : Int) → D 25 p = wg (tx t) j := fun j hj p e => by rw [e]; exact t2 j hj
          apply q_X5_beside_10
          rw [t1, R.2.2.2.1]
          refine ⟨by omega, by omega, fun y => absurd y (by omega), fun _ => ⟨by constructor <;> omega, fun q0 => ⟨by constructor <;> omega, fun y => absurd q0 y, fun _ => ?_⟩, fun q0 => ?_⟩⟩
          · have hP : P = [] := List.length_eq_zero_iff.mp (by omega)
            rw [lw i (by omega) _ rfl]
            obtain ⟨c0, c1⟩ := let26 i (by omega)
            refine ⟨by constructor <;> omega, by omega, by omega, by omega, two_rng (by omega), by constructor <;> omega, yes _ _ _ c0 c1 (fun a => ⟨fun y => ?_, fun y => Or.inl ⟨hP, y⟩⟩)⟩
            rcases y with y | y
            · exact y.2
            · exact absurd hP y.1
          · have hP : P ≠ [] := fun e => q0 (by rw [e]; rfl)
            refine rp_stands (s := 0) R (by omega) (by omega) (Nat.zero_le _) ?_
            apply mm_pIi
            rw [List.drop_zero]
            by_cases c : stn (tx t) P i
            · rw [cI_1 c, t1, R.2.2.2.1]
              refine ⟨fun y => absurd y (by decide), fun _ => ⟨fun y => ⟨by constructor <;> omega, not _ _ (fun a z => ?_)⟩, fun y => ⟨by omega, by omega, fun y2 => ⟨by constructor <;> omega, not _ _ (fun a z => ?_)⟩, fun y2 => ⟨by constructor <;> omega, fun _ => ?_, fun y3 => absurd q0 y3⟩⟩⟩⟩
              · rcases z with z | z
                · exact hP z.1
                · omega
              · rcases z with z | z
                · exact hP z.1
                · omega
              · rw [lw ((i : Int) + away).toNat (by omega) _ (by omega)]
                obtain ⟨c0, c1⟩ := let26 ((i : Int) + away).toNat (by omega)
                refine ⟨by constructor <;> omega, by omega, by omega, by omega, two_rng (by omega), by constructor <;> omega, yes _ _ _ c0 c1 (fun a => ⟨fun z => ?_, fun z => Or.inr ⟨hP, c, by omega, by omega, z⟩⟩)⟩
                rcases z with z | z
                · exact absurd z.1 hP
                · exact z.2.2.2.2
            · rw [cI_0 c]
              refine ⟨fun _ => ⟨by constructor <;> omega, not _ _ (fun a z => ?_)⟩, fun y => absurd rfl y⟩
              rcases z with z | z
              · exact hP z.1
              · exact c z.2.1
      apply q_X5_beside_4
      rw [R.2.1.1]
      refine ⟨fun y => absurd y (by omega), fun _ => inn (tx t).length 0 z _ _ (by omega) (bm_c hz (fun a _ => ⟨fun q => ?_, fun q => ?_⟩))⟩
      · obtain ⟨t', i', h1, h⟩ := q
        exact ⟨t', i', by omega, h⟩
      · obtain ⟨t', i', h1, h⟩ := q
        exact ⟨t', i', by omega, h⟩
  have := lp k.toNat 0 0 none none none (by omega) (bm_0 (fun a _ q => by obtain ⟨t', i', h1, _⟩ := q; omega))
  exact this
theorem stn_snoc {T w : wd} {a : Int} {i : Nat} (h0 : w ≠ []) : stn T (w ++ [a]) i ↔ stn T w i ∧ i + w.length < T.length ∧ a = wg T (i + w.length) := by
  constructor
  · intro h
    have hl := stn_len h
    rw [List.length_append, List.length_singleton] at hl
    refine ⟨stn_of h0 (by omega) (fun j hj => ?_), by omega, ?_⟩
    · rw [stn_wg h (j := j) (by rw [List.length_append]; omega), wg_l hj]
    · rw [stn_wg h (j := w.length) (by rw [List.length_append, List.length_singleton]; omega), wg_r]
  · rintro ⟨h1, h2, h3⟩
    refine stn_of (by simp) (by rw [List.length_append, List.length_singleton]; omega) (fun j hj => ?_)
    rw [List.length_append, List.length_singleton] at hj
    by_cases e : j = w.length
    · rw [e, wg_r, h3]
    · rw [wg_l (by omega)]
      exact stn_wg h1 (by omega)
theorem wg_cons0 (a : Int) (w : wd) : wg (a :: w) 0 = a := rfl
theorem wg_cons1 (a : Int) (w : wd) (j : Nat) : wg (a :: w) (j + 1) = wg w j := rfl
theorem stn_one {T : wd} {a : Int} {i : Nat} : stn T [a] i ↔ i < T.length ∧ a = wg T i := by
  constructor
  · intro h
    have hl := stn_len h
    rw [List.length_singleton] at hl
    exact ⟨by omega, (stn_wg h (j := 0) (by simp)).symm⟩
  · rintro ⟨h1, h2⟩
    refine stn_of (by simp) (by rw [List.length_singleton]; omega) (fun j hj => ?_)
    rw [List.length_singleton] at hj
    have : j = 0 := by omega
    rw [this, h2]
    rfl
theorem stn_cons {T w : wd} {a : Int} {i : Nat} (h0 : w ≠ []) : stn T (a :: w) i ↔ stn T w (i + 1) ∧ a = wg T i := by
  constructor
  · intro h
    have hl := stn_len h
    rw [List.length_cons] at hl
    refine ⟨stn_of h0 (by omega) (fun j hj => ?_), ?_⟩
    · have := stn_wg h (j := j + 1) (by rw [List.length_cons]; omega)
      rw [wg_cons1] at this
      rw [← this]
      congr 1
      omega
    · have := stn_wg h (j := 0) (by rw [List.length_cons]; omega)
      rw [wg_cons0] at this
      exact this.symm
  · rintro ⟨h1, h2⟩
    have hl := stn_len h1
    refine stn_of (by simp) (by rw [List.length_cons]; omega) (fun j hj => ?_)
    rw [List.length_cons] at hj
    cases j with
    | zero => exact h2.symm
    | succ j =>
      have := stn_wg h1 (j := j) (by omega)
      rw [wg_cons1, ← this]
      congr 1
      omega
theorem rs_followers (R : sv_R D tx k P) (H : ∀ z D', sv_E D D' → sv_R D' tx k P → bm z (fun a => fac tx (P ++ [a])) → Q (.inl (some (mm_I z))) (mm_mk D' u x)) : mt 103 0 [some (mm_P 24)] [] (mm_mk D u x) Q := by
  have hlen := R.1.2.2.1
  apply q_X5_followers_0
  intro D1 e1
  subst e1
  have R1 := sv_R_f R (p := 0) (v := 0) (by decide)
  rw [R1.2.2.2.1]
  refine rp_beside R1 (by omega) (fun z hz => ?_)
  apply mm_pIi
  refine H z _ (sv_E_w (by decide)) R1 (bm_c hz (fun a _ => ?_))
  by_cases hP : P = []
  · rw [hP, List.nil_append, fac_st (by simp)]
    constructor
    · rintro ⟨t, i, h1, h2, h3⟩
      rcases h3 with h3 | h3
      · exact ⟨t, i, stn_one.mpr ⟨h2, h3.2⟩⟩
      · exact absurd rfl h3.1
    · rintro ⟨t, i, h⟩
      have h := stn_one.mp h
      exact ⟨t, i, (tx_lt R.1 (by omega)).1, h.1, Or.inl ⟨rfl, h.2⟩⟩
  · rw [fac_st (by simp)]
    constructor
    · rintro ⟨t, i, h1, h2, h3⟩
      rcases h3 with h3 | ⟨_, h3, h4, h5, h6⟩
      · exact absurd h3.1 hP
      · rw [show ((i : Int) + (P.length : Int)).toNat = i + P.length by omega] at h6
        exact ⟨t, i, (stn_snoc hP).mpr ⟨h3, by omega, h6⟩⟩
    · rintro ⟨t, i, h⟩
      obtain ⟨h1, h2, h3⟩ := (stn_snoc hP).mp h
      exact ⟨t, i, (tx_lt R.1 (by omega)).1, by omega, Or.inr ⟨hP, h1, by omega, by omega, by rw [show ((i : Int) + (P.length : Int)).toNat = i + P.length by omega]; exact h3⟩⟩
theorem rs_leaders (R : sv_R D tx k P) (H : ∀ z D', sv_E D D' → sv_R D' tx k P → bm z (fun a => fac tx ([a] ++ P)) → Q (.inl (some (mm_I z))) (mm_mk D' u x)) : mt 104 0 [some (mm_P 24)] [] (mm_mk D u x) Q := by
  have hlen := R.1.2.2.1
  apply q_X5_leaders_0
  intro D1 e1
  subst e1
  have R1 := sv_R_f R (p := 0) (v := 0) (by decide)
  refine rp_beside R1 (by decide) (fun z hz => ?_)
  apply mm_pIi
  refine H z _ (sv_E_w (by decide)) R1 (bm_c hz (fun a _ => ?_))
  by_cases hP : P = []
  · rw [hP, List.append_nil, fac_st (by simp)]
    constructor
    · rintro ⟨t, i, h1, h2, h3⟩
      rcases h3 with h3 | h3
      · exact ⟨t, i, stn_one.mpr ⟨h2, h3.2⟩⟩
      · exact absurd rfl h3.1
    · rintro ⟨t, i, h⟩
      have h := stn_one.mp h
      exact ⟨t, i, (tx_lt R.1 (by omega)).1, h.1, Or.inl ⟨rfl, h.2⟩⟩
  · rw [fac_st (by simp)]
    constructor
    · rintro ⟨t, i, h1, h2, h3⟩
      rcases h3 with h3 | ⟨_, h3, h4, h5, h6⟩
      · exact absurd h3.1 hP
      · rw [show ((i : Int) + -1).toNat = i - 1 by omega] at h6
        exact ⟨t, i - 1, (stn_cons hP).mpr ⟨by rw [show i - 1 + 1 = i by omega]; exact h3, h6⟩⟩
    · rintro ⟨t, i, h⟩
      obtain ⟨h1, h2⟩ := (stn_cons hP).mp h
      have := stn_len h1
      have := List.length_pos_iff.mpr hP
      exact ⟨t, i + 1, (tx_lt R.1 (by omega)).1, by omega, Or.inr ⟨hP, h1, by omega, by omega, by rw [show (((i + 1 : Nat) : Int) + -1).toNat = i by omega]; exact h2⟩⟩
/-- the same letter so many ahead of all places -/
def sv_led (tx : Nat → wd) (k : Int) (P : wd) (m : Nat) : Prop := ∃ c : Int, ∀ t i : Nat, (t : Int) < k → stn (tx t) P i → m ≤ i ∧ wg (tx t) (i - m) = c
theorem rp_areLed {m : Nat} (R : sv_R D tx k P) (hm : 1 ≤ m ∧ m ≤ 300) (H1 : sv_led tx k P m → Q (.inl (some (mm_I 1))) (mm_mk D u x)) (H0 : ¬ sv_led tx k P m → Q (.inl (some (mm_I 0))) (mm_mk D u x)) : mt 111 0 [some (mm_P 24), some (mm_I (m : Int)), none, none, none, none, none] [] (mm_mk D u x) Q := by
  have k4 := R.1.1
  apply q_X5_areLed_0
  have no : ∀ (y t : Nat) (v2 : Int) (o5 o6 : Option mm_V), (t : Int) + y = k → ¬ sv_led tx k P m → mt 111 6 [some (mm_P 24), some (mm_I (m : Int)), some (mm_I v2), some (mm_I 0), some (mm_I (t : Int)), o5, o6] [] (mm_mk D u x) Q := by
    intro y
    induction y with
    | zero =>
      intro t v2 o5 o6 ht h
      apply q_X5_areLed_6
      rw [R.2.1.1]
      exact ⟨fun _ => ⟨Or.inl rfl, H0 h⟩, fun y => absurd y (by omega)⟩
    | succ y ih =>
      intro t v2 o5 o6 ht h
      apply q_X5_areLed_6
      rw [R.2.1.1]
      refine ⟨fun y => absurd y (by omega), fun _ => ?_⟩
      apply q_X5_areLed_12
      have nx := fun v5 o6 => ih (t + 1) v2 v5 o6 (by omega) h
      exact ⟨by omega, by omega, fun _ => ⟨by constructor <;> omega, nx _ _⟩, fun _ => ⟨fun _ => ⟨by constructor <;> omega, nx _ _⟩, fun y => absurd rfl y⟩⟩
  have lp : ∀ (y t : Nat) (v2 : Int) (o5 o6 : Option mm_V), (t : Int) + y = k → ((v2 = -1 ∧ ∀ t' i' : Nat, t' < t → ¬ stn (tx t') P i') ∨ (0 ≤ v2 ∧ (∃ t' i' : Nat, (t' : Int) < k ∧ stn (tx t') P i' ∧ m ≤ i' ∧ wg (tx t') (i' - m) = v2) ∧ ∀ t' i' : Nat, t' < t → stn (tx t') P i' → m ≤ i' ∧ wg (tx t') (i' - m) = v2)) → mt 111 6 [some (mm_P 24), some (mm_I (m : Int)), some (mm_I v2), some (mm_I 1), some (mm_I (t : Int)), o5, o6] [] (mm_mk D u x) Q := by
    intro y
    induction y with
    | zero =>
      intro t v2 o5 o6 ht h
      apply q_X5_areLed_6
      rw [R.2.1.1]
      refine ⟨fun _ => ⟨Or.inr rfl, H1 ⟨v2, fun t' i' h1 h2 => ?_⟩⟩, fun y => absurd y (by omega)⟩
      rcases h with ⟨_, h⟩ | ⟨_, _, h⟩
      · exact absurd h2 (h t' i' (by omega))
      · exact h t' i' (by omega) h2
    | succ y ih =>
      intro t v2 o5 o6 ht h
      have htl := sv_len (T := R.1) t
      have ht1 := sv_txt R (t := (t : Int)) (by omega)
      have tt : ((t : Int)).toNat = t := rfl
      rw [tt] at ht1
      obtain ⟨t1, t2⟩ := ht1
      apply q_X5_areLed_6
      rw [R.2.1.1]
      refine ⟨fun y => absurd y (by omega), fun _ => ?_⟩
      have noI : ∀ (i : Nat) (v2 : Int) (o6 : Option mm_V), i ≤ (tx t).length → ¬ sv_led tx k P m → mt 111 12 [some (mm_P 24), some (mm_I (m : Int)), some (mm_I v2), some (mm_I 0), some (mm_I (t : Int)), some (mm_I (i : Int)), o6] [] (mm_mk D u x) Q := by
        intro i v2 o6 hi h
        apply q_X5_areLed_12
        have nx := fun v5 o6 => no y (t + 1) v2 v5 o6 (by omega) h
        exact ⟨by omega, by omega, fun _ => ⟨by constructor <;> omega, nx _ _⟩, fun _ => ⟨fun _ => ⟨by constructor <;> omega, nx _ _⟩, fun y => absurd rfl y⟩⟩
      have inn : ∀ (z i : Nat) (v2 : Int) (o6 : Option mm_V), i + z = (tx t).length → ((v2 = -1 ∧ ∀ t' i' : Nat, (t' < t ∨ (t' = t ∧ i' < i)) → ¬ stn (tx t') P i') ∨ (0 ≤ v2 ∧ (∃ t' i' : Nat, (t' : Int) < k ∧ stn (tx t') P i' ∧ m ≤ i' ∧ wg (tx t') (i' - m) = v2) ∧ ∀ t' i' : Nat, (t' < t ∨ (t' = t ∧ i' < i)) → stn (tx t') P i' → m ≤ i' ∧ wg (tx t') (i' - m) = v2)) → mt 111 12 [some (mm_P 24), some (mm_I (m : Int)), some (mm_I v2), some (mm_I 1), some (mm_I (t : Int)), some (mm_I (i : Int)), o6] [] (mm_mk D u x) Q := by
        intro z
        induction z with
        | zero =>
          intro i v2 o6 hi h
          apply q_X5_areLed_12
          rw [t1]
          refine ⟨by omega, by omega, fun _ => ⟨by constructor <;> omega, ih (t + 1) v2 _ _ (by omega) ?_⟩, fun y => absurd y (by omega)⟩
          have ex : ∀ t' i' : Nat, t' < t + 1 → stn (tx t') P i' → t' < t ∨ (t' = t ∧ i' < i) := by
            intro t' i' a b
            by_cases e : t' = t
            · rw [e] at b
              have := stn_len b
              have := List.length_pos_iff.mpr b.1
              exact Or.inr ⟨e, by omega⟩
            · exact Or.inl (by omega)
          rcases h with ⟨h1, h2⟩ | ⟨h1, h2, h3⟩
          · exact Or.inl ⟨h1, fun t' i' a b => h2 t' i' (ex t' i' a b) b⟩
          · exact Or.inr ⟨h1, h2, fun t' i' a b => h3 t' i' (ex t' i' a b) b⟩
        | succ z ih2 =>
          intro i v2 o6 hi h
          apply q_X5_areLed_12
          rw [t1]
          refine ⟨by omega, by omega, fun y => absurd y (by omega), fun _ => ⟨fun y => absurd y (by decide), fun _ => ?_⟩⟩
          refine rp_stands (s := 0) R (by omega) (by omega) (Nat.zero_le _) ?_
          apply mm_pIi
          rw [List.drop_zero]
          by_cases c : stn (tx t) P i
          · rw [cI_1 c]
            refine ⟨fun y => absurd y (by decide), fun _ => ⟨fun y => ?_, fun y => ?_⟩⟩
            · have hw : D 25 (100 * (t : Int) + (i : Int) - (m : Int)) = wg (tx t) (i - m) := by
                have := t2 (i - m) (by omega)
                rw [← this]
                congr 1
                omega
              have hl := R.1.2.2.2.1 t _ (wg_mem (w := tx t) (i := i - m) (by omega))
              rw [hw]
              refine ⟨by constructor <;> omega, by constructor <;> omega, by constructor <;> omega, by omega, by omega, fun y2 => absurd y2 (by omega), fun _ => ⟨fun y2 => ⟨by constructor <;> omega, ih2 (i + 1) _ _ (by omega) (Or.inr ⟨hl.1, ⟨t, i, by omega, c, by omega, rfl⟩, fun t' i' a b => ?_⟩)⟩, fun y2 => ⟨fun y3 => ⟨by constructor <;> omega, noI (i + 1) _ _ (by omega) ?_⟩, fun y3 => ⟨by constructor <;> omega, ih2 (i + 1) _ _ (by omega) (Or.inr ⟨hl.1, ⟨t, i, by omega, c, by omega, rfl⟩, fun t' i' a b => ?_⟩)⟩⟩⟩⟩
              · rcases h with ⟨_, h⟩ | ⟨h1, _, _⟩
                · by_cases e : t' = t ∧ i' = i
                  · rw [e.1, e.2]
                    exact ⟨by omega, rfl⟩
                  · exact absurd b (h t' i' (by omega))
                · omega
              · rintro ⟨c', hc'⟩
                rcases h with ⟨h1, _⟩ | ⟨_, ⟨t', i', e1, e2, e3, e4⟩, _⟩
                · exact y2 h1
                · have := (hc' t i (by omega) c).2
                  have := (hc' t' i' e1 e2).2
                  omega
              · have y3 := Decidable.not_not.mp y3
                rcases h with ⟨h1, _⟩ | ⟨_, _, h⟩
                · exact absurd h1 y2
                · by_cases e : t' = t ∧ i' = i
                  · rw [e.1, e.2]
                    exact ⟨by omega, rfl⟩
                  · rw [y3]
                    exact h t' i' (by omega) b
            · refine ⟨by constructor <;> omega, noI (i + 1) _ _ (by omega) ?_⟩
              rintro ⟨c', hc'⟩
              have := (hc' t i (by omega) c).1
              omega
          · rw [cI_0 c]
            have ex : ∀ t' i' : Nat, (t' < t ∨ (t' = t ∧ i' < i + 1)) → stn (tx t') P i' → t' < t ∨ (t' = t ∧ i' < i) := by
              intro t' i' a b
              by_cases e : t' = t ∧ i' = i
              · rw [e.1, e.2] at b
                exact absurd b c
              · omega
            refine ⟨fun _ => ⟨by constructor <;> omega, ih2 (i + 1) v2 _ (by omega) ?_⟩, fun y => absurd rfl y⟩
            rcases h with ⟨h1, h2⟩ | ⟨h1, h2, h3⟩
            · exact Or.inl ⟨h1, fun t' i' a b => h2 t' i' (ex t' i' a b) b⟩
            · exact Or.inr ⟨h1, h2, fun t' i' a b => h3 t' i' (ex t' i' a b) b⟩
      refine inn (tx t).length 0 v2 _ (by omega) ?_
      rcases h with ⟨h1, h2⟩ | ⟨h1, h2, h3⟩
      · exact Or.inl ⟨h1, fun t' i' a b => h2 t' i' (by omega) b⟩
      · exact Or.inr ⟨h1, h2, fun t' i' a b => h3 t' i' (by omega) b⟩
  have := lp k.toNat 0 (-1) none none (by omega) (Or.inl ⟨rfl, fun t' i' h => by omega⟩)
  exact this
theorem led_yes (T : sv_T tx k P) {y d : wd} (hd : d = y ++ P) (h0 : P ≠ []) (ho : ∀ j e, oc (tx j) P e ↔ oc (tx j) d e) {m : Nat} (hm : 1 ≤ m ∧ m ≤ y.length) : sv_led tx k P m := by
  refine ⟨wg y (y.length - m), fun t i _ h => ?_⟩
  obtain ⟨h1, h2⟩ := stn_oc h
  have h3 := (oc_stn h2).mp ((ho t _).mp h1)
  have h4 := List.length_pos_iff.mpr h0
  have hl : d.length = y.length + P.length := by rw [hd, List.length_append]
  rw [hl] at h3
  have h5 := stn_wg h3.2 (j := y.length - m) (by omega)
  refine ⟨by omega, ?_⟩
  rw [hd, wg_l (by omega)] at h5
  rw [← h5]
  congr 1
  omega
theorem led_no (T : sv_T tx k P) {y d : wd} (hd : d = y ++ P) (h0 : P ≠ []) (hx : lmx tx d) : ¬ sv_led tx k P (y.length + 1) := by
  rintro ⟨c, hc⟩
  have h4 := List.length_pos_iff.mpr h0
  have hl : d.length = y.length + P.length := by rw [hd, List.length_append]
  have sub : ∀ {t i : Nat}, stn (tx t) d i → stn (tx t) P (i + y.length) := by
    intro t i h
    have h1 := stn_len h
    refine stn_of h0 (by omega) (fun j hj => ?_)
    have := stn_wg h (j := y.length + j) (by omega)
    rw [hd] at this
    have e : wg (y ++ P) (y.length + j) = wg P j := by
      rw [← wg_drop, List.drop_left]
    rw [e] at this
    rw [← this]
    congr 1
    omega
  have dn : d ≠ [] := by
    intro e
    rw [e] at hl
    simp at hl
    omega
  rcases hx with ⟨t, e, he⟩ | ⟨a, b, hab, ha, hb⟩
  · have hp : d <+: tx t := by
      rw [he]
      exact List.take_prefix e (tx t)
    have hs := sub (t := t) (i := 0) ⟨dn, by rw [List.drop_zero]; exact hp⟩
    have h1 := stn_len hs
    have := (hc t _ (tx_lt T (j := t) (by omega)).1 hs).1
    omega
  · have two : ∀ a : Int, fac tx (a :: d) → a = c := by
      intro a ha
      obtain ⟨t, i, h⟩ := (fac_st (by simp)).mp ha
      obtain ⟨h1, h2⟩ := (stn_cons dn).mp h
      have hs := sub h1
      have h3 := stn_len hs
      have := (hc t _ (tx_lt T (j := t) (by omega)).1 hs).2
      rw [h2, ← this]
      congr 1
      omega
    exact hab ((two a ha).trans (two b hb).symm)
theorem rs_longest {ans : Int} (R : sv_R D tx k P) (hd : (¬ (P ≠ [] ∧ fac tx P) ∧ ans = -1) ∨ ∃ d : wd, P ≠ [] ∧ fac tx P ∧ P <:+ d ∧ (∀ j e, oc (tx j) P e ↔ oc (tx j) d e) ∧ lmx tx d ∧ ans = (d.length : Int)) (H : ∀ D', sv_E D D' → sv_R D' tx k P → Q (.inl (some (mm_I ans))) (mm_mk D' u x)) : mt 112 0 [some (mm_P 24), none] [] (mm_mk D u x) Q := by
  apply q_X5_longestAlike_0
  intro D1 e1
  subst e1
  have R1 := sv_R_f R (p := 0) (v := 0) (by decide)
  have HH := H _ (sv_E_w (by decide)) R1
  refine rp_count0 R1 ?_
  apply mm_pIi
  have hp := en_all_pos (w := P) R.1
  have hn : 0 ≤ en_all tx P := by
    have b0 := en_b tx P 0
    have b1 := en_b tx P 1
    have b2 := en_b tx P 2
    have b3 := en_b tx P 3
    unfold en_all
    omega
  rcases hd with ⟨h1, h2⟩ | ⟨d, h0, hf, hs, ho, hx, ha⟩
  · rw [h2] at HH
    refine ⟨fun q => absurd (hp.mp (by omega)) h1, fun _ => HH⟩
  · have hpos := hp.mpr ⟨h0, hf⟩
    refine ⟨fun _ => ?_, fun q => absurd (by omega) q⟩
    obtain ⟨y, hy⟩ := hs
    have hl : d.length = y.length + P.length := by rw [← hy, List.length_append]
    have hdl : d.length ≤ 100 := by
      have : fac tx d := by
        obtain ⟨j, i, h⟩ := (fac_st h0).mp hf
        have := (ho j _).mp (stn_oc h).1
        exact ⟨j, _, this.2⟩
      exact fac_len R.1 this
    have lp : ∀ (z m : Nat), m + z = y.length → mt 112 11 [some (mm_P 24), some (mm_I (m : Int))] [] (mm_mk (mm_wr D 24 0 0) u x) Q := by
      intro z
      induction z with
      | zero =>
        intro m hm
        apply q_X5_longestAlike_11
        refine ⟨by constructor <;> omega, ?_⟩
        rw [show (m : Int) + 1 = ((m + 1 : Nat) : Int) by omega]
        refine rp_areLed R1 (by omega) (fun q => ?_) (fun q => ?_)
        · rw [show m + 1 = y.length + 1 by omega] at q
          exact absurd q (led_no R.1 hy.symm h0 hx)
        · apply mm_pIi
          rw [R1.2.2.2.1]
          refine ⟨fun _ => ⟨by constructor <;> omega, ?_⟩, fun y => absurd rfl y⟩
          rw [show (P.length : Int) + (m : Int) = ans by omega]
          exact HH
      | succ z ih =>
        intro m hm
        apply q_X5_longestAlike_11
        refine ⟨by constructor <;> omega, ?_⟩
        rw [show (m : Int) + 1 = ((m + 1 : Nat) : Int) by omega]
        refine rp_areLed R1 (by omega) (fun q => ?_) (fun q => absurd (led_yes R.1 hy.symm h0 ho (by omega)) q)
        apply mm_pIi
        exact ⟨fun y => absurd y (by decide), fun _ => ⟨by constructor <;> omega, ih (m + 1) (by omega)⟩⟩
    exact lp y.length 0 (by omega)
theorem en_all_eq {w v : wd} (h : ∀ j e, oc (tx j) v e ↔ oc (tx j) w e) : en_all tx v = en_all tx w := by
  have e : ∀ j : Int, en_of tx 15 v j = en_of tx 15 w j := fun j => en_eq rfl (fun e _ => h j.toNat e)
  unfold en_all
  rw [e 0, e 1, e 2, e 3]
theorem en_all_lt (T : sv_T tx k P) {w v : wd} (h : ∀ j e, oc (tx j) v e → oc (tx j) w e) (hx : ∃ j e : Nat, e < (tx j).length ∧ oc (tx j) w e ∧ ¬ oc (tx j) v e) : en_all tx v < en_all tx w := by
  have e : ∀ j : Int, en_of tx 15 v j ≤ en_of tx 15 w j := fun j => cN_mono _ (fun e _ => h j.toNat e)
  obtain ⟨j, e0, e1, e2, e3⟩ := hx
  have hj := (tx_lt T (j := j) (by omega)).2
  have lt : en_of tx 15 v (j : Int) < en_of tx 15 w (j : Int) := cN_lt (p := oc (tx j) v) (q := oc (tx j) w) _ (fun e _ => h j e) ⟨e0, e1, e2, e3⟩
  have f0 := e 0
  have f1 := e 1
  have f2 := e 2
  have f3 := e 3
  unfold en_all
  have : j = 0 ∨ j = 1 ∨ j = 2 ∨ j = 3 := by omega
  rcases this with rfl | rfl | rfl | rfl
  · have lt : en_of tx 15 v 0 < en_of tx 15 w 0 := lt
    omega
  · have lt : en_of tx 15 v 1 < en_of tx 15 w 1 := lt
    omega
  · have lt : en_of tx 15 v 2 < en_of tx 15 w 2 := lt
    omega
  · have lt : en_of tx 15 v 3 < en_of tx 15 w 3 := lt
    omega
theorem rs_shortest {ans : Int} (R : sv_R D tx k P) (hd : (¬ (P ≠ [] ∧ fac tx P) ∧ ans = -1) ∨ ∃ s : Nat, P ≠ [] ∧ fac tx P ∧ 1 ≤ s ∧ s ≤ P.length ∧ (∀ w, w <:+ P → s ≤ w.length → ∀ j e, oc (tx j) P e ↔ oc (tx j) w e) ∧ (∀ w, w <:+ P → w ≠ [] → w.length < s → ∃ j e, e < (tx j).length ∧ oc (tx j) w e ∧ ¬ oc (tx j) P e) ∧ ans = (s : Int)) (H : ∀ D', sv_E D D' → sv_R D' tx k P → Q (.inl (some (mm_I ans))) (mm_mk D' u x)) : mt 113 0 [some (mm_P 24), none, none] [] (mm_mk D u x) Q := by
  have hlen := R.1.2.2.1
  apply q_X5_shortestAlike_0
  intro D1 e1
  subst e1
  have R1 := sv_R_f R (p := 0) (v := 0) (by decide)
  have HH := H _ (sv_E_w (by decide)) R1
  refine rp_count0 R1 ?_
  apply mm_pIi
  have hp := en_all_pos (w := P) R.1
  have hn : 0 ≤ en_all tx P := by
    have b0 := en_b tx P 0
    have b1 := en_b tx P 1
    have b2 := en_b tx P 2
    have b3 := en_b tx P 3
    unfold en_all
    omega
  rcases hd with ⟨h1, h2⟩ | ⟨s, h0, hf, s1, s2, hA, hB, ha⟩
  · rw [h2] at HH
    refine ⟨fun q => absurd (hp.mp (by omega)) h1, fun _ => HH⟩
  · have hpos := hp.mpr ⟨h0, hf⟩
    refine ⟨fun _ => ?_, fun q => absurd (by omega) q⟩
    have fin : ∀ m : Nat, (m : Int) = (P.length : Int) - (s : Int) → Q (.inl (some (mm_I ((P.length : Int) - (m : Int))))) (mm_mk (mm_wr D 24 0 0) u x) := by
      intro m hm
      rw [show (P.length : Int) - (m : Int) = ans by omega]
      exact HH
    have lp : ∀ (z m : Nat), m + z = P.length - s → mt 113 13 [some (mm_P 24), some (mm_I (en_all tx P)), some (mm_I (m : Int))] [] (mm_mk (mm_wr D 24 0 0) u x) Q := by
      intro z
      induction z with
      | zero =>
        intro m hm
        apply q_X5_shortestAlike_13
        rw [R1.2.2.2.1]
        refine ⟨by constructor <;> omega, fun _ => ⟨by constructor <;> omega, fin m (by omega)⟩, fun y => ⟨by constructor <;> omega, ?_⟩⟩
        rw [show (m : Int) + 1 = ((m + 1 : Nat) : Int) by omega]
        refine rp_count R1 (by omega) ?_
        apply mm_pIi
        rw [R1.2.2.2.1]
        refine ⟨fun _ => ⟨by constructor <;> omega, fin m (by omega)⟩, fun q => absurd (Decidable.not_not.mp q) ?_⟩
        have hdl : (P.drop (m + 1)).length = P.length - (m + 1) := List.length_drop
        have hdn : P.drop (m + 1) ≠ [] := by
          intro e
          rw [e] at hdl
          simp at hdl
          omega
        have := en_all_lt R.1 (w := P.drop (m + 1)) (v := P) (fun j e h => ⟨hdn, (List.drop_suffix _ _).trans h.2⟩) (hB _ (List.drop_suffix _ _) hdn (by omega))
        omega
      | succ z ih =>
        intro m hm
        apply q_X5_shortestAlike_13
        rw [R1.2.2.2.1]
        refine ⟨by constructor <;> omega, fun y => absurd y (by omega), fun y => ⟨by constructor <;> omega, ?_⟩⟩
        rw [show (m : Int) + 1 = ((m + 1 : Nat) : Int) by omega]
        refine rp_count R1 (by omega) ?_
        apply mm_pIi
        have hdl : (P.drop (m + 1)).length = P.length - (m + 1) := List.length_drop
        have e := en_all_eq (tx := tx) (hA (P.drop (m + 1)) (List.drop_suffix _ _) (by omega))
        exact ⟨fun q => absurd e.symm q, fun _ => ⟨by constructor <;> omega, ih (m + 1) (by omega)⟩⟩
    exact lp (P.length - s) 0 (by omega)
end RC
