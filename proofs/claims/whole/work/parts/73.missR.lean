/-! the reference: missing -/
/-- ahead of W: shorter, or first by the alphabet -/
def sv_sl (w W : wd) : Prop := w.length < W.length ∨ (w.length = W.length ∧ lx w W)
theorem rep_lo {m : Int} : ∀ {w : wd}, sv_ab m w → ¬ lx w (List.replicate w.length 0)
  | [], _, h => h
  | a :: w, hw, h => by
    obtain ⟨h1, h2⟩ := ab_cons.mp hw
    have h : lx (a :: w) (0 :: List.replicate w.length 0) := h
    rcases h with h | ⟨_, h⟩
    · omega
    · exact rep_lo h2 h
theorem rep_hi {m : Int} : ∀ {w : wd}, sv_ab m w → ¬ lx (List.replicate w.length (m - 1)) w
  | [], _, h => h
  | a :: w, hw, h => by
    obtain ⟨h1, h2⟩ := ab_cons.mp hw
    have h : lx ((m - 1) :: List.replicate w.length (m - 1)) (a :: w) := h
    rcases h with h | ⟨_, h⟩
    · omega
    · exact rep_hi h2 h
theorem nx_w {m b : Int} : ∀ {v w : wd} {j : Nat}, sv_ab m w → w.length = v.length + 1 + j → (lx w (v ++ (b + 1) :: List.replicate j 0) ↔ lx w (v ++ b :: List.replicate j (m - 1)) ∨ w = v ++ b :: List.replicate j (m - 1))
  | [], [], j, _, hl => by rw [List.length_nil] at hl; omega
  | [], a :: w, j, hw, hl => by
    obtain ⟨h1, h2⟩ := ab_cons.mp hw
    rw [List.length_cons, List.length_nil] at hl
    have hj : j = w.length := by omega
    subst hj
    have e1 : lx (a :: w) ([] ++ (b + 1) :: List.replicate w.length 0) ↔ a < b + 1 ∨ (a = b + 1 ∧ lx w (List.replicate w.length 0)) := Iff.rfl
    have e2 : lx (a :: w) ([] ++ b :: List.replicate w.length (m - 1)) ↔ a < b ∨ (a = b ∧ lx w (List.replicate w.length (m - 1))) := Iff.rfl
    rw [e1, e2]
    constructor
    · rintro (h | ⟨_, h⟩)
      · by_cases c : a = b
        · rcases lx_tri w (List.replicate w.length (m - 1)) with q | q | q
          · exact Or.inl (Or.inr ⟨c, q⟩)
          · right
            show a :: w = b :: List.replicate w.length (m - 1)
            rw [c, ← q]
          · exact absurd q (rep_hi h2)
        · exact Or.inl (Or.inl (by omega))
      · exact absurd h (rep_lo h2)
    · rintro ((h | ⟨h, _⟩) | h)
      · exact Or.inl (by omega)
      · exact Or.inl (by omega)
      · have h : a :: w = b :: List.replicate w.length (m - 1) := h
        have := (List.cons.inj h).1
        exact Or.inl (by omega)
  | c :: v, [], j, _, hl => by rw [List.length_nil] at hl; omega
  | c :: v, a :: w, j, hw, hl => by
    obtain ⟨h1, h2⟩ := ab_cons.mp hw
    rw [List.length_cons, List.length_cons] at hl
    have ih := nx_w (b := b) (v := v) (j := j) h2 (by omega)
    have e1 : lx (a :: w) (c :: v ++ (b + 1) :: List.replicate j 0) ↔ a < c ∨ (a = c ∧ lx w (v ++ (b + 1) :: List.replicate j 0)) := Iff.rfl
    have e2 : lx (a :: w) (c :: v ++ b :: List.replicate j (m - 1)) ↔ a < c ∨ (a = c ∧ lx w (v ++ b :: List.replicate j (m - 1))) := Iff.rfl
    have e3 : a :: w = c :: v ++ b :: List.replicate j (m - 1) ↔ a = c ∧ w = v ++ b :: List.replicate j (m - 1) := by
      show a :: w = c :: (v ++ b :: List.replicate j (m - 1)) ↔ _
      rw [List.cons.injEq]
    rw [e1, e2, e3, ih]
    constructor
    · rintro (h | ⟨h, h3 | h3⟩)
      · exact Or.inl (Or.inl h)
      · exact Or.inl (Or.inr ⟨h, h3⟩)
      · exact Or.inr ⟨h, h3⟩
    · rintro ((h | ⟨h, h3⟩) | ⟨h, h3⟩)
      · exact Or.inl h
      · exact Or.inr ⟨h, Or.inl h3⟩
      · exact Or.inr ⟨h, Or.inr h3⟩
theorem wg_rep {a : Int} {n i : Nat} (h : i < n) : wg (List.replicate n a) i = a := by
  rw [wg_e, List.getElem?_replicate, if_pos h]
  rfl
theorem wg_app2 (v w : wd) (i : Nat) : wg (v ++ w) (v.length + i) = wg w i := by
  rw [← wg_drop, List.drop_left]
section MR
variable {D : mm_D} {u : Int} {x : mm_Xt} {Q : mm_O → mm_H → Prop} {tx : Nat → wd} {k : Int} {P : wd} {m : Int}
theorem rp_goesOn (R : sv_R D tx k P) (hm : 1 ≤ m ∧ m ≤ 26) (h0 : P ≠ []) (hab : sv_ab m P) (H1 : ∀ D' W, sv_E D D' → sv_R D' tx k W → D' 24 0 = D 24 0 → sv_ab m W → W.length = P.length → (∀ w, sv_ab m w → (sv_sl w W ↔ sv_sl w P ∨ w = P)) → Q (.inl (some (mm_I 1))) (mm_mk D' u x)) (H0 : ∀ D' W, sv_E D D' → sv_R D' tx k W → D' 24 0 = D 24 0 → W = List.replicate P.length 0 → P = List.replicate P.length (m - 1) → Q (.inl (some (mm_I 0))) (mm_mk D' u x)) : mt 122 0 [some (mm_P 24), some (mm_I m), none] [] (mm_mk D u x) Q := by
  have hlen := R.1.2.2.1
  have hpos := List.length_pos_iff.mpr h0
  apply q_X5_goesOn_0
  rw [R.2.2.2.1]
  refine ⟨by constructor <;> omega, ?_⟩
  have lp : ∀ (n : Nat) (D2 : mm_D), n ≤ P.length → (∀ r, r ≠ 27 → D2 r = D r) → (∀ i : Nat, i < n → D2 27 (i : Int) = wg P i) → (∀ i : Nat, n ≤ i → i < P.length → D2 27 (i : Int) = 0 ∧ wg P i = m - 1) → mt 122 5 [some (mm_P 24), some (mm_I m), some (mm_I ((n : Int) - 1))] [] (mm_mk D2 u x) Q := by
    intro n
    induction n with
    | zero =>
      intro D2 _ hr hA hB
      apply q_X5_goesOn_5
      refine ⟨fun _ => ⟨fun _ => ⟨fun _ => ?_, fun y => absurd (by omega) y⟩, fun y => absurd (by omega) y⟩, fun y => absurd (by omega) y⟩
      refine H0 D2 (List.replicate P.length 0) (fun r h => hr r (by omega)) (sv_R_pat R (by rw [hr 24 (by decide)]) (by rw [hr 24 (by decide)]) (hr 25 (by decide)) (hr 26 (by decide)) (by rw [List.length_replicate]; exact hlen) (fun a ha => by rw [List.eq_of_mem_replicate ha]; omega) (by rw [hr 24 (by decide), List.length_replicate]; exact R.2.2.2.1) (fun i hi => ?_)) (by rw [hr 24 (by decide)]) rfl ?_
      · rw [List.length_replicate] at hi
        rw [Int.zero_add, wg_rep hi]
        exact (hB i (Nat.zero_le _) hi).1
      · refine wd_ext (by rw [List.length_replicate]) (fun i hi => ?_)
        rw [wg_rep hi]
        exact (hB i (Nat.zero_le _) hi).2
    | succ n ih =>
      intro D2 hn hr hA hB
      have hgn := hab _ (wg_mem (w := P) (i := n) (by omega))
      apply q_X5_goesOn_5
      rw [show ((n + 1 : Nat) : Int) - 1 = (n : Int) by omega, hA n (by omega)]
      refine ⟨fun y => absurd y (by omega), fun _ => ⟨by omega, by omega, by constructor <;> omega, fun q => ⟨fun y => absurd y (by omega), fun _ => ⟨by omega, by omega, by constructor <;> omega, by omega, by omega, fun D15 e15 => ⟨fun y => absurd y (by omega), fun _ => ?_⟩⟩⟩, fun q => ⟨by omega, by omega, fun D18 e18 => ⟨by constructor <;> omega, ?_⟩⟩⟩⟩
      · -- one more at place n
        obtain ⟨j, hj⟩ : ∃ j, j = P.length - 1 - n := ⟨_, rfl⟩
        have hPe : P = P.take n ++ wg P n :: List.replicate j (m - 1) := by
          refine wd_ext (by rw [List.length_append, List.length_take, List.length_cons, List.length_replicate]; omega) (fun i hi => ?_)
          have htl : (P.take n).length = n := by
            rw [List.length_take]
            omega
          by_cases c : i < n
          · rw [wg_l (by omega), wg_take c]
          · obtain ⟨i', hi'⟩ : ∃ i', i = (P.take n).length + i' := ⟨i - n, by omega⟩
            rw [hi', wg_app2]
            cases i' with
            | zero =>
              rw [htl]
              rfl
            | succ i' =>
              rw [wg_cons1, wg_rep (by omega)]
              exact (hB ((P.take n).length + (i' + 1)) (by omega) (by omega)).2
        obtain ⟨W, hW⟩ : ∃ W, W = P.take n ++ (wg P n + 1) :: List.replicate j 0 := ⟨_, rfl⟩
        have htl : (P.take n).length = n := by
          rw [List.length_take]
          omega
        have hWl : W.length = P.length := by
          rw [hW, List.length_append, htl, List.length_cons, List.length_replicate]
          omega
        have habW : sv_ab m W := by
          rw [hW]
          exact ab_app.mpr ⟨fun a ha => hab a (List.mem_of_mem_take ha), ab_cons.mpr ⟨by omega, ab_rep hm.1 j⟩⟩
        refine H1 D15 W (fun r h => by rw [e15, mm_wr_row (by omega)]; exact hr r (by omega)) (sv_R_pat R ?_ ?_ ?_ ?_ ?_ (fun a ha => ?_) ?_ (fun i hi => ?_)) ?_ habW hWl (fun w hw => ?_)
        · rw [e15, mm_wr_r (by decide), hr 24 (by decide)]
        · rw [e15, mm_wr_r (by decide), hr 24 (by decide)]
        · rw [e15, mm_wr_row (by decide), hr 25 (by decide)]
        · rw [e15, mm_wr_row (by decide), hr 26 (by decide)]
        · rw [hWl]
          exact hlen
        · have := habW a ha
          omega
        · rw [e15, mm_wr_r (by decide), hr 24 (by decide), hWl]
          exact R.2.2.2.1
        · rw [Int.zero_add, e15, hW]
          rw [hWl] at hi
          by_cases c : i < n
          · rw [mm_wr_k (by omega), wg_l (by omega), wg_take c]
            exact hA i (by omega)
          · obtain ⟨i', hi'⟩ : ∃ i', i = (P.take n).length + i' := ⟨i - n, by omega⟩
            rw [hi', wg_app2]
            cases i' with
            | zero =>
              rw [htl, show ((n + 0 : Nat) : Int) = (n : Int) by omega, mm_wr_eq]
              rfl
            | succ i' =>
              rw [wg_cons1, wg_rep (by omega), mm_wr_k (by omega)]
              exact (hB ((P.take n).length + (i' + 1)) (by omega) (by omega)).1
        · rw [e15, mm_wr_r (by decide), hr 24 (by decide)]
        · unfold sv_sl
          rw [hWl]
          by_cases c : w.length = P.length
          · have key := nx_w (b := wg P n) (v := P.take n) (j := j) hw (by omega)
            rw [← hPe, ← hW] at key
            rw [key]
            constructor
            · rintro (h | ⟨_, h | h⟩)
              · omega
              · exact Or.inl (Or.inr ⟨c, h⟩)
              · exact Or.inr h
            · rintro ((h | ⟨_, h⟩) | h)
              · omega
              · exact Or.inr ⟨c, Or.inl h⟩
              · exact Or.inr ⟨c, Or.inr h⟩
          · constructor
            · rintro (h | ⟨h, _⟩)
              · exact Or.inl (Or.inl h)
              · exact absurd h c
            · rintro ((h | ⟨h, _⟩) | h)
              · exact Or.inl h
              · exact absurd h c
              · rw [h] at c
                exact absurd rfl c
      · rw [show (n : Int) + -1 = (n : Int) - 1 by omega]
        refine ih D18 (by omega) (fun r h => by rw [e18, mm_wr_row h]; exact hr r h) (fun i hi => ?_) (fun i h1 h2 => ?_)
        · rw [e18, mm_wr_k (by omega)]
          exact hA i (by omega)
        · by_cases c : i = n
          · rw [e18, c, mm_wr_eq]
            exact ⟨rfl, by omega⟩
          · rw [e18, mm_wr_k (by omega)]
            exact hB i (by omega) h2
  exact lp P.length D (Nat.le_refl _) (fun _ _ => rfl) (fun i hi => by have := R.2.2.2.2 i hi; rw [Int.zero_add] at this; exact this) (fun i h1 h2 => by omega)
theorem rp_missing22 (hm : 1 ≤ m ∧ m ≤ 26) {E : mm_D} (H : ∀ D' W, sv_E E D' → sv_R D' tx k W → D' 24 0 = 0 → sv_mis tx m W → Q (.inl (some (mm_I (W.length : Int)))) (mm_mk D' u x)) : ∀ (f : Nat) (D2 : mm_D) (W : wd) (n : Int), 40805 ≤ n + f → sv_E E D2 → sv_R D2 tx k W → D2 24 0 = 0 → W ≠ [] → sv_ab m W → (W.length : Int) ≤ 101 → (∀ w, sv_ab m w → sv_sl w W → fac tx w) → sz (fun w => (sv_ab m w ∧ w ≠ []) ∧ sv_sl w W) n → mt 123 22 [some (mm_P 24), some (mm_I m)] [] (mm_mk D2 u x) Q := by
  intro f
  induction f with
  | zero =>
    intro D2 W n hf hE R2 f0 h0 hab hl hA hz
    exfalso
    have := sv_fin R2.1 hz (fun w q => hA w q.1.1 q.2)
    omega
  | succ f ih =>
    intro D2 W n hf hE R2 f0 h0 hab hl hA hz
    apply q_X5_missing_22
    refine rp_count0 R2 ?_
    apply mm_pIi
    have hp := en_all_pos (w := W) R2.1
    refine ⟨fun q => ?_, fun q => ?_⟩
    · rw [R2.2.2.2.1]
      have nf : ¬ fac tx W := fun y => by have := hp.mpr ⟨h0, y⟩; omega
      refine H D2 W hE R2 f0 ⟨hab, nf, fun W2 a b => ?_, fun W2 a b hl2 => ?_⟩
      · by_cases c : W.length ≤ W2.length
        · exact c
        · exact absurd (hA W2 a (Or.inl (by omega))) b
      · rcases lx_tri W W2 with c | c | c
        · exact Or.inr c
        · exact Or.inl c
        · exact absurd (hA W2 a (Or.inr ⟨hl2, c⟩)) b
    · have fW := (hp.mp (by omega)).2
      have lW := fac_len R2.1 fW
      have nself : ¬ sv_sl W W := by
        rintro (h | ⟨_, h⟩)
        · omega
        · exact lx_irr W h
      refine rp_goesOn R2 hm h0 hab (fun D3 W3 e3 R3 f3 ab3 l3 hs3 => ?_) (fun D3 W3 e3 R3 f3 hW3 hP3 => ?_)
      · apply mm_pIi
        refine ⟨fun _ => ?_, fun y => absurd (by decide) y⟩
        refine ih D3 W3 (n + 1) (by omega) (sv_E_t hE e3) R3 (f3.trans f0) (fun e => h0 (List.length_eq_zero_iff.mp (by rw [← l3, e]; rfl))) ab3 (by omega) (fun w a b => ?_) (sz_c (sz_1 hz (v := W) (fun q => nself q.2)) (fun w => ?_))
        · rcases (hs3 w a).mp b with c | c
          · exact hA w a c
          · rw [c]
            exact fW
        · constructor
          · rintro (c | c)
            · rw [c]
              exact ⟨⟨hab, h0⟩, (hs3 W hab).mpr (Or.inr rfl)⟩
            · exact ⟨c.1, (hs3 w c.1.1).mpr (Or.inl c.2)⟩
          · rintro ⟨c, d⟩
            rcases (hs3 w c.1).mp d with d | d
            · exact Or.inr ⟨c, d⟩
            · exact Or.inl d
      · apply mm_pIi
        have l3 : (W3.length : Int) = (W.length : Int) := by rw [hW3, List.length_replicate]
        rw [R3.2.2.2.1, l3]
        refine ⟨fun y => absurd rfl y, fun _ => ⟨by omega, by omega, fun D11 e11 => ?_⟩⟩
        have g6 : D11 24 6 = (W.length : Int) := by rw [e11, mm_wr_r (by decide), R3.2.2.2.1, l3]
        rw [g6]
        refine ⟨by constructor <;> omega, fun D13 e13 => ?_⟩
        obtain ⟨W4, hW4⟩ : ∃ W4 : wd, W4 = List.replicate (W.length + 1) 0 := ⟨_, rfl⟩
        have l4 : W4.length = W.length + 1 := by rw [hW4, List.length_replicate]
        have ab4 : sv_ab m W4 := by
          rw [hW4]
          exact ab_rep hm.1 _
        have hs4 : ∀ w, sv_ab m w → (sv_sl w W4 ↔ sv_sl w W ∨ w = W) := by
          intro w hw
          unfold sv_sl
          rw [l4]
          constructor
          · rintro (h | ⟨h, h2⟩)
            · by_cases c : w.length = W.length
              · rcases lx_tri w W with d | d | d
                · exact Or.inl (Or.inr ⟨c, d⟩)
                · exact Or.inr d
                · exfalso
                  rw [hP3, ← c] at d
                  exact rep_hi hw d
              · exact Or.inl (Or.inl (by omega))
            · exfalso
              rw [hW4, ← h] at h2
              exact rep_lo hw h2
          · rintro ((h | ⟨h, _⟩) | h)
            · exact Or.inl (by omega)
            · exact Or.inl (by omega)
            · rw [h]
              exact Or.inl (by omega)
        refine ih D13 W4 (n + 1) (by omega) ?_ (sv_R_pat R3 ?_ ?_ ?_ ?_ (by omega) (fun a ha => by have := ab4 a ha; omega) ?_ (fun i hi => ?_)) ?_ (fun e => by rw [e] at l4; simp at l4) ab4 (by omega) (fun w a b => ?_) (sz_c (sz_1 hz (v := W) (fun q => nself q.2)) (fun w => ?_))
        · rw [e13, e11]
          exact sv_E_ww (sv_E_ww (sv_E_t hE e3) (by decide)) (by decide)
        · rw [e13, mm_wr_k (by decide), e11, mm_wr_r (by decide)]
        · rw [e13, mm_wr_k (by decide), e11, mm_wr_r (by decide)]
        · rw [e13, mm_wr_row (by decide), e11, mm_wr_row (by decide)]
        · rw [e13, mm_wr_row (by decide), e11, mm_wr_row (by decide)]
        · rw [e13, mm_wr_eq, l4]
          rfl
        · rw [e13, mm_wr_r (by decide), e11, Int.zero_add]
          rw [l4] at hi
          rw [hW4, wg_rep (by omega)]
          by_cases c : i = W.length
          · rw [c, mm_wr_eq]
          · rw [mm_wr_k (by omega)]
            have := R3.2.2.2.2 i (by omega)
            rw [Int.zero_add] at this
            rw [this, hW3, wg_rep (by omega)]
        · rw [e13, mm_wr_k (by decide), e11, mm_wr_r (by decide), f3]
          exact f0
        · rcases (hs4 w a).mp b with c | c
          · exact hA w a c
          · rw [c]
            exact fW
        · constructor
          · rintro (c | c)
            · rw [c]
              exact ⟨⟨hab, h0⟩, (hs4 W hab).mpr (Or.inr rfl)⟩
            · exact ⟨c.1, (hs4 w c.1.1).mpr (Or.inl c.2)⟩
          · rintro ⟨c, d⟩
            rcases (hs4 w c.1).mp d with d | d
            · exact Or.inr ⟨c, d⟩
            · exact Or.inl d
theorem rs_missing (R : sv_R D tx k P) (H1 : 1 ≤ m → m ≤ 26 → ∀ D' W, sv_E D D' → sv_R D' tx k W → D' 24 0 = 0 → sv_mis tx m W → Q (.inl (some (mm_I (W.length : Int)))) (mm_mk D' u x)) (H2 : ¬ (1 ≤ m ∧ m ≤ 26) → ∀ D' r, sv_E D D' → sv_R D' tx k P → D' 24 0 = 1 → Q (.inl (some (mm_I r))) (mm_mk D' u x)) : mt 123 0 [some (mm_P 24), some (mm_I m)] [] (mm_mk D u x) Q := by
  have thr : ¬ (1 ≤ m ∧ m ≤ 26) → ∀ (G : mm_D → Int → mm_Xt → Prop), mt 78 0 [some (mm_P 24), some (mm_I 1)] [] (mm_mk D u x) (mm_pI fun r D9 u10 x11 => (¬ r = 0 → G D9 u10 x11) ∧ (¬ ¬ r = 0 → Q (.inl (some (mm_I 0))) (mm_mk D9 u10 x11))) := by
    intro h G
    apply rp_holds
    apply mm_pIi
    rw [sd_b0 (by decide)]
    exact ⟨fun y => absurd rfl y, fun _ => H2 h _ _ (sv_E_w (by decide)) (sv_R_f R (by decide)) (mm_wr_eq _ _ _ _)⟩
  apply q_X5_missing_0
  refine ⟨fun q => thr (by omega) _, fun q => ⟨fun q2 => thr (by omega) _, fun q2 => ?_⟩⟩
  apply rp_holds
  apply mm_pIi
  rw [sd_b1 rfl]
  refine ⟨fun _ D17 e17 D18 e18 => ?_, fun y => absurd (by decide) y⟩
  have hm : 1 ≤ m ∧ m ≤ 26 := ⟨by omega, by omega⟩
  have ab1 : sv_ab m [0] := ab_cons.mpr ⟨by omega, ab_nil m⟩
  have sl1 : ∀ w, sv_ab m w → sv_sl w [0] → w = [] := by
    rintro w hw (h | ⟨h, h2⟩)
    · rw [List.length_singleton] at h
      exact List.length_eq_zero_iff.mp (by omega)
    · exfalso
      rw [List.length_singleton] at h
      have e : ([0] : wd) = List.replicate w.length 0 := by rw [h]; rfl
      rw [e] at h2
      exact rep_lo hw h2
  refine rp_missing22 (tx := tx) (k := k) (E := D) hm (fun D' W a b c d => H1 hm.1 hm.2 D' W a b c d) 40806 D18 [0] 0 (by omega) ?_ (sv_R_pat (sv_R_f R (p := 0) (v := 0) (by decide)) ?_ ?_ ?_ ?_ (by decide) (fun a ha => by have := ab1 a ha; omega) ?_ (fun i hi => ?_)) ?_ (by simp) ab1 (by decide) (fun w a b => by rw [sl1 w a b]; exact fac_nil tx) (sz_0 (fun w q => q.1.2 (sl1 w q.1.1 q.2)))
  · rw [e18, e17]
    exact sv_E_ww (sv_E_ww (sv_E_w (by decide)) (by decide)) (by decide)
  · rw [e18, mm_wr_r (by decide), e17, mm_wr_k (by decide)]
  · rw [e18, mm_wr_r (by decide), e17, mm_wr_k (by decide)]
  · rw [e18, mm_wr_row (by decide), e17, mm_wr_row (by decide)]
  · rw [e18, mm_wr_row (by decide), e17, mm_wr_row (by decide)]
  · rw [e18, mm_wr_r (by decide), e17, mm_wr_eq]
    rfl
  · rw [List.length_singleton] at hi
    have : i = 0 := by omega
    rw [this, e18]
    exact mm_wr_eq _ _ _ _
  · rw [e18, mm_wr_r (by decide), e17, mm_wr_k (by decide), mm_wr_eq]
end MR
