/-! the class: common and repeated -/
def sv_gd (tx : Nat → wd) (set often : Int) (w : wd) : Prop := w = [] ∨ (fac tx w ∧ (∀ t : Nat, t < 4 → set.toNat.testBit t = true → en_of tx 15 w (t : Int) ≠ 0) ∧ often ≤ en_of tx 15 w 0 + en_of tx 15 w 1 + en_of tx 15 w 2 + en_of tx 15 w 3)
theorem oc_snoc {T w : wd} {a : Int} {e : Nat} (hw : w ≠ []) (he : e + 1 < T.length) (h : oc T (w ++ [a]) (e + 1)) : oc T w e := by
  refine ⟨hw, ?_⟩
  have := h.2
  rw [wd_take (w := T) (i := e + 1) he] at this
  obtain ⟨y, e1, e2⟩ := ws_last this
  have e3 := (List.append_inj' e1 rfl).1
  rw [e3]
  exact e2
theorem cN_snoc {T w : wd} {a : Int} (hw : w ≠ []) : ∀ n : Nat, n + 1 ≤ T.length → cN (oc T (w ++ [a])) (n + 1) ≤ cN (oc T w) n := by
  intro n
  induction n with
  | zero =>
    intro _
    rw [cN_s, cI_0]
    · exact Int.le_refl _
    · intro h
      have h1 := h.2.length_le
      have h2 := List.length_pos_iff.mpr hw
      rw [List.length_append, List.length_singleton, List.length_take] at h1
      omega
  | succ n ih =>
    intro hn
    have := ih (by omega)
    rw [cN_s (oc T (w ++ [a])) (n + 1), cN_s (oc T w) n]
    have b1 := cI_b (oc T w n)
    by_cases h : oc T (w ++ [a]) (n + 1)
    · rw [cI_1 h, cI_1 (oc_snoc hw (by omega) h)]
      omega
    · rw [cI_0 h]
      omega
theorem en_snoc (tx : Nat → wd) {w : wd} {a : Int} (hw : w ≠ []) (j : Int) : en_of tx 15 (w ++ [a]) j ≤ en_of tx 15 w j := by
  show cN _ _ ≤ cN _ _
  cases hl : (tx j.toNat).length with
  | zero => exact Int.le_refl _
  | succ n =>
    have h1 := cN_snoc (a := a) hw n (show n + 1 ≤ (tx j.toNat).length by omega)
    rw [cN_s (p := oc (tx j.toNat) w)]
    have := cI_b (oc (tx j.toNat) w n)
    omega
theorem gd_pre {tx : Nat → wd} {set often : Int} : ∀ {z w : wd}, sv_gd tx set often (w ++ z) → sv_gd tx set often w := by
  intro z
  induction z with
  | nil => intro w h; rwa [List.append_nil] at h
  | cons a z ih =>
    intro w h
    have e : w ++ a :: z = (w ++ [a]) ++ z := by rw [List.append_assoc]; rfl
    rw [e] at h
    rcases ih h with q | ⟨q1, q2, q3⟩
    · exact absurd q (by simp)
    · by_cases hw : w = []
      · exact Or.inl hw
      · refine Or.inr ⟨fac_pre q1, fun t h1 h2 q => q2 t h1 h2 ?_, ?_⟩
        · have := en_snoc tx (a := a) hw (t : Int)
          have := en_b tx (w ++ [a]) (t : Int)
          omega
        · have e0 := en_snoc tx (a := a) hw 0
          have e1 := en_snoc tx (a := a) hw 1
          have e2 := en_snoc tx (a := a) hw 2
          have e3 := en_snoc tx (a := a) hw 3
          omega
theorem gd_cl {tx : Nat → wd} {M : wd → Prop} (T : tM tx M) {set often : Int} {w c : wd} (h : wm_cl M w c) (z : wd) : sv_gd tx set often (w ++ z) ↔ sv_gd tx set often (c ++ z) := by
  by_cases hw : w = []
  · rw [hw] at h
    rw [hw, wm_cl_uniq h (wm_cl_nil T.1)]
  · have hc : c ≠ [] := by
      intro e
      have := h.2.1
      rw [e] at this
      exact hw (List.suffix_nil.mp this)
    have hk := fac_cl T (z := z) h
    have n1 : w ++ z ≠ [] := by simp [hw]
    have n2 : c ++ z ≠ [] := by simp [hc]
    have key : ∀ f : fac tx (w ++ z), ∀ j, en_of tx 15 (w ++ z) j = en_of tx 15 (c ++ z) j := by
      intro f j
      obtain ⟨d, hd⟩ := wm_cl_ex T.1 ((tM_F T).mpr f)
      rw [tM_en T hd n1, tM_en T ((hk.2 d).mp hd) n2]
    constructor
    · rintro (q | ⟨q1, q2, q3⟩)
      · exact absurd q n1
      · have e := key q1
        rw [e 0, e 1, e 2, e 3] at q3
        exact Or.inr ⟨hk.1.mp q1, fun t a b => by rw [← e]; exact q2 t a b, q3⟩
    · rintro (q | ⟨q1, q2, q3⟩)
      · exact absurd q n2
      · have e := key (hk.1.mpr q1)
        rw [← e 0, ← e 1, ← e 2, ← e 3] at q3
        exact Or.inr ⟨hk.1.mpr q1, fun t a b => by rw [e]; exact q2 t a b, q3⟩
theorem gd_fac {tx : Nat → wd} {set often : Int} {w : wd} (h : sv_gd tx set often w) : fac tx w := by
  rcases h with h | h
  · rw [h]
    exact fac_nil tx
  · exact h.1
/-- how far good words lead on -/
def sv_V2 (tx : Nat → wd) (set often : Int) (w : wd) (r : Int) : Prop := (¬ sv_gd tx set often w ∧ r = -1) ∨ (sv_gd tx set often w ∧ (∃ z : wd, (z.length : Int) = r ∧ sv_gd tx set often (w ++ z)) ∧ ∀ z : wd, sv_gd tx set often (w ++ z) → (z.length : Int) ≤ r)
section SJ
variable {D : mm_D} {u : Int} {x : mm_Xt} {Q : mm_O → mm_H → Prop} {tx : Nat → wd} {k : Int} {P : wd} {n : Int} {rep : Int → wd} {set often : Int}
theorem sv_V2a (w : wd) (h : ¬ fac tx w) : sv_V2 tx set often w (-1) := Or.inl ⟨fun q => h (gd_fac q), rfl⟩
theorem sv_V2b (T : tM tx (au_M n (-1) rep)) (w c : wd) (r : Int) (h : wm_cl (au_M n (-1) rep) w c) (q : sv_V2 tx set often c r) : sv_V2 tx set often w r := by
  have e := gd_cl T (set := set) (often := often) h
  have e0 := e []
  rw [List.append_nil, List.append_nil] at e0
  rcases q with ⟨q1, q2⟩ | ⟨q1, ⟨z, q2, q3⟩, q4⟩
  · exact Or.inl ⟨fun y => q1 (e0.mp y), q2⟩
  · exact Or.inr ⟨e0.mpr q1, ⟨z, q2, (e z).mpr q3⟩, fun z y => q4 z ((e z).mp y)⟩
theorem sv_V2n (T : sv_T tx k P) {w : wd} {r : Int} (h : sv_V2 tx set often w r) : -1 ≤ r ∧ r ≤ 100 := by
  rcases h with ⟨_, h⟩ | ⟨_, ⟨z, h, q⟩, _⟩
  · omega
  · have := fac_len T (gd_fac q)
    rw [List.length_append] at this
    omega
theorem bt_rng {s : Int} (hs : 0 ≤ s ∧ s < 2 ^ 26) (t : Nat) : mm_rng (s / 2 ^ t) := by
  have e1 : s / 2 ^ t = ((s.toNat / 2 ^ t : Nat) : Int) := by
    rw [Int.natCast_ediv, Int.natCast_pow, Int.toNat_of_nonneg hs.1]
    rfl
  rw [e1]
  have h1 : s.toNat / 2 ^ t ≤ s.toNat := Nat.div_le_self _ _
  generalize s.toNat / 2 ^ t = y at *
  constructor <;> omega
theorem sp_each {s : Int} (hset : 0 ≤ set ∧ set < 2 ^ 26) (H1 : (∀ t : Nat, t < 4 → set.toNat.testBit t = true → sd_cnt D s (t : Int) ≠ 0) → Q (.inl (some (mm_I 1))) (mm_mk D u x)) (H0 : ¬ (∀ t : Nat, t < 4 → set.toNat.testBit t = true → sd_cnt D s (t : Int) ≠ 0) → Q (.inl (some (mm_I 0))) (mm_mk D u x)) : mt 21 0 [some (mm_P 14), some (mm_I s), some (mm_I set), none, none] [] (mm_mk D u x) Q := by
  apply q_X1_standInEach_0
  have lp : ∀ (m t : Nat) (o4 : Option mm_V), t + m = 4 → (∀ t' : Nat, t' < t → set.toNat.testBit t' = true → sd_cnt D s (t' : Int) ≠ 0) → mt 21 2 [some (mm_P 14), some (mm_I s), some (mm_I set), some (mm_I (t : Int)), o4] [] (mm_mk D u x) Q := by
    intro m
    induction m with
    | zero =>
      intro t o4 ht h
      apply q_X1_standInEach_2
      exact ⟨fun _ => H1 (fun t' h1 h2 => h t' (by omega) h2), fun q => absurd q (by omega)⟩
    | succ m ih =>
      intro t o4 ht h
      apply q_X1_standInEach_2
      have hb := bt_bit hset t
      refine ⟨fun q => absurd q (by omega), fun _ => ⟨by omega, bt_rng hset t, fun q => ⟨by constructor <;> omega, ih (t + 1) _ (by omega) (fun t' h1 h2 => ?_)⟩, fun q => ?_⟩⟩
      · by_cases e : t' = t
        · rw [e] at h2
          exact absurd (hb.mpr h2) q
        · exact h t' (by omega) h2
      · have hbt := hb.mp (Decidable.not_not.mp q)
        apply sp_countOf
        apply mm_pIi
        refine ⟨fun q2 => ⟨by constructor <;> omega, ih (t + 1) _ (by omega) (fun t' h1 h2 => ?_)⟩, fun q2 => H0 (fun y => y t (by omega) hbt (Decidable.not_not.mp q2))⟩
        by_cases e : t' = t
        · rw [e]
          exact q2
        · exact h t' (by omega) h2
  exact lp 4 0 none (by omega) (fun t h => by omega)
theorem sp_suits (C : sv_C D tx k P) (J : au_J D n (-1) rep [] (en_of tx)) (T : tM tx (au_M n (-1) rep)) {s : Int} (hs : 0 ≤ s ∧ s < n) (hset : 0 ≤ set ∧ set < 2 ^ 26) (H1 : sv_gd tx set often (rep s) → Q (.inl (some (mm_I 1))) (mm_mk D u x)) (H0 : ¬ sv_gd tx set often (rep s) → Q (.inl (some (mm_I 0))) (mm_mk D u x)) : mt 32 0 [some (mm_P 12), some (mm_I s), some (mm_I set), some (mm_I often)] [] (mm_mk D u x) Q := by
  have j4 := J.2.2.2.1
  apply q_X2_suits_0
  refine ⟨fun q => H1 (Or.inl (by rw [q]; exact j4)), fun q => ?_⟩
  have hne : rep s ≠ [] := by
    intro e
    have := J.2.2.2.2.1 s 0 hs (by omega) (by rw [e, j4])
    omega
  have hM : au_M n (-1) rep (rep s) := ⟨s, ⟨hs, by omega⟩, rfl⟩
  have hps : sv_ps tx n rep (rep s) s := Or.inr ⟨hne, (tM_F T).mp ⟨_, hM, List.suffix_refl _⟩, by omega, wm_cl_self hM⟩
  have he : ∀ t : Int, 0 ≤ t → t < 4 → sd_cnt D s t = en_of tx 15 (rep s) t := fun t a b => (sv_en J T hps ⟨a, b⟩).1
  refine sp_each hset (fun y => ?_) (fun y => ?_)
  · apply mm_pIi
    refine ⟨fun q => absurd q (by decide), fun _ => ?_⟩
    refine sp_countInAll s (fun t h0 h1 => ?_) ?_
    · rw [he t h0 h1]
      have := en15_b C.1 (rep s) t
      omega
    · apply mm_pIi
      rw [he 0 (by decide) (by decide), he 1 (by decide) (by decide), he 2 (by decide) (by decide), he 3 (by decide) (by decide)]
      refine ⟨fun q => H0 (fun g => ?_), fun q => H1 (Or.inr ⟨(tM_F T).mp ⟨_, hM, List.suffix_refl _⟩, fun t a b => ?_, by omega⟩)⟩
      · rcases g with g | ⟨_, _, g⟩
        · exact hne g
        · omega
      · rw [← he t (by omega) (by omega)]
        exact y t a b
  · apply mm_pIi
    refine ⟨fun _ => H0 (fun g => ?_), fun q => absurd rfl q⟩
    rcases g with g | ⟨_, g, _⟩
    · exact hne g
    · refine y (fun t a b => ?_)
      rw [he t (by omega) (by omega)]
      exact g t a b
theorem sp_measureReach (C : sv_C D tx k P) (J : au_J D n (-1) rep [] (en_of tx)) (O : au_O D n) (T : tM tx (au_M n (-1) rep)) (hset : 0 ≤ set ∧ set < 2 ^ 26) (H : ∀ D', (∀ r, r ≠ 12 → r ≠ 23 → D' r = D r) → D' 12 2 = -1 → (∀ q, -1 < q → q < n → sv_V2 tx set often (rep (D 21 q)) (D' 23 (D 21 q))) → Q (.inl none) (mm_mk D' u x)) : mt 27 0 [some (mm_P 12), some (mm_I set), some (mm_I often), none, none, none, none] [] (mm_mk D u x) Q := by
  have j1 := J.1
  have j2 := J.2.1
  have lp : ∀ (m : Nat) (p : Int) (D2 : mm_D) (o2 o3 o4 : Option mm_V), p + 1 = m → p < n → (∀ r, r ≠ 12 → r ≠ 23 → D2 r = D r) → D2 12 2 = -1 → (∀ q, p < q → q < n → sv_V2 tx set often (rep (D 21 q)) (D2 23 (D 21 q))) → mt 27 9 [some (mm_P 12), some (mm_I set), some (mm_I often), some (mm_I p), o2, o3, o4] [] (mm_mk D2 u x) Q := by
    intro m
    induction m with
    | zero =>
      intro p D2 o2 o3 o4 hp hn hr h12 inv
      apply q_X2_measureReach_9
      have : p = -1 := by omega
      rw [this] at inv
      exact ⟨fun _ => H D2 hr h12 inv, fun q => absurd q (by omega)⟩
    | succ m ih =>
      intro p D2 o2 o3 o4 hp hn hr h12 inv
      apply q_X2_measureReach_9
      refine ⟨fun q => absurd q (by omega), fun _ => ?_⟩
      apply sp_stateAt
      apply mm_pIi
      rw [hr 13 (by decide) (by decide), hr 21 (by decide) (by decide), j1, if_pos (by omega)]
      have hs := O.1 p (by omega) hn
      have C2 : sv_C D2 tx k P := sv_C_row (fun r _ h1 h2 => hr r h1 h2) C
      have J2 : au_J D2 n (-1) rep [] (en_of tx) := au_J_row (fun r h => hr r (by omega) (by omega)) J
      have inn : ∀ (z : Nat) (a : Nat) (v5 : Int), a + z = 26 → (-1 ≤ v5 ∧ v5 ≤ 100) → (∀ (b : Int) (y : wd), b < (a : Int) → sv_gd tx set often (rep (D 21 p) ++ b :: y) → (y.length : Int) ≤ v5) → (v5 = -1 ∨ ∃ (b : Int) (y : wd), b < (a : Int) ∧ sv_gd tx set often (rep (D 21 p) ++ b :: y) ∧ (y.length : Int) = v5) → mt 27 20 [some (mm_P 12), some (mm_I set), some (mm_I often), some (mm_I p), some (mm_I (D 21 p)), some (mm_I v5), some (mm_I (a : Int))] [] (mm_mk D2 u x) Q := by
        intro z
        induction z with
        | zero =>
          intro a v5 ha h5 hA hB
          apply q_X2_measureReach_20
          refine ⟨fun _ => ?_, fun q => absurd q (by omega)⟩
          have nx : ∀ v, sv_V2 tx set often (rep (D 21 p)) v → mt 27 9 [some (mm_P 12), some (mm_I set), some (mm_I often), some (mm_I (p + -1)), some (mm_I (D 21 p)), some (mm_I v5), some (mm_I (a : Int))] [] (mm_mk (mm_wr D2 23 (D 21 p) v) u x) Q := by
            intro v hv
            rw [show p + -1 = p - 1 by omega]
            exact ih (p - 1) _ _ _ _ (by omega) (by omega) (fun r h1 h2 => by rw [mm_wr_row h2]; exact hr r h1 h2) (by rw [mm_wr_r (by decide)]; exact h12) (sv_put O ⟨by omega, hn⟩ inv hv)
          refine sp_suits C2 J2 T hs hset (fun g => ?_) (fun g => ?_)
          · apply mm_pIi
            refine ⟨fun q => absurd q (by decide), fun _ => ⟨by constructor <;> omega, ?_⟩⟩
            apply sp_putAhead _ _ (by omega) (by omega)
            apply mm_pVi
            refine ⟨by constructor <;> omega, nx _ (Or.inr ⟨g, ?_, fun y hy => ?_⟩)⟩
            · rcases hB with hB | ⟨b, y, h1, h2, h3⟩
              · exact ⟨[], by rw [hB]; rfl, by rw [List.append_nil]; exact g⟩
              · exact ⟨b :: y, by rw [List.length_cons]; omega, h2⟩
            · cases y with
              | nil => show (0 : Int) ≤ _; omega
              | cons b y =>
                have hl := fac_let C.1 (gd_fac hy) (a := b) (by simp)
                have := hA b y (by omega) hy
                rw [List.length_cons]
                omega
          · apply mm_pIi
            refine ⟨fun _ => ?_, fun q => absurd rfl q⟩
            apply sp_putAhead _ _ (by omega) (by omega)
            apply mm_pVi
            exact ⟨by constructor <;> omega, nx _ (Or.inl ⟨g, rfl⟩)⟩
        | succ z ih2 =>
          intro a v5 ha h5 hA hB
          apply q_X2_measureReach_20
          refine ⟨fun q => absurd q (by omega), fun _ => ?_⟩
          apply sp_step
          apply mm_pIi
          apply sp_aheadOf
          apply mm_pIi
          have hv := sv_ah J O T hr h12 sv_V2a (sv_V2b T) ⟨by omega, hn⟩ inv (a := (a : Int)) (by omega)
          have hb := sv_V2n C.1 hv
          generalize sd_aot D2 (sd_step D2 (D 21 p) (a : Int)) = r at *
          have ea : ∀ y : wd, rep (D 21 p) ++ (a : Int) :: y = (rep (D 21 p) ++ [(a : Int)]) ++ y := fun y => by rw [List.append_assoc]; rfl
          refine ⟨by constructor <;> omega, ih2 (a + 1) _ (by omega) (by split <;> omega) (fun b y h1 h2 => ?_) ?_⟩
          · by_cases e : b = (a : Int)
            · rw [e, ea] at h2
              have : (y.length : Int) ≤ r := by
                rcases hv with ⟨q1, q2⟩ | ⟨q1, q2, q3⟩
                · exact absurd (gd_pre h2) q1
                · exact q3 y h2
              split <;> omega
            · have := hA b y (by omega) h2
              split <;> omega
          · by_cases c : v5 < r
            · rw [if_pos c]
              rcases hv with ⟨q1, q2⟩ | ⟨q1, ⟨y, q2, q4⟩, q3⟩
              · omega
              · exact Or.inr ⟨a, y, by omega, by rw [ea]; exact q4, q2⟩
            · rw [if_neg c]
              rcases hB with hB | ⟨b, y, h1, h2, h3⟩
              · exact Or.inl hB
              · exact Or.inr ⟨b, y, by omega, h2, h3⟩
      refine inn 26 0 (-1) (by omega) (by decide) (fun b y h1 h2 => ?_) (Or.inl rfl)
      have := fac_let C.1 (gd_fac h2) (a := b) (by simp)
      omega
  apply q_X2_measureReach_0
  intro D1 e1
  apply q_X0_stateCount_0
  apply mm_pIi
  have r1 : ∀ r, r ≠ 12 → D1 r = D r := fun r h => by rw [e1, mm_wr_row h]
  rw [r1 13 (by decide), j1]
  exact ⟨by constructor <;> omega, lp n.toNat (n - 1) D1 _ _ _ (by omega) (by omega) (fun r h _ => r1 r h) (by rw [e1, mm_wr_eq]) (fun q h1 h2 => by omega)⟩
/-- the first word by the alphabet among some of one length -/
theorem sp_way13 {S : wd → Prop} {M : Nat} {bd : Int} (J : au_J D n (-1) rep [] (en_of tx)) (hT : ∀ W, S W → W.length = M ∧ ∀ a, a ∈ W → 0 ≤ a ∧ a < bd) (hbd : bd ≤ 26) (hM : M ≤ 119) (hv : ∀ (w : wd) (v a left : Int), sv_st n rep w v → (∃ W, S W ∧ w <+: W) → (w.length : Int) + 1 + left = M → 0 ≤ left → 0 ≤ a → a < bd → (sd_aot D (sd_step D v a) = left ↔ ∃ W, S W ∧ w ++ [a] <+: W)) (H : ∀ D' W, (∀ r, r ≠ 10 → r ≠ 11 → D' r = D r) → sv_C D' tx k W → S W → (∀ W2, S W2 → W = W2 ∨ lx W W2) → Q (.inl none) (mm_mk D' u x)) :
    ∀ (m : Nat) (D2 : mm_D) (w : wd) (v2 : Int) (o4 : Option mm_V), w.length + m = M → (∀ r, r ≠ 10 → r ≠ 11 → D2 r = D r) → sv_C D2 tx k w → sv_st n rep w v2 → (∃ W, S W ∧ w <+: W) → (∀ W2, S W2 → w <+: W2 ∨ (lx w W2 ∧ ¬ w <+: W2)) → mt 31 13 [some (mm_P 12), some (mm_P 10), some (mm_I v2), some (mm_I ((m : Int) - 1)), o4] [] (mm_mk D2 u x) Q := by
  intro m
  induction m with
  | zero =>
    intro D2 w v2 o4 hm hr C hs hW hL
    apply q_X2_spellWay_13
    obtain ⟨W, h1, h2⟩ := hW
    have e : w = W := h2.eq_of_length (by have := (hT W h1).1; omega)
    refine ⟨fun _ => H D2 w hr C (by rw [e]; exact h1) (fun W2 h3 => ?_), fun q => absurd q (by omega)⟩
    rcases hL W2 h3 with h4 | h4
    · exact Or.inl (h4.eq_of_length (by have := (hT W2 h3).1; omega))
    · exact Or.inr h4.1
  | succ m ih =>
    intro D2 w v2 o4 hm hr C hs hW hL
    have J2 : au_J D2 n (-1) rep [] (en_of tx) := au_J_row (fun r h => hr r (by omega) (by omega)) J
    have eaot : ∀ s, sd_aot D2 s = sd_aot D s := fun s => by unfold sd_aot; rw [hr 23 (by decide) (by decide), hr 12 (by decide) (by decide)]
    have estp : ∀ s a, sd_step D2 s a = sd_step D s a := fun s a => sd_step_row (hr 18 (by decide) (by decide)) s a
    apply q_X2_spellWay_13
    refine ⟨fun q => absurd q (by omega), fun _ => ?_⟩
    rw [show ((m + 1 : Nat) : Int) - 1 = (m : Int) by omega]
    have nxt : ∀ W, S W → w <+: W → ∃ b s, W = w ++ b :: s ∧ 0 ≤ b ∧ b < bd ∧ w ++ [b] <+: W := by
      intro W h1 h2
      obtain ⟨s, e⟩ := h2
      obtain ⟨t1, t2⟩ := hT W h1
      cases s with
      | nil =>
        rw [List.append_nil] at e
        rw [e] at hm
        omega
      | cons b s =>
        have := t2 b (by rw [← e]; simp)
        exact ⟨b, s, e.symm, this.1, this.2, s, by rw [← e, List.append_assoc]; rfl⟩
    have inn : ∀ (z a : Nat), a + z = bd.toNat → (∀ b : Int, 0 ≤ b → b < (a : Int) → ¬ ∃ W, S W ∧ w ++ [b] <+: W) → mt 31 17 [some (mm_P 12), some (mm_P 10), some (mm_I v2), some (mm_I (m : Int)), some (mm_I (a : Int))] [] (mm_mk D2 u x) Q := by
      intro z
      induction z with
      | zero =>
        intro a ha hb
        exfalso
        obtain ⟨W, h1, h2⟩ := hW
        obtain ⟨b, s, e, b0, b1, b2⟩ := nxt W h1 h2
        exact hb b b0 (by omega) ⟨W, h1, b2⟩
      | succ z ih2 =>
        intro a ha hb
        apply q_X2_spellWay_17
        refine ⟨fun q => absurd q (by omega), fun _ => ?_⟩
        apply sp_step
        apply mm_pIi
        apply sp_aheadOf
        apply mm_pIi
        rw [eaot, estp]
        have hk := hv w v2 (a : Int) (m : Int) hs hW (by omega) (by omega) (by omega) (by omega)
        refine ⟨fun q => ?_, fun q => ⟨by constructor <;> omega, ih2 (a + 1) (by omega) (fun b b0 b1 => ?_)⟩⟩
        · refine sp_padd C ⟨by omega, by omega⟩ (by omega) (fun D3 r3 C3 => ?_)
          apply mm_pVi
          apply sp_step
          apply mm_pIi
          rw [sd_step_row (r3 18 (by decide) (by decide)), show (m : Int) + -1 = (m : Int) - 1 by omega]
          refine ⟨by constructor <;> omega, ih D3 (w ++ [(a : Int)]) _ _ (by rw [List.length_append, List.length_singleton]; omega) (fun r h1 h2 => by rw [r3 r h1 h2]; exact hr r h1 h2) C3 (sv_step J2 hs ⟨by omega, by omega⟩) (hk.mp q) (fun W2 h2 => ?_)⟩
          rcases hL W2 h2 with h3 | ⟨h3, h4⟩
          · obtain ⟨b, s, e, b0, b1, b2⟩ := nxt W2 h2 h3
            by_cases c1 : b = (a : Int)
            · rw [← c1]
              exact Or.inl b2
            · by_cases c2 : b < (a : Int)
              · exact absurd ⟨W2, h2, b2⟩ (hb b b0 c2)
              · right
                refine ⟨?_, fun y => ?_⟩
                · rw [e, lx_app]
                  exact Or.inl (by omega)
                · have := (List.prefix_of_prefix_length_le b2 y (by simp)).eq_of_length (by simp)
                  exact c1 (List.cons.inj (List.append_cancel_left this)).1
          · right
            refine ⟨((lx_div h4 (fun y => lx_pre y h3) (v := [(a : Int)]) (v' := [])).2.1).mpr h3, fun y => h4 ((List.prefix_append w _).trans y)⟩
        · by_cases e : b = (a : Int)
          · rw [e]
            exact fun y => q (hk.mpr y)
          · exact hb b b0 (by omega)
    exact inn bd.toNat 0 (by omega) (fun b b0 b1 => by omega)
theorem sp_way {S : wd → Prop} {M : Nat} {bd : Int} (C : sv_C D tx k P) (J : au_J D n (-1) rep [] (en_of tx)) (hT : ∀ W, S W → W.length = M ∧ ∀ a, a ∈ W → 0 ≤ a ∧ a < bd) (hbd : bd ≤ 26) (hM : M ≤ 119) (hv : ∀ (w : wd) (v a left : Int), sv_st n rep w v → (∃ W, S W ∧ w <+: W) → (w.length : Int) + 1 + left = M → 0 ≤ left → 0 ≤ a → a < bd → (sd_aot D (sd_step D v a) = left ↔ ∃ W, S W ∧ w ++ [a] <+: W)) (h0 : sd_aot D 0 = (M : Int)) (hex : ∃ W, S W) (H : ∀ D' W, (∀ r, r ≠ 10 → r ≠ 11 → D' r = D r) → sv_C D' tx k W → S W → (∀ W2, S W2 → W = W2 ∨ lx W W2) → Q (.inl none) (mm_mk D' u x)) : mt 31 0 [some (mm_P 12), some (mm_P 10), none, none, none] [] (mm_mk D u x) Q := by
  apply q_X2_spellWay_0
  refine sp_pempty C (fun D1 r1 C1 => ?_)
  apply mm_pVi
  apply sp_aheadOf
  apply mm_pIi
  have e1 : ∀ s, sd_aot D1 s = sd_aot D s := fun s => by unfold sd_aot; rw [r1 23 (by decide), r1 12 (by decide)]
  have e2 : ∀ s a, sd_step D1 s a = sd_step D s a := fun s a => sd_step_row (r1 18 (by decide)) s a
  rw [e1, h0]
  have J1 : au_J D1 n (-1) rep [] (en_of tx) := au_J_row (fun r h => r1 r (by omega)) J
  obtain ⟨W, hW⟩ := hex
  exact ⟨by constructor <;> omega, sp_way13 J1 hT hbd hM (fun w v a left h1 h2 h3 h4 h5 h6 => by rw [e1, e2]; exact hv w v a left h1 h2 h3 h4 h5 h6) (fun D' W' h1 h2 h3 h4 => H D' W' (fun r a b => by rw [h1 r a b, r1 r a]) h2 h3 h4) M D1 [] 0 _ (by simp) (fun _ _ _ => rfl) C1 (sv_root J1) ⟨W, hW, List.nil_prefix⟩ (fun W2 _ => Or.inl List.nil_prefix)⟩
/-- what common and repeated look for -/
def sv_fnd (tx : Nat → wd) (set often : Int) (W : wd) : Prop := sv_gd tx set often W ∧ (∀ W2, sv_gd tx set often W2 → W2.length ≤ W.length) ∧ ∀ W2, sv_gd tx set often W2 → W2.length = W.length → W = W2 ∨ lx W W2
theorem fnd_uniq {W W' : wd} (h : sv_fnd tx set often W) (h' : sv_fnd tx set often W') : W = W' := by
  have e : W'.length = W.length := Nat.le_antisymm (h.2.1 _ h'.1) (h'.2.1 _ h.1)
  rcases h.2.2 W' h'.1 e with q | q
  · exact q
  · rcases h'.2.2 W h.1 e.symm with q2 | q2
    · exact q2.symm
    · exact absurd q2 (lx_asy q)
theorem sp_find (C : sv_C D tx k P) (hset : 0 ≤ set ∧ set < 2 ^ 26) (H : ∀ D' W, sv_F D D' → sv_C D' tx k W → sv_fnd tx set often W → Q (.inl none) (mm_mk D' u x)) : mt 27 0 [some (mm_P 12), some (mm_I set), some (mm_I often), none, none, none, none] [] (mm_mk D u x) (mm_pV fun D3 u4 x5 => mt 31 0 [some (mm_P 12), some (mm_P 10), none, none, none] [] (mm_mk D3 u4 x5) Q) := by
  obtain ⟨n, rep, J, O, T, N, W⟩ := C.2.2.2.2
  refine sp_measureReach (often := often) C J O T hset (fun D1 r1 h12 inv => ?_)
  apply mm_pVi
  have C1 : sv_C D1 tx k P := sv_C_row (fun r _ h1 h2 => r1 r h1 h2) C
  have J1 : au_J D1 n (-1) rep [] (en_of tx) := au_J_row (fun r h => r1 r (by omega) (by omega)) J
  have hV : ∀ w v, sv_st n rep w v → sv_V2 tx set often w (sd_aot D1 v) := fun w v h => sv_ahF J O T h12 sv_V2a (sv_V2b T) inv h
  have h0 := hV [] 0 (sv_root J1)
  have hb := sv_V2n C.1 h0
  rcases h0 with ⟨q1, _⟩ | ⟨q1, ⟨z0, q2, q4⟩, q3⟩
  · exact absurd (Or.inl rfl) q1
  · rw [List.nil_append] at q4
    refine sp_way (S := fun W => sv_gd tx set often W ∧ W.length = z0.length) (M := z0.length) (bd := 26) C1 J1 (fun W h => ⟨h.2, fun a ha => fac_let C.1 (gd_fac h.1) ha⟩) (by decide) (by omega) (fun w v a left h1 h2 h3 h4 h5 h6 => ?_) q2.symm ⟨z0, q4, rfl⟩ (fun D' W r3 C3 h1 h2 => ?_)
    · have hv := hV _ _ (sv_step J1 h1 (a := a) ⟨h5, by omega⟩)
      constructor
      · intro e
        rcases hv with ⟨y1, y2⟩ | ⟨y1, ⟨z, y2, y4⟩, y3⟩
        · omega
        · refine ⟨(w ++ [a]) ++ z, ⟨y4, ?_⟩, List.prefix_append _ _⟩
          rw [List.length_append, List.length_append, List.length_singleton]
          omega
      · rintro ⟨W, ⟨g1, g2⟩, z, e⟩
        rw [← e] at g1 g2
        rw [List.length_append, List.length_append, List.length_singleton] at g2
        rcases hv with ⟨y1, y2⟩ | ⟨y1, ⟨z', y2, y4⟩, y3⟩
        · exact absurd (gd_pre g1) y1
        · have := y3 z g1
          have := q3 ((w ++ [a]) ++ z') y4
          rw [List.length_append, List.length_append, List.length_singleton] at this
          omega
    · refine H D' W (fun r h => by rw [r3 r (by omega) (by omega), r1 r (by omega) (by omega)]) C3 ⟨h1.1, fun W2 g => ?_, fun W2 g e => h2 W2 ⟨g, by rw [e]; exact h1.2⟩⟩
      have := q3 W2 g
      have := h1.2
      omega
theorem cs_common {set : Int} (C : sv_C D tx k P) (H1 : 1 ≤ set → set < 2 ^ k.toNat → ∀ D' W, sv_F D D' → sv_C D' tx k W → sv_fnd tx set 1 W → Q (.inl (some (mm_I (W.length : Int)))) (mm_mk D' u x)) (H2 : ¬ (1 ≤ set ∧ set < 2 ^ k.toNat) → Q (.inr 1) (mm_mk D u (sv_thr x))) : mt 67 0 [some (mm_P 0), some (mm_I set)] [] (mm_mk D u x) Q := by
  have w10 : mm_isW 10 := by unfold mm_isW; omega
  have k4 := C.1.1
  have hp := two_lt (a := k.toNat) (by omega)
  have h16 : (1 : Int) * 2 ^ k.toNat < 2 ^ 26 := by
    rw [two_nat]
    generalize 2 ^ k.toNat = y at *
    omega
  apply q_X4_common_0
  rw [C.2.1.1]
  refine ⟨fun q => H2 (fun y => by omega), fun q => ⟨by omega, two_rng (by omega), fun q2 => ?_, fun q2 => H2 (fun y => q2 (by rw [Int.one_mul]; exact y.2))⟩⟩
  have hs : 0 ≤ set ∧ set < 2 ^ 26 := ⟨by omega, Int.lt_trans q2 h16⟩
  refine mt_mono (sp_find (often := 1) C hs (Q := fun o h => mm_pV (fun D7 u8 x9 => mt 36 0 [some (mm_P 10)] [] (mm_mk D7 u8 x9) (mm_pI fun r14 D11 u12 x13 => Q (.inl (some (mm_I (r14)))) (mm_mk D11 u12 x13))) o h) (fun D' W h1 C2 h3 => ?_)) (fun o h => id)
  apply mm_pVi
  apply sp_size w10
  apply mm_pIi
  rw [C2.2.2.2.1.1]
  exact H1 (by omega) (by rw [Int.one_mul] at q2; exact q2) D' W h1 C2 h3
theorem cs_repeated {often : Int} (C : sv_C D tx k P) (H1 : 1 ≤ often → ∀ D' W, sv_F D D' → sv_C D' tx k W → sv_fnd tx 0 often W → Q (.inl (some (mm_I (W.length : Int)))) (mm_mk D' u x)) (H2 : ¬ 1 ≤ often → Q (.inr 1) (mm_mk D u (sv_thr x))) : mt 68 0 [some (mm_P 0), some (mm_I often)] [] (mm_mk D u x) Q := by
  have w10 : mm_isW 10 := by unfold mm_isW; omega
  apply q_X4_repeated_0
  refine ⟨fun q => ?_, H2⟩
  refine mt_mono (sp_find (often := often) (set := 0) C (by decide) (Q := fun o h => mm_pV (fun D7 u8 x9 => mt 36 0 [some (mm_P 10)] [] (mm_mk D7 u8 x9) (mm_pI fun r14 D11 u12 x13 => Q (.inl (some (mm_I (r14)))) (mm_mk D11 u12 x13))) o h) (fun D' W h1 C2 h3 => ?_)) (fun o h => id)
  apply mm_pVi
  apply sp_size w10
  apply mm_pIi
  rw [C2.2.2.2.1.1]
  exact H1 q D' W h1 C2 h3
end SJ
