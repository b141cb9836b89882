/-! where a word begins in a text, and where it ends -/
def stn (T w : wd) (i : Nat) : Prop := w ≠ [] ∧ w <+: T.drop i
theorem stn_len {T w : wd} {i : Nat} (h : stn T w i) : i + w.length ≤ T.length := by
  have h1 := h.2.length_le
  have h2 := List.length_pos_iff.mpr h.1
  rw [List.length_drop] at h1
  omega
theorem stn_wg {T w : wd} {i : Nat} (h : stn T w i) {j : Nat} (hj : j < w.length) : wg T (i + j) = wg w j := by
  obtain ⟨s, e⟩ := h.2
  rw [← wg_drop, ← e, wg_l hj]
theorem stn_of {T w : wd} {i : Nat} (h0 : w ≠ []) (hl : i + w.length ≤ T.length) (h : ∀ j, j < w.length → wg T (i + j) = wg w j) : stn T w i := by
  refine ⟨h0, ?_⟩
  rw [List.prefix_iff_eq_take]
  refine wd_ext (by rw [List.length_take, List.length_drop]; omega) (fun j hj => ?_)
  rw [wg_take hj, wg_drop, h j hj]
theorem oc_stn {T w : wd} {e : Nat} (he : e < T.length) : oc T w e ↔ w.length ≤ e + 1 ∧ stn T w (e + 1 - w.length) := by
  have hl : (T.take (e + 1)).length = e + 1 := by
    rw [List.length_take]
    omega
  unfold oc stn
  rw [List.suffix_iff_eq_drop, List.prefix_iff_eq_take, hl, List.drop_take]
  constructor
  · rintro ⟨h1, h2⟩
    have h3 : w.length ≤ e + 1 := by
      have := congrArg List.length h2
      rw [List.length_take, List.length_drop] at this
      omega
    refine ⟨h3, h1, ?_⟩
    rw [show e + 1 - (e + 1 - w.length) = w.length by omega] at h2
    exact h2
  · rintro ⟨h3, h1, h2⟩
    refine ⟨h1, ?_⟩
    rw [show e + 1 - (e + 1 - w.length) = w.length by omega]
    exact h2
theorem stn_oc {T w : wd} {i : Nat} (h : stn T w i) : oc T w (i + w.length - 1) ∧ i + w.length - 1 < T.length := by
  have h1 := stn_len h
  have h2 := List.length_pos_iff.mpr h.1
  refine ⟨(oc_stn (by omega)).mpr ⟨by omega, ?_⟩, by omega⟩
  rw [show i + w.length - 1 + 1 - w.length = i by omega]
  exact h
theorem cN_tail {p : Nat → Prop} {m : Nat} : ∀ n : Nat, m ≤ n → (∀ i, m ≤ i → i < n → ¬ p i) → cN p n = cN p m := by
  intro n
  induction n with
  | zero =>
    intro h _
    rw [show m = 0 by omega]
  | succ n ih =>
    intro h hp
    by_cases e : m = n + 1
    · rw [e]
    · rw [cN_s, ih (by omega) (fun i a b => hp i a (by omega)), cI_0 (hp n (by omega) (by omega)), Int.add_zero]
theorem cN_stn {T w : wd} (h0 : w ≠ []) : ∀ n : Nat, n ≤ T.length → cN (oc T w) n = cN (stn T w) (n + 1 - w.length) := by
  have h1 := List.length_pos_iff.mpr h0
  intro n
  induction n with
  | zero =>
    intro _
    rw [show 0 + 1 - w.length = 0 by omega]
    rfl
  | succ n ih =>
    intro hn
    rw [cN_s, ih (by omega)]
    by_cases q : w.length ≤ n + 1
    · rw [show n + 1 + 1 - w.length = (n + 1 - w.length) + 1 by omega, cN_s, cI_c (oc_stn (by omega))]
      congr 1
      exact cI_c ⟨fun y => y.2, fun y => ⟨q, y⟩⟩
    · rw [cI_0 (fun y => q ((oc_stn (by omega)).mp y).1), show n + 1 + 1 - w.length = 0 by omega, show n + 1 - w.length = 0 by omega, Int.add_zero]
theorem cN_starts (T w : wd) : cN (stn T w) T.length = cN (oc T w) T.length := by
  by_cases h0 : w = []
  · rw [(cN_none (fun e _ => by rw [h0]; exact fun y => y.1 rfl)).1, (cN_none (fun e _ => by rw [h0]; exact fun y => y.1 rfl)).1]
  · have h1 := List.length_pos_iff.mpr h0
    rw [cN_stn h0 _ (Nat.le_refl _)]
    refine cN_tail _ (by omega) (fun i a b y => ?_)
    have := stn_len y
    omega
theorem fN_u {p : Nat → Prop} {n : Nat} {v : Int} (h : (v = -1 ∧ ∀ e, e < n → ¬ p e) ∨ ∃ e : Nat, e < n ∧ v = (e : Int) ∧ p e ∧ ∀ e', e' < e → ¬ p e') : fN p n = v := by
  rcases h with ⟨a, b⟩ | ⟨e, e1, e2, e3, e4⟩
  · rw [a]
    exact (cN_none b).2.1
  · rcases fN_sp p n with ⟨_, b⟩ | ⟨f, f1, f2, f3, f4⟩
    · exact absurd e3 (b e e1)
    · rw [f2, e2]
      by_cases q : f < e
      · exact absurd f3 (e4 f q)
      · by_cases q2 : e < f
        · exact absurd e3 (f4 e q2)
        · omega
theorem laN_u {p : Nat → Prop} {n : Nat} {v : Int} (h : (v = -1 ∧ ∀ e, e < n → ¬ p e) ∨ ∃ e : Nat, e < n ∧ v = (e : Int) ∧ p e ∧ ∀ e', e < e' → e' < n → ¬ p e') : laN p n = v := by
  rcases h with ⟨a, b⟩ | ⟨e, e1, e2, e3, e4⟩
  · rw [a]
    exact (cN_none b).2.2
  · rcases laN_sp p n with ⟨_, b⟩ | ⟨f, f1, f2, f3, f4⟩
    · exact absurd e3 (b e e1)
    · rw [f2, e2]
      by_cases q : f < e
      · exact absurd e3 (f4 e q e1)
      · by_cases q2 : e < f
        · exact absurd f3 (e4 f q2 f1)
        · omega
theorem fN_starts (T w : wd) : fN (stn T w) T.length = sv_bg w (fN (oc T w) T.length) := by
  apply fN_u
  unfold sv_bg
  rcases fN_sp (oc T w) T.length with ⟨a, b⟩ | ⟨e, e1, e2, e3, e4⟩
  · left
    rw [if_pos a]
    exact ⟨rfl, fun i _ y => b _ (stn_oc y).2 (stn_oc y).1⟩
  · right
    have h1 := (oc_stn e1).mp e3
    have h2 := List.length_pos_iff.mpr h1.2.1
    refine ⟨e + 1 - w.length, by omega, ?_, h1.2, fun i hi y => ?_⟩
    · rw [if_neg (by omega)]
      omega
    · exact e4 (i + w.length - 1) (by omega) (stn_oc y).1
theorem laN_starts (T w : wd) : laN (stn T w) T.length = sv_bg w (laN (oc T w) T.length) := by
  apply laN_u
  unfold sv_bg
  rcases laN_sp (oc T w) T.length with ⟨a, b⟩ | ⟨e, e1, e2, e3, e4⟩
  · left
    rw [if_pos a]
    exact ⟨rfl, fun i _ y => b _ (stn_oc y).2 (stn_oc y).1⟩
  · right
    have h1 := (oc_stn e1).mp e3
    have h2 := List.length_pos_iff.mpr h1.2.1
    refine ⟨e + 1 - w.length, by omega, ?_, h1.2, fun i hi _ y => ?_⟩
    · rw [if_neg (by omega)]
      omega
    · exact e4 (i + w.length - 1) (by omega) (stn_oc y).2 (stn_oc y).1
theorem fac_st {tx : Nat → wd} {w : wd} (h0 : w ≠ []) : fac tx w ↔ ∃ j i : Nat, stn (tx j) w i := by
  constructor
  · intro h
    obtain ⟨j, e, h1, h2⟩ := fac_ix h h0
    exact ⟨j, _, ((oc_stn h1).mp ⟨h0, h2⟩).2⟩
  · rintro ⟨j, i, h⟩
    exact ⟨j, _, (stn_oc h).1.2⟩
theorem cN_mono {p q : Nat → Prop} : ∀ n : Nat, (∀ e, e < n → p e → q e) → cN p n ≤ cN q n := by
  intro n
  induction n with
  | zero => exact fun _ => Int.le_refl _
  | succ n ih =>
    intro h
    have h1 := ih (fun e he => h e (by omega))
    rw [cN_s, cN_s]
    by_cases c : p n
    · rw [cI_1 c, cI_1 (h n (by omega) c)]
      omega
    · rw [cI_0 c]
      have := cI_b (q n)
      omega
theorem cN_lt {p q : Nat → Prop} : ∀ n : Nat, (∀ e, e < n → p e → q e) → (∃ e, e < n ∧ q e ∧ ¬ p e) → cN p n < cN q n := by
  intro n
  induction n with
  | zero =>
    rintro _ ⟨e, h, _⟩
    omega
  | succ n ih =>
    rintro h ⟨e, e1, e2, e3⟩
    rw [cN_s, cN_s]
    by_cases c : e = n
    · rw [c] at e2 e3
      have := cN_mono n (fun e he => h e (by omega))
      rw [cI_1 e2, cI_0 e3]
      omega
    · have h1 := ih (fun e he => h e (by omega)) ⟨e, by omega, e2, e3⟩
      by_cases c : p n
      · rw [cI_1 c, cI_1 (h n (by omega) c)]
        omega
      · rw [cI_0 c]
        have := cI_b (q n)
        omega
/-- in all texts -/
noncomputable def en_all (tx : Nat → wd) (w : wd) : Int := en_of tx 15 w 0 + en_of tx 15 w 1 + en_of tx 15 w 2 + en_of tx 15 w 3
theorem tx_lt {tx : Nat → wd} {k : Int} {P : wd} (T : sv_T tx k P) {j : Nat} (h : 0 < (tx j).length) : (j : Int) < k ∧ j < 4 := by
  by_cases q : (j : Int) < k
  · exact ⟨q, by have := T.1; omega⟩
  · rw [T.2.2.2.2.2 j (by omega)] at h
    simp at h
theorem en_all_pos {tx : Nat → wd} {k : Int} {P w : wd} (T : sv_T tx k P) : 0 < en_all tx w ↔ w ≠ [] ∧ fac tx w := by
  have b0 := en_b tx w 0
  have b1 := en_b tx w 1
  have b2 := en_b tx w 2
  have b3 := en_b tx w 3
  have key : ∀ j : Nat, en_of tx 15 w (j : Int) ≠ 0 → w ≠ [] ∧ fac tx w := by
    intro j hj
    by_cases c : w ≠ [] ∧ fac tx w
    · exact c
    · have c2 : w = [] ∨ ¬ fac tx w := by
        by_cases e : w = []
        · exact Or.inl e
        · exact Or.inr (fun f => c ⟨e, f⟩)
      exact absurd (en_ps c2 (j : Int)).1 hj
  unfold en_all
  constructor
  · intro h
    by_cases c0 : en_of tx 15 w 0 = 0
    · by_cases c1 : en_of tx 15 w 1 = 0
      · by_cases c2 : en_of tx 15 w 2 = 0
        · exact key 3 (show en_of tx 15 w 3 ≠ 0 by omega)
        · exact key 2 c2
      · exact key 1 c1
    · exact key 0 c0
  · rintro ⟨h0, h⟩
    obtain ⟨j, e, h1, h2⟩ := fac_ix h h0
    have hj := (tx_lt T (j := j) (by omega)).2
    have hne : en_of tx 15 w (j : Int) ≠ 0 := fun q => (cN_0.mp (show cN (oc (tx j) w) (tx j).length = 0 from q)) e h1 ⟨h0, h2⟩
    have : j = 0 ∨ j = 1 ∨ j = 2 ∨ j = 3 := by omega
    rcases this with rfl | rfl | rfl | rfl
    · have hne : en_of tx 15 w 0 ≠ 0 := hne
      omega
    · have hne : en_of tx 15 w 1 ≠ 0 := hne
      omega
    · have hne : en_of tx 15 w 2 ≠ 0 := hne
      omega
    · have hne : en_of tx 15 w 3 ≠ 0 := hne
      omega
def sm (f : Nat → Int) : Nat → Int
  | 0 => 0
  | n + 1 => sm f n + f n
theorem sm_k {f : Nat → Int} {k : Nat} (hk : k ≤ 4) (h : ∀ t, k ≤ t → f t = 0) : sm f k = f 0 + f 1 + f 2 + f 3 := by
  have : k = 0 ∨ k = 1 ∨ k = 2 ∨ k = 3 ∨ k = 4 := by omega
  rcases this with rfl | rfl | rfl | rfl | rfl
  · have h0 := h 0 (by decide)
    have h1 := h 1 (by decide)
    have h2 := h 2 (by decide)
    have h3 := h 3 (by decide)
    show (0 : Int) = _
    omega
  · have h1 := h 1 (by decide)
    have h2 := h 2 (by decide)
    have h3 := h 3 (by decide)
    show (0 : Int) + f 0 = _
    omega
  · have h2 := h 2 (by decide)
    have h3 := h 3 (by decide)
    show (0 : Int) + f 0 + f 1 = _
    omega
  · have h3 := h 3 (by decide)
    show (0 : Int) + f 0 + f 1 + f 2 = _
    omega
  · show (0 : Int) + f 0 + f 1 + f 2 + f 3 = _
    omega
