/-! what whole's rows said of places, ends and letters beside a word (their own texts, from parts 66 to 72 of whole) -/
section RX
variable {D : mm_D} {u : Int} {x : mm_Xt} {Q : mm_O → mm_H → Prop} {tx : Nat → wd} {k : Int} {P : wd}
theorem en_none (T : sv_T tx k P) (w : wd) {t : Nat} (h : k ≤ (t : Int)) : en_of tx 15 w (t : Int) = 0 := by
  show cN (oc (tx t) w) (tx t).length = 0
  rw [T.2.2.2.2.2 t h]
  rfl
theorem stn_snoc {T w : wd} {a : Int} {i : Nat} (h0 : w ≠ []) : stn T (w ++ [a]) i ↔ stn T w i ∧ i + w.length < T.length ∧ a = wg T (i + w.length) := by
  constructor
  · intro h
    have hl := stn_len h
    rw [List.length_append, List.length_singleton] at hl
    refine ⟨stn_of h0 (by omega) (fun j hj => ?_), by omega, ?_⟩
    · rw [stn_wg h (j := j) (by rw [List.length_append]; omega), wg_l hj]
    · rw [stn_wg h (j := w.length) (by rw [List.length_append, List.length_singleton]; omega), wg_r]
  · rintro ⟨h1, h2, h3⟩
    refine stn_of (by simp) (by rw [List.length_append, List.length_singleton]; omega) (fun j hj => ?_)
    rw [List.length_append, List.length_singleton] at hj
    by_cases e : j = w.length
    · rw [e, wg_r, h3]
    · rw [wg_l (by omega)]
      exact stn_wg h1 (by omega)
theorem wg_cons0 (a : Int) (w : wd) : wg (a :: w) 0 = a := rfl
theorem wg_cons1 (a : Int) (w : wd) (j : Nat) : wg (a :: w) (j + 1) = wg w j := rfl
theorem stn_one {T : wd} {a : Int} {i : Nat} : stn T [a] i ↔ i < T.length ∧ a = wg T i := by
  constructor
  · intro h
    have hl := stn_len h
    rw [List.length_singleton] at hl
    exact ⟨by omega, (stn_wg h (j := 0) (by simp)).symm⟩
  · rintro ⟨h1, h2⟩
    refine stn_of (by simp) (by rw [List.length_singleton]; omega) (fun j hj => ?_)
    rw [List.length_singleton] at hj
    have : j = 0 := by omega
    rw [this, h2]
    rfl
theorem stn_cons {T w : wd} {a : Int} {i : Nat} (h0 : w ≠ []) : stn T (a :: w) i ↔ stn T w (i + 1) ∧ a = wg T i := by
  constructor
  · intro h
    have hl := stn_len h
    rw [List.length_cons] at hl
    refine ⟨stn_of h0 (by omega) (fun j hj => ?_), ?_⟩
    · have := stn_wg h (j := j + 1) (by rw [List.length_cons]; omega)
      rw [wg_cons1] at this
      rw [← this]
      congr 1
      omega
    · have := stn_wg h (j := 0) (by rw [List.length_cons]; omega)
      rw [wg_cons0] at this
      exact this.symm
  · rintro ⟨h1, h2⟩
    have hl := stn_len h1
    refine stn_of (by simp) (by rw [List.length_cons]; omega) (fun j hj => ?_)
    rw [List.length_cons] at hj
    cases j with
    | zero => exact h2.symm
    | succ j =>
      have := stn_wg h1 (j := j) (by omega)
      rw [wg_cons1, ← this]
      congr 1
      omega
def sv_led (tx : Nat → wd) (k : Int) (P : wd) (m : Nat) : Prop := ∃ c : Int, ∀ t i : Nat, (t : Int) < k → stn (tx t) P i → m ≤ i ∧ wg (tx t) (i - m) = c
theorem led_yes (T : sv_T tx k P) {y d : wd} (hd : d = y ++ P) (h0 : P ≠ []) (ho : ∀ j e, oc (tx j) P e ↔ oc (tx j) d e) {m : Nat} (hm : 1 ≤ m ∧ m ≤ y.length) : sv_led tx k P m := by
  refine ⟨wg y (y.length - m), fun t i _ h => ?_⟩
  obtain ⟨h1, h2⟩ := stn_oc h
  have h3 := (oc_stn h2).mp ((ho t _).mp h1)
  have h4 := List.length_pos_iff.mpr h0
  have hl : d.length = y.length + P.length := by rw [hd, List.length_append]
  rw [hl] at h3
  have h5 := stn_wg h3.2 (j := y.length - m) (by omega)
  refine ⟨by omega, ?_⟩
  rw [hd, wg_l (by omega)] at h5
  rw [← h5]
  congr 1
  omega
theorem led_no (T : sv_T tx k P) {y d : wd} (hd : d = y ++ P) (h0 : P ≠ []) (hx : lmx tx d) : ¬ sv_led tx k P (y.length + 1) := by
  rintro ⟨c, hc⟩
  have h4 := List.length_pos_iff.mpr h0
  have hl : d.length = y.length + P.length := by rw [hd, List.length_append]
  have sub : ∀ {t i : Nat}, stn (tx t) d i → stn (tx t) P (i + y.length) := by
    intro t i h
    have h1 := stn_len h
    refine stn_of h0 (by omega) (fun j hj => ?_)
    have := stn_wg h (j := y.length + j) (by omega)
    rw [hd] at this
    have e : wg (y ++ P) (y.length + j) = wg P j := by
      rw [← wg_drop, List.drop_left]
    rw [e] at this
    rw [← this]
    congr 1
    omega
  have dn : d ≠ [] := by
    intro e
    rw [e] at hl
    simp at hl
    omega
  rcases hx with ⟨t, e, he⟩ | ⟨a, b, hab, ha, hb⟩
  · have hp : d <+: tx t := by
      rw [he]
      exact List.take_prefix e (tx t)
    have hs := sub (t := t) (i := 0) ⟨dn, by rw [List.drop_zero]; exact hp⟩
    have h1 := stn_len hs
    have := (hc t _ (tx_lt T (j := t) (by omega)).1 hs).1
    omega
  · have two : ∀ a : Int, fac tx (a :: d) → a = c := by
      intro a ha
      obtain ⟨t, i, h⟩ := (fac_st (by simp)).mp ha
      obtain ⟨h1, h2⟩ := (stn_cons dn).mp h
      have hs := sub h1
      have h3 := stn_len hs
      have := (hc t _ (tx_lt T (j := t) (by omega)).1 hs).2
      rw [h2, ← this]
      congr 1
      omega
    exact hab ((two a ha).trans (two b hb).symm)
def sv_cum (tx : Nat → wd) (t : Nat) : Int := sm (fun t => ((tx t).length : Int)) t
theorem sv_cumB (T : sv_T tx k P) {t : Nat} (h : (t : Int) < k) : 0 ≤ sv_cum tx t ∧ sv_cum tx (t + 1) = sv_cum tx t + ((tx t).length : Int) ∧ sv_cum tx (t + 1) ≤ sv_tot tx := by
  have k4 := T.1
  have : t = 0 ∨ t = 1 ∨ t = 2 ∨ t = 3 := by omega
  unfold sv_tot
  have e0 : sv_cum tx 0 = 0 := rfl
  have e1 : sv_cum tx 1 = sv_cum tx 0 + ((tx 0).length : Int) := rfl
  have e2 : sv_cum tx 2 = sv_cum tx 1 + ((tx 1).length : Int) := rfl
  have e3 : sv_cum tx 3 = sv_cum tx 2 + ((tx 2).length : Int) := rfl
  have e4 : sv_cum tx 4 = sv_cum tx 3 + ((tx 3).length : Int) := rfl
  rcases this with rfl | rfl | rfl | rfl
  · exact ⟨by omega, e1, by show sv_cum tx 1 ≤ _; omega⟩
  · exact ⟨by omega, e2, by show sv_cum tx 2 ≤ _; omega⟩
  · exact ⟨by omega, e3, by show sv_cum tx 3 ≤ _; omega⟩
  · exact ⟨by omega, e4, by show sv_cum tx 4 ≤ _; omega⟩
theorem sv_cumK (T : sv_T tx k P) : sv_cum tx k.toNat = sv_tot tx := by
  have k4 := T.1
  refine (sm_k (by omega) (fun t ht => ?_)).trans rfl
  rw [T.2.2.2.2.2 t (by omega)]
  rfl
theorem en_ne0 {w : wd} {t : Nat} : en_of tx 15 w (t : Int) ≠ 0 ↔ ∃ i, stn (tx t) w i := by
  have e : en_of tx 15 w (t : Int) = cN (stn (tx t) w) (tx t).length := (cN_starts (tx t) w).symm
  rw [e]
  constructor
  · intro h
    by_cases c : ∃ i, stn (tx t) w i
    · exact c
    · exact absurd (cN_0.mpr (fun e _ y => c ⟨e, y⟩)) h
  · rintro ⟨i, hi⟩ h
    have := stn_len hi
    have := List.length_pos_iff.mpr hi.1
    exact cN_0.mp h i (by omega) hi
theorem lmx_d (T : sv_T tx k P) {d : wd} (h0 : P ≠ []) (hs : P <:+ d) (ho : ∀ j e, oc (tx j) P e ↔ oc (tx j) d e) (hx : lmx tx P) : P = d := by
  obtain ⟨y, hy⟩ := hs
  cases y with
  | nil => exact hy
  | cons c y =>
    have a := led_yes T (m := 1) (d := d) (y := c :: y) hy.symm h0 ho ⟨by decide, by simp⟩
    exact absurd a (led_no T (d := P) (y := []) rfl h0 hx)
/-- how many classes: as before, and at most two a letter -/
theorem cs_classes2 (C : sv_C D tx k P) (H : ∀ m, sz (fun w => w ≠ [] ∧ fac tx w ∧ lmx tx w) m → m ≤ 2 * sv_tot tx → Q (.inl (some (mm_I m))) (mm_mk D u x)) : mt 61 0 [some (mm_P 0)] [] (mm_mk D u x) Q := by
  have hb : ∀ m, sz (fun w => w ≠ [] ∧ fac tx w ∧ lmx tx w) m → m ≤ 2 * sv_tot tx := by
    intro m hm
    obtain ⟨n, rep, J, O, T, N, W⟩ := C.2.2.2.2
    have h2 := J.2.1
    have := sv_reps J (n - 1).toNat (by omega)
    rw [Int.toNat_of_nonneg (by omega)] at this
    have h3 := sz_le hm this (fun w q => ?_)
    · omega
    · obtain ⟨s, s1, s3⟩ := (tM_iff T q.1).mpr q.2
      refine ⟨s, ?_, by have := s1.1; omega, s3⟩
      by_cases e : s = 0
      · exfalso
        rw [e, J.2.2.2.1] at s3
        exact q.1 s3.symm
      · have := s1.1
        omega
  exact cs_classes C (fun m hm => H m hm (hb m hm))
end RX
