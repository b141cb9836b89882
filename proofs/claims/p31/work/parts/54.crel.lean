/-! a word's letters -/
def wg (w : wd) (i : Nat) : Int := w.getD i 0
theorem wg_e (w : wd) (i : Nat) : wg w i = (w[i]?).getD 0 := List.getD_eq_getElem?_getD
theorem wg_l {w v : wd} {i : Nat} (h : i < w.length) : wg (w ++ v) i = wg w i := by
  rw [wg_e, wg_e, List.getElem?_append_left h]
theorem wg_r (w : wd) (a : Int) : wg (w ++ [a]) w.length = a := by
  rw [wg_e, List.getElem?_append_right (Nat.le_refl _), Nat.sub_self]
  rfl
theorem wg_mem {w : wd} {i : Nat} (h : i < w.length) : wg w i ∈ w := by
  rw [wg_e, List.getElem?_eq_getElem h]
  exact List.getElem_mem h
theorem wg_take {w : wd} {i e : Nat} (h : i < e) : wg (w.take e) i = wg w i := by
  rw [wg_e, wg_e, List.getElem?_take_of_lt h]
theorem wg_drop (w : wd) (e i : Nat) : wg (w.drop e) i = wg w (e + i) := by
  rw [wg_e, wg_e, List.getElem?_drop]
theorem wd_take {w : wd} {i : Nat} (h : i < w.length) : w.take (i + 1) = w.take i ++ [wg w i] := by
  rw [List.take_succ, wg_e, List.getElem?_eq_getElem h]
  rfl
theorem wd_drop {w : wd} {i : Nat} (h : i < w.length) : w.drop i = wg w i :: w.drop (i + 1) := by
  rw [List.drop_eq_getElem_cons h, wg_e, List.getElem?_eq_getElem h]
  rfl
theorem wd_ext {w v : wd} (hl : w.length = v.length) (h : ∀ i, i < w.length → wg w i = wg v i) : w = v := by
  apply List.ext_getElem hl
  intro i h1 h2
  have := h i h1
  rw [wg_e, wg_e, List.getElem?_eq_getElem h1, List.getElem?_eq_getElem h2] at this
  exact this
/-! what the texts and the pattern are, and how the class holds them -/
def sv_tot (tx : Nat → wd) : Int := ((tx 0).length : Int) + ((tx 1).length : Int) + ((tx 2).length : Int) + ((tx 3).length : Int)
def sv_T (tx : Nat → wd) (k : Int) (P : wd) : Prop := (0 ≤ k ∧ k ≤ 4) ∧ sv_tot tx ≤ 100 ∧ (P.length : Int) ≤ 120 ∧ (∀ j a, a ∈ tx j → 0 ≤ a ∧ a < 26) ∧ (∀ a, a ∈ P → 0 ≤ a ∧ a < 26) ∧ ∀ j : Nat, k ≤ (j : Int) → tx j = []
def sv_lay (D : mm_D) (r : Nat) (o : Int) (w : wd) : Prop := ∀ i : Nat, i < w.length → D r (o + (i : Int)) = wg w i
def sv_A (D : mm_D) (tx : Nat → wd) : Prop := ∃ (n : Int) (rep : Int → wd), au_J D n (-1) rep [] (en_of tx) ∧ au_O D n ∧ tM tx (au_M n (-1) rep) ∧ n ≤ 2 * sv_tot tx + 1 ∧ ∀ j : Nat, j < 4 → (0 ≤ D 22 (j : Int) ∧ D 22 (j : Int) < n) ∧ rep (D 22 (j : Int)) = tx j
def sv_W (D : mm_D) (tx : Nat → wd) : Prop := ∀ j : Nat, j < 4 → D (2 + 2 * j) 1 = ((tx j).length : Int) ∧ sv_lay D (3 + 2 * j) 0 (tx j)
def sv_C (D : mm_D) (tx : Nat → wd) (k : Int) (P : wd) : Prop := sv_T tx k P ∧ (D 0 4 = k ∧ D 0 5 = sv_tot tx) ∧ sv_W D tx ∧ (D 10 1 = (P.length : Int) ∧ sv_lay D 11 0 P) ∧ sv_A D tx
def sv_F (D D' : mm_D) : Prop := ∀ r, 24 ≤ r → D' r = D r
abbrev sv_thr (x : mm_Xt) : mm_Xt := (x.1 + 1, (x.2.1 + 6, x.2.2))
theorem sv_lay_row {D D' : mm_D} {r : Nat} {o : Int} {w : wd} (h : D' r = D r) (k : sv_lay D r o w) : sv_lay D' r o w := fun i hi => by rw [h]; exact k i hi
theorem sv_lay_add {D : mm_D} {r : Nat} {o a : Int} {w : wd} (k : sv_lay D r o w) : sv_lay (mm_wr D r (o + (w.length : Int)) a) r o (w ++ [a]) := by
  intro i hi
  rw [List.length_append, List.length_singleton] at hi
  by_cases q : i = w.length
  · rw [q, mm_wr_eq, wg_r]
  · rw [mm_wr_k (by omega), wg_l (by omega)]
    exact k i (by omega)
theorem sv_A_row {D D' : mm_D} {tx : Nat → wd} (h : ∀ r, r = 13 ∨ (15 ≤ r ∧ r ≤ 22) → D' r = D r) (k : sv_A D tx) : sv_A D' tx := by
  obtain ⟨n, rep, J, O, T, N, W⟩ := k
  refine ⟨n, rep, ?_, au_O_row (h 21 (by decide)) (h 19 (by decide)) O, T, N, fun j hj => by rw [h 22 (by decide)]; exact W j hj⟩
  unfold au_J at J ⊢
  rw [h 13 (by decide), h 18 (by decide), h 19 (by decide), h 20 (by decide)]
  obtain ⟨b1, b2, b3, b4, b5, b6, b7, b8, b9, b10, b11⟩ := J
  refine ⟨b1, b2, b3, b4, b5, b6, b7, b8, b9, b10, fun s r j q1 q2 q3 q4 => ?_⟩
  rw [h r (by omega)]
  exact b11 s r j q1 q2 q3 q4
theorem sv_W_row {D D' : mm_D} {tx : Nat → wd} (h : ∀ r, 2 ≤ r ∧ r ≤ 9 → D' r = D r) (k : sv_W D tx) : sv_W D' tx := fun j hj => ⟨by rw [h _ (by omega)]; exact (k j hj).1, sv_lay_row (h _ (by omega)) (k j hj).2⟩
theorem sv_C_row {D D' : mm_D} {tx : Nat → wd} {k : Int} {P : wd} (h : ∀ r, r < 24 → r ≠ 12 → r ≠ 23 → D' r = D r) (c : sv_C D tx k P) : sv_C D' tx k P := by
  obtain ⟨c1, c2, c3, c4, c5⟩ := c
  refine ⟨c1, ?_, sv_W_row (fun r hr => h r (by omega) (by omega) (by omega)) c3, ?_, sv_A_row (fun r hr => h r (by omega) (by omega) (by omega)) c5⟩
  · rw [h 0 (by decide) (by decide) (by decide)]
    exact c2
  · rw [h 10 (by decide) (by decide) (by decide)]
    exact ⟨c4.1, sv_lay_row (h 11 (by decide) (by decide) (by decide)) c4.2⟩
/-- another pattern -/
theorem sv_C_pat {D D' : mm_D} {tx : Nat → wd} {k : Int} {P P' : wd} (c : sv_C D tx k P) (h : ∀ r, r < 24 → r ≠ 10 → r ≠ 11 → r ≠ 12 → r ≠ 23 → D' r = D r) (hl : (P'.length : Int) ≤ 120) (ha : ∀ a, a ∈ P' → 0 ≤ a ∧ a < 26) (h1 : D' 10 1 = (P'.length : Int)) (h2 : sv_lay D' 11 0 P') : sv_C D' tx k P' := by
  obtain ⟨c1, c2, c3, c4, c5⟩ := c
  refine ⟨⟨c1.1, c1.2.1, hl, c1.2.2.2.1, ha, c1.2.2.2.2.2⟩, ?_, sv_W_row (fun r hr => h r (by omega) (by omega) (by omega) (by omega) (by omega)) c3, ⟨h1, h2⟩, sv_A_row (fun r hr => h r (by omega) (by omega) (by omega) (by omega) (by omega)) c5⟩
  rw [h 0 (by decide) (by decide) (by decide) (by decide) (by decide)]
  exact c2
section SC
variable {D : mm_D} {u : Int} {x : mm_Xt} {Q : mm_O → mm_H → Prop} {tx : Nat → wd} {k : Int} {P : wd}
theorem sp_demand {t : Int} (hk : D 0 4 = k) (h4 : k ≤ 4) (H1 : 0 ≤ t → t < k → ∀ w : Nat, mm_isW w → w = 2 + 2 * t.toNat → Q (.inl (some (mm_P w))) (mm_mk D u x)) (H2 : ¬ (0 ≤ t ∧ t < k) → Q (.inr 0) (mm_mk D u (sv_thr x))) : mt 71 0 [some (mm_P 0), some (mm_I t), none] [] (mm_mk D u x) Q := by
  apply q_X4_demandText_0
  apply sp_within
  apply mm_pIi
  rw [hk]
  by_cases q : 0 ≤ t ∧ t < k
  · rw [sd_b1 q]
    exact ⟨fun e => absurd e (by decide), fun _ => ⟨fun e => absurd e (by omega), fun _ => ⟨by omega, fun w h1 h2 => H1 q.1 q.2 w h1 h2⟩⟩⟩
  · rw [sd_b0 q]
    exact ⟨fun _ => H2 q, fun e => absurd rfl e⟩
theorem sp_demandL {a : Int} (H1 : 0 ≤ a → a < 26 → Q (.inl none) (mm_mk D u x)) (H2 : ¬ (0 ≤ a ∧ a < 26) → Q (.inr 1) (mm_mk D u (sv_thr x))) : mt 72 0 [some (mm_I a)] [] (mm_mk D u x) Q := by
  apply q_X4_demandLetter_0
  apply sp_within
  apply mm_pIi
  by_cases q : 0 ≤ a ∧ a < 26
  · rw [sd_b1 q]
    exact ⟨fun _ => H1 q.1 q.2, fun e => absurd (by decide) e⟩
  · rw [sd_b0 q]
    exact ⟨fun e => absurd rfl e, fun _ => H2 q⟩
theorem cs_texts (C : sv_C D tx k P) (H : Q (.inl (some (mm_I k))) (mm_mk D u x)) : mt 45 0 [some (mm_P 0)] [] (mm_mk D u x) Q := by
  apply q_X4_texts_0
  rw [C.2.1.1]
  exact H
theorem cs_begin (C : sv_C D tx k P) (H1 : k < 4 → ∀ D', sv_F D D' → sv_C D' tx (k + 1) P → Q (.inl (some (mm_I k))) (mm_mk D' u x)) (H2 : ¬ k < 4 → Q (.inr 2) (mm_mk D u (sv_thr x))) : mt 43 0 [some (mm_P 0)] [] (mm_mk D u x) Q := by
  obtain ⟨c1, c2, c3, c4, c5⟩ := C
  have k0 := c1.1
  apply q_X4_open_0
  rw [c2.1]
  refine ⟨fun q => ⟨by constructor <;> omega, fun D2 e => ?_⟩, H2⟩
  have e1 : D2 0 4 = k + 1 := by rw [e, mm_wr_eq]
  have e2 : ∀ r, r ≠ 0 → D2 r = D r := fun r h => by rw [e, mm_wr_row h]
  rw [e1]
  refine ⟨by constructor <;> omega, ?_⟩
  rw [show k + 1 - 1 = k by omega]
  refine H1 q D2 (fun r h => e2 r (by omega)) ⟨⟨by omega, c1.2.1, c1.2.2.1, c1.2.2.2.1, c1.2.2.2.2.1, fun j hj => c1.2.2.2.2.2 j (by omega)⟩, ⟨e1, ?_⟩, sv_W_row (fun r hr => e2 r (by omega)) c3, ?_, sv_A_row (fun r hr => e2 r (by omega)) c5⟩
  · rw [e, mm_wr_k (by decide)]
    exact c2.2
  · rw [e2 10 (by decide)]
    exact ⟨c4.1, sv_lay_row (e2 11 (by decide)) c4.2⟩
theorem sv_w {D : mm_D} {t : Int} {w : Nat} (W : sv_W D tx) (h : 0 ≤ t ∧ t < 4) (hw : w = 2 + 2 * t.toNat) : D w 1 = ((tx t.toNat).length : Int) ∧ sv_lay D (w + 1) 0 (tx t.toNat) := by
  have := W t.toNat (by omega)
  rw [hw, show 2 + 2 * t.toNat + 1 = 3 + 2 * t.toNat by omega]
  exact this
theorem sv_len {T : sv_T tx k P} (t : Nat) : (tx t).length ≤ 100 := by
  obtain ⟨t1, t2, t3, t4, t5, t6⟩ := T
  unfold sv_tot at t2
  by_cases q : t < 4
  · have : t = 0 ∨ t = 1 ∨ t = 2 ∨ t = 3 := by omega
    rcases this with rfl | rfl | rfl | rfl <;> omega
  · rw [t6 t (by omega)]
    exact Nat.zero_le _
theorem cs_length {t : Int} (C : sv_C D tx k P) (H1 : 0 ≤ t → t < k → Q (.inl (some (mm_I ((tx t.toNat).length : Int)))) (mm_mk D u x)) (H2 : ¬ (0 ≤ t ∧ t < k) → Q (.inr 0) (mm_mk D u (sv_thr x))) : mt 46 0 [some (mm_P 0), some (mm_I t)] [] (mm_mk D u x) Q := by
  have k4 := C.1.1
  apply q_X4_length_0
  refine sp_demand C.2.1.1 k4.2 (fun h1 h2 w h3 h4 => ?_) (fun h => mm_pRxx (H2 h))
  apply mm_pRxi h3
  apply sp_size h3
  apply mm_pIi
  rw [(sv_w C.2.2.1 ⟨h1, by omega⟩ h4).1]
  exact H1 h1 h2
theorem sv_room {w : Nat} {t : Int} (h : w = 2 + 2 * t.toNat) (h4 : 0 ≤ t ∧ t < 4) : sd_room w = 100 := if_neg (by omega)
theorem cs_letterAt {t i : Int} (C : sv_C D tx k P) (H1 : 0 ≤ t → t < k → 0 ≤ i → i < ((tx t.toNat).length : Int) → Q (.inl (some (mm_I (wg (tx t.toNat) i.toNat)))) (mm_mk D u x)) (H2 : ¬ ((0 ≤ t ∧ t < k) ∧ 0 ≤ i ∧ i < ((tx t.toNat).length : Int)) → Q (.inr 0) (mm_mk D u (sv_thr x))) : mt 47 0 [some (mm_P 0), some (mm_I t), some (mm_I i), none] [] (mm_mk D u x) Q := by
  have k4 := C.1.1
  apply q_X4_letterAt_0
  refine sp_demand C.2.1.1 k4.2 (fun h1 h2 w h3 h4 => ?_) (fun h => mm_pRxx (H2 (fun q => h q.1)))
  apply mm_pRxi h3
  apply sp_size h3
  apply mm_pIi
  obtain ⟨w1, w2⟩ := sv_w C.2.2.1 ⟨h1, by omega⟩ h4
  rw [w1]
  apply sp_within
  apply mm_pIi
  have hlen := sv_len (T := C.1) t.toNat
  by_cases q : 0 ≤ i ∧ i < ((tx t.toNat).length : Int)
  · rw [sd_b1 q]
    refine ⟨fun _ => ?_, fun e => absurd (by decide) e⟩
    apply sp_letter _ h3 q.1 (by rw [w1]; exact q.2) (by rw [sv_room h4 (by omega)]; omega)
    apply mm_pIi
    have := w2 i.toNat (by omega)
    rw [show (0 : Int) + (i.toNat : Int) = i by omega] at this
    rw [this]
    exact H1 h1 h2 q.1 q.2
  · rw [sd_b0 q]
    exact ⟨fun e => absurd rfl e, fun _ => H2 (fun z => q z.2)⟩
theorem cs_patternLength (C : sv_C D tx k P) (H : Q (.inl (some (mm_I (P.length : Int)))) (mm_mk D u x)) : mt 52 0 [some (mm_P 0)] [] (mm_mk D u x) Q := by
  apply q_X4_patternLength_0
  apply sp_size (by unfold mm_isW; omega)
  apply mm_pIi
  rw [C.2.2.2.1.1]
  exact H
theorem cs_patternAt {i : Int} (C : sv_C D tx k P) (H1 : 0 ≤ i → i < (P.length : Int) → Q (.inl (some (mm_I (wg P i.toNat)))) (mm_mk D u x)) (H2 : ¬ (0 ≤ i ∧ i < (P.length : Int)) → Q (.inr 0) (mm_mk D u (sv_thr x))) : mt 53 0 [some (mm_P 0), some (mm_I i)] [] (mm_mk D u x) Q := by
  have w10 : mm_isW 10 := by unfold mm_isW; omega
  have hlen := C.1.2.2.1
  apply q_X4_patternAt_0
  apply sp_size w10
  apply mm_pIi
  rw [C.2.2.2.1.1]
  apply sp_within
  apply mm_pIi
  by_cases q : 0 ≤ i ∧ i < (P.length : Int)
  · rw [sd_b1 q]
    refine ⟨fun _ => ?_, fun e => absurd (by decide) e⟩
    apply sp_letter _ w10 q.1 (by rw [C.2.2.2.1.1]; exact q.2) (by show i < 120; omega)
    apply mm_pIi
    have := C.2.2.2.1.2 i.toNat (by omega)
    rw [show (0 : Int) + (i.toNat : Int) = i by omega] at this
    rw [this]
    exact H1 q.1 q.2
  · rw [sd_b0 q]
    exact ⟨fun e => absurd rfl e, fun _ => H2 q⟩
theorem cs_wipe (C : sv_C D tx k P) (H : ∀ D', sv_F D D' → sv_C D' tx k [] → Q (.inl (some (mm_I (P.length : Int)))) (mm_mk D' u x)) : mt 50 0 [some (mm_P 0), none] [] (mm_mk D u x) Q := by
  have w10 : mm_isW 10 := by unfold mm_isW; omega
  apply q_X4_wipe_0
  apply sp_size w10
  apply mm_pIi
  rw [C.2.2.2.1.1]
  apply sp_empty w10
  apply mm_pVi
  refine H _ (fun r h => mm_wr_row (by omega)) (sv_C_pat C (fun r _ h _ _ _ => mm_wr_row h) (by decide) (fun a h => absurd h (by simp)) (mm_wr_eq _ _ _ _) (fun i h => absurd h (by simp)))
theorem cs_erase (C : sv_C D tx k P) (H1 : P ≠ [] → ∀ D', sv_F D D' → sv_C D' tx k (P.take (P.length - 1)) → Q (.inl (some (mm_I (wg P (P.length - 1))))) (mm_mk D' u x)) (H2 : P = [] → Q (.inr 2) (mm_mk D u (sv_thr x))) : mt 49 0 [some (mm_P 0), none] [] (mm_mk D u x) Q := by
  have w10 : mm_isW 10 := by unfold mm_isW; omega
  have hlen := C.1.2.2.1
  apply q_X4_erase_0
  apply sp_size w10
  apply mm_pIi
  rw [C.2.2.2.1.1]
  refine ⟨fun q => ?_, fun q => H2 (List.length_eq_zero_iff.mp (by omega))⟩
  have hne : P ≠ [] := fun e => q (by rw [e]; rfl)
  have hpos := List.length_pos_iff.mpr hne
  apply sp_size w10
  apply mm_pIi
  rw [C.2.2.2.1.1]
  refine ⟨by constructor <;> omega, ?_⟩
  apply sp_letter _ w10 (by omega) (by rw [C.2.2.2.1.1]; omega) (by show _ < (120 : Int); omega)
  apply mm_pIi
  have e1 := C.2.2.2.1.2 (P.length - 1) (by omega)
  rw [show (0 : Int) + ((P.length - 1 : Nat) : Int) = (P.length : Int) - 1 by omega] at e1
  rw [e1]
  apply sp_shorten w10 (by rw [C.2.2.2.1.1]; omega) (by rw [C.2.2.2.1.1]; constructor <;> omega)
  apply mm_pVi
  refine H1 hne _ (fun r h => mm_wr_row (by omega)) (sv_C_pat C (fun r _ h _ _ _ => mm_wr_row h) ?_ (fun a h => C.1.2.2.2.2.1 a (List.mem_of_mem_take h)) ?_ (fun i h => ?_))
  · rw [List.length_take]
    omega
  · rw [mm_wr_eq, C.2.2.2.1.1, List.length_take]
    omega
  · rw [List.length_take] at h
    rw [mm_wr_r (by decide), wg_take (by omega)]
    exact C.2.2.2.1.2 i (by omega)
theorem cs_type {a : Int} (C : sv_C D tx k P) (H1 : 0 ≤ a → a < 26 → (P.length : Int) < 120 → ∀ D', sv_F D D' → sv_C D' tx k (P ++ [a]) → Q (.inl (some (mm_I ((P.length : Int) + 1)))) (mm_mk D' u x)) (H2 : ¬ (0 ≤ a ∧ a < 26) → Q (.inr 1) (mm_mk D u (sv_thr x))) (H3 : 0 ≤ a → a < 26 → ¬ (P.length : Int) < 120 → Q (.inr 2) (mm_mk D u (sv_thr x))) : mt 48 0 [some (mm_P 0), some (mm_I a)] [] (mm_mk D u x) Q := by
  have w10 : mm_isW 10 := by unfold mm_isW; omega
  apply q_X4_type_0
  refine sp_demandL (fun h1 h2 => ?_) (fun h => mm_pVxx (H2 h))
  apply mm_pVxi
  apply sp_size w10
  apply mm_pIi
  rw [C.2.2.2.1.1]
  refine ⟨fun q => ?_, fun q => H3 h1 h2 q⟩
  apply sp_add _ w10 (by rw [C.2.2.2.1.1]; omega) (by rw [C.2.2.2.1.1]; exact q) ⟨h1, h2⟩
  apply mm_pVi
  apply sp_size w10
  apply mm_pIi
  rw [mm_wr_eq, C.2.2.2.1.1]
  have hl := sv_lay_add (a := a) C.2.2.2.1.2
  rw [Int.zero_add] at hl
  refine H1 h1 h2 q _ (fun r h => ?_) (sv_C_pat C (fun r _ h1 h2 _ _ => ?_) ?_ (fun b h => ?_) ?_ (fun i h => ?_))
  · rw [mm_wr_row (by omega), mm_wr_row (by omega)]
  · rw [mm_wr_row (by omega), mm_wr_row (by omega)]
  · rw [List.length_append, List.length_singleton]
    omega
  · rcases List.mem_append.mp h with h | h
    · exact C.1.2.2.2.2.1 b h
    · rw [List.mem_singleton.mp h]
      exact ⟨h1, h2⟩
  · rw [mm_wr_eq, List.length_append, List.length_singleton]
    rfl
  · rw [mm_wr_r (by decide)]
    exact hl i h
end SC
