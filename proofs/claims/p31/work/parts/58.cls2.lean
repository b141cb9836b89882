/-! the class: classes, alike, parts -/
/-- so many words -/
def sz (S : wd → Prop) (m : Int) : Prop := ∃ L : List wd, L.Nodup ∧ (∀ w, w ∈ L ↔ S w) ∧ (L.length : Int) = m
theorem sz_uniq {S S' : wd → Prop} {m m' : Int} (h : sz S m) (h' : sz S' m') (e : ∀ w, S w ↔ S' w) : m = m' := by
  obtain ⟨L, a1, a2, a3⟩ := h
  obtain ⟨L', b1, b2, b3⟩ := h'
  have h1 := List.Nodup.length_le_of_subset a1 (l₂ := L') (fun w hw => (b2 w).mpr ((e w).mp ((a2 w).mp hw)))
  have h2 := List.Nodup.length_le_of_subset b1 (l₂ := L) (fun w hw => (a2 w).mpr ((e w).mpr ((b2 w).mp hw)))
  omega
theorem sz_c {S S' : wd → Prop} {m : Int} (h : sz S m) (e : ∀ w, S w ↔ S' w) : sz S' m := by
  obtain ⟨L, a1, a2, a3⟩ := h
  exact ⟨L, a1, fun w => (a2 w).trans (e w), a3⟩
theorem sz_0 {S : wd → Prop} (h : ∀ w, ¬ S w) : sz S 0 := ⟨[], List.nodup_nil, fun w => ⟨fun q => absurd q (by simp), fun q => absurd q (h w)⟩, rfl⟩
theorem sz_1 {S : wd → Prop} {m : Int} (h : sz S m) {v : wd} (hv : ¬ S v) : sz (fun w => w = v ∨ S w) (m + 1) := by
  obtain ⟨L, a1, a2, a3⟩ := h
  refine ⟨v :: L, List.nodup_cons.mpr ⟨fun q => hv ((a2 v).mp q), a1⟩, fun w => ?_, ?_⟩
  · rw [List.mem_cons, a2]
  · rw [List.length_cons]
    omega
theorem sz_add {S S' : wd → Prop} {m m' : Int} (h : sz S m) (h' : sz S' m') (d : ∀ w, S w → ¬ S' w) : sz (fun w => S w ∨ S' w) (m + m') := by
  obtain ⟨L, a1, a2, a3⟩ := h
  obtain ⟨L', b1, b2, b3⟩ := h'
  refine ⟨L ++ L', List.nodup_append.mpr ⟨a1, b1, fun v hv w hw e => d v ((a2 v).mp hv) ((b2 v).mp (by rw [e]; exact hw))⟩, fun w => ?_, ?_⟩
  · rw [List.mem_append, a2, b2]
  · rw [List.length_append]
    omega
/-- the ends of a word that are longer -/
theorem sz_ends (w0 : wd) : ∀ z : Nat, z ≤ w0.length → sz (fun w => w <:+ w0 ∧ w0.length < w.length + z) z := by
  intro z
  induction z with
  | zero => exact fun _ => sz_0 (fun w q => by have := q.1.length_le; omega)
  | succ z ih =>
    intro hz
    have hd : w0.drop z <:+ w0 := List.drop_suffix z w0
    have hl : (w0.drop z).length = w0.length - z := List.length_drop
    refine sz_c (sz_1 (ih (by omega)) (v := w0.drop z) (fun q => by omega)) (fun w => ⟨fun q => ?_, fun q => ?_⟩)
    · rcases q with q | q
      · rw [q]
        exact ⟨hd, by omega⟩
      · exact ⟨q.1, by omega⟩
    · by_cases e : w.length = w0.length - z
      · left
        exact (ws_cmp q.1 hd (by omega)).eq_of_length (by omega)
      · exact Or.inr ⟨q.1, by omega⟩
theorem fac_len {tx : Nat → wd} {k : Int} {P w : wd} (T : sv_T tx k P) (h : fac tx w) : w.length ≤ 100 := by
  obtain ⟨j, e, h⟩ := h
  have h1 := h.length_le
  rw [List.length_take] at h1
  have := sv_len (T := T) j
  omega
theorem fac_ix {tx : Nat → wd} {w : wd} (h : fac tx w) (hw : w ≠ []) : ∃ (j e : Nat), e < (tx j).length ∧ w <:+ (tx j).take (e + 1) := by
  obtain ⟨j, e, h⟩ := h
  have h1 := h.length_le
  have h2 := List.length_pos_iff.mpr hw
  have h3 : ((tx j).take e).length = min e (tx j).length := List.length_take
  refine ⟨j, min e (tx j).length - 1, by omega, ?_⟩
  have h4 : min e (tx j).length - 1 + 1 = ((tx j).take e).length := by omega
  rw [h4, ← List.prefix_iff_eq_take.mp (List.take_prefix e (tx j))]
  exact h
theorem tM_iff {tx : Nat → wd} {M : wd → Prop} (T : tM tx M) {w : wd} (hw : w ≠ []) : M w ↔ fac tx w ∧ lmx tx w := by
  constructor
  · intro h
    exact ⟨(tM_F T).mp ⟨w, h, List.suffix_refl w⟩, T.2.2 w h hw⟩
  · rintro ⟨_, h⟩
    rcases h with ⟨j, e, h⟩ | ⟨b, c, h0, ⟨j1, e1, h1⟩, j2, e2, h2⟩
    · rw [h]
      exact wm_take T.1 (T.2.1 j) e
    · obtain ⟨z, z1, z2, z3, z4⟩ := T.1.2.2 _ _ (wm_take T.1 (T.2.1 j1) e1) (wm_take T.1 (T.2.1 j2) e2)
      have hz := z4 w ((List.suffix_cons b w).trans h1) ((List.suffix_cons c w).trans h2)
      by_cases q : w = z
      · rw [q]
        exact z1
      · exfalso
        obtain ⟨a, ha⟩ := ws_ahead hz q
        have q1 := (ws_cmp (ha.trans z2) h1 (by simp)).eq_of_length (by simp)
        have q2 := (ws_cmp (ha.trans z3) h2 (by simp)).eq_of_length (by simp)
        rw [List.cons.injEq] at q1 q2
        exact h0 (q1.1.symm.trans q2.1)
theorem lk_cl {M : wd → Prop} (hM : wm_ok M) {d l w : wd} (hd : M d) (hl : au_lk M d l) : wm_cl M w d ↔ w <:+ d ∧ l.length < w.length := by
  obtain ⟨l1, l2, l3, l4⟩ := hl
  constructor
  · intro h
    refine ⟨h.2.1, ?_⟩
    by_cases q : l.length < w.length
    · exact q
    · exact absurd (ws_anti l2 (h.2.2 l l1 (ws_cmp h.2.1 l2 (by omega)))) l3
  · rintro ⟨h1, h2⟩
    refine ⟨hd, h1, fun m hm hs => ?_⟩
    obtain ⟨z, z1, z2, z3, z4⟩ := hM.2.2 m d hm hd
    have hz := z4 w hs h1
    by_cases q : z = d
    · rw [← q]
      exact z2
    · have := (l4 z z1 z3 q).length_le
      have := hz.length_le
      omega
theorem lk_strict {tx : Nat → wd} {M : wd → Prop} (T : tM tx M) {d l : wd} (hl : au_lk M d l) (h0 : l ≠ []) : ∃ (j e : Nat), e < (tx j).length ∧ oc (tx j) l e ∧ ¬ oc (tx j) d e := by
  obtain ⟨l1, l2, l3, l4⟩ := hl
  obtain ⟨a, ha⟩ := ws_ahead l2 l3
  have two : ∀ b : Int, b ≠ a → fac tx (b :: l) → ∃ (j e : Nat), e < (tx j).length ∧ oc (tx j) l e ∧ ¬ oc (tx j) d e := by
    intro b hb hf
    obtain ⟨j, e, h1, h2⟩ := fac_ix hf (by simp)
    refine ⟨j, e, h1, ⟨h0, (List.suffix_cons b l).trans h2⟩, fun q => hb ?_⟩
    have := (ws_cmp h2 (ha.trans q.2) (by simp)).eq_of_length (by simp)
    rw [List.cons.injEq] at this
    exact this.1
  rcases T.2.2 l l1 h0 with ⟨j, e, h⟩ | ⟨b, c, hbc, hb, hc⟩
  · have hp : l <+: tx j := by
      rw [h]
      exact List.take_prefix e (tx j)
    have h1 := List.length_pos_iff.mpr h0
    have h2 := hp.length_le
    have h3 : (tx j).take (l.length - 1 + 1) = l := by
      rw [show l.length - 1 + 1 = l.length by omega]
      exact (List.prefix_iff_eq_take.mp hp).symm
    refine ⟨j, l.length - 1, by omega, ⟨h0, by rw [h3]; exact List.suffix_refl l⟩, fun q => ?_⟩
    have h4 := q.2.length_le
    rw [h3] at h4
    have := ha.length_le
    rw [List.length_cons] at this
    omega
  · by_cases q : b = a
    · exact two c (fun e => hbc (by rw [q, e])) hc
    · exact two b q hb
section SG
variable {D : mm_D} {u : Int} {x : mm_Xt} {Q : mm_O → mm_H → Prop} {tx : Nat → wd} {k : Int} {P : wd} {n : Int} {rep : Int → wd}
theorem sv_reps (J : au_J D n (-1) rep [] (en_of tx)) : ∀ m : Nat, (m : Int) + 1 ≤ n → sz (fun w => ∃ s : Int, 1 ≤ s ∧ s ≤ (m : Int) ∧ rep s = w) m := by
  obtain ⟨j1, j2, j3, j4, j5, j6, j7, j8, j9, j10, j11⟩ := J
  intro m
  induction m with
  | zero => exact fun _ => sz_0 (fun w => by rintro ⟨s, h1, h2, _⟩; omega)
  | succ m ih =>
    intro hm
    refine sz_c (sz_1 (ih (by omega)) (v := rep ((m : Int) + 1)) ?_) (fun w => ⟨fun q => ?_, fun q => ?_⟩)
    · rintro ⟨s, h1, h2, h3⟩
      have := j5 s ((m : Int) + 1) (by omega) (by omega) h3
      omega
    · rcases q with q | ⟨s, h1, h2, h3⟩
      · exact ⟨(m : Int) + 1, by omega, by omega, q.symm⟩
      · exact ⟨s, h1, by omega, h3⟩
    · obtain ⟨s, h1, h2, h3⟩ := q
      by_cases e : s = (m : Int) + 1
      · rw [e] at h3
        exact Or.inl h3.symm
      · exact Or.inr ⟨s, h1, by omega, h3⟩
theorem cs_classes (C : sv_C D tx k P) (H : ∀ m, sz (fun w => w ≠ [] ∧ fac tx w ∧ lmx tx w) m → Q (.inl (some (mm_I m))) (mm_mk D u x)) : mt 61 0 [some (mm_P 0)] [] (mm_mk D u x) Q := by
  obtain ⟨n, rep, J, O, T, N, W⟩ := C.2.2.2.2
  have h1 := J.1
  have h2 := J.2.1
  apply q_X4_classes_0
  apply q_X0_stateCount_0
  apply mm_pIi
  rw [h1]
  refine ⟨by constructor <;> omega, H _ ?_⟩
  have := sv_reps J (n - 1).toNat (by omega)
  rw [Int.toNat_of_nonneg (by omega)] at this
  refine sz_c this (fun w => ⟨fun q => ?_, fun q => ?_⟩)
  · obtain ⟨s, s1, s2, s3⟩ := q
    have hM : au_M n (-1) rep w := ⟨s, ⟨by omega, by omega⟩, s3⟩
    have hne : w ≠ [] := by
      intro e
      have := J.2.2.2.2.1 s 0 (by omega) (by omega) (by rw [s3, e, J.2.2.2.1])
      omega
    exact ⟨hne, (tM_iff T hne).mp hM⟩
  · obtain ⟨s, s1, s3⟩ := (tM_iff T q.1).mpr q.2
    refine ⟨s, ?_, by have := s1.1; omega, s3⟩
    by_cases e : s = 0
    · exfalso
      rw [e, J.2.2.2.1] at s3
      exact q.1 s3.symm
    · have := s1.1
      omega
theorem sv_long (J : au_J D n (-1) rep [] (en_of tx)) {s : Int} (h : 0 ≤ s ∧ s < n) : sd_long D s = ((rep s).length : Int) := by
  obtain ⟨j1, j2, j3, j4, j5, j6, j7, j8, j9, j10, j11⟩ := J
  have : sd_long D s = D 19 s := if_pos (by omega)
  rw [this, j7 s h]
theorem sv_link (J : au_J D n (-1) rep [] (en_of tx)) {s : Int} (h : 0 < s ∧ s < n) : sd_link D s = D 20 s ∧ (0 ≤ D 20 s ∧ D 20 s < n) ∧ au_lk (au_M n (-1) rep) (rep s) (rep (D 20 s)) := by
  obtain ⟨j1, j2, j3, j4, j5, j6, j7, j8, j9, j10, j11⟩ := J
  have : sd_link D s = D 20 s := if_pos (by omega)
  obtain ⟨a, b⟩ := j10 s ⟨by omega, by omega⟩ (by omega)
  exact ⟨this, a.1, b⟩
theorem sv_rlen (C : sv_C D tx k P) (T : tM tx (au_M n (-1) rep)) {s : Int} (h : 0 ≤ s ∧ s < n) : (rep s).length ≤ 100 := fac_len C.1 ((tM_F T).mp ⟨rep s, ⟨s, ⟨h, by omega⟩, rfl⟩, List.suffix_refl _⟩)
theorem cs_longest (C : sv_C D tx k P) (H1 : ¬ (P ≠ [] ∧ fac tx P) → Q (.inl (some (mm_I (-1)))) (mm_mk D u x)) (H2 : ∀ d : wd, P ≠ [] → fac tx P → P <:+ d → (∀ j e, oc (tx j) P e ↔ oc (tx j) d e) → lmx tx d → Q (.inl (some (mm_I (d.length : Int)))) (mm_mk D u x)) : mt 62 0 [some (mm_P 0), none] [] (mm_mk D u x) Q := by
  obtain ⟨n, rep, J, O, T, N, W⟩ := C.2.2.2.2
  apply q_X4_longestAlike_0
  refine sp_ps C J T (fun v hv => ?_)
  apply mm_pIi
  refine ⟨fun q => ?_, fun q => H1 (fun z => q ((sv_cI hv).mpr z))⟩
  apply sp_long
  apply mm_pIi
  rcases hv with ⟨h1, _⟩ | ⟨h0, h1, h2, h3⟩
  · exact absurd h1 q
  · rw [sv_long J (by omega)]
    have hd : rep v ≠ [] := by
      intro e
      have := h3.2.1
      rw [e] at this
      exact h0 (List.suffix_nil.mp this)
    exact H2 (rep v) h0 h1 h3.2.1 (fun j e => tM_oc T h3 h0 j e) (T.2.2 _ h3.1 hd)
theorem cs_shortest (C : sv_C D tx k P) (H1 : ¬ (P ≠ [] ∧ fac tx P) → Q (.inl (some (mm_I (-1)))) (mm_mk D u x)) (H2 : ∀ s : Nat, P ≠ [] → fac tx P → 1 ≤ s → s ≤ P.length → (∀ w, w <:+ P → s ≤ w.length → ∀ j e, oc (tx j) P e ↔ oc (tx j) w e) → (∀ w, w <:+ P → w ≠ [] → w.length < s → ∃ j e, e < (tx j).length ∧ oc (tx j) w e ∧ ¬ oc (tx j) P e) → Q (.inl (some (mm_I (s : Int)))) (mm_mk D u x)) : mt 63 0 [some (mm_P 0), none] [] (mm_mk D u x) Q := by
  obtain ⟨n, rep, J, O, T, N, W⟩ := C.2.2.2.2
  apply q_X4_shortestAlike_0
  refine sp_ps C J T (fun v hv => ?_)
  apply mm_pIi
  refine ⟨fun q => ?_, fun q => H1 (fun z => q ((sv_cI hv).mpr z))⟩
  rcases hv with ⟨h1, _⟩ | ⟨h0, h1, h2, h3⟩
  · exact absurd h1 q
  · obtain ⟨k1, k2, k3⟩ := sv_link J h2
    have hlen := sv_rlen C T k2
    have hmid : ∀ w, w <:+ P → (rep (D 20 v)).length + 1 ≤ w.length → ∀ j e, oc (tx j) P e ↔ oc (tx j) w e := by
      intro w w1 w2 j e
      have wc := (lk_cl T.1 h3.1 k3 (w := w)).mpr ⟨w1.trans h3.2.1, by omega⟩
      have wn : w ≠ [] := by
        intro e
        rw [e] at w2
        simp at w2
      exact (tM_oc T h3 h0 j e).trans (tM_oc T wc wn j e).symm
    apply sp_short
    · rw [k1, sv_long J k2]
      constructor <;> omega
    apply mm_pIi
    rw [k1, sv_long J k2]
    have hPl := ((lk_cl T.1 h3.1 k3).mp h3).2
    refine H2 ((rep (D 20 v)).length + 1) h0 h1 (by omega) (by omega) hmid (fun w w1 w2 w3 => ?_)
    have w4 := ws_cmp (w1.trans h3.2.1) k3.2.1 (by omega)
    have ln : rep (D 20 v) ≠ [] := by
      intro e
      rw [e] at w4
      exact w2 (List.suffix_nil.mp w4)
    obtain ⟨j, e, e1, e2, e3⟩ := lk_strict T k3 ln
    exact ⟨j, e, e1, ⟨w2, w4.trans e2.2⟩, fun z => e3 ((tM_oc T h3 h0 j e).mp z)⟩
theorem sp_parts (C : sv_C D tx k P) (H : ∀ m, (0 ≤ m ∧ m ≤ 30000) → sz (fun w => w ≠ [] ∧ fac tx w) m → Q (.inl (some (mm_I m))) (mm_mk D u x)) : mt 4 0 [some (mm_P 13), none, none] [] (mm_mk D u x) Q := by
  obtain ⟨n, rep, J, O, T, N, W⟩ := C.2.2.2.2
  have J0 := J
  obtain ⟨j1, j2, j3, j4, j5, j6, j7, j8, j9, j10, j11⟩ := J
  apply q_X0_partCount_0
  have lp : ∀ (z : Nat) (s m : Int), s + z = n → 1 ≤ s → (0 ≤ m ∧ m ≤ 101 * s) → sz (fun w => ∃ q : Int, 0 < q ∧ q < s ∧ wm_cl (au_M n (-1) rep) w (rep q)) m → mt 4 4 [some (mm_P 13), some (mm_I m), some (mm_I s)] [] (mm_mk D u x) Q := by
    intro z
    induction z with
    | zero =>
      intro s m hs h1 hb hz
      apply q_X0_partCount_4
      rw [j1]
      refine ⟨fun _ => H m (by omega) (sz_c hz (fun w => ⟨fun q => ?_, fun q => ?_⟩)), fun q => absurd q (by omega)⟩
      · obtain ⟨q, q1, q2, q3⟩ := q
        refine ⟨fun e => ?_, (tM_F T).mp ⟨_, q3.1, q3.2.1⟩⟩
        rw [e] at q3
        have e2 := wm_cl_uniq q3 (wm_cl_nil T.1)
        have := j5 q 0 (by omega) (by omega) (by rw [e2, j4])
        omega
      · obtain ⟨d, hd⟩ := wm_cl_ex T.1 ((tM_F T).mpr q.2)
        obtain ⟨q2, q3, q4⟩ := hd.1
        rw [← q4] at hd
        refine ⟨q2, ?_, by have := q3.1; omega, hd⟩
        by_cases e : q2 = 0
        · exfalso
          rw [e, j4] at hd
          exact q.1 (List.suffix_nil.mp hd.2.1)
        · have := q3.1
          omega
    | succ z ih =>
      intro s m hs h1 hb hz
      apply q_X0_partCount_4
      rw [j1]
      refine ⟨fun q => absurd q (by omega), fun _ => ?_⟩
      obtain ⟨k1, k2, k3⟩ := sv_link J0 (s := s) (by omega)
      have r1 := sv_rlen C T (s := s) (by omega)
      have r2 := sv_rlen C T k2
      have hM : au_M n (-1) rep (rep s) := ⟨s, ⟨by omega, by omega⟩, rfl⟩
      have r3 : (rep (D 20 s)).length < (rep s).length := by
        have := k3.2.1.length_le
        by_cases e : (rep (D 20 s)).length = (rep s).length
        · exact absurd (k3.2.1.eq_of_length e) k3.2.2.1
        · omega
      apply sp_long
      apply mm_pIi
      apply sp_short
      · rw [k1, sv_long J0 k2]
        constructor <;> omega
      apply mm_pIi
      rw [k1, sv_long J0 k2, sv_long J0 (s := s) (by omega)]
      refine ⟨by constructor <;> omega, by constructor <;> omega, by constructor <;> omega, by constructor <;> omega, ?_⟩
      have e := sz_ends (rep s) ((rep s).length - (rep (D 20 s)).length) (by omega)
      have hz2 := sz_add hz e (fun w w1 w2 => ?_)
      · rw [show m + (((rep s).length : Int) - (((rep (D 20 s)).length : Int) + 1) + 1) = m + (((rep s).length - (rep (D 20 s)).length : Nat) : Int) by omega]
        refine ih (s + 1) _ (by omega) (by omega) (by omega) (sz_c hz2 (fun w => ⟨fun q => ?_, fun q => ?_⟩))
        · rcases q with ⟨q, q1, q2, q3⟩ | ⟨q1, q2⟩
          · exact ⟨q, q1, by omega, q3⟩
          · exact ⟨s, by omega, by omega, (lk_cl T.1 hM k3).mpr ⟨q1, by omega⟩⟩
        · obtain ⟨q, q1, q2, q3⟩ := q
          by_cases e : q = s
          · rw [e] at q3
            have := (lk_cl T.1 hM k3).mp q3
            exact Or.inr ⟨this.1, by omega⟩
          · exact Or.inl ⟨q, q1, by omega, q3⟩
      · obtain ⟨q, q1, q2, q3⟩ := w1
        have w3 := (lk_cl T.1 hM k3 (w := w)).mpr ⟨w2.1, by omega⟩
        have := j5 q s (by omega) (by omega) (wm_cl_uniq q3 w3)
        omega
  exact lp (n - 1).toNat 1 0 (by omega) (by decide) (by decide) (sz_0 (fun w => by rintro ⟨q, q1, q2, _⟩; omega))
theorem cs_parts (C : sv_C D tx k P) (H : ∀ m, sz (fun w => w ≠ [] ∧ fac tx w) m → Q (.inl (some (mm_I m))) (mm_mk D u x)) : mt 64 0 [some (mm_P 0)] [] (mm_mk D u x) Q := by
  apply q_X4_parts_0
  refine sp_parts C (fun m _ h => ?_)
  apply mm_pIi
  exact H m h
end SG
