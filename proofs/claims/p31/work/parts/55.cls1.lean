/-! the class: copy, append, clear, and how it begins -/
section SD
variable {D : mm_D} {u : Int} {x : mm_Xt} {Q : mm_O → mm_H → Prop} {tx : Nat → wd} {k : Int} {P : wd}
theorem sp_padd {a : Int} (C : sv_C D tx k P) (h1 : 0 ≤ a ∧ a < 26) (h2 : (P.length : Int) < 120) (H : ∀ D', (∀ r, r ≠ 10 → r ≠ 11 → D' r = D r) → sv_C D' tx k (P ++ [a]) → Q (.inl none) (mm_mk D' u x)) : mt 38 0 [some (mm_P 10), some (mm_I a)] [] (mm_mk D u x) Q := by
  have w10 : mm_isW 10 := by unfold mm_isW; omega
  apply sp_add _ w10 (by rw [C.2.2.2.1.1]; omega) (by rw [C.2.2.2.1.1]; exact h2) h1
  have hl := sv_lay_add (a := a) C.2.2.2.1.2
  rw [Int.zero_add] at hl
  have hr : ∀ r, r ≠ 10 → r ≠ 11 → mm_wr (mm_wr D 11 (D 10 1) a) 10 1 (D 10 1 + 1) r = D r := fun r q1 q2 => by rw [mm_wr_row q1, mm_wr_row q2]
  refine H _ hr (sv_C_pat C (fun r _ h1 h2 _ _ => hr r h1 h2) ?_ (fun b h => ?_) ?_ (fun i h => ?_))
  · rw [List.length_append, List.length_singleton]
    omega
  · rcases List.mem_append.mp h with h | h
    · exact C.1.2.2.2.2.1 b h
    · rw [List.mem_singleton.mp h]
      exact h1
  · rw [mm_wr_eq, C.2.2.2.1.1, List.length_append, List.length_singleton]
    rfl
  · rw [mm_wr_r (by decide), C.2.2.2.1.1]
    exact hl i h
theorem sp_pempty (C : sv_C D tx k P) (H : ∀ D', (∀ r, r ≠ 10 → D' r = D r) → sv_C D' tx k [] → Q (.inl none) (mm_mk D' u x)) : mt 40 0 [some (mm_P 10)] [] (mm_mk D u x) Q := by
  have w10 : mm_isW 10 := by unfold mm_isW; omega
  apply sp_empty w10
  exact H _ (fun r h => mm_wr_row h) (sv_C_pat C (fun r _ h _ _ _ => mm_wr_row h) (by decide) (fun a h => absurd h (by simp)) (mm_wr_eq _ _ _ _) (fun i h => absurd h (by simp)))
theorem sp_copy24 {t : Int} {f m : Nat} {w : Nat} (hw : mm_isW w) (hwt : w = 2 + 2 * t.toNat) (ht : 0 ≤ t ∧ t < 4) (hm : f + m ≤ (tx t.toNat).length) {E : mm_D} (H : ∀ D', sv_F E D' → sv_C D' tx k (((tx t.toNat).drop f).take m) → Q (.inl none) (mm_mk D' u x)) : ∀ (z i : Nat) (D2 : mm_D), i + z = m → sv_F E D2 → sv_C D2 tx k (((tx t.toNat).drop f).take i) → mt 51 24 [some (mm_P 0), some (mm_I t), some (mm_I (f : Int)), some (mm_I (m : Int)), some (mm_P w), some (mm_I (i : Int))] [] (mm_mk D2 u x) Q := by
  intro z
  induction z with
  | zero =>
    intro i D2 hi hF C
    apply q_X4_copy_24 _ _ _ _ hw
    have e : i = m := by omega
    rw [e] at C
    exact ⟨fun _ => H D2 hF C, fun q => absurd q (by omega)⟩
  | succ z ih =>
    intro i D2 hi hF C
    have hlen := sv_len (T := C.1) t.toNat
    apply q_X4_copy_24 _ _ _ _ hw
    refine ⟨fun q => absurd q (by omega), fun _ => ⟨by constructor <;> omega, ?_⟩⟩
    obtain ⟨w1, w2⟩ := sv_w C.2.2.1 ht hwt
    apply sp_letter _ hw (by omega) (by rw [w1]; omega) (by rw [sv_room hwt ht]; omega)
    apply mm_pIi
    have e1 := w2 (f + i) (by omega)
    rw [show (0 : Int) + ((f + i : Nat) : Int) = (f : Int) + (i : Int) by omega] at e1
    rw [e1]
    have hmem : wg (tx t.toNat) (f + i) ∈ tx t.toNat := wg_mem (by omega)
    have hPl : (((tx t.toNat).drop f).take i).length = i := by
      rw [List.length_take, List.length_drop]
      omega
    refine sp_padd C (C.1.2.2.2.1 _ _ hmem) (by rw [hPl]; omega) (fun D3 r3 C3 => ?_)
    apply mm_pVi
    have e2 : ((tx t.toNat).drop f).take (i + 1) = ((tx t.toNat).drop f).take i ++ [wg (tx t.toNat) (f + i)] := by
      rw [wd_take (by rw [List.length_drop]; omega), wg_drop]
    rw [← e2] at C3
    exact ⟨by constructor <;> omega, ih (i + 1) D3 (by omega) (fun r h => by rw [r3 r (by omega) (by omega)]; exact hF r h) C3⟩
theorem cs_copy {t f m : Int} (hr : mm_rng f) (C : sv_C D tx k P) (H1 : 0 ≤ t → t < k → 0 ≤ f → 0 ≤ m → m ≤ ((tx t.toNat).length : Int) - f → ∀ D', sv_F D D' → sv_C D' tx k (((tx t.toNat).drop f.toNat).take m.toNat) → Q (.inl none) (mm_mk D' u x)) (H2 : ¬ (0 ≤ t ∧ t < k) → Q (.inr 0) (mm_mk D u (sv_thr x))) (H3 : 0 ≤ t → t < k → ¬ (0 ≤ f ∧ 0 ≤ m ∧ m ≤ ((tx t.toNat).length : Int) - f) → Q (.inr 1) (mm_mk D u (sv_thr x))) : mt 51 0 [some (mm_P 0), some (mm_I t), some (mm_I f), some (mm_I m), none, none] [] (mm_mk D u x) Q := by
  have k4 := C.1.1
  unfold mm_rng at hr
  apply q_X4_copy_0
  refine sp_demand C.2.1.1 k4.2 (fun h1 h2 w h3 h4 => ?_) (fun h => mm_pRxx (H2 h))
  apply mm_pRxi h3
  have hlen := sv_len (T := C.1) t.toNat
  obtain ⟨w1, w2⟩ := sv_w C.2.2.1 ⟨h1, by omega⟩ h4
  refine ⟨fun q => H3 h1 h2 (by omega), fun qf => ⟨fun q => H3 h1 h2 (by omega), fun qm => ?_⟩⟩
  apply sp_size h3
  apply mm_pIi
  rw [w1]
  refine ⟨by constructor <;> omega, fun q => ?_, fun q => H3 h1 h2 (by omega)⟩
  refine sp_pempty C (fun D1 r1 C1 => ?_)
  apply mm_pVi
  have := sp_copy24 (tx := tx) (k := k) (Q := Q) (u := u) (x := x) (t := t) (f := f.toNat) (m := m.toNat) (w := w) h3 h4 ⟨h1, by omega⟩ (by omega) (E := D) (fun D' a b => H1 h1 h2 (by omega) (by omega) q D' a b) m.toNat 0 D1 (by omega) (fun r h => r1 r (by omega)) (by rw [List.take_zero]; exact C1)
  rw [Int.toNat_of_nonneg (by omega), Int.toNat_of_nonneg (by omega)] at this
  exact this
theorem sv_tot_0 (tx : Nat → wd) : 0 ≤ sv_tot tx := by
  unfold sv_tot
  omega
theorem sv_tot_txa (tx : Nat → wd) {t : Nat} (a : Int) (h : t < 4) : sv_tot (txa tx t a) = sv_tot tx + 1 := by
  have : t = 0 ∨ t = 1 ∨ t = 2 ∨ t = 3 := by omega
  rcases this with rfl | rfl | rfl | rfl <;> simp [sv_tot, txa] <;> omega
theorem sv_T_txa {t : Nat} {a : Int} (T : sv_T tx k P) (h : (t : Int) < k) (ha : 0 ≤ a ∧ a < 26) (hl : sv_tot tx < 100) : sv_T (txa tx t a) k P := by
  obtain ⟨t1, t2, t3, t4, t5, t6⟩ := T
  refine ⟨t1, by rw [sv_tot_txa tx a (by omega)]; omega, t3, fun j b hb => ?_, t5, fun j hj => ?_⟩
  · by_cases q : j = t
    · rw [q, txa_t] at hb
      rcases List.mem_append.mp hb with hb | hb
      · exact t4 t b hb
      · rw [List.mem_singleton.mp hb]
        exact ha
    · rw [txa_o tx a q] at hb
      exact t4 j b hb
  · rw [txa_o tx a (by omega)]
    exact t6 j hj
theorem cs_append {t a : Int} (C : sv_C D tx k P) (H1 : 0 ≤ t → t < k → 0 ≤ a → a < 26 → sv_tot tx < 100 → ∀ D', sv_F D D' → sv_C D' (txa tx t.toNat a) k P → Q (.inl (some (mm_I (((tx t.toNat).length : Int) + 1)))) (mm_mk D' u x)) (H2 : ¬ (0 ≤ t ∧ t < k) → Q (.inr 0) (mm_mk D u (sv_thr x))) (H3 : 0 ≤ t → t < k → ¬ (0 ≤ a ∧ a < 26) → Q (.inr 1) (mm_mk D u (sv_thr x))) (H4 : 0 ≤ t → t < k → 0 ≤ a → a < 26 → ¬ sv_tot tx < 100 → Q (.inr 2) (mm_mk D u (sv_thr x))) : mt 44 0 [some (mm_P 0), some (mm_I t), some (mm_I a), none] [] (mm_mk D u x) Q := by
  have k4 := C.1.1
  apply q_X4_append_0
  refine sp_demand C.2.1.1 k4.2 (fun h1 h2 w h3 h4 => ?_) (fun h => mm_pRxx (H2 h))
  apply mm_pRxi h3
  refine sp_demandL (fun h5 h6 => ?_) (fun h => mm_pVxx (H3 h1 h2 h))
  apply mm_pVxi
  rw [C.2.1.2]
  refine ⟨fun q => ?_, fun q => H4 h1 h2 h5 h6 q⟩
  obtain ⟨c1, c2, c3, c4, n, rep, J, O, T, N, W⟩ := C
  obtain ⟨w1, w2⟩ := sv_w c3 ⟨h1, by omega⟩ h4
  have hlt : (tx t.toNat).length < 100 := by
    have : t.toNat = 0 ∨ t.toNat = 1 ∨ t.toNat = 2 ∨ t.toNat = 3 := by omega
    unfold sv_tot at q
    rcases this with e | e | e | e <;> rw [e] <;> omega
  apply sp_size h3
  apply mm_pIi
  rw [w1]
  have et : ((t.toNat : Nat) : Int) = t := Int.toNat_of_nonneg h1
  have key := sp_grow (u := u) (x9 := x) (Q := mm_pV fun D21 u22 x23 => mt 38 0 [some (mm_P w), some (mm_I a)] [] (mm_mk D21 u22 x23) (mm_pV fun D25 u26 x27 => (mm_rng ((D25 0 5) + ((1 : Int)))) ∧ (∀ D30 : mm_D, D30 = mm_wr D25 0 5 ((D25 0 5) + ((1 : Int))) → (mt 36 0 [some (mm_P w)] [] (mm_mk D30 u26 x27) (mm_pI fun r34 D31 u32 x33 => Q (.inl (some (mm_I (r34)))) (mm_mk D31 u32 x33)))))) J O T W (t := t.toNat) (c := a) (by omega) ⟨h5, h6⟩ (by omega) hlt ?_
  · rw [et] at key
    exact key
  intro D1 n1 rep1 b1 b2 b3 b4 b5 b6
  have r1 : ∀ r, r < 13 ∨ 23 ≤ r → D1 r = D r := b6
  have w1' : D1 w 1 = ((tx t.toNat).length : Int) := by rw [r1 w (by omega)]; exact w1
  apply mm_pVi
  apply sp_add _ h3 (by rw [w1']; omega) (by rw [w1', sv_room h4 (by omega)]; omega) ⟨h5, h6⟩
  apply mm_pVi
  rw [w1']
  have wr : ∀ r, r ≠ w → r ≠ w + 1 → mm_wr (mm_wr D1 (w + 1) ((tx t.toNat).length : Int) a) w 1 (((tx t.toNat).length : Int) + 1) r = D1 r := fun r q1 q2 => by rw [mm_wr_row q1, mm_wr_row q2]
  have e5 : mm_wr (mm_wr D1 (w + 1) ((tx t.toNat).length : Int) a) w 1 (((tx t.toNat).length : Int) + 1) 0 5 = sv_tot tx := by
    rw [wr 0 (by omega) (by omega), r1 0 (by decide)]
    exact c2.2
  rw [e5]
  have tot0 := sv_tot_0 tx
  refine ⟨by constructor <;> omega, fun D30 e30 => ?_⟩
  apply sp_size h3
  apply mm_pIi
  have z0 : ∀ r, r ≠ 0 → D30 r = mm_wr (mm_wr D1 (w + 1) ((tx t.toNat).length : Int) a) w 1 (((tx t.toNat).length : Int) + 1) r := fun r h => by rw [e30, mm_wr_row h]
  have zw : D30 w 1 = ((tx t.toNat).length : Int) + 1 := by rw [z0 w (by omega), mm_wr_eq]
  rw [zw]
  have zr : ∀ r, r ≠ 0 → r ≠ w → r ≠ w + 1 → D30 r = D1 r := fun r q1 q2 q3 => by rw [z0 r q1, wr r q2 q3]
  have zl : sv_lay D30 (w + 1) 0 (tx t.toNat ++ [a]) := by
    have := sv_lay_add (a := a) (sv_lay_row (r1 (w + 1) (by omega)) w2)
    rw [Int.zero_add] at this
    refine sv_lay_row ?_ this
    rw [z0 (w + 1) (by omega), mm_wr_row (by omega)]
  refine H1 h1 h2 h5 h6 q D30 (fun r h => ?_) ⟨sv_T_txa c1 (by omega) ⟨h5, h6⟩ q, ⟨?_, ?_⟩, fun j hj => ?_, ?_, n1, rep1, ?_⟩
  · rw [zr r (by omega) (by omega) (by omega), r1 r (by omega)]
  · rw [e30, mm_wr_k (by decide), wr 0 (by omega) (by omega), r1 0 (by decide)]
    exact c2.1
  · rw [e30, mm_wr_eq, sv_tot_txa tx a (by omega)]
  · by_cases qj : j = t.toNat
    · rw [qj, txa_t, show 3 + 2 * t.toNat = w + 1 by omega, ← h4]
      refine ⟨?_, zl⟩
      rw [zw, List.length_append, List.length_singleton]
      rfl
    · have q2 : 2 + 2 * j ≠ w ∧ 2 + 2 * j ≠ w + 1 ∧ 3 + 2 * j ≠ w ∧ 3 + 2 * j ≠ w + 1 := by omega
      rw [txa_o tx a qj, zr (2 + 2 * j) (by omega) q2.1 q2.2.1, r1 (2 + 2 * j) (by omega)]
      exact ⟨(c3 j hj).1, sv_lay_row (by rw [zr (3 + 2 * j) (by omega) q2.2.2.1 q2.2.2.2, r1 (3 + 2 * j) (by omega)]) (c3 j hj).2⟩
  · rw [zr 10 (by omega) (by omega) (by omega), r1 10 (by decide)]
    exact ⟨c4.1, sv_lay_row (by rw [zr 11 (by omega) (by omega) (by omega), r1 11 (by decide)]) c4.2⟩
  · have zz : ∀ r, r = 13 ∨ (15 ≤ r ∧ r ≤ 22) → D30 r = D1 r := fun r h => zr r (by omega) (by omega) (by omega)
    have := sv_A_row (tx := txa tx t.toNat a) zz ⟨n1, rep1, b1, b2, b3, by rw [sv_tot_txa tx a (by omega)]; omega, b5⟩
    obtain ⟨n2, rep2, h⟩ := this
    refine ⟨?_, au_O_row (zz 21 (by decide)) (zz 19 (by decide)) b2, b3, by rw [sv_tot_txa tx a (by omega)]; omega, fun j hj => by rw [zz 22 (by decide)]; exact b5 j hj⟩
    unfold au_J at b1 ⊢
    rw [zz 13 (by decide), zz 18 (by decide), zz 19 (by decide), zz 20 (by decide)]
    obtain ⟨b1, b2, b3, b4, b5, b6, b7, b8, b9, b10, b11⟩ := b1
    refine ⟨b1, b2, b3, b4, b5, b6, b7, b8, b9, b10, fun s r j q1 q2 q3 q4 => ?_⟩
    rw [zz r (by omega)]
    exact b11 s r j q1 q2 q3 q4
def tx0 : Nat → wd := fun _ => []
theorem sv_T0 : sv_T tx0 0 [] := ⟨by decide, by decide, by decide, fun j a h => absurd h (by simp [tx0]), fun a h => absurd h (by simp), fun _ _ => rfl⟩
theorem sv_A0 (d1 : D 13 6 = 1) (d2 : D 19 0 = 0) (d3 : D 20 0 = -1) (d4 : ∀ a : Int, 0 ≤ a ∧ a < 26 → D 18 a = -1) (d5 : D 21 0 = 0) (d6 : ∀ j : Nat, j < 4 → D 22 (j : Int) = 0) : sv_A D tx0 := by
  have hM : ∀ m, au_M 1 (-1) (fun _ => []) m ↔ m = [] := by
    intro m
    constructor
    · rintro ⟨s, _, h⟩
      exact h.symm
    · rintro rfl
      exact ⟨0, ⟨by decide, by decide⟩, rfl⟩
  have hok : wm_ok (au_M 1 (-1) (fun _ => [])) := by
    refine ⟨(hM _).mpr rfl, fun w a h => absurd ((hM _).mp h) (by simp), fun a b ha hb => ⟨[], (hM _).mpr rfl, List.nil_suffix, List.nil_suffix, fun w h _ => ?_⟩⟩
    rw [(hM _).mp ha] at h
    exact h
  refine ⟨1, fun _ => [], ⟨d1, by decide, by decide, rfl, fun s t h h' _ => by omega, hok, fun s h => ?_, fun s a h ha => ?_, d3, fun s h h0 => ?_, fun s r j h h0 => ?_⟩, ⟨fun j h h' => ?_, fun s h h' => ⟨0, by decide, by decide, by rw [d5]; omega⟩, fun i j h h' h'' => by omega, fun i j h h' h'' => ?_⟩, ⟨hok, fun j => (hM _).mpr rfl, fun m h hne => absurd ((hM _).mp h) hne⟩, by decide, fun j hj => ⟨by rw [d6 j hj]; decide, rfl⟩⟩
  · have : s = 0 := by omega
    rw [this, d2]
    rfl
  · have h1 := h.1
    have : s = 0 := by omega
    rw [this, show (0 : Int) * 26 + a = a by omega, d4 a ha]
    refine Or.inr (Or.inl ⟨rfl, fun q => ?_, ?_⟩)
    · have := q.length_le
      simp at this
    · rintro ⟨m, hm, hs⟩
      rw [(hM m).mp hm] at hs
      have := hs.length_le
      simp at this
  · have := h.1
    omega
  · have := h.1
    omega
  · have : j = 0 := by omega
    rw [this, d5]
    decide
  · have : i = 0 := by omega
    have : j = 0 := by omega
    subst i j
    exact Int.le_refl _
theorem sv_C0 : sv_C mm_D0 tx0 0 [] := by
  refine ⟨sv_T0, ⟨rfl, rfl⟩, fun j hj => ⟨?_, fun i h => absurd h (by simp [tx0])⟩, ⟨rfl, fun i h => absurd h (by simp)⟩, sv_A0 rfl rfl rfl (fun a ha => ?_) rfl (fun j hj => ?_)⟩
  · have : j = 0 ∨ j = 1 ∨ j = 2 ∨ j = 3 := by omega
    rcases this with rfl | rfl | rfl | rfl <;> rfl
  · unfold mm_D0
    rw [if_neg (by omega), if_neg (by omega), if_pos ⟨rfl, ha⟩]
  · unfold mm_D0
    rw [if_neg (by omega), if_neg (by omega), if_neg (by omega), if_neg (by omega)]
theorem sp_forget (H : ∀ D', (∀ r, r < 13 ∨ 23 ≤ r → D' r = D r) → sv_A D' tx0 → Q (.inl none) (mm_mk D' u x)) : mt 1 0 [some (mm_P 13), none] [] (mm_mk D u x) Q := by
  apply q_X0_forget_0
  intro D1 e1
  refine sp_addState (n := 0) (by decide) (by rw [e1, mm_wr_eq]) (by decide) (fun j h h' => by omega) ?_
  intro p p0 p1 _ _
  have hp : p = 0 := by omega
  subst hp
  apply mm_pIi
  generalize hN : sd_new D1 0 0 (-1) 0 = N
  have fo : ∀ D2, (∀ r, r ≠ 22 → D2 r = N r) → (∀ j : Nat, j < 4 → D2 22 (j : Int) = 0) → Q (.inl none) (mm_mk D2 u x) := by
    intro D2 h1 h2
    refine H D2 (fun r hr => ?_) (sv_A0 ?_ ?_ ?_ (fun a ha => ?_) ?_ h2)
    · rw [h1 r (by omega), ← hN]
      funext k
      unfold sd_new
      rw [if_neg (by omega), if_neg (by omega), if_neg (by omega), if_neg (by omega), if_neg (by omega), if_neg (by omega), if_neg (by omega), if_neg (by omega), e1, mm_wr_r (by omega)]
    · rw [h1 13 (by decide), ← hN]
      rfl
    · rw [h1 19 (by decide), ← hN]
      rfl
    · rw [h1 20 (by decide), ← hN]
      rfl
    · rw [h1 18 (by decide), ← hN]
      have e : sd_new D1 0 0 (-1) 0 18 a = if 0 * 26 ≤ a ∧ a < 0 * 26 + 26 then sd_step D1 (-1) (a - 0 * 26) else D1 18 a := rfl
      rw [e, if_pos (by omega)]
      exact if_neg (by omega)
    · rw [h1 21 (by decide), ← hN]
      rfl
  have lp : ∀ (z i : Nat) (D2 : mm_D), i + z = 4 → (∀ r, r ≠ 22 → D2 r = N r) → (∀ j : Nat, j < i → D2 22 (j : Int) = 0) → mt 1 10 [some (mm_P 13), some (mm_I (i : Int))] [] (mm_mk D2 u x) Q := by
    intro z
    induction z with
    | zero =>
      intro i D2 hi h1 h2
      apply q_X0_forget_10
      exact ⟨fun _ => fo D2 h1 (fun j hj => h2 j (by omega)), fun q => absurd q (by omega)⟩
    | succ z ih =>
      intro i D2 hi h1 h2
      apply q_X0_forget_10
      refine ⟨fun q => absurd q (by omega), fun _ => ⟨by omega, by omega, fun D3 e3 => ⟨by constructor <;> omega, ih (i + 1) D3 (by omega) (fun r h => by rw [e3, mm_wr_row h]; exact h1 r h) (fun j hj => ?_)⟩⟩⟩
      by_cases q : j = i
      · rw [e3, q, mm_wr_eq]
      · rw [e3, mm_wr_k (by omega)]
        exact h2 j (by omega)
  exact lp 4 0 N (by omega) (fun _ _ => rfl) (fun j hj => by omega)
end SD
