/-! sorted ends: each part is met first with one of them -/
section BK
variable {D : mm_D} {u : Int} {x : mm_Xt} {Q : mm_O → mm_H → Prop} {tx : Nat → wd} {k : Int} {P : wd}
/-- the sorted ends are there -/
def sv_Z (tx : Nat → wd) (k : Int) (D : mm_D) : Prop := sv_srt tx D (sv_tot tx) (sv_vp tx k) ∧ (0 < sv_tot tx → D 29 0 = 0) ∧ ∀ e, 1 ≤ e → e < sv_tot tx → D 29 e = (lc (sv_sf tx (D 28 (e - 1))) (sv_sf tx (D 28 e)) : Int)
abbrev sv_e (tx : Nat → wd) (D : mm_D) (e : Int) : wd := sv_sf tx (D 28 e)
def sv_bk (tx : Nat → wd) (D : mm_D) (e : Int) (w : wd) : Prop := w <+: sv_e tx D e ∧ D 29 e < (w.length : Int)
theorem sv_Z_row {D D' : mm_D} (h28 : D' 28 = D 28) (h29 : D' 29 = D 29) (Z : sv_Z tx k D) : sv_Z tx k D' := by
  unfold sv_Z sv_srt at Z ⊢
  rw [h28, h29]
  exact Z
theorem Z_h (Z : sv_Z tx k D) {e : Int} (h : 0 ≤ e ∧ e < sv_tot tx) : 0 ≤ D 29 e ∧ D 29 e ≤ ((sv_e tx D e).length : Int) := by
  by_cases q : e = 0
  · rw [q, Z.2.1 (by omega)]
    omega
  · rw [Z.2.2 e (by omega) h.2]
    have hl : lc (sv_sf tx (D 28 (e - 1))) (sv_sf tx (D 28 e)) ≤ (sv_e tx D e).length := (lc_le _ _).2
    omega
theorem Z_mid (Z : sv_Z tx k D) {a b c : Int} {w : wd} (h0 : 0 ≤ a) (h1 : a ≤ b) (h2 : b ≤ c) (h3 : c < sv_tot tx) (ha : w <+: sv_e tx D a) (hc : w <+: sv_e tx D c) : w <+: sv_e tx D b := by
  by_cases ab : a = b
  · rw [← ab]
    exact ha
  by_cases bc : b = c
  · rw [bc]
    exact hc
  have s1 : ¬ lx (sv_e tx D b) (sv_e tx D a) := (Z.1.2.2 a b h0 (by omega) (by omega)).2
  have s2 : ¬ lx (sv_e tx D c) (sv_e tx D b) := (Z.1.2.2 b c (by omega) (by omega) h3).2
  obtain ⟨va, ea⟩ := ha
  obtain ⟨vc, ec⟩ := hc
  by_cases q : w <+: sv_e tx D b
  · exact q
  · exfalso
    by_cases q2 : sv_e tx D b <+: w
    · have hne : sv_e tx D b ≠ w := fun e => q (by rw [e]; exact List.prefix_refl w)
      apply s1
      have h4 : sv_e tx D b <+: sv_e tx D a := by rw [← ea]; exact q2.trans (List.prefix_append w va)
      refine lx_pre2 h4 (fun e => ?_)
      have l1 := q2.length_le
      have l2 : (sv_e tx D b).length = (w ++ va).length := by rw [ea, e]
      rw [List.length_append] at l2
      exact hne (q2.eq_of_length (by omega))
    · obtain ⟨d1, d2, d3⟩ := lx_div q q2 (v := va) (v' := [])
      obtain ⟨d4, d5, d6⟩ := lx_div q q2 (v := vc) (v' := [])
      rcases lx_tri w (sv_e tx D b) with y | y | y
      · apply s2
        rw [← ec]
        exact d5.mpr y
      · exact q (by rw [y]; exact List.prefix_refl _)
      · apply s1
        rw [← ea]
        exact d1.mpr y
/-- not with an earlier one -/
theorem bk_first (Z : sv_Z tx k D) {e e' : Int} {w : wd} (h0 : 0 ≤ e') (h1 : e' < e) (h2 : e < sv_tot tx) (h : sv_bk tx D e w) : ¬ w <+: sv_e tx D e' := by
  intro q
  have h3 := Z_mid Z (b := e - 1) h0 (by omega) (by omega) h2 q h.1
  have h4 := (lc_pre h3 (v := sv_e tx D e)).mp h.1
  have h5 := h.2
  rw [Z.2.2 e (by omega) h2] at h5
  have : lc (sv_e tx D (e - 1)) (sv_e tx D e) = lc (sv_sf tx (D 28 (e - 1))) (sv_sf tx (D 28 e)) := rfl
  omega
theorem bk_uniq (Z : sv_Z tx k D) {e e' : Int} {w : wd} (h : 0 ≤ e ∧ e < sv_tot tx) (h' : 0 ≤ e' ∧ e' < sv_tot tx) (b : sv_bk tx D e w) (b' : sv_bk tx D e' w) : e = e' := by
  by_cases q : e < e'
  · exact absurd b.1 (bk_first Z h.1 q h'.2 b')
  · by_cases q2 : e' < e
    · exact absurd b'.1 (bk_first Z h'.1 q2 h.2 b)
    · omega
theorem bk_lt (Z : sv_Z tx k D) {e e' : Int} {w w' : wd} (h0 : 0 ≤ e) (h1 : e < e') (h2 : e' < sv_tot tx) (b : sv_bk tx D e w) (b' : sv_bk tx D e' w') : lx w w' := by
  have nf := bk_first Z h0 h1 h2 b'
  rcases lx_tri w w' with q | q | q
  · exact q
  · rw [q] at b
    exact absurd b.1 nf
  · exfalso
    have n1 : ¬ w' <+: w := fun y => nf (y.trans b.1)
    have n2 : ¬ w <+: w' := fun y => lx_pre y q
    obtain ⟨v, ev⟩ := b.1
    obtain ⟨v', ev'⟩ := b'.1
    apply (Z.1.2.2 e e' h0 h1 h2).2
    show lx (sv_e tx D e') (sv_e tx D e)
    rw [← ev, ← ev']
    have n1' : ¬ w' <+: w ++ v := fun y => nf (by rw [← ev]; exact y)
    have n2' : ¬ w ++ v <+: w' := fun y => n2 ((List.prefix_append w v).trans y)
    rw [(lx_div n1' n2' (v := v') (v' := [])).2.1]
    rw [(lx_div n2 n1 (v := v) (v' := [])).1]
    exact q
theorem bk_in {e : Int} {w w' : wd} (b : sv_bk tx D e w) (b' : sv_bk tx D e w') (h : w.length < w'.length) : lx w w' := lx_pre2 (List.prefix_of_prefix_length_le b.1 b'.1 (by omega)) (fun e => by rw [e] at h; omega)
theorem bk_len {e : Int} {w w' : wd} (b : sv_bk tx D e w) (b' : sv_bk tx D e w') (h : w.length = w'.length) : w = w' := (List.prefix_of_prefix_length_le b.1 b'.1 (by omega)).eq_of_length h
theorem sf_fac (T : sv_T tx k P) {p : Int} (hp : sv_vp tx k p) {w : wd} (hw : w <+: sv_sf tx p) : fac tx w := by
  obtain ⟨t, i, h1, h2, rfl⟩ := hp
  rw [(sv_vpE T h2).1] at hw
  by_cases e : w = []
  · rw [e]
    exact fac_nil tx
  · exact (fac_st e).mpr ⟨t, i, e, hw⟩
theorem bk_ex (T : sv_T tx k P) (Z : sv_Z tx k D) {w : wd} : sv_S tx w ↔ ∃ e, (0 ≤ e ∧ e < sv_tot tx) ∧ sv_bk tx D e w := by
  constructor
  · rintro ⟨h0, h⟩
    obtain ⟨t, i, h1⟩ := (fac_st h0).mp h
    have h2 := stn_len h1
    have h3 := List.length_pos_iff.mpr h0
    obtain ⟨e, e0, e1, e2⟩ := Z.1.2.1 _ ⟨t, i, (tx_lt T (by omega)).1, by omega, rfl⟩
    have hw : w <+: sv_e tx D e := by
      show w <+: sv_sf tx (D 28 e)
      rw [e2, (sv_vpE T (by omega)).1]
      exact h1.2
    -- the first one
    have key : ∀ (m : Nat) (e : Int), e ≤ m → 0 ≤ e → e < sv_tot tx → w <+: sv_e tx D e → ∃ e, (0 ≤ e ∧ e < sv_tot tx) ∧ sv_bk tx D e w := by
      intro m
      induction m with
      | zero =>
        intro e a b c d
        refine ⟨e, ⟨b, c⟩, d, ?_⟩
        rw [show e = 0 by omega, Z.2.1 (by omega)]
        omega
      | succ m ih =>
        intro e a b c d
        by_cases q : D 29 e < (w.length : Int)
        · exact ⟨e, ⟨b, c⟩, d, q⟩
        · by_cases q0 : e = 0
          · exfalso
            rw [q0, Z.2.1 (by omega)] at q
            omega
          · refine ih (e - 1) (by omega) (by omega) (by omega) ?_
            rw [Z.2.2 e (by omega) c] at q
            obtain ⟨v, hv⟩ := d
            have hc : lc (sv_e tx D (e - 1)) (sv_e tx D e) = lc (sv_sf tx (D 28 (e - 1))) (sv_sf tx (D 28 e)) := rfl
            -- what both share begins with w
            have hs : (sv_e tx D (e - 1)).take (lc (sv_e tx D (e - 1)) (sv_e tx D e)) <+: sv_e tx D e := by
              rw [lc_pre (List.take_prefix _ _), List.length_take]
              omega
            have hl := lc_le (sv_e tx D (e - 1)) (sv_e tx D e)
            have hw2 : w <+: (sv_e tx D (e - 1)).take (lc (sv_e tx D (e - 1)) (sv_e tx D e)) := List.prefix_of_prefix_length_le ⟨v, hv⟩ hs (by rw [List.length_take]; omega)
            exact hw2.trans (List.take_prefix _ _)
    exact key e.toNat e (by omega) e0 e1 hw
  · rintro ⟨e, he, b⟩
    have h := Z_h Z he
    refine ⟨fun q => ?_, sf_fac T (Z.1.1 e he.1 he.2) b.1⟩
    have := b.2
    rw [q] at this
    simp at this
    omega
/-- the beginnings of a word that are longer -/
theorem sz_begs (w0 : wd) : ∀ z : Nat, z ≤ w0.length → sz (fun w => w <+: w0 ∧ w0.length < w.length + z) z := by
  intro z
  induction z with
  | zero => exact fun _ => sz_0 (fun w q => by have := q.1.length_le; omega)
  | succ z ih =>
    intro hz
    have hd : w0.take (w0.length - z) <+: w0 := List.take_prefix _ w0
    have hl : (w0.take (w0.length - z)).length = w0.length - z := by
      rw [List.length_take]
      omega
    refine sz_c (sz_1 (ih (by omega)) (v := w0.take (w0.length - z)) (fun q => by omega)) (fun w => ⟨fun q => ?_, fun q => ?_⟩)
    · rcases q with q | q
      · rw [q]
        exact ⟨hd, by omega⟩
      · exact ⟨q.1, by omega⟩
    · by_cases e : w.length = w0.length - z
      · left
        exact (List.prefix_of_prefix_length_le q.1 hd (by omega)).eq_of_length (by omega)
      · exact Or.inr ⟨q.1, by omega⟩
/-- of one end, those up to a length -/
theorem sz_bk (Z : sv_Z tx k D) {e : Int} (he : 0 ≤ e ∧ e < sv_tot tx) {l : Int} (h1 : D 29 e ≤ l) (h2 : l ≤ ((sv_e tx D e).length : Int)) : sz (fun w => sv_bk tx D e w ∧ (w.length : Int) ≤ l) (l - D 29 e) := by
  have hh := Z_h Z he
  have hl : ((sv_e tx D e).take l.toNat).length = l.toNat := by
    rw [List.length_take]
    omega
  have h := sz_begs ((sv_e tx D e).take l.toNat) (l - D 29 e).toNat (by rw [hl]; omega)
  rw [Int.toNat_of_nonneg (by omega), hl] at h
  refine sz_c h (fun w => ⟨fun q => ?_, fun q => ?_⟩)
  · have h3 := q.1.length_le
    rw [hl] at h3
    exact ⟨⟨q.1.trans (List.take_prefix _ _), by omega⟩, by omega⟩
  · have h3 := q.1.2
    exact ⟨List.prefix_take_iff.mpr ⟨q.1.1, by omega⟩, by omega⟩
def sv_pr (tx : Nat → wd) (D : mm_D) (e : Int) (w : wd) : Prop := ∃ e', 0 ≤ e' ∧ e' < e ∧ sv_bk tx D e' w
theorem pr_all (T : sv_T tx k P) (Z : sv_Z tx k D) (w : wd) : sv_pr tx D (sv_tot tx) w ↔ sv_S tx w := by
  rw [bk_ex T Z]
  exact ⟨fun ⟨e, a, b, c⟩ => ⟨e, ⟨a, b⟩, c⟩, fun ⟨e, a, c⟩ => ⟨e, a.1, a.2, c⟩⟩
theorem pr_s {e : Int} (h : 0 ≤ e) (w : wd) : sv_pr tx D (e + 1) w ↔ sv_pr tx D e w ∨ sv_bk tx D e w := by
  constructor
  · rintro ⟨e', a, b, c⟩
    by_cases q : e' = e
    · rw [q] at c
      exact Or.inr c
    · exact Or.inl ⟨e', a, by omega, c⟩
  · rintro (⟨e', a, b, c⟩ | c)
    · exact ⟨e', a, by omega, c⟩
    · exact ⟨e, h, by omega, c⟩
theorem pr_no (Z : sv_Z tx k D) {e : Int} (h : 0 ≤ e ∧ e < sv_tot tx) {w : wd} (q : sv_pr tx D e w) : ¬ sv_bk tx D e w := by
  obtain ⟨e', a, b, c⟩ := q
  intro c2
  have := bk_uniq Z ⟨a, by omega⟩ h c c2
  omega
theorem pr_0 (w : wd) : ¬ sv_pr tx D 0 w := fun ⟨e', a, b, _⟩ => by omega
theorem pr_fac (T : sv_T tx k P) (Z : sv_Z tx k D) {e : Int} (he : e ≤ sv_tot tx) {w : wd} (h : sv_pr tx D e w) : sv_S tx w := by
  obtain ⟨e', a, b, c⟩ := h
  exact (bk_ex T Z).mpr ⟨e', ⟨a, by omega⟩, c⟩
theorem bk_all {e : Int} (w : wd) : sv_bk tx D e w ↔ sv_bk tx D e w ∧ (w.length : Int) ≤ ((sv_e tx D e).length : Int) := by
  constructor
  · intro h
    have := h.1.length_le
    exact ⟨h, by omega⟩
  · exact fun h => h.1
theorem rp_partsNow (R : sv_R D tx k P) (H : ∀ m D', (∀ r, r ≠ 28 → r ≠ 29 → D' r = D r) → sv_Z tx k D' → sz (sv_S tx) m → Q (.inl (some (mm_I m))) (mm_mk D' u x)) : mt 114 0 [some (mm_P 24), none, none] [] (mm_mk D u x) Q := by
  have t100 := R.1.2.1
  apply q_X5_partsNow_0
  refine rp_sorts R (fun D1 r1 s1 s2 s3 => ?_)
  apply mm_pVi
  have Z : sv_Z tx k D1 := ⟨s1, s2, s3⟩
  have R1 : sv_R D1 tx k P := sv_R_row R (by rw [r1 24 (by decide) (by decide)]) (by rw [r1 24 (by decide) (by decide)]) (by rw [r1 24 (by decide) (by decide)]) (r1 25 (by decide) (by decide)) (r1 26 (by decide) (by decide)) (r1 27 (by decide) (by decide))
  have lp : ∀ (m e : Nat) (v : Int), (e : Int) + m = sv_tot tx → sz (sv_pr tx D1 (e : Int)) v → mt 114 6 [some (mm_P 24), some (mm_I v), some (mm_I (e : Int))] [] (mm_mk D1 u x) Q := by
    intro m
    induction m with
    | zero =>
      intro e v he hz
      apply q_X5_partsNow_6
      rw [R1.2.1.2]
      refine ⟨fun _ => H v D1 r1 Z (sz_c hz (fun w => ?_)), fun y => absurd y (by omega)⟩
      rw [show (e : Int) = sv_tot tx by omega]
      exact pr_all R.1 Z w
    | succ m ih =>
      intro e v he hz
      have hv := Z.1.1 (e : Int) (by omega) (by omega)
      have hb := sv_vpB R.1 hv
      have hh := Z_h Z (e := (e : Int)) (by omega)
      have hf := sv_fin R.1 hz (fun w q => (pr_fac R.1 Z (by omega) q).2)
      have hn := sz_nn hz
      apply q_X5_partsNow_6
      rw [R1.2.1.2]
      refine ⟨fun y => absurd y (by omega), fun _ => ⟨by omega, by omega, ?_⟩⟩
      refine rp_left R1 hv ?_
      apply mm_pIi
      have hs := sz_add hz (sz_bk Z (e := (e : Int)) (by omega) hh.2 (Int.le_refl _)) (fun w a b => pr_no Z (by omega) a b.1)
      have hll : ((sv_e tx D1 (e : Int)).length : Int) = ((sv_sf tx (D1 28 (e : Int))).length : Int) := rfl
      refine ⟨by omega, by omega, by constructor <;> omega, by constructor <;> omega, by constructor <;> omega, ?_⟩
      rw [show (e : Int) + 1 = ((e + 1 : Nat) : Int) by omega]
      refine ih (e + 1) _ (by omega) (sz_c hs (fun w => ?_))
      rw [show ((e + 1 : Nat) : Int) = (e : Int) + 1 by omega, pr_s (by omega), ← bk_all]
  exact lp (sv_tot tx).toNat 0 0 (by have := sv_tot_0 tx; omega) (sz_0 pr_0)
theorem sv_E_n {D D' : mm_D} (h : ∀ r, r ≠ 28 → r ≠ 29 → D' r = D r) : sv_E D D' := fun r hr => h r (by omega) (by omega)
theorem sv_R_n {D D' : mm_D} (R : sv_R D tx k P) (r1 : ∀ r, r ≠ 28 → r ≠ 29 → D' r = D r) : sv_R D' tx k P := sv_R_row R (by rw [r1 24 (by decide) (by decide)]) (by rw [r1 24 (by decide) (by decide)]) (by rw [r1 24 (by decide) (by decide)]) (r1 25 (by decide) (by decide)) (r1 26 (by decide) (by decide)) (r1 27 (by decide) (by decide))
theorem rs_parts (R : sv_R D tx k P) (H : ∀ m D', sv_E D D' → sv_R D' tx k P → sz (sv_S tx) m → Q (.inl (some (mm_I m))) (mm_mk D' u x)) : mt 115 0 [some (mm_P 24)] [] (mm_mk D u x) Q := by
  apply q_X5_parts_0
  intro D1 e1
  subst e1
  have R1 := sv_R_f R (p := 0) (v := 0) (by decide)
  refine rp_partsNow R1 (fun m D' r1 Z hz => ?_)
  apply mm_pIi
  exact H m D' (sv_E_t (sv_E_w (by decide)) (sv_E_n r1)) (sv_R_n R1 r1) hz
theorem rs_toPart {i : Int} (R : sv_R D tx k P) (H1 : ∀ m, sz (sv_S tx) m → 0 ≤ i → i < m → ∀ D' W, sv_E D D' → sv_R D' tx k W → D' 24 0 = 0 → sv_S tx W → sz (fun w => sv_S tx w ∧ lx w W) i → Q (.inl (some (mm_I (W.length : Int)))) (mm_mk D' u x)) (H2 : ∀ m, sz (sv_S tx) m → ¬ (0 ≤ i ∧ i < m) → ∀ D' r, sv_E D D' → sv_R D' tx k P → D' 24 0 = 1 → Q (.inl (some (mm_I r))) (mm_mk D' u x)) (hz : ∃ m, sz (sv_S tx) m) : mt 118 0 [some (mm_P 24), some (mm_I i), none, none] [] (mm_mk D u x) Q := by
  have t100 := R.1.2.1
  obtain ⟨m0, hz0⟩ := hz
  apply q_X5_toPart_0
  refine ⟨fun q => ?_, fun q => ?_⟩
  · apply rp_holds
    apply mm_pIi
    rw [sd_b0 (by decide)]
    exact ⟨fun y => absurd rfl y, fun _ => H2 m0 hz0 (by omega) _ _ (sv_E_w (by decide)) (sv_R_f R (by decide)) (mm_wr_eq _ _ _ _)⟩
  · refine rp_partsNow R (fun m D1 r1 Z hz => ?_)
    apply mm_pIi
    have R1 := sv_R_n R r1
    refine ⟨fun q2 => ?_, fun q2 => ?_⟩
    · apply rp_holds
      apply mm_pIi
      rw [sd_b1 rfl]
      refine ⟨fun _ => ?_, fun y => absurd (by decide) y⟩
      have R2 := sv_R_f R1 (p := 0) (v := 0) (by decide)
      have Z2 : sv_Z tx k (mm_wr D1 24 0 0) := sv_Z_row (mm_wr_row (by decide)) (mm_wr_row (by decide)) Z
      have E2 : sv_E D (mm_wr D1 24 0 0) := sv_E_ww (sv_E_n r1) (by decide)
      have f2 : mm_wr D1 24 0 0 24 0 = 0 := mm_wr_eq _ _ _ _
      generalize mm_wr D1 24 0 0 = D2 at *
      have lp : ∀ (z e : Nat) (v : Int), (e : Int) + z = sv_tot tx → 0 ≤ v → sz (sv_pr tx D2 (e : Int)) (i - v) → mt 118 18 [some (mm_P 24), some (mm_I i), some (mm_I v), some (mm_I (e : Int))] [] (mm_mk D2 u x) Q := by
        intro z
        induction z with
        | zero =>
          intro e v he hv hs
          exfalso
          rw [show (e : Int) = sv_tot tx by omega] at hs
          have := sz_uniq hz hs (fun w => (pr_all R.1 Z2 w).symm)
          omega
        | succ z ih =>
          intro e v he hv hs
          have hvp := Z2.1.1 (e : Int) (by omega) (by omega)
          have hb := sv_vpB R.1 hvp
          have hh := Z_h Z2 (e := (e : Int)) (by omega)
          have hn := sz_nn hs
          have hf := sv_fin R.1 hz (fun w q => q.2)
          have hll : ((sv_e tx D2 (e : Int)).length : Int) = ((sv_sf tx (D2 28 (e : Int))).length : Int) := rfl
          apply q_X5_toPart_18
          refine ⟨by omega, by omega, ?_⟩
          refine rp_left R2 hvp ?_
          apply mm_pIi
          refine ⟨by omega, by omega, by constructor <;> omega, fun q3 => ⟨by omega, by omega, by omega, by omega, by constructor <;> omega, by constructor <;> omega, ?_⟩, fun q3 => ⟨by omega, by omega, ?_⟩⟩
          · obtain ⟨W, hW⟩ : ∃ W, W = (sv_e tx D2 (e : Int)).take (D2 29 (e : Int) + v + 1).toNat := ⟨_, rfl⟩
            have hWl : (W.length : Int) = D2 29 (e : Int) + v + 1 := by
              rw [hW, List.length_take]
              omega
            have hbk : sv_bk tx D2 (e : Int) W := ⟨by rw [hW]; exact List.take_prefix _ _, by omega⟩
            have hSW : sv_S tx W := (bk_ex R.1 Z2).mpr ⟨(e : Int), by omega, hbk⟩
            have key := rp_lays (u := u) (x := x) (Q := mm_pV fun D16 u17 x18 => Q (.inl (some (mm_I (D16 24 6)))) (mm_mk D16 u17 x18)) (p := D2 28 (e : Int)) (W := W) R2 (by omega) hb.1 (by omega) ?_ (fun a ha => fac_let R.1 hSW.2 ha) (fun D' e1 R' e2 => ?_)
            · rw [hWl] at key
              exact key
            · have := sv_lay_sub (sv_vpL R2 hvp) 0 (D2 29 (e : Int) + v + 1).toNat
              rw [List.drop_zero, show D2 28 (e : Int) + ((0 : Nat) : Int) = D2 28 (e : Int) by omega] at this
              rw [hW]
              exact this
            · apply mm_pVi
              rw [R'.2.2.2.1]
              refine H1 m hz (by omega) q2 D' W (sv_E_t E2 e1) R' (by rw [e2]; exact f2) hSW ?_
              have hs2 := sz_add hs (sz_bk Z2 (e := (e : Int)) (l := D2 29 (e : Int) + v) (by omega) (by omega) (by omega)) (fun w a b => pr_no Z2 (by omega) a b.1)
              rw [show i - v + (D2 29 (e : Int) + v - D2 29 (e : Int)) = i by omega] at hs2
              refine sz_c hs2 (fun w => ⟨fun y => ?_, fun y => ?_⟩)
              · rcases y with y | y
                · refine ⟨pr_fac R.1 Z2 (by omega) y, ?_⟩
                  obtain ⟨e', a, b, c⟩ := y
                  exact bk_lt Z2 a b (by omega) c hbk
                · exact ⟨(bk_ex R.1 Z2).mpr ⟨(e : Int), by omega, y.1⟩, bk_in y.1 hbk (by omega)⟩
              · obtain ⟨e', a, c⟩ := (bk_ex R.1 Z2).mp y.1
                by_cases c1 : e' < (e : Int)
                · exact Or.inl ⟨e', a.1, c1, c⟩
                · by_cases c2 : e' = (e : Int)
                  · rw [c2] at c
                    right
                    refine ⟨c, ?_⟩
                    by_cases c3 : (w.length : Int) ≤ D2 29 (e : Int) + v
                    · exact c3
                    · exfalso
                      by_cases c4 : w.length = W.length
                      · rw [bk_len c hbk c4] at y
                        exact lx_irr W y.2
                      · exact lx_asy y.2 (bk_in hbk c (by omega))
                  · exact absurd (bk_lt Z2 (by omega) (by omega) a.2 hbk c) (lx_asy y.2)
          · refine rp_left R2 hvp ?_
            apply mm_pIi
            refine ⟨by omega, by omega, by constructor <;> omega, by constructor <;> omega, by constructor <;> omega, ?_⟩
            have hs2 := sz_add hs (sz_bk Z2 (e := (e : Int)) (by omega) hh.2 (Int.le_refl _)) (fun w a b => pr_no Z2 (by omega) a b.1)
            rw [show (e : Int) + 1 = ((e + 1 : Nat) : Int) by omega]
            refine ih (e + 1) _ (by omega) (by omega) ?_
            rw [show i - (v - (((sv_sf tx (D2 28 (e : Int))).length : Int) - D2 29 (e : Int))) = i - v + (((sv_e tx D2 (e : Int)).length : Int) - D2 29 (e : Int)) by omega]
            refine sz_c hs2 (fun w => ?_)
            rw [show ((e + 1 : Nat) : Int) = (e : Int) + 1 by omega, pr_s (by omega), ← bk_all]
      exact lp (sv_tot tx).toNat 0 i (by have := sv_tot_0 tx; omega) (by omega) (by rw [Int.sub_self]; exact sz_0 pr_0)
    · apply rp_holds
      apply mm_pIi
      rw [sd_b0 (by decide)]
      exact ⟨fun y => absurd rfl y, fun _ => H2 m hz (by omega) _ _ (sv_E_ww (sv_E_n r1) (by decide)) (sv_R_f R1 (by decide)) (mm_wr_eq _ _ _ _)⟩
end BK
