/-! the reference: classes, common, repeated -/
section FD
variable {D : mm_D} {u : Int} {x : mm_Xt} {Q : mm_O → mm_H → Prop} {tx : Nat → wd} {k : Int} {P : wd}
theorem bk_row {D D' : mm_D} (h28 : D' 28 = D 28) (h29 : D' 29 = D 29) : sv_bk tx D' = sv_bk tx D := by
  funext e w
  unfold sv_bk sv_e
  rw [h28, h29]
theorem lmx_iff (T : sv_T tx k P) {w : wd} : lmx tx w ↔ (∃ t : Nat, w <+: tx t) ∨ ∃ a b : Nat, a < b ∧ b < 26 ∧ fac tx ([(a : Int)] ++ w) ∧ fac tx ([(b : Int)] ++ w) := by
  constructor
  · rintro (⟨j, e, h⟩ | ⟨b, c, h0, h1, h2⟩)
    · exact Or.inl ⟨j, by rw [h]; exact List.take_prefix _ _⟩
    · right
      have hb := fac_let T h1 (a := b) (by simp)
      have hc := fac_let T h2 (a := c) (by simp)
      by_cases q : b < c
      · exact ⟨b.toNat, c.toNat, by omega, by omega, by rw [Int.toNat_of_nonneg hb.1]; exact h1, by rw [Int.toNat_of_nonneg hc.1]; exact h2⟩
      · exact ⟨c.toNat, b.toNat, by omega, by omega, by rw [Int.toNat_of_nonneg hc.1]; exact h2, by rw [Int.toNat_of_nonneg hb.1]; exact h1⟩
  · rintro (⟨t, h⟩ | ⟨a, b, h0, h1, h2, h3⟩)
    · exact Or.inl ⟨t, w.length, List.prefix_iff_eq_take.mp h⟩
    · exact Or.inr ⟨(a : Int), (b : Int), by omega, h2, h3⟩
/-- those met so far: of earlier ends, and of this one up to a length -/
def sv_pq (tx : Nat → wd) (D : mm_D) (e c : Int) (w : wd) : Prop := sv_pr tx D e w ∨ (sv_bk tx D e w ∧ (w.length : Int) < c)
theorem pq_0 {e : Int} (w : wd) : sv_pq tx D e (D 29 e + 1) w ↔ sv_pr tx D e w := by
  constructor
  · rintro (h | ⟨h, h2⟩)
    · exact h
    · have := h.2
      omega
  · exact Or.inl
theorem pq_n {e c : Int} (he : 0 ≤ e) (h : ((sv_e tx D e).length : Int) < c) (w : wd) : sv_pq tx D e c w ↔ sv_pr tx D (e + 1) w := by
  rw [pr_s he]
  constructor
  · rintro (h | ⟨h, h2⟩)
    · exact Or.inl h
    · exact Or.inr h
  · rintro (h | h2)
    · exact Or.inl h
    · have := h2.1.length_le
      exact Or.inr ⟨h2, by omega⟩
theorem pq_s {e c : Int} {w0 : wd} (h0 : sv_bk tx D e w0) (hl : (w0.length : Int) = c) (w : wd) : sv_pq tx D e (c + 1) w ↔ sv_pq tx D e c w ∨ w = w0 := by
  constructor
  · rintro (h | ⟨h, h2⟩)
    · exact Or.inl (Or.inl h)
    · by_cases q : (w.length : Int) = c
      · exact Or.inr (bk_len h h0 (by omega))
      · exact Or.inl (Or.inr ⟨h, by omega⟩)
  · rintro ((h | ⟨h, h2⟩) | h)
    · exact Or.inl h
    · exact Or.inr ⟨h, by omega⟩
    · rw [h]
      exact Or.inr ⟨h0, by omega⟩
theorem pq_no (Z : sv_Z tx k D) {e c : Int} (he : 0 ≤ e ∧ e < sv_tot tx) {w0 : wd} (h0 : sv_bk tx D e w0) (hl : (w0.length : Int) = c) : ¬ sv_pq tx D e c w0 := by
  rintro (h | ⟨_, h⟩)
  · exact pr_no Z he h h0
  · omega
/-- the word of an end and a length -/
theorem bk_tk {e : Int} {c : Nat} (h1 : D 29 e < (c : Int)) (h2 : (c : Int) ≤ ((sv_e tx D e).length : Int)) : sv_bk tx D e ((sv_e tx D e).take c) ∧ ((sv_e tx D e).take c).length = c := by
  have : ((sv_e tx D e).take c).length = c := by
    rw [List.length_take]
    omega
  exact ⟨⟨List.take_prefix _ _, by omega⟩, this⟩
theorem rs_classes (R : sv_R D tx k P) (H : ∀ m D', sv_E D D' → sv_R D' tx k P → sz (fun w => w ≠ [] ∧ fac tx w ∧ lmx tx w) m → Q (.inl (some (mm_I m))) (mm_mk D' u x)) : mt 110 0 [some (mm_P 24), none, none, none] [] (mm_mk D u x) Q := by
  have t100 := R.1.2.1
  apply q_X5_classes_0
  intro D0 e0
  subst e0
  have R0 := sv_R_f R (p := 0) (v := 0) (by decide)
  refine rp_sorts R0 (fun D1 r1 s1 s2 s3 => ?_)
  apply mm_pVi
  have Z1 : sv_Z tx k D1 := ⟨s1, s2, s3⟩
  have E1 : sv_E D D1 := sv_E_t (sv_E_w (by decide)) (sv_E_n r1)
  have lp : ∀ (m e : Nat) (v : Int) (D2 : mm_D) (o3 : Option mm_V), (e : Int) + m = sv_tot tx → (∀ r, r ≠ 24 → D2 r = D1 r) → sv_R D2 tx k P → sv_Z tx k D2 → sz (fun w => sv_pr tx D1 (e : Int) w ∧ lmx tx w) v → mt 110 9 [some (mm_P 24), some (mm_I v), some (mm_I (e : Int)), o3] [] (mm_mk D2 u x) Q := by
    intro m
    induction m with
    | zero =>
      intro e v D2 o3 he hr R2 Z2 hz
      apply q_X5_classes_9
      rw [R2.2.1.2]
      refine ⟨fun _ => H v D2 (sv_E_t E1 (fun r h => hr r (by omega))) R2 (sz_c hz (fun w => ?_)), fun y => absurd y (by omega)⟩
      rw [show (e : Int) = sv_tot tx by omega, pr_all R.1 Z1 w]
      exact ⟨fun q => ⟨q.1.1, q.1.2, q.2⟩, fun q => ⟨⟨q.1, q.2.1⟩, q.2.2⟩⟩
    | succ m ih =>
      intro e v D2 o3 he hr R2 Z2 hz
      have hh := Z_h Z1 (e := (e : Int)) (by omega)
      have hv1 := Z1.1.1 (e : Int) (by omega) (by omega)
      have hb := sv_vpB R.1 hv1
      have hll : ((sv_e tx D1 (e : Int)).length : Int) = ((sv_sf tx (D1 28 (e : Int))).length : Int) := rfl
      have inn : ∀ (z c : Nat) (v : Int) (D3 : mm_D), c + z = (sv_sf tx (D1 28 (e : Int))).length + 1 → D1 29 (e : Int) < (c : Int) → (∀ r, r ≠ 24 → D3 r = D1 r) → sv_R D3 tx k P → sv_Z tx k D3 → sz (fun w => sv_pq tx D1 (e : Int) (c : Int) w ∧ lmx tx w) v → mt 110 20 [some (mm_P 24), some (mm_I v), some (mm_I (e : Int)), some (mm_I (c : Int))] [] (mm_mk D3 u x) Q := by
        intro z
        induction z with
        | zero =>
          intro c v D3 hc hd hr3 R3 Z3 hz3
          apply q_X5_classes_20
          rw [hr3 28 (by decide)]
          refine ⟨by omega, by omega, ?_⟩
          refine rp_left R3 hv1 ?_
          apply mm_pIi
          refine ⟨fun _ => ⟨by constructor <;> omega, ?_⟩, fun y => absurd y (by omega)⟩
          rw [show (e : Int) + 1 = ((e + 1 : Nat) : Int) by omega]
          refine ih (e + 1) v D3 _ (by omega) hr3 R3 Z3 (sz_c hz3 (fun w => ?_))
          rw [pq_n (by omega) (by omega), show ((e + 1 : Nat) : Int) = (e : Int) + 1 by omega]
        | succ z ih2 =>
          intro c v D3 hc hd hr3 R3 Z3 hz3
          obtain ⟨b1, b2⟩ := bk_tk (tx := tx) (D := D1) hd (by omega)
          generalize hW : (sv_e tx D1 (e : Int)).take c = w0 at *
          have b3 : sv_bk tx D3 (e : Int) w0 := by
            rw [bk_row (hr3 28 (by decide)) (hr3 29 (by decide))]
            exact b1
          have hn := sz_nn hz3
          have pf : ∀ w, sv_pq tx D1 (e : Int) (c : Int) w → sv_S tx w := by
            rintro w (y | ⟨y, _⟩)
            · exact pr_fac R.1 Z1 (by omega) y
            · exact (bk_ex R.1 Z1).mpr ⟨(e : Int), by omega, y⟩
          have hf := sv_fin R.1 hz3 (fun w q => (pf w q.1).2)
          apply q_X5_classes_20
          rw [hr3 28 (by decide)]
          refine ⟨by omega, by omega, ?_⟩
          refine rp_left R3 hv1 ?_
          apply mm_pIi
          refine ⟨fun y => absurd y (by omega), fun _ => ?_⟩
          rw [← b2]
          refine rp_looks R3 Z3 (by omega) b3 (fun D4 r4 R4 Z4 f0 f9 f10 f11 f12 => ?_)
          apply mm_pVi
          have hr4 : ∀ r, r ≠ 24 → D4 r = D1 r := fun r h => (r4 r h).trans (hr3 r h)
          have yes : lmx tx w0 → mm_rng (v + 1) ∧ (mm_rng ((w0.length : Int) + 1) ∧ mt 110 20 [some (mm_P 24), some (mm_I (v + 1)), some (mm_I (e : Int)), some (mm_I ((w0.length : Int) + 1))] [] (mm_mk D4 u x) Q) := by
            intro hx
            refine ⟨by constructor <;> omega, by constructor <;> omega, ?_⟩
            rw [show (w0.length : Int) + 1 = ((c + 1 : Nat) : Int) by omega]
            refine ih2 (c + 1) _ D4 (by omega) (by omega) hr4 R4 Z4 (sz_c (sz_1 hz3 (v := w0) (fun q => pq_no Z1 (by omega) b1 (by omega) q.1)) (fun w => ?_))
            rw [show ((c + 1 : Nat) : Int) = (c : Int) + 1 by omega, pq_s b1 (by omega)]
            constructor
            · rintro (y | y)
              · rw [y]
                exact ⟨Or.inr rfl, hx⟩
              · exact ⟨Or.inl y.1, y.2⟩
            · rintro ⟨y | y, y2⟩
              · exact Or.inr ⟨y, y2⟩
              · exact Or.inl y
          have not : ¬ lmx tx w0 → mm_rng (v + 0) ∧ (mm_rng ((w0.length : Int) + 1) ∧ mt 110 20 [some (mm_P 24), some (mm_I (v + 0)), some (mm_I (e : Int)), some (mm_I ((w0.length : Int) + 1))] [] (mm_mk D4 u x) Q) := by
            intro hx
            refine ⟨by constructor <;> omega, by constructor <;> omega, ?_⟩
            rw [show (w0.length : Int) + 1 = ((c + 1 : Nat) : Int) by omega, Int.add_zero]
            refine ih2 (c + 1) _ D4 (by omega) (by omega) hr4 R4 Z4 (sz_c hz3 (fun w => ?_))
            rw [show ((c + 1 : Nat) : Int) = (c : Int) + 1 by omega, pq_s b1 (by omega)]
            constructor
            · exact fun y => ⟨Or.inl y.1, y.2⟩
            · rintro ⟨y | y, y2⟩
              · exact ⟨y, y2⟩
              · rw [y] at y2
                exact absurd y2 hx
          have hlm := lmx_iff R.1 (w := w0)
          have h2 := bm_two f11
          have hbm := f11.1
          refine ⟨fun q => yes (hlm.mpr (Or.inl ?_)), fun q => ⟨by constructor <;> omega, fun q2 => not (fun y => ?_), fun q2 => yes (hlm.mpr (Or.inr ?_))⟩⟩
          · by_cases y : ∃ t : Nat, w0 <+: tx t
            · exact y
            · rw [f12, cI_0 y] at q
              exact absurd rfl q
          · rcases hlm.mp y with y | y
            · rw [f12, cI_1 y] at q
              exact absurd (by decide) q
            · exact h2.mp q2 y
          · by_cases y : ∃ a b : Nat, a < b ∧ b < 26 ∧ fac tx ([(a : Int)] ++ w0) ∧ fac tx ([(b : Int)] ++ w0)
            · exact y
            · exact absurd (h2.mpr y) q2
      apply q_X5_classes_9
      rw [R2.2.1.2, hr 29 (by decide)]
      refine ⟨fun y => absurd y (by omega), fun _ => ⟨by omega, by omega, by constructor <;> omega, ?_⟩⟩
      have := inn ((sv_sf tx (D1 28 (e : Int))).length - (D1 29 (e : Int)).toNat) ((D1 29 (e : Int)).toNat + 1) v D2 (by omega) (by omega) hr R2 Z2 (sz_c hz (fun w => ?_))
      · rw [show (((D1 29 (e : Int)).toNat + 1 : Nat) : Int) = D1 29 (e : Int) + 1 by omega] at this
        exact this
      · rw [show (((D1 29 (e : Int)).toNat + 1 : Nat) : Int) = D1 29 (e : Int) + 1 by omega, pq_0]
  exact lp (sv_tot tx).toNat 0 0 D1 none (by have := sv_tot_0 tx; omega) (fun _ _ => rfl) (sv_R_n R0 r1) Z1 (sz_0 (fun w q => pr_0 w q.1))
theorem gd_test {set often : Int} (hset : 0 ≤ set ∧ set < 16) {w : wd} (hw : sv_S tx w) {z : Int} (hz : bm z (fun t => en_of tx 15 w t ≠ 0)) : sv_gd tx set often w ↔ mm_and z set = set ∧ often ≤ en_all tx w := by
  rw [bt_sub hz (by omega)]
  constructor
  · rintro (h | ⟨_, h2, h3⟩)
    · exact absurd h hw.1
    · refine ⟨fun t _ hb => ?_, h3⟩
      by_cases q : t < 4
      · exact h2 t q hb
      · have := Nat.testBit_lt_two_pow (x := set.toNat) (i := t) (Nat.lt_of_lt_of_le (show set.toNat < 2 ^ 4 by omega) (Nat.pow_le_pow_right (by decide) (by omega)))
        rw [this] at hb
        cases hb
  · rintro ⟨h2, h3⟩
    exact Or.inr ⟨hw.2, fun t ht hb => h2 t (by omega) hb, h3⟩
theorem rp_finds {set often : Int} (R : sv_R D tx k P) (hset : 0 ≤ set ∧ set < 16) (H : ∀ D' W, sv_E D D' → sv_R D' tx k W → D' 24 0 = D 24 0 → sv_fnd tx set often W → Q (.inl (some (mm_I (W.length : Int)))) (mm_mk D' u x)) : mt 119 0 [some (mm_P 24), some (mm_I set), some (mm_I often), none, none, none, none, none] [] (mm_mk D u x) Q := by
  have t100 := R.1.2.1
  apply q_X5_finds_0
  refine rp_sorts R (fun D1 r1 s1 s2 s3 => ?_)
  apply mm_pVi
  have Z1 : sv_Z tx k D1 := ⟨s1, s2, s3⟩
  have E1 : sv_E D D1 := sv_E_n r1
  -- the best so far among those met
  have lp : ∀ (m e : Nat) (B : wd) (p : Int) (D2 : mm_D) (o6 o7 : Option mm_V), (e : Int) + m = sv_tot tx → (∀ r, r ≠ 24 → D2 r = D1 r) → sv_R D2 tx k P → sv_Z tx k D2 → D2 24 0 = D 24 0 → sv_gd tx set often B → ((B = [] ∧ p = 0) ∨ (sv_vp tx k p ∧ B <+: sv_sf tx p)) → (∀ w, sv_pr tx D1 (e : Int) w → sv_gd tx set often w → w.length ≤ B.length) → (∀ w, sv_pr tx D1 (e : Int) w → sv_gd tx set often w → w.length = B.length → B = w ∨ lx B w) → (B = [] ∨ sv_pr tx D1 (e : Int) B) → mt 119 8 [some (mm_P 24), some (mm_I set), some (mm_I often), some (mm_I (B.length : Int)), some (mm_I p), some (mm_I (e : Int)), o6, o7] [] (mm_mk D2 u x) Q := by
    intro m
    induction m with
    | zero =>
      intro e B p D2 o6 o7 he hr R2 Z2 f0 hB hp hA hX hI
      have ee : (e : Int) = sv_tot tx := by omega
      rw [ee] at hA hX
      have al := pr_all R.1 Z1
      have lB : (B.length : Int) ≤ 100 := by
        have := fac_len R.1 (gd_fac hB)
        omega
      have hfnd : sv_fnd tx set often B := by
        refine ⟨hB, fun w hw => ?_, fun w hw hl => ?_⟩
        · by_cases q : w = []
          · rw [q]
            exact Nat.zero_le _
          · exact hA w ((al w).mpr ⟨q, gd_fac hw⟩) hw
        · by_cases q : w = []
          · left
            rw [q] at hl ⊢
            exact List.length_eq_zero_iff.mp hl.symm
          · exact hX w ((al w).mpr ⟨q, gd_fac hw⟩) hw hl
      apply q_X5_finds_8
      rw [R2.2.1.2]
      refine ⟨fun _ => ?_, fun y => absurd y (by omega)⟩
      have fin : ∀ D', sv_E D2 D' → sv_R D' tx k B → D' 24 0 = D2 24 0 → mm_pV (fun D1 u2 x3 => Q (.inl (some (mm_I (D1 24 6)))) (mm_mk D1 u2 x3)) (.inl none) (mm_mk D' u x) := by
        intro D' a R' b
        apply mm_pVi
        rw [R'.2.2.2.1]
        exact H D' B (sv_E_t E1 (sv_E_t (fun r h => hr r (by omega)) a)) R' (b.trans f0) hfnd
      rcases hp with ⟨h1, h2⟩ | ⟨h1, h2⟩
      · refine rp_lays R2 lB (by omega) (by omega) ?_ (fun a ha => fac_let R.1 (gd_fac hB) ha) fin
        rw [h1]
        exact fun i hi => absurd hi (by simp)
      · have hb := sv_vpB R.1 h1
        have hl := h2.length_le
        refine rp_lays R2 lB (by omega) (by omega) (fun i hi => ?_) (fun a ha => fac_let R.1 (gd_fac hB) ha) fin
        rw [sv_vpL R2 h1 i (by omega)]
        obtain ⟨s, es⟩ := h2
        rw [← es, wg_l hi]
    | succ m ih =>
      intro e B p D2 o6 o7 he hr R2 Z2 f0 hB hp hA hX hI
      have hh := Z_h Z1 (e := (e : Int)) (by omega)
      have hv1 := Z1.1.1 (e : Int) (by omega) (by omega)
      have hb := sv_vpB R.1 hv1
      have hll : ((sv_e tx D1 (e : Int)).length : Int) = ((sv_sf tx (D1 28 (e : Int))).length : Int) := rfl
      have inn : ∀ (z c : Nat) (B : wd) (p : Int) (D3 : mm_D) (o7 : Option mm_V), c + z = (sv_sf tx (D1 28 (e : Int))).length + 1 → D1 29 (e : Int) < (c : Int) → (∀ r, r ≠ 24 → D3 r = D1 r) → sv_R D3 tx k P → sv_Z tx k D3 → D3 24 0 = D 24 0 → sv_gd tx set often B → ((B = [] ∧ p = 0) ∨ (sv_vp tx k p ∧ B <+: sv_sf tx p)) → (∀ w, sv_pq tx D1 (e : Int) (c : Int) w → sv_gd tx set often w → w.length ≤ B.length) → (∀ w, sv_pq tx D1 (e : Int) (c : Int) w → sv_gd tx set often w → w.length = B.length → B = w ∨ lx B w) → (B = [] ∨ sv_pq tx D1 (e : Int) (c : Int) B) → mt 119 19 [some (mm_P 24), some (mm_I set), some (mm_I often), some (mm_I (B.length : Int)), some (mm_I p), some (mm_I (e : Int)), some (mm_I (c : Int)), o7] [] (mm_mk D3 u x) Q := by
        intro z
        induction z with
        | zero =>
          intro c B p D3 o7 hc hd hr3 R3 Z3 f0 hB hp hA hX hI
          apply q_X5_finds_19
          rw [hr3 28 (by decide)]
          refine ⟨by omega, by omega, ?_⟩
          refine rp_left R3 hv1 ?_
          apply mm_pIi
          refine ⟨fun _ => ⟨by constructor <;> omega, ?_⟩, fun y => absurd y (by omega)⟩
          rw [show (e : Int) + 1 = ((e + 1 : Nat) : Int) by omega]
          have eq : ∀ w, sv_pq tx D1 (e : Int) (c : Int) w ↔ sv_pr tx D1 ((e + 1 : Nat) : Int) w := fun w => by rw [pq_n (by omega) (by omega), show ((e + 1 : Nat) : Int) = (e : Int) + 1 by omega]
          exact ih (e + 1) B p D3 _ _ (by omega) hr3 R3 Z3 f0 hB hp (fun w y => hA w ((eq w).mpr y)) (fun w y => hX w ((eq w).mpr y)) (hI.imp id (fun y => (eq B).mp y))
        | succ z ih2 =>
          intro c B p D3 o7 hc hd hr3 R3 Z3 f0 hB hp hA hX hI
          obtain ⟨b1, b2⟩ := bk_tk (tx := tx) (D := D1) hd (by omega)
          generalize hW : (sv_e tx D1 (e : Int)).take c = w0 at *
          have b3 : sv_bk tx D3 (e : Int) w0 := by
            rw [bk_row (hr3 28 (by decide)) (hr3 29 (by decide))]
            exact b1
          have hS0 : sv_S tx w0 := (bk_ex R.1 Z1).mpr ⟨(e : Int), by omega, b1⟩
          have eq : ∀ w, sv_pq tx D1 (e : Int) ((c + 1 : Nat) : Int) w ↔ sv_pq tx D1 (e : Int) (c : Int) w ∨ w = w0 := fun w => by rw [show ((c + 1 : Nat) : Int) = (c : Int) + 1 by omega, pq_s b1 (by omega)]
          -- passed over
          have skip : ∀ (D4 : mm_D) (o7 : Option mm_V), (∀ r, r ≠ 24 → D4 r = D1 r) → sv_R D4 tx k P → sv_Z tx k D4 → D4 24 0 = D 24 0 → (sv_gd tx set often w0 → w0.length ≤ B.length ∧ (w0.length = B.length → B = w0 ∨ lx B w0)) → mt 119 19 [some (mm_P 24), some (mm_I set), some (mm_I often), some (mm_I (B.length : Int)), some (mm_I p), some (mm_I (e : Int)), some (mm_I ((c : Int) + 1)), o7] [] (mm_mk D4 u x) Q := by
            intro D4 o7 hr4 R4 Z4 f4 h
            rw [show (c : Int) + 1 = ((c + 1 : Nat) : Int) by omega]
            refine ih2 (c + 1) B p D4 _ (by omega) (by omega) hr4 R4 Z4 f4 hB hp (fun w y g => ?_) (fun w y g => ?_) (hI.imp id (fun y => (eq B).mpr (Or.inl y)))
            · rcases (eq w).mp y with y | y
              · exact hA w y g
              · rw [y] at g ⊢
                exact (h g).1
            · rcases (eq w).mp y with y | y
              · exact hX w y g
              · rw [y] at g ⊢
                exact (h g).2
          apply q_X5_finds_19
          rw [hr3 28 (by decide)]
          refine ⟨by omega, by omega, ?_⟩
          refine rp_left R3 hv1 ?_
          apply mm_pIi
          refine ⟨fun y => absurd y (by omega), fun _ => ⟨fun q => ⟨by constructor <;> omega, skip D3 _ hr3 R3 Z3 f0 (fun g => ⟨by omega, fun hl => ?_⟩)⟩, fun q => ?_⟩⟩
          · rcases hI with hI | hI | ⟨hI, hI2⟩
            · rw [hI] at hl
              exact absurd (List.length_eq_zero_iff.mp hl) hS0.1
            · obtain ⟨e', a1, a2, a3⟩ := hI
              exact Or.inr (bk_lt Z1 a1 a2 (by omega) a3 b1)
            · omega
          · rw [← b2]
            refine rp_looks R3 Z3 (by omega) b3 (fun D4 r4 R4 Z4 g0 f9 f10 f11 f12 => ?_)
            apply mm_pVi
            have hr4 : ∀ r, r ≠ 24 → D4 r = D1 r := fun r h => (r4 r h).trans (hr3 r h)
            have hg := gd_test (often := often) hset hS0 f10
            have f4 : D4 24 0 = D 24 0 := g0.trans f0
            rw [f9, b2]
            refine ⟨fun q2 => ⟨by constructor <;> omega, skip D4 _ hr4 R4 Z4 f4 (fun g => absurd (hg.mp g).1 q2)⟩, fun q2 => ⟨fun q3 => ⟨by constructor <;> omega, skip D4 _ hr4 R4 Z4 f4 (fun g => by have := (hg.mp g).2; omega)⟩, fun q3 => ⟨by omega, by omega, by constructor <;> omega, ?_⟩⟩⟩
            have gd0 : sv_gd tx set often w0 := hg.mpr ⟨Decidable.not_not.mp q2, by omega⟩
            rw [hr4 28 (by decide), show (c : Int) + 1 = ((c + 1 : Nat) : Int) by omega, ← b2, b2]
            have key := ih2 (c + 1) w0 (D1 28 (e : Int)) D4 (some (mm_I 1)) (by omega) (by omega) hr4 R4 Z4 f4 gd0 (Or.inr ⟨hv1, b1.1⟩) (fun w y g => ?_) (fun w y g hl => ?_) (Or.inr ((eq w0).mpr (Or.inr rfl)))
            · rw [b2] at key
              exact key
            · rcases (eq w).mp y with y | y
              · have := hA w y g
                omega
              · rw [y]
                exact Nat.le_refl _
            · rcases (eq w).mp y with y | y
              · have := hA w y g
                omega
              · exact Or.inl y.symm
      apply q_X5_finds_8
      rw [R2.2.1.2, hr 29 (by decide)]
      refine ⟨fun y => absurd y (by omega), fun _ => ⟨by omega, by omega, by constructor <;> omega, ?_⟩⟩
      have eh : (((D1 29 (e : Int)).toNat + 1 : Nat) : Int) = D1 29 (e : Int) + 1 := by omega
      have eq : ∀ w, sv_pq tx D1 (e : Int) (((D1 29 (e : Int)).toNat + 1 : Nat) : Int) w ↔ sv_pr tx D1 (e : Int) w := fun w => by rw [eh, pq_0]
      have := inn ((sv_sf tx (D1 28 (e : Int))).length - (D1 29 (e : Int)).toNat) ((D1 29 (e : Int)).toNat + 1) B p D2 o7 (by omega) (by omega) hr R2 Z2 f0 hB hp (fun w y => hA w ((eq w).mp y)) (fun w y => hX w ((eq w).mp y)) (hI.imp id (fun y => (eq B).mpr y))
      rw [eh] at this
      exact this
  exact lp (sv_tot tx).toNat 0 [] 0 D1 none none (by have := sv_tot_0 tx; omega) (fun _ _ => rfl) (sv_R_n R r1) Z1 (by rw [r1 24 (by decide) (by decide)]) (Or.inl rfl) (Or.inl ⟨rfl, rfl⟩) (fun w q => absurd q (pr_0 w)) (fun w q => absurd q (pr_0 w)) (Or.inl rfl)
theorem rs_common {set : Int} (R : sv_R D tx k P) (H1 : 1 ≤ set → set < 2 ^ k.toNat → ∀ D' W, sv_E D D' → sv_R D' tx k W → D' 24 0 = 0 → sv_fnd tx set 1 W → Q (.inl (some (mm_I (W.length : Int)))) (mm_mk D' u x)) (hr : mm_rng set) (H2 : ¬ (1 ≤ set ∧ set < 2 ^ k.toNat) → ∀ D' r, sv_E D D' → sv_R D' tx k P → D' 24 0 = 1 → Q (.inl (some (mm_I r))) (mm_mk D' u x)) : mt 120 0 [some (mm_P 24), some (mm_I set)] [] (mm_mk D u x) Q := by
  have k4 := R.1.1
  unfold mm_rng at hr
  have thr : ¬ (1 ≤ set ∧ set < 2 ^ k.toNat) → ∀ (G : mm_D → Int → mm_Xt → Prop), mt 78 0 [some (mm_P 24), some (mm_I 1)] [] (mm_mk D u x) (mm_pI fun r D9 u10 x11 => (r = 0 → Q (.inl (some (mm_I 0))) (mm_mk D9 u10 x11)) ∧ (¬ r = 0 → G D9 u10 x11)) := by
    intro h G
    apply rp_holds
    apply mm_pIi
    rw [sd_b0 (by decide)]
    exact ⟨fun _ => H2 h _ _ (sv_E_w (by decide)) (sv_R_f R (by decide)) (mm_wr_eq _ _ _ _), fun y => absurd rfl y⟩
  have hp16 : (2 : Int) ^ k.toNat ≤ 16 ∧ 1 ≤ (2 : Int) ^ k.toNat := by
    have : k.toNat = 0 ∨ k.toNat = 1 ∨ k.toNat = 2 ∨ k.toNat = 3 ∨ k.toNat = 4 := by omega
    rcases this with e | e | e | e | e <;> rw [e] <;> decide
  have hdiv : 0 < set → (set / 2 ^ k.toNat = 0 ↔ set < 2 ^ k.toNat) := by
    intro h0
    have : k.toNat = 0 ∨ k.toNat = 1 ∨ k.toNat = 2 ∨ k.toNat = 3 ∨ k.toNat = 4 := by omega
    rcases this with e | e | e | e | e <;> rw [e] <;> omega
  have hdr : 0 < set → mm_rng (set / 2 ^ k.toNat) := by
    intro h0
    have : k.toNat = 0 ∨ k.toNat = 1 ∨ k.toNat = 2 ∨ k.toNat = 3 ∨ k.toNat = 4 := by omega
    rcases this with e | e | e | e | e <;> rw [e] <;> constructor <;> omega
  apply q_X5_common_0
  rw [R.2.1.1]
  refine ⟨fun q => thr (fun y => by omega) _, fun q => ⟨by omega, hdr (by omega), fun q2 => thr (fun y => q2 ((hdiv (by omega)).mpr y.2)) _, fun q2 => ?_⟩⟩
  have q3 := (hdiv (by omega)).mp (Decidable.not_not.mp q2)
  apply rp_holds
  apply mm_pIi
  rw [sd_b1 rfl]
  refine ⟨fun y => absurd y (by decide), fun _ => ?_⟩
  refine rp_finds (sv_R_f R (p := 0) (v := 0) (by decide)) (by omega) (fun D' W a b c d => ?_)
  apply mm_pIi
  exact H1 (by omega) q3 D' W (sv_E_t (sv_E_w (by decide)) a) b (by rw [c, mm_wr_eq]) d
theorem rs_repeated {often : Int} (R : sv_R D tx k P) (H1 : 1 ≤ often → ∀ D' W, sv_E D D' → sv_R D' tx k W → D' 24 0 = 0 → sv_fnd tx 0 often W → Q (.inl (some (mm_I (W.length : Int)))) (mm_mk D' u x)) (H2 : ¬ 1 ≤ often → ∀ D' r, sv_E D D' → sv_R D' tx k P → D' 24 0 = 1 → Q (.inl (some (mm_I r))) (mm_mk D' u x)) : mt 121 0 [some (mm_P 24), some (mm_I often)] [] (mm_mk D u x) Q := by
  apply q_X5_repeated_0
  refine ⟨fun q => ?_, fun q => ?_⟩
  · apply rp_holds
    apply mm_pIi
    rw [sd_b0 (by decide)]
    exact ⟨fun _ => H2 (by omega) _ _ (sv_E_w (by decide)) (sv_R_f R (by decide)) (mm_wr_eq _ _ _ _), fun y => absurd rfl y⟩
  · apply rp_holds
    apply mm_pIi
    rw [sd_b1 rfl]
    refine ⟨fun y => absurd y (by decide), fun _ => ?_⟩
    refine rp_finds (sv_R_f R (p := 0) (v := 0) (by decide)) (by decide) (fun D' W a b c d => ?_)
    apply mm_pIi
    exact H1 (by omega) D' W (sv_E_t (sv_E_w (by decide)) a) b (by rw [c, mm_wr_eq]) d
end FD
