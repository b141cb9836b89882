/-! the law: arePlaces -/
/-- of the places that were looked at: all of the texts before t, and of text t those before i -/
def pg (tx : Nat → wd) (R : Nat → Nat → Int → Prop) (t i : Nat) (a : Int) : Prop := ∃ t' i' : Nat, (t' < t ∨ (t' = t ∧ i' < i)) ∧ i' < (tx t').length ∧ R t' i' a
theorem pg_s {tx : Nat → wd} {R : Nat → Nat → Int → Prop} {t i : Nat} {a : Int} (hi : i < (tx t).length) : pg tx R t (i + 1) a ↔ pg tx R t i a ∨ R t i a := by
  constructor
  · rintro ⟨t', i', h1, h2, h3⟩
    by_cases e : t' = t ∧ i' = i
    · right
      rw [← e.1, ← e.2]
      exact h3
    · left
      exact ⟨t', i', by omega, h2, h3⟩
  · rintro (⟨t', i', h1, h2, h3⟩ | h)
    · exact ⟨t', i', by omega, h2, h3⟩
    · exact ⟨t, i, by omega, hi, h⟩
theorem pg_n {tx : Nat → wd} {R : Nat → Nat → Int → Prop} {t : Nat} {a : Int} : pg tx R t (tx t).length a ↔ pg tx R (t + 1) 0 a := by
  constructor
  · rintro ⟨t', i', h1, h2, h3⟩
    exact ⟨t', i', by omega, h2, h3⟩
  · rintro ⟨t', i', h1, h2, h3⟩
    refine ⟨t', i', ?_, h2, h3⟩
    by_cases e : t' = t
    · rw [e] at h2
      exact Or.inr ⟨e, h2⟩
    · exact Or.inl (by omega)
def pR3 (tx : Nat → wd) (P : wd) (t i : Nat) (a : Int) : Prop := stn (tx t) P i ∧ i + P.length < (tx t).length ∧ a = wg (tx t) (i + P.length)
def pR4 (tx : Nat → wd) (P : wd) (t i : Nat) (a : Int) : Prop := stn (tx t) P i ∧ 0 < i ∧ a = wg (tx t) (i - 1)
section LP
variable {D : mm_D} {u : Int} {x : mm_Xt} {Q : mm_O → mm_H → Prop} {tx : Nat → wd} {k : Int} {P : wd} {K : Int → mm_D → Int → mm_Xt → Prop} {KX : Nat → mm_D → Int → mm_Xt → Prop}
theorem pg_no {R : Nat → Nat → Int → Prop} {t i : Nat} {v : Int} (hi : i < (tx t).length) (b : bm v (pg tx R t i)) (h : ∀ a, ¬ R t i a) : bm v (pg tx R t (i + 1)) := bm_c b (fun a _ => ⟨fun q => (pg_s hi).mpr (Or.inl q), fun q => ((pg_s hi).mp q).elim id (fun z => absurd z (h _))⟩)
theorem pg_yes {R : Nat → Nat → Int → Prop} {t i : Nat} {v c : Int} (hi : i < (tx t).length) (b : bm v (pg tx R t i)) (hc : 0 ≤ c ∧ c < 26) (h : ∀ a, R t i a ↔ a = c) : bm (mm_or v ((1 : Int) * 2 ^ c.toNat)) (pg tx R t (i + 1)) := by
  refine bm_c (bm_or b (a := c.toNat) (by omega)) (fun a _ => ?_)
  rw [pg_s hi, h, Int.toNat_of_nonneg hc.1]
theorem eqv3 (T : sv_T tx k P) (h0 : P ≠ []) (a : Int) : fac tx (P ++ [a]) ↔ pg tx (pR3 tx P) k.toNat 0 a := by
  rw [fac_st (by simp)]
  constructor
  · rintro ⟨t, i, h⟩
    obtain ⟨h1, h2, h3⟩ := (stn_snoc h0).mp h
    have := (tx_lt T (j := t) (by omega)).1
    exact ⟨t, i, by omega, by omega, h1, h2, h3⟩
  · rintro ⟨t, i, _, _, h1, h2, h3⟩
    exact ⟨t, i, (stn_snoc h0).mpr ⟨h1, h2, h3⟩⟩
theorem eqv4 (T : sv_T tx k P) (h0 : P ≠ []) (a : Int) : fac tx ([a] ++ P) ↔ pg tx (pR4 tx P) k.toNat 0 a := by
  rw [fac_st (by simp)]
  constructor
  · rintro ⟨t, i, h⟩
    obtain ⟨h1, h2⟩ := (stn_cons h0).mp h
    have := stn_len h1
    have := List.length_pos_iff.mpr h0
    have := (tx_lt T (j := t) (by omega)).1
    exact ⟨t, i + 1, by omega, by omega, h1, by omega, h2⟩
  · rintro ⟨t, i, _, _, h1, h2, h3⟩
    exact ⟨t, i - 1, (stn_cons h0).mpr ⟨by rw [show i - 1 + 1 = i by omega]; exact h1, h3⟩⟩
theorem lw_inner {t : Nat} {v1 : Int} (C : sv_C D tx k P) (ht : (t : Int) < k) (hv1 : 0 ≤ v1 ∧ v1 ≤ 400) (KT : ∀ (v3 v4 : Int) (o6 o7 o8 o9 : Option mm_V), bm v3 (pg tx (pR3 tx P) (t + 1) 0) → bm v4 (pg tx (pR4 tx P) (t + 1) 0) → mt 80 10 [some (mm_P 0), some (mm_I (v1 + en_of tx 15 P (t : Int))), some (mm_I 1), some (mm_I v3), some (mm_I v4), some (mm_I ((t + 1 : Nat) : Int)), o6, o7, o8, o9] [] (mm_mk D u x) Q) :
    ∀ (z i : Nat) (v3 v4 : Int), i + z = (tx t).length → bm v3 (pg tx (pR3 tx P) t i) → bm v4 (pg tx (pR4 tx P) t i) → mt 80 22 [some (mm_P 0), some (mm_I v1), some (mm_I 1), some (mm_I v3), some (mm_I v4), some (mm_I (t : Int)), some (mm_I (cN (stn (tx t) P) i)), some (mm_I (fN (stn (tx t) P) i)), some (mm_I (laN (stn (tx t) P) i)), some (mm_I (i : Int))] [] (mm_mk D u x) Q := by
  have k4 := C.1.1
  have hP := C.1.2.2.1
  have hl := sv_len (T := C.1) t
  have hlet : ∀ j, j < (tx t).length → 0 ≤ wg (tx t) j ∧ wg (tx t) j < 26 := fun j hj => C.1.2.2.2.1 t _ (wg_mem hj)
  intro z
  induction z with
  | zero =>
    intro i v3 v4 hi b3 b4
    have ei : i = (tx t).length := by omega
    subst ei
    have e1 : en_of tx 15 P (t : Int) = cN (stn (tx t) P) (tx t).length := (cN_starts (tx t) P).symm
    have e2 : sv_bg P (en_of tx 16 P (t : Int)) = fN (stn (tx t) P) (tx t).length := (fN_starts (tx t) P).symm
    have e3 : sv_bg P (en_of tx 17 P (t : Int)) = laN (stn (tx t) P) (tx t).length := (laN_starts (tx t) P).symm
    have hb := cN_b (stn (tx t) P) (tx t).length
    apply q_L_arePlaces_22
    refine l_len C ht ⟨fun _ => ⟨by constructor <;> omega, fun q => absurd q (by decide), fun _ => ?_⟩, fun q => absurd (Int.le_refl _) q⟩
    refine l_occIn C ht ⟨fun q => absurd e1 q, fun _ => ?_⟩
    refine l_first C ht ⟨fun q => absurd e2 q, fun _ => ?_⟩
    refine l_last C ht ⟨fun q => absurd e3 q, fun _ => ?_⟩
    apply q_L_arePlaces_106
    refine ⟨by constructor <;> omega, ?_⟩
    rw [← e1]
    exact KT v3 v4 _ _ _ _ (bm_c b3 (fun a _ => pg_n)) (bm_c b4 (fun a _ => pg_n))
  | succ z ih =>
    intro i v3 v4 hi b3 b4
    have hlt : i < (tx t).length := by omega
    have hcb := cN_b (stn (tx t) P) i
    apply q_L_arePlaces_22
    refine l_len C ht ⟨fun q => absurd q (by omega), fun _ => ?_⟩
    refine lw_stands C ht hlt ?_
    by_cases hs : stn (tx t) P i
    · rw [cI_1 hs]
      have e6 : cN (stn (tx t) P) i + 1 = cN (stn (tx t) P) (i + 1) := by rw [cN_s, cI_1 hs]
      have e9 : laN (stn (tx t) P) (i + 1) = (i : Int) := by rw [laN_s, if_pos hs]
      have s79 : ∀ w3 w4 : Int, bm w3 (pg tx (pR3 tx P) t (i + 1)) → bm w4 (pg tx (pR4 tx P) t (i + 1)) → mt 80 79 [some (mm_P 0), some (mm_I v1), some (mm_I 1), some (mm_I w3), some (mm_I w4), some (mm_I (t : Int)), some (mm_I (cN (stn (tx t) P) (i + 1))), some (mm_I (fN (stn (tx t) P) (i + 1))), some (mm_I (i : Int)), some (mm_I (i : Int))] [] (mm_mk D u x) Q := by
        intro w3 w4 d3 d4
        apply q_L_arePlaces_79
        have := ih (i + 1) w3 w4 (by omega) d3 d4
        rw [e9] at this
        exact ⟨by constructor <;> omega, this⟩
      have hsl := stn_len hs
      have y3 : i + P.length < (tx t).length → bm (mm_or v3 ((1 : Int) * 2 ^ (wg (tx t) (i + P.length)).toNat)) (pg tx (pR3 tx P) t (i + 1)) := fun h => pg_yes hlt b3 (hlet _ h) (fun a => ⟨fun q => q.2.2, fun q => ⟨hs, h, q⟩⟩)
      have n3 : ¬ i + P.length < (tx t).length → bm (mm_or v3 0) (pg tx (pR3 tx P) t (i + 1)) := fun h => by
        rw [bm_or0 b3]
        exact pg_no hlt b3 (fun a q => h q.2.1)
      have y4 : 0 < i → bm (mm_or v4 ((1 : Int) * 2 ^ (wg (tx t) (i - 1)).toNat)) (pg tx (pR4 tx P) t (i + 1)) := fun h => pg_yes hlt b4 (hlet _ (by omega)) (fun a => ⟨fun q => q.2.2, fun q => ⟨hs, h, q⟩⟩)
      have n4 : ¬ 0 < i → bm (mm_or v4 0) (pg tx (pR4 tx P) t (i + 1)) := fun h => by
        rw [bm_or0 b4]
        exact pg_no hlt b4 (fun a q => h q.2.1)
      have tw : ∀ j, j < (tx t).length → ((0 : Int) ≤ 1 ∧ 0 ≤ wg (tx t) j ∧ wg (tx t) j < 31) ∧ mm_rng ((1 : Int) * 2 ^ (wg (tx t) j).toNat) := fun j hj => by
        have := hlet j hj
        exact ⟨by omega, two_rng (by omega)⟩
      have s40 : mt 80 40 [some (mm_P 0), some (mm_I v1), some (mm_I 1), some (mm_I v3), some (mm_I v4), some (mm_I (t : Int)), some (mm_I (cN (stn (tx t) P) (i + 1))), some (mm_I (fN (stn (tx t) P) (i + 1))), some (mm_I (laN (stn (tx t) P) i)), some (mm_I (i : Int))] [] (mm_mk D u x) Q := by
        apply q_L_arePlaces_40
        apply l_plen C
        refine ⟨by constructor <;> omega, ?_⟩
        refine l_len C ht ⟨fun q => ⟨fun q2 => s79 _ _ (n3 (by omega)) (n4 (by omega)), fun q2 => ?_⟩, fun q => ?_⟩
        · have e1 : (i : Int) - 1 = ((i - 1 : Nat) : Int) := by omega
          rw [e1]
          refine ⟨by constructor <;> omega, ?_⟩
          refine l_let C ht (by omega) ?_
          obtain ⟨w1, w2⟩ := tw (i - 1) (by omega)
          exact ⟨w1, w2, s79 _ _ (n3 (by omega)) (y4 (by omega))⟩
        · apply l_plen C
          refine ⟨by constructor <;> omega, ?_⟩
          refine l_let (i := i + P.length) C ht (by omega) ?_
          obtain ⟨w1, w2⟩ := tw (i + P.length) (by omega)
          refine ⟨w1, w2, fun q2 => s79 _ _ (y3 (by omega)) (n4 (by omega)), fun q2 => ?_⟩
          have e1 : (i : Int) - 1 = ((i - 1 : Nat) : Int) := by omega
          rw [e1]
          refine ⟨by constructor <;> omega, ?_⟩
          refine l_let C ht (by omega) ?_
          obtain ⟨w1, w2⟩ := tw (i - 1) (by omega)
          exact ⟨w1, w2, s79 _ _ (y3 (by omega)) (y4 (by omega))⟩
      refine ⟨fun q => absurd q (by decide), fun _ => ⟨by constructor <;> omega, fun q => ?_, fun q => ?_⟩⟩
      · have e7 : fN (stn (tx t) P) (i + 1) = fN (stn (tx t) P) i := by rw [fN_s, if_neg q]
        rw [e6, ← e7]
        exact s40
      · have e7 : fN (stn (tx t) P) (i + 1) = (i : Int) := by rw [fN_s, if_pos (Decidable.not_not.mp q), if_pos hs]
        rw [e7] at s40
        rw [e6]
        exact s40
    · rw [cI_0 hs]
      refine ⟨fun _ => ?_, fun q => absurd rfl q⟩
      have e6 : cN (stn (tx t) P) (i + 1) = cN (stn (tx t) P) i := by rw [cN_s, cI_0 hs, Int.add_zero]
      have e7 : fN (stn (tx t) P) (i + 1) = fN (stn (tx t) P) i := by
        rw [fN_s]
        by_cases q : fN (stn (tx t) P) i = -1
        · rw [if_pos q, if_neg hs, q]
        · rw [if_neg q]
      have e8 : laN (stn (tx t) P) (i + 1) = laN (stn (tx t) P) i := by rw [laN_s, if_neg hs]
      apply q_L_arePlaces_79
      have := ih (i + 1) v3 v4 (by omega) (pg_no hlt b3 (fun a q => hs q.1)) (pg_no hlt b4 (fun a q => hs q.1))
      rw [e6, e7, e8] at this
      exact ⟨by constructor <;> omega, this⟩
theorem lw_places (C : sv_C D tx k P) (H : K 1 D u x) : mt 80 0 [some (mm_P 0), none, none, none, none, none, none, none, none, none] [] (mm_mk D u x) (mm_pIx K KX) := by
  have k4 := C.1.1
  have hP := C.1.2.2.1
  have b0 := en_b tx P 0
  have b1 := en_b tx P 1
  have b2 := en_b tx P 2
  have b3 := en_b tx P 3
  have hAd : en_all tx P = en_of tx 15 P 0 + en_of tx 15 P 1 + en_of tx 15 P 2 + en_of tx 15 P 3 := rfl
  have hpos := en_all_pos C.1 (w := P)
  have s149 : ∀ (v3 v4 v5 : Int) (o6 o7 o8 o9 : Option mm_V), mt 80 149 [some (mm_P 0), some (mm_I (en_all tx P)), some (mm_I 1), some (mm_I v3), some (mm_I v4), some (mm_I v5), o6, o7, o8, o9] [] (mm_mk D u x) (mm_pIx K KX) := by
    intro v3 v4 v5 o6 o7 o8 o9
    apply q_L_arePlaces_149
    refine ⟨fun q => absurd q (by decide), fun _ => ⟨fun q => ?_, fun q => ?_⟩⟩
    · have hf := hpos.mp (by omega)
      refine cs_longest C (fun h => absurd hf h) (fun d _ _ hs _ _ => mm_pIi ?_)
      have hdl := hs.length_le
      apply l_plen C
      refine ⟨fun q => absurd q (by omega), fun _ => ?_⟩
      refine cs_shortest C (fun h => absurd hf h) (fun s _ _ s1 s2 _ _ => mm_pIi ?_)
      apply l_plen C
      refine ⟨fun q => absurd q (by omega), fun _ => ?_⟩
      refine cs_shortest C (fun h => absurd hf h) (fun s _ _ s1 s2 _ _ => mm_pIi ?_)
      refine ⟨fun q => absurd q (by omega), fun _ => ?_⟩
      apply q_L_arePlaces_176
      exact mm_pIxi H
    · have hf : ¬ (P ≠ [] ∧ fac tx P) := fun h => q (by have := hpos.mpr h; omega)
      refine cs_longest C (fun _ => mm_pIi ?_) (fun d h1 h2 _ _ _ => absurd ⟨h1, h2⟩ hf)
      refine ⟨fun q => absurd rfl q, fun _ => ?_⟩
      refine cs_shortest C (fun _ => mm_pIi ?_) (fun s h1 h2 _ _ _ _ => absurd ⟨h1, h2⟩ hf)
      refine ⟨fun q => absurd rfl q, fun _ => ?_⟩
      apply q_L_arePlaces_176
      exact mm_pIxi H
  have s115 : ∀ (v3 v4 v5 : Int) (o6 o7 o8 o9 : Option mm_V), (v5 = 0 ∧ P ≠ []) ∨ (v5 = 1 ∧ P = []) → bm v3 (pg tx (pR3 tx P) k.toNat 0) → bm v4 (pg tx (pR4 tx P) k.toNat 0) → mt 80 115 [some (mm_P 0), some (mm_I (en_all tx P)), some (mm_I 1), some (mm_I v3), some (mm_I v4), some (mm_I v5), o6, o7, o8, o9] [] (mm_mk D u x) (mm_pIx K KX) := by
    intro v3 v4 v5 o6 o7 o8 o9 h5 m3 m4
    have s145 : mt 80 145 [some (mm_P 0), some (mm_I (en_all tx P)), some (mm_I 1), some (mm_I v3), some (mm_I v4), some (mm_I v5), o6, o7, o8, o9] [] (mm_mk D u x) (mm_pIx K KX) := by
      apply q_L_arePlaces_145
      exact s149 _ _ _ _ _ _ _
    apply q_L_arePlaces_115
    refine ⟨fun q => absurd q (by decide), fun _ => ?_⟩
    apply l_occ C
    refine ⟨fun q => absurd rfl q, fun _ => ?_⟩
    apply l_isPart C
    refine ⟨fun qa => ⟨fun e => absurd (cI_0 (fun h => by have := hpos.mpr h; omega)) e, fun _ => ?_⟩, fun qa => ⟨fun e => absurd (cI_1 (hpos.mp (by omega))) e, fun _ => ?_⟩⟩
    · refine ⟨fun q5 => ?_, fun q5 => ?_⟩
      · have h0 : P ≠ [] := by
          rcases h5 with h | h
          · exact h.2
          · omega
        refine l_follow C (fun z hz => ⟨fun e => absurd (bm_uniq hz m3 (fun a _ => eqv3 C.1 h0 _)) e, fun _ => ?_⟩)
        refine l_lead C (fun z hz => ⟨fun e => absurd (bm_uniq hz m4 (fun a _ => eqv4 C.1 h0 _)) e, fun _ => s145⟩)
      · have h0 : P = [] := by
          rcases h5 with h | h
          · exact absurd h.1 q5
          · exact h.2
        refine l_follow C (fun z hz => ?_)
        refine l_lead C (fun z2 hz2 => ⟨fun e => absurd (bm_uniq hz hz2 (fun a _ => by rw [h0]; exact Iff.rfl)) e, fun _ => s145⟩)
    · refine ⟨fun q5 => ?_, fun q5 => ?_⟩
      · have h0 : P ≠ [] := by
          rcases h5 with h | h
          · exact h.2
          · omega
        refine l_follow C (fun z hz => ⟨fun e => absurd (bm_uniq hz m3 (fun a _ => eqv3 C.1 h0 _)) e, fun _ => ?_⟩)
        refine l_lead C (fun z hz => ⟨fun e => absurd (bm_uniq hz m4 (fun a _ => eqv4 C.1 h0 _)) e, fun _ => s145⟩)
      · have h0 : P = [] := by
          rcases h5 with h | h
          · exact absurd h.1 q5
          · exact h.2
        refine l_follow C (fun z hz => ?_)
        refine l_lead C (fun z2 hz2 => ⟨fun e => absurd (bm_uniq hz hz2 (fun a _ => by rw [h0]; exact Iff.rfl)) e, fun _ => s145⟩)
  have smb : ∀ t : Nat, 0 ≤ sm (fun t => en_of tx 15 P (t : Int)) t ∧ sm (fun t => en_of tx 15 P (t : Int)) t ≤ 100 * (t : Int) := by
    intro t
    induction t with
    | zero => exact ⟨Int.le_refl _, Int.le_refl _⟩
    | succ t ih =>
      have hb := en_b tx P (t : Int)
      have hl := sv_len (T := C.1) t
      have e : sm (fun t => en_of tx 15 P (t : Int)) (t + 1) = sm (fun t => en_of tx 15 P (t : Int)) t + en_of tx 15 P (t : Int) := rfl
      have hb2 : en_of tx 15 P (t : Int) ≤ ((tx t).length : Int) := hb.2
      rw [e]
      omega
  apply q_L_arePlaces_0
  have lp : ∀ (z t : Nat) (v3 v4 : Int) (o6 o7 o8 o9 : Option mm_V), t + z = k.toNat → bm v3 (pg tx (pR3 tx P) t 0) → bm v4 (pg tx (pR4 tx P) t 0) → mt 80 10 [some (mm_P 0), some (mm_I (sm (fun t => en_of tx 15 P (t : Int)) t)), some (mm_I 1), some (mm_I v3), some (mm_I v4), some (mm_I (t : Int)), o6, o7, o8, o9] [] (mm_mk D u x) (mm_pIx K KX) := by
    intro z
    induction z with
    | zero =>
      intro t v3 v4 o6 o7 o8 o9 ht m3 m4
      have et : t = k.toNat := by omega
      subst et
      have eA : sm (fun t => en_of tx 15 P (t : Int)) k.toNat = en_all tx P := sm_k (by omega) (fun t ht => en_none C.1 P (by omega))
      rw [eA]
      apply q_L_arePlaces_10
      apply l_texts C
      refine ⟨fun _ => ?_, fun q => absurd (by omega) q⟩
      apply l_plen C
      refine ⟨fun q => s115 _ _ _ _ _ _ _ (Or.inl ⟨rfl, fun e => q (by rw [e]; rfl)⟩) m3 m4, fun q => s115 _ _ _ _ _ _ _ (Or.inr ⟨rfl, List.length_eq_zero_iff.mp (by omega)⟩) m3 m4⟩
    | succ z ih =>
      intro t v3 v4 o6 o7 o8 o9 ht m3 m4
      have hb := smb t
      apply q_L_arePlaces_10
      apply l_texts C
      refine ⟨fun q => absurd q (by omega), fun _ => ?_⟩
      exact lw_inner C (by omega) ⟨hb.1, by omega⟩ (fun w3 w4 o6 o7 o8 o9 c3 c4 => ih (t + 1) w3 w4 o6 o7 o8 o9 (by omega) c3 c4) (tx t).length 0 v3 v4 (by omega) m3 m4
  exact lp k.toNat 0 0 0 none none none none (by omega) (bm_0 (fun a _ q => by obtain ⟨t', i', h1, _⟩ := q; omega)) (bm_0 (fun a _ q => by obtain ⟨t', i', h1, _⟩ := q; omega))
end LP
