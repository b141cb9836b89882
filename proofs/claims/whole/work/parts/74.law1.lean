/-! the law: one call of each kind -/
theorem lw_cmp {kk r u th : Int} {X Y Z : Prop} (h0 : th = kk) (h1 : kk = 0 → u = r) (hX : X) : (th = kk → (¬ kk = 0 → X) ∧ (¬ ¬ kk = 0 → (mm_cmp u r = 0 → X) ∧ (¬ mm_cmp u r = 0 → Y))) ∧ (¬ th = kk → Z) := by
  refine ⟨fun _ => ⟨fun _ => hX, fun q => ⟨fun _ => hX, fun q2 => absurd ?_ q2⟩⟩, fun q => absurd h0 q⟩
  rw [h1 (Decidable.not_not.mp q)]
  unfold mm_cmp
  rw [if_neg (by omega), if_pos rfl]
theorem sv_R_F {D D' : mm_D} {tx : Nat → wd} {k : Int} {P : wd} (F : sv_F D D') (R : sv_R D tx k P) : sv_R D' tx k P := sv_R_row R (by rw [F 24 (by decide)]) (by rw [F 24 (by decide)]) (by rw [F 24 (by decide)]) (F 25 (by decide)) (F 26 (by decide)) (F 27 (by decide))
theorem sv_C_E {D D' : mm_D} {tx : Nat → wd} {k : Int} {P : wd} (E : sv_E D D') (C : sv_C D tx k P) : sv_C D' tx k P := sv_C_row (fun r h _ _ => E r h) C
def lw_K (x : mm_Xt) (v4 : Int) (Q : mm_O → mm_H → Prop) : Prop := ∀ (D' : mm_D) (u' : Int) (x' : mm_Xt) (tx' : Nat → wd) (k' : Int) (P' : wd) (o5 o6 : Option mm_V), sv_C D' tx' k' P' → sv_R D' tx' k' P' → x'.2.2 = x.2.2 → x'.1 ≤ x.1 + 1 → x'.2.1 ≤ x.2.1 + 6 → mt 139 646 [some (mm_P 999), some (mm_P 0), some (mm_P 24), some (mm_P 30), some (mm_I v4), o5, o6] [] (mm_mk D' u' x') Q
theorem lw_arg {s : List Int} {x : mm_Xt} (hx : x.2.2 = 0 :: s) {p : Int} (h0 : 0 ≤ p) (h1 : p < (s.length : Int)) : x.2.2[p.toNat + 1]? = some (wg s p.toNat) := by
  rw [hx, List.getElem?_cons_succ, wg_e, List.getElem?_eq_getElem (by omega)]
  rfl
section LW
variable {D : mm_D} {u : Int} {x : mm_Xt} {Q : mm_O → mm_H → Prop} {tx : Nat → wd} {k : Int} {P : wd} {v4 : Int} {s : List Int} {o5 o6 : Option mm_V}
/-- behind both calls of a method that may throw -/
theorem lw_fin (K : lw_K x v4 Q) {D' : mm_D} {u' : Int} {x' : mm_Xt} {tx' : Nat → wd} {k' : Int} {P' : wd} {kk r : Int} (C : sv_C D' tx' k' P') (R : sv_R D' tx' k' P') (e1 : x'.2.2 = x.2.2) (e2 : x'.1 ≤ x.1 + 1) (e3 : x'.2.1 ≤ x.2.1 + 6) (h0 : D' 24 0 = kk) (h1 : kk = 0 → u' = r) : mt 77 0 [some (mm_P 24)] [] (mm_mk D' u' x') (mm_pI fun r12 D9 u10 x11 => ((r12 = kk) → ((¬ kk = 0) → mt 139 646 [some (mm_P 999), some (mm_P 0), some (mm_P 24), some (mm_P 30), some (mm_I v4), some (mm_I kk), some (mm_I r)] [] (mm_mk D9 u10 x11) Q) ∧ (¬ (¬ kk = 0) → (((mm_cmp u10 r) = 0) → mt 139 646 [some (mm_P 999), some (mm_P 0), some (mm_P 24), some (mm_P 30), some (mm_I v4), some (mm_I kk), some (mm_I r)] [] (mm_mk D9 u10 x11) Q) ∧ (¬ ((mm_cmp u10 r) = 0) → Q (.inl (some (mm_I 0))) (mm_mk D9 u10 x11)))) ∧ (¬ (r12 = kk) → Q (.inl (some (mm_I 0))) (mm_mk D9 u10 x11))) := by
  apply rp_thrown
  apply mm_pIi
  exact lw_cmp h0 h1 (K D' u' x' tx' k' P' _ _ C R e1 e2 e3)

theorem lw_25 (C : sv_C D tx k P) (R : sv_R D tx k P) (K : lw_K x v4 Q) : mt 139 25 [some (mm_P 999), some (mm_P 0), some (mm_P 24), some (mm_P 30), some (mm_I v4), o5, o6] [] (mm_mk D u x) Q := by
  apply q_L_law_25
  refine cs_clear (D := D) (fun D1 F1 C1 => ?_)
  apply mm_pVi
  refine rs_clear (fun D2 E2 R2 _ => ?_)
  apply mm_pVi
  exact K _ _ _ _ _ _ _ _ (sv_C_E E2 C1) R2 rfl (Nat.le_succ _) (Nat.le_add_right _ _)
theorem lw_100 (C : sv_C D tx k P) (R : sv_R D tx k P) (K : lw_K x v4 Q) : mt 139 100 [some (mm_P 999), some (mm_P 0), some (mm_P 24), some (mm_P 30), some (mm_I v4), o5, o6] [] (mm_mk D u x) Q := by
  apply q_L_law_100
  apply cs_texts C
  apply mm_pIi
  refine rs_texts R (fun D2 E2 R2 => ?_)
  apply mm_pIi
  exact ⟨fun _ => K _ _ _ _ _ _ _ _ (sv_C_E E2 C) R2 rfl (Nat.le_succ _) (Nat.le_add_right _ _), fun q => absurd rfl q⟩
theorem lw_296 (C : sv_C D tx k P) (R : sv_R D tx k P) (K : lw_K x v4 Q) : mt 139 296 [some (mm_P 999), some (mm_P 0), some (mm_P 24), some (mm_P 30), some (mm_I v4), o5, o6] [] (mm_mk D u x) Q := by
  apply q_L_law_296
  apply cs_patternLength C
  apply mm_pIi
  refine rs_patternLength R (fun D2 E2 R2 => ?_)
  apply mm_pIi
  exact ⟨fun _ => K _ _ _ _ _ _ _ _ (sv_C_E E2 C) R2 rfl (Nat.le_succ _) (Nat.le_add_right _ _), fun q => absurd rfl q⟩
theorem lw_338 (C : sv_C D tx k P) (R : sv_R D tx k P) (K : lw_K x v4 Q) : mt 139 338 [some (mm_P 999), some (mm_P 0), some (mm_P 24), some (mm_P 30), some (mm_I v4), o5, o6] [] (mm_mk D u x) Q := by
  apply q_L_law_338
  apply cs_isPart C
  apply mm_pIi
  refine rs_isPart R (fun D2 E2 R2 => ?_)
  apply mm_pIi
  exact ⟨fun _ => K _ _ _ _ _ _ _ _ (sv_C_E E2 C) R2 rfl (Nat.le_succ _) (Nat.le_add_right _ _), fun q => absurd rfl q⟩
theorem lw_345 (C : sv_C D tx k P) (R : sv_R D tx k P) (K : lw_K x v4 Q) : mt 139 345 [some (mm_P 999), some (mm_P 0), some (mm_P 24), some (mm_P 30), some (mm_I v4), o5, o6] [] (mm_mk D u x) Q := by
  apply q_L_law_345
  apply cs_occurrences C
  apply mm_pIi
  refine rs_occurrences R (fun D2 E2 R2 => ?_)
  apply mm_pIi
  exact ⟨fun _ => K _ _ _ _ _ _ _ _ (sv_C_E E2 C) R2 rfl (Nat.le_succ _) (Nat.le_add_right _ _), fun q => absurd rfl q⟩
theorem lw_247 (C : sv_C D tx k P) (R : sv_R D tx k P) (K : lw_K x v4 Q) : mt 139 247 [some (mm_P 999), some (mm_P 0), some (mm_P 24), some (mm_P 30), some (mm_I v4), o5, o6] [] (mm_mk D u x) Q := by
  apply q_L_law_247
  refine cs_wipe C (fun D1 F1 C1 => ?_)
  apply mm_pIi
  refine rs_wipe (sv_R_F F1 R) (fun D2 E2 R2 => ?_)
  apply mm_pIi
  exact ⟨fun _ => K _ _ _ _ _ _ _ _ (sv_C_E E2 C1) R2 rfl (Nat.le_succ _) (Nat.le_add_right _ _), fun q => absurd rfl q⟩
theorem lw_457 (C : sv_C D tx k P) (R : sv_R D tx k P) (K : lw_K x v4 Q) : mt 139 457 [some (mm_P 999), some (mm_P 0), some (mm_P 24), some (mm_P 30), some (mm_I v4), o5, o6] [] (mm_mk D u x) Q := by
  apply q_L_law_457
  refine cs_followers C (fun z hz => ?_)
  apply mm_pIi
  refine rs_followers R (fun z2 D2 E2 R2 hz2 => ?_)
  apply mm_pIi
  exact ⟨fun _ => K _ _ _ _ _ _ _ _ (sv_C_E E2 C) R2 rfl (Nat.le_succ _) (Nat.le_add_right _ _), fun q => absurd (bm_uniq hz hz2 (fun _ _ => Iff.rfl)) q⟩
theorem lw_464 (C : sv_C D tx k P) (R : sv_R D tx k P) (K : lw_K x v4 Q) : mt 139 464 [some (mm_P 999), some (mm_P 0), some (mm_P 24), some (mm_P 30), some (mm_I v4), o5, o6] [] (mm_mk D u x) Q := by
  apply q_L_law_464
  refine cs_leaders C (fun z hz => ?_)
  apply mm_pIi
  refine rs_leaders R (fun z2 D2 E2 R2 hz2 => ?_)
  apply mm_pIi
  exact ⟨fun _ => K _ _ _ _ _ _ _ _ (sv_C_E E2 C) R2 rfl (Nat.le_succ _) (Nat.le_add_right _ _), fun q => absurd (bm_uniq hz hz2 (fun _ _ => Iff.rfl)) q⟩
theorem lw_471 (C : sv_C D tx k P) (R : sv_R D tx k P) (K : lw_K x v4 Q) : mt 139 471 [some (mm_P 999), some (mm_P 0), some (mm_P 24), some (mm_P 30), some (mm_I v4), o5, o6] [] (mm_mk D u x) Q := by
  apply q_L_law_471
  refine cs_classes C (fun m hm => ?_)
  apply mm_pIi
  refine rs_classes R (fun m2 D2 E2 R2 hm2 => ?_)
  apply mm_pIi
  exact ⟨fun _ => K _ _ _ _ _ _ _ _ (sv_C_E E2 C) R2 rfl (Nat.le_succ _) (Nat.le_add_right _ _), fun q => absurd (sz_uniq hm hm2 (fun _ => Iff.rfl)) q⟩
theorem lw_492 (C : sv_C D tx k P) (R : sv_R D tx k P) (K : lw_K x v4 Q) : mt 139 492 [some (mm_P 999), some (mm_P 0), some (mm_P 24), some (mm_P 30), some (mm_I v4), o5, o6] [] (mm_mk D u x) Q := by
  apply q_L_law_492
  refine cs_parts C (fun m hm => ?_)
  apply mm_pIi
  refine rs_parts R (fun m2 D2 E2 R2 hm2 => ?_)
  apply mm_pIi
  exact ⟨fun _ => K _ _ _ _ _ _ _ _ (sv_C_E E2 C) R2 rfl (Nat.le_succ _) (Nat.le_add_right _ _), fun q => absurd (sz_uniq hm hm2 (fun _ => Iff.rfl)) q⟩
theorem lw_499 (C : sv_C D tx k P) (R : sv_R D tx k P) (K : lw_K x v4 Q) : mt 139 499 [some (mm_P 999), some (mm_P 0), some (mm_P 24), some (mm_P 30), some (mm_I v4), o5, o6] [] (mm_mk D u x) Q := by
  apply q_L_law_499
  refine cs_rank C (fun m D1 F1 C1 hm => ?_)
  apply mm_pIi
  refine rs_rank (sv_R_F F1 R) (fun m2 D2 E2 R2 hm2 => ?_)
  apply mm_pIi
  exact ⟨fun _ => K _ _ _ _ _ _ _ _ (sv_C_E E2 C1) R2 rfl (Nat.le_succ _) (Nat.le_add_right _ _), fun q => absurd (sz_uniq hm hm2 (fun _ => Iff.rfl)) q⟩
theorem lw_478 (C : sv_C D tx k P) (R : sv_R D tx k P) (K : lw_K x v4 Q) : mt 139 478 [some (mm_P 999), some (mm_P 0), some (mm_P 24), some (mm_P 30), some (mm_I v4), o5, o6] [] (mm_mk D u x) Q := by
  apply q_L_law_478
  have go : ∀ ans, ((¬ (P ≠ [] ∧ fac tx P) ∧ ans = -1) ∨ ∃ d : wd, P ≠ [] ∧ fac tx P ∧ P <:+ d ∧ (∀ j e, oc (tx j) P e ↔ oc (tx j) d e) ∧ lmx tx d ∧ ans = (d.length : Int)) → mt 112 0 [some (mm_P 24), none] [] (mm_mk D u x) (mm_pI fun r8 D5 u6 x7 => ((ans = r8) → mt 139 646 [some (mm_P 999), some (mm_P 0), some (mm_P 24), some (mm_P 30), some (mm_I v4), o5, o6] [] (mm_mk D5 u6 x7) Q) ∧ (¬ (ans = r8) → Q (.inl (some (mm_I 0))) (mm_mk D5 u6 x7))) := by
    intro ans h
    refine rs_longest R h (fun D2 E2 R2 => ?_)
    apply mm_pIi
    exact ⟨fun _ => K _ _ _ _ _ _ _ _ (sv_C_E E2 C) R2 rfl (Nat.le_succ _) (Nat.le_add_right _ _), fun q => absurd rfl q⟩
  refine cs_longest C (fun q => ?_) (fun d h0 hf hs ho hx => ?_)
  · apply mm_pIi
    exact go _ (Or.inl ⟨q, rfl⟩)
  · apply mm_pIi
    exact go _ (Or.inr ⟨d, h0, hf, hs, ho, hx, rfl⟩)
theorem lw_485 (C : sv_C D tx k P) (R : sv_R D tx k P) (K : lw_K x v4 Q) : mt 139 485 [some (mm_P 999), some (mm_P 0), some (mm_P 24), some (mm_P 30), some (mm_I v4), o5, o6] [] (mm_mk D u x) Q := by
  apply q_L_law_485
  have go : ∀ ans, ((¬ (P ≠ [] ∧ fac tx P) ∧ ans = -1) ∨ ∃ s : Nat, P ≠ [] ∧ fac tx P ∧ 1 ≤ s ∧ s ≤ P.length ∧ (∀ w, w <:+ P → s ≤ w.length → ∀ j e, oc (tx j) P e ↔ oc (tx j) w e) ∧ (∀ w, w <:+ P → w ≠ [] → w.length < s → ∃ j e, e < (tx j).length ∧ oc (tx j) w e ∧ ¬ oc (tx j) P e) ∧ ans = (s : Int)) → mt 113 0 [some (mm_P 24), none, none] [] (mm_mk D u x) (mm_pI fun r8 D5 u6 x7 => ((ans = r8) → mt 139 646 [some (mm_P 999), some (mm_P 0), some (mm_P 24), some (mm_P 30), some (mm_I v4), o5, o6] [] (mm_mk D5 u6 x7) Q) ∧ (¬ (ans = r8) → Q (.inl (some (mm_I 0))) (mm_mk D5 u6 x7))) := by
    intro ans h
    refine rs_shortest R h (fun D2 E2 R2 => ?_)
    apply mm_pIi
    exact ⟨fun _ => K _ _ _ _ _ _ _ _ (sv_C_E E2 C) R2 rfl (Nat.le_succ _) (Nat.le_add_right _ _), fun q => absurd rfl q⟩
  refine cs_shortest C (fun q => ?_) (fun s h0 hf h1 h2 h3 h4 => ?_)
  · apply mm_pIi
    exact go _ (Or.inl ⟨q, rfl⟩)
  · apply mm_pIi
    exact go _ (Or.inr ⟨s, h0, hf, h1, h2, h3, h4, rfl⟩)
theorem lw_30 (C : sv_C D tx k P) (R : sv_R D tx k P) (K : lw_K x v4 Q) : mt 139 30 [some (mm_P 999), some (mm_P 0), some (mm_P 24), some (mm_P 30), some (mm_I v4), o5, o6] [] (mm_mk D u x) Q := by
  apply q_L_law_30
  apply q_L_open_0
  refine cs_begin C (fun q D1 F1 C1 => ?_) (fun q => ?_)
  · apply mm_pIxi
    apply mm_pIi
    refine rs_begin (sv_R_F F1 R) (fun _ D2 E2 R2 f => ?_) (fun y => absurd q y)
    apply mm_pIi
    exact lw_fin K (sv_C_E E2 C1) R2 rfl (Nat.le_succ _) (Nat.le_add_right _ _) f (fun _ => rfl)
  · apply mm_pIxx
    refine ⟨1, rfl, ?_⟩
    apply mm_pIi
    refine rs_begin R (fun y => absurd y q) (fun _ D2 r E2 R2 f => ?_)
    apply mm_pIi
    exact lw_fin K (sv_C_E E2 C) R2 rfl (Nat.le_refl _) (Nat.le_refl _) f (fun y => absurd y (by decide))
theorem lw_222 (C : sv_C D tx k P) (R : sv_R D tx k P) (K : lw_K x v4 Q) : mt 139 222 [some (mm_P 999), some (mm_P 0), some (mm_P 24), some (mm_P 30), some (mm_I v4), o5, o6] [] (mm_mk D u x) Q := by
  apply q_L_law_222
  apply q_L_erase_0
  refine cs_erase C (fun q D1 F1 C1 => ?_) (fun q => ?_)
  · apply mm_pIxi
    apply mm_pIi
    refine rs_erase (sv_R_F F1 R) (fun _ D2 E2 R2 f => ?_) (fun y => absurd y q)
    apply mm_pIi
    exact lw_fin K (sv_C_E E2 C1) R2 rfl (Nat.le_succ _) (Nat.le_add_right _ _) f (fun _ => rfl)
  · apply mm_pIxx
    refine ⟨1, rfl, ?_⟩
    apply mm_pIi
    refine rs_erase R (fun y => absurd q y) (fun _ D2 r E2 R2 f => ?_)
    apply mm_pIi
    exact lw_fin K (sv_C_E E2 C) R2 rfl (Nat.le_refl _) (Nat.le_refl _) f (fun y => absurd y (by decide))
theorem lw_107 (C : sv_C D tx k P) (R : sv_R D tx k P) (K : lw_K x v4 Q) (hx : x.2.2 = 0 :: s) (h4 : 0 ≤ v4 ∧ v4 + 4 ≤ (s.length : Int)) (hl : s.length ≤ 2048) : mt 139 107 [some (mm_P 999), some (mm_P 0), some (mm_P 24), some (mm_P 30), some (mm_I v4), o5, o6] [] (mm_mk D u x) Q := by
  apply q_L_law_107
  refine ⟨by constructor <;> omega, by omega, _, lw_arg hx (by omega) (by omega), ?_⟩
  apply q_L_length_0
  refine cs_length C (fun q1 q2 => ?_) (fun q => ?_)
  · apply mm_pIxi
    apply mm_pIi
    refine ⟨by constructor <;> omega, by omega, _, lw_arg hx (by omega) (by omega), ?_⟩
    refine rs_length R (fun _ _ D2 E2 R2 f => ?_) (fun y => absurd ⟨q1, q2⟩ y)
    apply mm_pIi
    exact lw_fin K (sv_C_E E2 C) R2 rfl (Nat.le_succ _) (Nat.le_add_right _ _) f (fun _ => rfl)
  · apply mm_pIxx
    refine ⟨1, rfl, ?_⟩
    apply mm_pIi
    refine ⟨by constructor <;> omega, by omega, _, lw_arg hx (by omega) (by omega), ?_⟩
    refine rs_length R (fun y1 y2 => absurd ⟨y1, y2⟩ q) (fun _ D2 r E2 R2 f => ?_)
    apply mm_pIi
    exact lw_fin K (sv_C_E E2 C) R2 rfl (Nat.le_refl _) (Nat.le_refl _) f (fun y => absurd y (by decide))
theorem lw_352 (C : sv_C D tx k P) (R : sv_R D tx k P) (K : lw_K x v4 Q) (hx : x.2.2 = 0 :: s) (h4 : 0 ≤ v4 ∧ v4 + 4 ≤ (s.length : Int)) (hl : s.length ≤ 2048) : mt 139 352 [some (mm_P 999), some (mm_P 0), some (mm_P 24), some (mm_P 30), some (mm_I v4), o5, o6] [] (mm_mk D u x) Q := by
  apply q_L_law_352
  refine ⟨by constructor <;> omega, by omega, _, lw_arg hx (by omega) (by omega), ?_⟩
  apply q_L_occurrencesIn_0
  refine cs_occurrencesIn C (fun q1 q2 => ?_) (fun q => ?_)
  · apply mm_pIxi
    apply mm_pIi
    refine ⟨by constructor <;> omega, by omega, _, lw_arg hx (by omega) (by omega), ?_⟩
    refine rs_occurrencesIn R (fun _ _ D2 E2 R2 f => ?_) (fun y => absurd ⟨q1, q2⟩ y)
    apply mm_pIi
    exact lw_fin K (sv_C_E E2 C) R2 rfl (Nat.le_succ _) (Nat.le_add_right _ _) f (fun _ => rfl)
  · apply mm_pIxx
    refine ⟨1, rfl, ?_⟩
    apply mm_pIi
    refine ⟨by constructor <;> omega, by omega, _, lw_arg hx (by omega) (by omega), ?_⟩
    refine rs_occurrencesIn R (fun y1 y2 => absurd ⟨y1, y2⟩ q) (fun _ D2 r E2 R2 f => ?_)
    apply mm_pIi
    exact lw_fin K (sv_C_E E2 C) R2 rfl (Nat.le_refl _) (Nat.le_refl _) f (fun y => absurd y (by decide))
theorem lw_387 (C : sv_C D tx k P) (R : sv_R D tx k P) (K : lw_K x v4 Q) (hx : x.2.2 = 0 :: s) (h4 : 0 ≤ v4 ∧ v4 + 4 ≤ (s.length : Int)) (hl : s.length ≤ 2048) : mt 139 387 [some (mm_P 999), some (mm_P 0), some (mm_P 24), some (mm_P 30), some (mm_I v4), o5, o6] [] (mm_mk D u x) Q := by
  apply q_L_law_387
  refine ⟨by constructor <;> omega, by omega, _, lw_arg hx (by omega) (by omega), ?_⟩
  apply q_L_first_0
  refine cs_first C (fun q1 q2 => ?_) (fun q => ?_)
  · apply mm_pIxi
    apply mm_pIi
    refine ⟨by constructor <;> omega, by omega, _, lw_arg hx (by omega) (by omega), ?_⟩
    refine rs_first R (fun _ _ D2 E2 R2 f => ?_) (fun y => absurd ⟨q1, q2⟩ y)
    apply mm_pIi
    exact lw_fin K (sv_C_E E2 C) R2 rfl (Nat.le_succ _) (Nat.le_add_right _ _) f (fun _ => rfl)
  · apply mm_pIxx
    refine ⟨1, rfl, ?_⟩
    apply mm_pIi
    refine ⟨by constructor <;> omega, by omega, _, lw_arg hx (by omega) (by omega), ?_⟩
    refine rs_first R (fun y1 y2 => absurd ⟨y1, y2⟩ q) (fun _ D2 r E2 R2 f => ?_)
    apply mm_pIi
    exact lw_fin K (sv_C_E E2 C) R2 rfl (Nat.le_refl _) (Nat.le_refl _) f (fun y => absurd y (by decide))
theorem lw_422 (C : sv_C D tx k P) (R : sv_R D tx k P) (K : lw_K x v4 Q) (hx : x.2.2 = 0 :: s) (h4 : 0 ≤ v4 ∧ v4 + 4 ≤ (s.length : Int)) (hl : s.length ≤ 2048) : mt 139 422 [some (mm_P 999), some (mm_P 0), some (mm_P 24), some (mm_P 30), some (mm_I v4), o5, o6] [] (mm_mk D u x) Q := by
  apply q_L_law_422
  refine ⟨by constructor <;> omega, by omega, _, lw_arg hx (by omega) (by omega), ?_⟩
  apply q_L_last_0
  refine cs_last C (fun q1 q2 => ?_) (fun q => ?_)
  · apply mm_pIxi
    apply mm_pIi
    refine ⟨by constructor <;> omega, by omega, _, lw_arg hx (by omega) (by omega), ?_⟩
    refine rs_last R (fun _ _ D2 E2 R2 f => ?_) (fun y => absurd ⟨q1, q2⟩ y)
    apply mm_pIi
    exact lw_fin K (sv_C_E E2 C) R2 rfl (Nat.le_succ _) (Nat.le_add_right _ _) f (fun _ => rfl)
  · apply mm_pIxx
    refine ⟨1, rfl, ?_⟩
    apply mm_pIi
    refine ⟨by constructor <;> omega, by omega, _, lw_arg hx (by omega) (by omega), ?_⟩
    refine rs_last R (fun y1 y2 => absurd ⟨y1, y2⟩ q) (fun _ D2 r E2 R2 f => ?_)
    apply mm_pIi
    exact lw_fin K (sv_C_E E2 C) R2 rfl (Nat.le_refl _) (Nat.le_refl _) f (fun y => absurd y (by decide))
theorem lw_303 (C : sv_C D tx k P) (R : sv_R D tx k P) (K : lw_K x v4 Q) (hx : x.2.2 = 0 :: s) (h4 : 0 ≤ v4 ∧ v4 + 4 ≤ (s.length : Int)) (hl : s.length ≤ 2048) : mt 139 303 [some (mm_P 999), some (mm_P 0), some (mm_P 24), some (mm_P 30), some (mm_I v4), o5, o6] [] (mm_mk D u x) Q := by
  apply q_L_law_303
  refine ⟨by constructor <;> omega, by omega, _, lw_arg hx (by omega) (by omega), ?_⟩
  apply q_L_patternAt_0
  refine cs_patternAt C (fun q1 q2 => ?_) (fun q => ?_)
  · apply mm_pIxi
    apply mm_pIi
    refine ⟨by constructor <;> omega, by omega, _, lw_arg hx (by omega) (by omega), ?_⟩
    refine rs_patternAt R (fun _ _ D2 E2 R2 f => ?_) (fun y => absurd ⟨q1, q2⟩ y)
    apply mm_pIi
    exact lw_fin K (sv_C_E E2 C) R2 rfl (Nat.le_succ _) (Nat.le_add_right _ _) f (fun _ => rfl)
  · apply mm_pIxx
    refine ⟨1, rfl, ?_⟩
    apply mm_pIi
    refine ⟨by constructor <;> omega, by omega, _, lw_arg hx (by omega) (by omega), ?_⟩
    refine rs_patternAt R (fun y1 y2 => absurd ⟨y1, y2⟩ q) (fun _ D2 r E2 R2 f => ?_)
    apply mm_pIi
    exact lw_fin K (sv_C_E E2 C) R2 rfl (Nat.le_refl _) (Nat.le_refl _) f (fun y => absurd y (by decide))
theorem lw_187 (C : sv_C D tx k P) (R : sv_R D tx k P) (K : lw_K x v4 Q) (hx : x.2.2 = 0 :: s) (h4 : 0 ≤ v4 ∧ v4 + 4 ≤ (s.length : Int)) (hl : s.length ≤ 2048) : mt 139 187 [some (mm_P 999), some (mm_P 0), some (mm_P 24), some (mm_P 30), some (mm_I v4), o5, o6] [] (mm_mk D u x) Q := by
  apply q_L_law_187
  refine ⟨by constructor <;> omega, by omega, _, lw_arg hx (by omega) (by omega), ?_⟩
  apply q_L_type_0
  refine cs_type C (fun q1 q2 q3 D1 F1 C1 => ?_) (fun q => ?_) (fun q1 q2 q3 => ?_)
  · apply mm_pIxi
    apply mm_pIi
    refine ⟨by constructor <;> omega, by omega, _, lw_arg hx (by omega) (by omega), ?_⟩
    refine rs_type (sv_R_F F1 R) (fun _ _ _ D2 E2 R2 f => ?_) (fun c y => ?_)
    · apply mm_pIi
      exact lw_fin K (sv_C_E E2 C1) R2 rfl (Nat.le_succ _) (Nat.le_add_right _ _) f (fun _ => rfl)
    · rcases y with ⟨y, _⟩ | ⟨_, y, _⟩
      · exact absurd ⟨q1, q2⟩ y
      · exact absurd q3 y
  · apply mm_pIxx
    refine ⟨1, rfl, ?_⟩
    apply mm_pIi
    refine ⟨by constructor <;> omega, by omega, _, lw_arg hx (by omega) (by omega), ?_⟩
    refine rs_type R (fun y1 y2 => absurd ⟨y1, y2⟩ q) (fun c y D2 r E2 R2 f => ?_)
    apply mm_pIi
    have hc : c = 1 := by
      rcases y with ⟨_, y⟩ | ⟨y, _⟩
      · exact y
      · exact absurd y q
    subst hc
    exact lw_fin K (sv_C_E E2 C) R2 rfl (Nat.le_refl _) (Nat.le_refl _) f (fun y => absurd y (by decide))
  · apply mm_pIxx
    refine ⟨2, rfl, ?_⟩
    apply mm_pIi
    refine ⟨by constructor <;> omega, by omega, _, lw_arg hx (by omega) (by omega), ?_⟩
    refine rs_type R (fun _ _ y => absurd y q3) (fun c y D2 r E2 R2 f => ?_)
    apply mm_pIi
    have hc : c = 2 := by
      rcases y with ⟨y, _⟩ | ⟨_, _, y⟩
      · exact absurd ⟨q1, q2⟩ y
      · exact y
    subst hc
    exact lw_fin K (sv_C_E E2 C) R2 rfl (Nat.le_refl _) (Nat.le_refl _) f (fun y => absurd y (by decide))
theorem lw_55 (C : sv_C D tx k P) (R : sv_R D tx k P) (K : lw_K x v4 Q) (hx : x.2.2 = 0 :: s) (h4 : 0 ≤ v4 ∧ v4 + 4 ≤ (s.length : Int)) (hl : s.length ≤ 2048) : mt 139 55 [some (mm_P 999), some (mm_P 0), some (mm_P 24), some (mm_P 30), some (mm_I v4), o5, o6] [] (mm_mk D u x) Q := by
  apply q_L_law_55
  refine ⟨by constructor <;> omega, by omega, _, lw_arg hx (by omega) (by omega), by constructor <;> omega, by omega, _, lw_arg hx (by omega) (by omega), ?_⟩
  apply q_L_append_0
  refine cs_append C (fun q1 q2 q3 q4 q5 D1 F1 C1 => ?_) (fun q => ?_) (fun q1 q2 q3 => ?_) (fun q1 q2 q3 q4 q5 => ?_)
  · apply mm_pIxi
    apply mm_pIi
    refine ⟨by constructor <;> omega, by omega, _, lw_arg hx (by omega) (by omega), by constructor <;> omega, by omega, _, lw_arg hx (by omega) (by omega), ?_⟩
    refine rs_append (sv_R_F F1 R) (fun _ _ _ _ _ D2 E2 R2 f => ?_) (fun c y => ?_)
    · apply mm_pIi
      exact lw_fin K (sv_C_E E2 C1) R2 rfl (Nat.le_succ _) (Nat.le_add_right _ _) f (fun _ => rfl)
    · rcases y with ⟨y, _⟩ | ⟨_, y, _⟩ | ⟨_, _, y, _⟩
      · exact absurd ⟨q1, q2⟩ y
      · exact absurd ⟨q3, q4⟩ y
      · exact absurd q5 y
  · apply mm_pIxx
    refine ⟨1, rfl, ?_⟩
    apply mm_pIi
    refine ⟨by constructor <;> omega, by omega, _, lw_arg hx (by omega) (by omega), by constructor <;> omega, by omega, _, lw_arg hx (by omega) (by omega), ?_⟩
    refine rs_append R (fun y1 y2 => absurd ⟨y1, y2⟩ q) (fun c y D2 r E2 R2 f => ?_)
    apply mm_pIi
    have hc : c = 1 := by
      rcases y with ⟨_, y⟩ | ⟨y, _⟩ | ⟨y, _⟩
      · exact y
      · exact absurd y q
      · exact absurd y q
    subst hc
    exact lw_fin K (sv_C_E E2 C) R2 rfl (Nat.le_refl _) (Nat.le_refl _) f (fun y => absurd y (by decide))
  · apply mm_pIxx
    refine ⟨2, rfl, ?_⟩
    apply mm_pIi
    refine ⟨by constructor <;> omega, by omega, _, lw_arg hx (by omega) (by omega), by constructor <;> omega, by omega, _, lw_arg hx (by omega) (by omega), ?_⟩
    refine rs_append R (fun _ _ y1 y2 => absurd ⟨y1, y2⟩ q3) (fun c y D2 r E2 R2 f => ?_)
    apply mm_pIi
    have hc : c = 2 := by
      rcases y with ⟨y, _⟩ | ⟨_, _, y⟩ | ⟨_, y, _⟩
      · exact absurd ⟨q1, q2⟩ y
      · exact y
      · exact absurd y q3
    subst hc
    exact lw_fin K (sv_C_E E2 C) R2 rfl (Nat.le_refl _) (Nat.le_refl _) f (fun y => absurd y (by decide))
  · apply mm_pIxx
    refine ⟨3, rfl, ?_⟩
    apply mm_pIi
    refine ⟨by constructor <;> omega, by omega, _, lw_arg hx (by omega) (by omega), by constructor <;> omega, by omega, _, lw_arg hx (by omega) (by omega), ?_⟩
    refine rs_append R (fun _ _ _ _ y => absurd y q5) (fun c y D2 r E2 R2 f => ?_)
    apply mm_pIi
    have hc : c = 3 := by
      rcases y with ⟨y, _⟩ | ⟨_, y, _⟩ | ⟨_, _, _, y⟩
      · exact absurd ⟨q1, q2⟩ y
      · exact absurd ⟨q3, q4⟩ y
      · exact y
    subst hc
    exact lw_fin K (sv_C_E E2 C) R2 rfl (Nat.le_refl _) (Nat.le_refl _) f (fun y => absurd y (by decide))
theorem lw_142 (C : sv_C D tx k P) (R : sv_R D tx k P) (K : lw_K x v4 Q) (hx : x.2.2 = 0 :: s) (h4 : 0 ≤ v4 ∧ v4 + 4 ≤ (s.length : Int)) (hl : s.length ≤ 2048) : mt 139 142 [some (mm_P 999), some (mm_P 0), some (mm_P 24), some (mm_P 30), some (mm_I v4), o5, o6] [] (mm_mk D u x) Q := by
  apply q_L_law_142
  refine ⟨by constructor <;> omega, by omega, _, lw_arg hx (by omega) (by omega), by constructor <;> omega, by omega, _, lw_arg hx (by omega) (by omega), ?_⟩
  apply q_L_letterAt_0
  refine cs_letterAt C (fun q1 q2 q3 q4 => ?_) (fun q => ?_)
  · apply mm_pIxi
    apply mm_pIi
    refine ⟨by constructor <;> omega, by omega, _, lw_arg hx (by omega) (by omega), by constructor <;> omega, by omega, _, lw_arg hx (by omega) (by omega), ?_⟩
    refine rs_letterAt R (fun _ _ _ _ D2 E2 R2 f => ?_) (fun y => absurd ⟨⟨q1, q2⟩, q3, q4⟩ y)
    apply mm_pIi
    exact lw_fin K (sv_C_E E2 C) R2 rfl (Nat.le_succ _) (Nat.le_add_right _ _) f (fun _ => rfl)
  · apply mm_pIxx
    refine ⟨1, rfl, ?_⟩
    apply mm_pIi
    refine ⟨by constructor <;> omega, by omega, _, lw_arg hx (by omega) (by omega), by constructor <;> omega, by omega, _, lw_arg hx (by omega) (by omega), ?_⟩
    refine rs_letterAt R (fun y1 y2 y3 y4 => absurd ⟨⟨y1, y2⟩, y3, y4⟩ q) (fun _ D2 r E2 R2 f => ?_)
    apply mm_pIi
    exact lw_fin K (sv_C_E E2 C) R2 rfl (Nat.le_refl _) (Nat.le_refl _) f (fun y => absurd y (by decide))
theorem lw_254 (C : sv_C D tx k P) (R : sv_R D tx k P) (K : lw_K x v4 Q) (hx : x.2.2 = 0 :: s) (h4 : 0 ≤ v4 ∧ v4 + 4 ≤ (s.length : Int)) (hl : s.length ≤ 2048) (hr : ∀ z, z ∈ s → mm_rng z) : mt 139 254 [some (mm_P 999), some (mm_P 0), some (mm_P 24), some (mm_P 30), some (mm_I v4), o5, o6] [] (mm_mk D u x) Q := by
  apply q_L_law_254
  refine ⟨by constructor <;> omega, by omega, _, lw_arg hx (by omega) (by omega), by constructor <;> omega, by omega, _, lw_arg hx (by omega) (by omega), by constructor <;> omega, by omega, _, lw_arg hx (by omega) (by omega), ?_⟩
  have hf : mm_rng (wg s (v4 + 2).toNat) := hr _ (wg_mem (by omega))
  apply q_L_copy_0
  refine cs_copy hf C (fun q1 q2 q3 q4 q5 D1 F1 C1 => ?_) (fun q => ?_) (fun q1 q2 q3 => ?_)
  · apply mm_pVxi
    apply mm_pIi
    refine ⟨by constructor <;> omega, by omega, _, lw_arg hx (by omega) (by omega), by constructor <;> omega, by omega, _, lw_arg hx (by omega) (by omega), by constructor <;> omega, by omega, _, lw_arg hx (by omega) (by omega), ?_⟩
    refine rs_copy hf (sv_R_F F1 R) (fun _ _ _ _ _ D2 E2 R2 f => ?_) (fun c y => ?_)
    · apply mm_pVi
      apply rp_thrown
      apply mm_pIi
      exact ⟨fun _ => K _ _ _ _ _ _ _ _ (sv_C_E E2 C1) R2 rfl (Nat.le_succ _) (Nat.le_add_right _ _), fun y => absurd f y⟩
    · rcases y with ⟨y, _⟩ | ⟨_, y, _⟩
      · exact absurd ⟨q1, q2⟩ y
      · exact absurd ⟨q3, q4, q5⟩ y
  · apply mm_pVxx
    refine ⟨1, rfl, ?_⟩
    apply mm_pIi
    refine ⟨by constructor <;> omega, by omega, _, lw_arg hx (by omega) (by omega), by constructor <;> omega, by omega, _, lw_arg hx (by omega) (by omega), by constructor <;> omega, by omega, _, lw_arg hx (by omega) (by omega), ?_⟩
    refine rs_copy hf R (fun y1 y2 => absurd ⟨y1, y2⟩ q) (fun c y D2 E2 R2 f => ?_)
    apply mm_pVi
    apply rp_thrown
    apply mm_pIi
    have hc : c = 1 := by
      rcases y with ⟨_, y⟩ | ⟨y, _⟩
      · exact y
      · exact absurd y q
    subst hc
    exact ⟨fun _ => K _ _ _ _ _ _ _ _ (sv_C_E E2 C) R2 rfl (Nat.le_refl _) (Nat.le_refl _), fun y => absurd f y⟩
  · apply mm_pVxx
    refine ⟨2, rfl, ?_⟩
    apply mm_pIi
    refine ⟨by constructor <;> omega, by omega, _, lw_arg hx (by omega) (by omega), by constructor <;> omega, by omega, _, lw_arg hx (by omega) (by omega), by constructor <;> omega, by omega, _, lw_arg hx (by omega) (by omega), ?_⟩
    refine rs_copy hf R (fun _ _ y1 y2 y3 => absurd ⟨y1, y2, y3⟩ q3) (fun c y D2 E2 R2 f => ?_)
    apply mm_pVi
    apply rp_thrown
    apply mm_pIi
    have hc : c = 2 := by
      rcases y with ⟨y, _⟩ | ⟨_, _, y⟩
      · exact absurd ⟨q1, q2⟩ y
      · exact y
    subst hc
    exact ⟨fun _ => K _ _ _ _ _ _ _ _ (sv_C_E E2 C) R2 rfl (Nat.le_refl _) (Nat.le_refl _), fun y => absurd f y⟩
theorem lw_506 (C : sv_C D tx k P) (R : sv_R D tx k P) (K : lw_K x v4 Q) (hx : x.2.2 = 0 :: s) (h4 : 0 ≤ v4 ∧ v4 + 4 ≤ (s.length : Int)) (hl : s.length ≤ 2048) : mt 139 506 [some (mm_P 999), some (mm_P 0), some (mm_P 24), some (mm_P 30), some (mm_I v4), o5, o6] [] (mm_mk D u x) Q := by
  apply q_L_law_506
  refine ⟨by constructor <;> omega, by omega, _, lw_arg hx (by omega) (by omega), ?_⟩
  apply q_L_toPart_0
  refine cs_toPart C (fun m hm q1 q2 D1 W F1 C1 h1 h2 => ?_) (fun m hm q => ?_)
  · apply mm_pIxi
    apply mm_pIi
    refine ⟨by constructor <;> omega, by omega, _, lw_arg hx (by omega) (by omega), ?_⟩
    refine rs_toPart (sv_R_F F1 R) (fun m2 hm2 _ _ D2 W2 E2 R2 f g1 g2 => ?_) (fun m2 hm2 y => ?_) ⟨m, hm⟩
    · apply mm_pIi
      have e := sz_rank g1 h1 g2 h2
      subst e
      exact lw_fin K (sv_C_E E2 C1) R2 rfl (Nat.le_succ _) (Nat.le_add_right _ _) f (fun _ => rfl)
    · rw [sz_uniq hm hm2 (fun _ => Iff.rfl)] at q2
      exact absurd ⟨q1, q2⟩ y
  · apply mm_pIxx
    refine ⟨1, rfl, ?_⟩
    apply mm_pIi
    refine ⟨by constructor <;> omega, by omega, _, lw_arg hx (by omega) (by omega), ?_⟩
    refine rs_toPart R (fun m2 hm2 y1 y2 => ?_) (fun m2 hm2 _ D2 r E2 R2 f => ?_) ⟨m, hm⟩
    · rw [sz_uniq hm hm2 (fun _ => Iff.rfl)] at q
      exact absurd ⟨y1, y2⟩ q
    · apply mm_pIi
      exact lw_fin K (sv_C_E E2 C) R2 rfl (Nat.le_refl _) (Nat.le_refl _) f (fun y => absurd y (by decide))
theorem lw_541 (C : sv_C D tx k P) (R : sv_R D tx k P) (K : lw_K x v4 Q) (hx : x.2.2 = 0 :: s) (h4 : 0 ≤ v4 ∧ v4 + 4 ≤ (s.length : Int)) (hl : s.length ≤ 2048) (hr : ∀ z, z ∈ s → mm_rng z) : mt 139 541 [some (mm_P 999), some (mm_P 0), some (mm_P 24), some (mm_P 30), some (mm_I v4), o5, o6] [] (mm_mk D u x) Q := by
  apply q_L_law_541
  refine ⟨by constructor <;> omega, by omega, _, lw_arg hx (by omega) (by omega), ?_⟩
  have hf : mm_rng (wg s (v4 + 1).toNat) := hr _ (wg_mem (by omega))
  apply q_L_common_0
  refine cs_common C (fun q1 q2 D1 W F1 C1 h1 => ?_) (fun q => ?_)
  · apply mm_pIxi
    apply mm_pIi
    refine ⟨by constructor <;> omega, by omega, _, lw_arg hx (by omega) (by omega), ?_⟩
    refine rs_common (sv_R_F F1 R) (fun _ _ D2 W2 E2 R2 f g1 => ?_) hf (fun y => absurd ⟨q1, q2⟩ y)
    apply mm_pIi
    have e := fnd_uniq g1 h1
    subst e
    exact lw_fin K (sv_C_E E2 C1) R2 rfl (Nat.le_succ _) (Nat.le_add_right _ _) f (fun _ => rfl)
  · apply mm_pIxx
    refine ⟨1, rfl, ?_⟩
    apply mm_pIi
    refine ⟨by constructor <;> omega, by omega, _, lw_arg hx (by omega) (by omega), ?_⟩
    refine rs_common R (fun y1 y2 => absurd ⟨y1, y2⟩ q) hf (fun _ D2 r E2 R2 f => ?_)
    apply mm_pIi
    exact lw_fin K (sv_C_E E2 C) R2 rfl (Nat.le_refl _) (Nat.le_refl _) f (fun y => absurd y (by decide))
theorem lw_576 (C : sv_C D tx k P) (R : sv_R D tx k P) (K : lw_K x v4 Q) (hx : x.2.2 = 0 :: s) (h4 : 0 ≤ v4 ∧ v4 + 4 ≤ (s.length : Int)) (hl : s.length ≤ 2048) : mt 139 576 [some (mm_P 999), some (mm_P 0), some (mm_P 24), some (mm_P 30), some (mm_I v4), o5, o6] [] (mm_mk D u x) Q := by
  apply q_L_law_576
  refine ⟨by constructor <;> omega, by omega, _, lw_arg hx (by omega) (by omega), ?_⟩
  apply q_L_repeated_0
  refine cs_repeated C (fun q1 D1 W F1 C1 h1 => ?_) (fun q => ?_)
  · apply mm_pIxi
    apply mm_pIi
    refine ⟨by constructor <;> omega, by omega, _, lw_arg hx (by omega) (by omega), ?_⟩
    refine rs_repeated (sv_R_F F1 R) (fun _ D2 W2 E2 R2 f g1 => ?_) (fun y => absurd q1 y)
    apply mm_pIi
    have e := fnd_uniq g1 h1
    subst e
    exact lw_fin K (sv_C_E E2 C1) R2 rfl (Nat.le_succ _) (Nat.le_add_right _ _) f (fun _ => rfl)
  · apply mm_pIxx
    refine ⟨1, rfl, ?_⟩
    apply mm_pIi
    refine ⟨by constructor <;> omega, by omega, _, lw_arg hx (by omega) (by omega), ?_⟩
    refine rs_repeated R (fun y1 => absurd y1 q) (fun _ D2 r E2 R2 f => ?_)
    apply mm_pIi
    exact lw_fin K (sv_C_E E2 C) R2 rfl (Nat.le_refl _) (Nat.le_refl _) f (fun y => absurd y (by decide))
theorem lw_611 (C : sv_C D tx k P) (R : sv_R D tx k P) (K : lw_K x v4 Q) (hx : x.2.2 = 0 :: s) (h4 : 0 ≤ v4 ∧ v4 + 4 ≤ (s.length : Int)) (hl : s.length ≤ 2048) : mt 139 611 [some (mm_P 999), some (mm_P 0), some (mm_P 24), some (mm_P 30), some (mm_I v4), o5, o6] [] (mm_mk D u x) Q := by
  apply q_L_law_611
  refine ⟨by constructor <;> omega, by omega, _, lw_arg hx (by omega) (by omega), ?_⟩
  apply q_L_missing_0
  refine cs_missing C (fun q1 q2 D1 W F1 C1 h1 => ?_) (fun q => ?_)
  · apply mm_pIxi
    apply mm_pIi
    refine ⟨by constructor <;> omega, by omega, _, lw_arg hx (by omega) (by omega), ?_⟩
    refine rs_missing (sv_R_F F1 R) (fun _ _ D2 W2 E2 R2 f g1 => ?_) (fun y => absurd ⟨q1, q2⟩ y)
    apply mm_pIi
    have e := mis_uniq g1 h1
    subst e
    exact lw_fin K (sv_C_E E2 C1) R2 rfl (Nat.le_succ _) (Nat.le_add_right _ _) f (fun _ => rfl)
  · apply mm_pIxx
    refine ⟨1, rfl, ?_⟩
    apply mm_pIi
    refine ⟨by constructor <;> omega, by omega, _, lw_arg hx (by omega) (by omega), ?_⟩
    refine rs_missing R (fun y1 y2 => absurd ⟨y1, y2⟩ q) (fun _ D2 r E2 R2 f => ?_)
    apply mm_pIi
    exact lw_fin K (sv_C_E E2 C) R2 rfl (Nat.le_refl _) (Nat.le_refl _) f (fun y => absurd y (by decide))
end LW
