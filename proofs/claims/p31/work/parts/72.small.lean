/-! the law: draw, letters, stands -/
theorem mm_and_top (z : Int) : 0 ≤ mm_and z 2147483647 ∧ mm_and z 2147483647 < 2147483648 := by
  have hr := mm_and_r z 2147483647
  refine ⟨?_, by have := hr.2; omega⟩
  unfold mm_and
  have h : ((Int32.ofInt z &&& Int32.ofInt 2147483647).toBitVec).msb = false := by
    rw [Int32.toBitVec_and, BitVec.msb_and]
    have e : (Int32.ofInt 2147483647).toBitVec.msb = false := by decide
    rw [e, Bool.and_false]
  show 0 ≤ ((Int32.ofInt z &&& Int32.ofInt 2147483647).toBitVec).toInt
  rw [BitVec.toInt_eq_toNat_of_msb h]
  omega
section LS
variable {D : mm_D} {u : Int} {x : mm_Xt} {Q : mm_O → mm_H → Prop} {tx : Nat → wd} {k : Int} {P : wd} {K : Int → mm_D → Int → mm_Xt → Prop} {KX : Nat → mm_D → Int → mm_Xt → Prop}
theorem lw_draw {s : List Int} (hx : x.2.2 = 0 :: s) {i : Nat} (hi : i ≤ 200) (H : ∀ z, 0 ≤ z → z < 2147483648 → K z D u x) : mt 42 0 [some (mm_P 999), some (mm_I (i : Int))] [] (mm_mk D u x) (mm_pI K) := by
  apply q_L_draw_0
  refine ⟨0, s, hx, fun q => ⟨by constructor <;> omega, by constructor <;> omega, ⟨by omega, by decide⟩, by constructor <;> omega, mm_pIi (H _ (by omega) (by omega))⟩, fun q => ⟨by omega, wg s i, ?_, mm_pIi (H _ (mm_and_top _).1 (mm_and_top _).2)⟩⟩
  rw [hx, List.getElem?_cons_succ, wg_e]
  have hlt : i < s.length := by omega
  rw [show ((i : Int)).toNat = i from rfl, List.getElem?_eq_getElem hlt]
  rfl
theorem lw_letters (C : sv_C D tx k P) (H : K (sv_tot tx) D u x) : mt 76 0 [some (mm_P 0), none, none] [] (mm_mk D u x) (mm_pIx K KX) := by
  have k4 := C.1.1
  have t100 := C.1.2.1
  apply q_L_letters_0
  have lp : ∀ z t : Nat, t + z = k.toNat → mt 76 4 [some (mm_P 0), some (mm_I (sv_cum tx t)), some (mm_I (t : Int))] [] (mm_mk D u x) (mm_pIx K KX) := by
    intro z
    induction z with
    | zero =>
      intro t ht
      apply q_L_letters_4
      apply l_texts C
      refine ⟨fun _ => ?_, fun q => absurd (by omega) q⟩
      have e : t = k.toNat := by omega
      rw [e, sv_cumK C.1]
      exact mm_pIxi H
    | succ z ih =>
      intro t ht
      obtain ⟨b1, b2, b3⟩ := sv_cumB C.1 (t := t) (by omega)
      apply q_L_letters_4
      apply l_texts C
      refine ⟨fun q => absurd q (by omega), fun _ => ?_⟩
      apply l_len C (by omega)
      refine ⟨by constructor <;> omega, by constructor <;> omega, ?_⟩
      rw [← b2]
      exact ih (t + 1) (by omega)
  exact lp k.toNat 0 (by omega)
theorem lw_stands {t f : Nat} (C : sv_C D tx k P) (ht : (t : Int) < k) (hf : f < (tx t).length) (H : K (cI (stn (tx t) P f)) D u x) : mt 79 0 [some (mm_P 0), some (mm_I (t : Int)), some (mm_I (f : Int)), none, none] [] (mm_mk D u x) (mm_pIx K KX) := by
  have hP := C.1.2.2.1
  have hl := sv_len (T := C.1) t
  have no : ∀ i : Nat, ¬ stn (tx t) P f → mt 79 17 [some (mm_P 0), some (mm_I (t : Int)), some (mm_I (f : Int)), some (mm_I 0), some (mm_I (i : Int))] [] (mm_mk D u x) (mm_pIx K KX) := by
    intro i hn
    have fin : mt 79 39 [some (mm_P 0), some (mm_I (t : Int)), some (mm_I (f : Int)), some (mm_I 0), some (mm_I (i : Int))] [] (mm_mk D u x) (mm_pIx K KX) := by
      apply q_L_stands_39
      refine ⟨Or.inl rfl, mm_pIxi ?_⟩
      rw [← cI_0 hn]
      exact H
    apply q_L_stands_17
    apply l_plen C
    exact ⟨fun _ => fin, fun _ => ⟨fun _ => fin, fun q => absurd rfl q⟩⟩
  apply q_L_stands_0
  apply l_plen C
  refine ⟨fun q => ?_, fun q => ?_⟩
  · apply q_L_stands_13
    apply q_L_stands_15
    refine no 0 (fun h => h.1 (List.length_eq_zero_iff.mp (by omega)))
  · apply l_plen C
    refine ⟨by constructor <;> omega, ?_⟩
    apply l_len C ht
    refine ⟨fun q2 => ?_, fun q2 => ?_⟩
    · apply q_L_stands_13
      apply q_L_stands_15
      refine no 0 (fun h => ?_)
      have := stn_len h
      omega
    · apply q_L_stands_15
      have h0 : P ≠ [] := fun e => by rw [e] at q; exact q (by decide)
      have lp : ∀ z i : Nat, i + z = P.length → (∀ j, j < i → wg (tx t) (f + j) = wg P j) → mt 79 17 [some (mm_P 0), some (mm_I (t : Int)), some (mm_I (f : Int)), some (mm_I 1), some (mm_I (i : Int))] [] (mm_mk D u x) (mm_pIx K KX) := by
        intro z
        induction z with
        | zero =>
          intro i hi hw
          apply q_L_stands_17
          apply l_plen C
          refine ⟨fun _ => ?_, fun q => absurd (by omega) q⟩
          apply q_L_stands_39
          refine ⟨Or.inr rfl, mm_pIxi ?_⟩
          rw [cI_1 (stn_of h0 (by omega) (fun j hj => hw j (by omega)))] at H
          exact H
        | succ z ih =>
          intro i hi hw
          apply q_L_stands_17
          apply l_plen C
          refine ⟨fun q => absurd q (by omega), fun _ => ⟨fun q => absurd q (by decide), fun _ => ⟨by constructor <;> omega, ?_⟩⟩⟩
          refine l_let (i := f + i) C ht (by omega) ?_
          refine l_pat C (by omega) ?_
          refine ⟨fun q => ?_, fun q => ?_⟩
          · apply q_L_stands_37
            refine ⟨by constructor <;> omega, no (i + 1) (fun h => q (stn_wg h (by omega)))⟩
          · apply q_L_stands_37
            refine ⟨by constructor <;> omega, ih (i + 1) (by omega) (fun j hj => ?_)⟩
            by_cases e : j = i
            · rw [e]
              exact Decidable.not_not.mp q
            · exact hw j (by omega)
      exact lp P.length 0 (by omega) (fun j hj => absurd hj (by omega))
end LS
