/-! the law: isFound -/
theorem bt_01 {s : Int} (hs : 0 ≤ s ∧ s < 2 ^ 26) (t : Nat) : mm_and (s / 2 ^ t) 1 = 0 ∨ mm_and (s / 2 ^ t) 1 = 1 := by
  have e1 : s / 2 ^ t = ((s.toNat / 2 ^ t : Nat) : Int) := by
    rw [Int.natCast_ediv, Int.natCast_pow, Int.toNat_of_nonneg hs.1]
    rfl
  have h1 : s.toNat / 2 ^ t < 2 ^ 31 := Nat.lt_of_le_of_lt (Nat.div_le_self _ _) (by omega)
  have e2 : mm_and ((s.toNat / 2 ^ t : Nat) : Int) ((1 : Nat) : Int) = ((s.toNat / 2 ^ t &&& 1 : Nat) : Int) := mm_and_n h1 (by decide)
  rw [e1]
  have e3 : mm_and ((s.toNat / 2 ^ t : Nat) : Int) 1 = ((s.toNat / 2 ^ t &&& 1 : Nat) : Int) := e2
  rw [e3, Nat.and_one_is_mod]
  omega
section LF
variable {D : mm_D} {u : Int} {x : mm_Xt} {Q : mm_O → mm_H → Prop} {tx : Nat → wd} {k : Int} {P : wd} {K : Int → mm_D → Int → mm_Xt → Prop} {KX : Nat → mm_D → Int → mm_Xt → Prop}
theorem st_lt {set : Int} (hk : 0 ≤ k ∧ k ≤ 4) (h : set < 2 ^ k.toNat) : set < 16 := by
  have : k.toNat = 0 ∨ k.toNat = 1 ∨ k.toNat = 2 ∨ k.toNat = 3 ∨ k.toNat = 4 := by omega
  rcases this with e | e | e | e | e <;> rw [e] at h <;> omega
theorem st_no {set : Int} (h0 : 0 ≤ set) (h : set < 2 ^ k.toNat) {t : Nat} (ht : k.toNat ≤ t) : set.toNat.testBit t = false := by
  have e : ((2 ^ k.toNat : Nat) : Int) = (2 : Int) ^ k.toNat := by rw [Int.natCast_pow]; rfl
  rw [← e] at h
  exact Nat.testBit_lt_two_pow (Nat.lt_of_lt_of_le (show set.toNat < 2 ^ k.toNat by omega) (Nat.pow_le_pow_right (by decide) ht))
theorem lw_found {set often : Int} (C : sv_C D tx k P) (h : (1 ≤ set ∧ set < 2 ^ k.toNat ∧ often = 0) ∨ (set = 0 ∧ 1 ≤ often)) (H : ∀ D' P', sv_C D' tx k P' → K 1 D' u x) : mt 82 0 [some (mm_P 0), some (mm_I set), some (mm_I often), none, none, none, none, none, none, none] [] (mm_mk D u x) (mm_pIx K KX) := by
  have k4 := C.1.1
  have s16 : 0 ≤ set ∧ set < 16 := by
    rcases h with h | h
    · exact ⟨by omega, st_lt k4 h.2.1⟩
    · omega
  have sno : ∀ t : Nat, k.toNat ≤ t → set.toNat.testBit t = true → False := by
    intro t ht hb
    rcases h with h | h
    · rw [st_no s16.1 h.2.1 ht] at hb
      cases hb
    · rw [h.1] at hb
      simp at hb
  have srng : ∀ t : Nat, mm_rng (set / 2 ^ t) := by
    intro t
    have a1 : 0 ≤ set / 2 ^ t := Int.ediv_nonneg s16.1 (Int.pow_nonneg (by decide))
    have a2 : set / 2 ^ t ≤ set := Int.ediv_le_self _ s16.1
    constructor <;> omega
  have sbit : ∀ t : Nat, ¬ mm_and (set / 2 ^ t) 1 = 0 → set.toNat.testBit t = true := by
    intro t q
    rcases bt_01 (s := set) ⟨s16.1, by omega⟩ t with e | e
    · exact absurd e q
    · exact (bt_bit ⟨s16.1, by omega⟩ t).mp e
  have snb : ∀ t : Nat, mm_and (set / 2 ^ t) 1 = 0 → set.toNat.testBit t = true → False := by
    intro t q hb
    rw [(bt_bit (s := set) ⟨s16.1, by omega⟩ t).mpr hb] at q
    exact absurd q (by decide)
  obtain ⟨m, hm⟩ : ∃ m, sz (sv_S tx) m := sv_ex C.1
  have hm2 : 0 ≤ m ∧ m ≤ 40804 := ⟨sz_nn hm, sv_fin C.1 hm (fun w q => q.2)⟩
  have main : ∀ (D : mm_D) (F : wd) (o : Int), sv_C D tx k F → sv_fnd tx set o F → ((1 ≤ set ∧ o = 1) ∨ (set = 0 ∧ o = often)) → mt 82 10 [some (mm_P 0), some (mm_I set), some (mm_I often), some (mm_I (F.length : Int)), none, none, none, none, none, none] [] (mm_mk D u x) (mm_pIx K KX) := by
    intro D F o C hf ho
    obtain ⟨f1, f2, f3⟩ := hf
    have lp68 : ∀ (r : Int), rkW tx F r → ∀ (z : Nat) (i : Int) (D : mm_D) (P : wd) (o7 o8 o9 : Option mm_V), i + (z : Int) = m → 0 ≤ i → sv_C D tx k P → mt 82 68 [some (mm_P 0), some (mm_I set), some (mm_I often), some (mm_I (F.length : Int)), some (mm_I 1), some (mm_I r), some (mm_I i), o7, o8, o9] [] (mm_mk D u x) (mm_pIx K KX) := by
      intro r hr z
      induction z with
      | zero =>
        intro i D P o7 o8 o9 hi i0 C
        apply q_L_isFound_68
        refine l_parts C (fun m' hm' => ?_)
        rw [sz_uniq hm' hm (fun _ => Iff.rfl)]
        refine ⟨fun _ => ?_, fun q => absurd (by omega) q⟩
        apply q_L_isFound_129
        exact ⟨Or.inr rfl, mm_pIxi (H _ _ C)⟩
      | succ z ih =>
        intro i D P o7 o8 o9 hi i0 C
        apply q_L_isFound_68
        refine l_parts C (fun m' hm' => ?_)
        rw [sz_uniq hm' hm (fun _ => Iff.rfl)]
        refine ⟨fun q => absurd q (by omega), fun _ => ⟨fun q => absurd q (by decide), fun _ => ?_⟩⟩
        refine l_toPart C hm ⟨i0, by omega⟩ (fun D1 W C1 hS hrW => ?_)
        have hpos := (en_all_pos C1.1 (w := W)).mpr hS
        have s123 : ∀ v8 v9 : Int, mt 82 123 [some (mm_P 0), some (mm_I set), some (mm_I often), some (mm_I (F.length : Int)), some (mm_I 1), some (mm_I r), some (mm_I i), some (mm_I (W.length : Int)), some (mm_I v8), some (mm_I v9)] [] (mm_mk D1 u x) (mm_pIx K KX) := by
          intro v8 v9
          apply q_L_isFound_123
          apply q_L_isFound_127
          exact ⟨by constructor <;> omega, ih (i + 1) D1 W _ _ _ (by omega) (by omega) C1⟩
        have lp90 : ∀ (z t : Nat) (v8 : Int), t + z = k.toNat → (v8 = 0 ∨ (v8 = 1 ∧ (1 ≤ set ∨ often ≤ en_all tx W) ∧ ∀ j : Nat, j < t → set.toNat.testBit j = true → en_of tx 15 W (j : Int) ≠ 0)) → mt 82 90 [some (mm_P 0), some (mm_I set), some (mm_I often), some (mm_I (F.length : Int)), some (mm_I 1), some (mm_I r), some (mm_I i), some (mm_I (W.length : Int)), some (mm_I v8), some (mm_I (t : Int))] [] (mm_mk D1 u x) (mm_pIx K KX) := by
          intro z
          induction z with
          | zero =>
            intro t v8 ht hg
            apply q_L_isFound_90
            apply l_texts C1
            refine ⟨fun _ => ⟨fun _ => s123 _ _, fun q8 => ?_⟩, fun q => absurd (by omega) q⟩
            have gW : sv_gd tx set o W := by
              rcases hg with hg | ⟨_, g1, g2⟩
              · exact absurd hg q8
              · refine Or.inr ⟨hS.2, fun j _ hb => ?_, ?_⟩
                · by_cases c : j < t
                  · exact g2 j c hb
                  · exact absurd hb (fun hb => sno j (by omega) hb)
                · show o ≤ en_all tx W
                  rcases ho with ho | ho
                  · omega
                  · omega
            have fl := f2 W gW
            refine ⟨fun _ => s123 _ _, fun ql => ⟨fun qe => absurd (by omega) qe, fun qe => ⟨fun qr => ?_, fun _ => s123 _ _⟩⟩⟩
            exfalso
            rcases f3 W gW (by omega) with e | e
            · rw [e] at hr
              have := sz_uniq hr hrW (fun _ => Iff.rfl)
              omega
            · have := sz_le hr hrW (fun w y => ⟨y.1, lx_tr y.2 e⟩)
              omega
          | succ z ih2 =>
            intro t v8 ht hg
            have s108 : mt 82 108 [some (mm_P 0), some (mm_I set), some (mm_I often), some (mm_I (F.length : Int)), some (mm_I 1), some (mm_I r), some (mm_I i), some (mm_I (W.length : Int)), some (mm_I v8), some (mm_I (t : Int))] [] (mm_mk D1 u x) (mm_pIx K KX) := by
              apply q_L_isFound_108
              apply q_L_isFound_110
              exact ⟨by constructor <;> omega, ih2 (t + 1) 0 (by omega) (Or.inl rfl)⟩
            have s106 : ¬ v8 = 0 → (set.toNat.testBit t = true → en_of tx 15 W (t : Int) ≠ 0) → mt 82 106 [some (mm_P 0), some (mm_I set), some (mm_I often), some (mm_I (F.length : Int)), some (mm_I 1), some (mm_I r), some (mm_I i), some (mm_I (W.length : Int)), some (mm_I v8), some (mm_I (t : Int))] [] (mm_mk D1 u x) (mm_pIx K KX) := by
              intro q8 hb
              apply q_L_isFound_106
              apply q_L_isFound_110
              refine ⟨by constructor <;> omega, ih2 (t + 1) 1 (by omega) ?_⟩
              rcases hg with hg | ⟨_, g1, g2⟩
              · exact absurd hg q8
              · refine Or.inr ⟨rfl, g1, fun j hj hbj => ?_⟩
                by_cases c : j = t
                · rw [c] at hbj ⊢
                  exact hb hbj
                · exact g2 j (by omega) hbj
            apply q_L_isFound_90
            apply l_texts C1
            refine ⟨fun q => absurd q (by omega), fun _ => ⟨fun _ => s108, fun q8 => ⟨⟨s16.1, by omega, by omega⟩, srng t, fun qa => s106 q8 (fun hb => (snb t qa hb).elim), fun qa => ?_⟩⟩⟩
            refine l_occIn C1 (by omega) ⟨fun _ => s108, fun q => s106 q8 (fun _ => by omega)⟩
        refine ⟨fun q => ?_, fun q => ?_⟩
        · apply q_L_isFound_84
          apply q_L_isFound_88
          exact lp90 k.toNat 0 1 (by omega) (Or.inr ⟨rfl, Or.inl (by omega), fun j hj => absurd hj (by omega)⟩)
        · apply l_occ C1
          refine ⟨fun q2 => ?_, fun q2 => ?_⟩
          · apply q_L_isFound_88
            exact lp90 k.toNat 0 0 (by omega) (Or.inl rfl)
          · apply q_L_isFound_84
            apply q_L_isFound_88
            exact lp90 k.toNat 0 1 (by omega) (Or.inr ⟨rfl, Or.inr (by omega), fun j hj => absurd hj (by omega)⟩)
    have s59 : ∀ v5 : Int, mt 82 59 [some (mm_P 0), some (mm_I set), some (mm_I often), some (mm_I (F.length : Int)), some (mm_I 1), some (mm_I v5), none, none, none, none] [] (mm_mk D u x) (mm_pIx K KX) := by
      intro v5
      apply q_L_isFound_59
      apply q_L_isFound_63
      refine l_rank C (fun r D1 C1 hr => ?_)
      exact lp68 r hr m.toNat 0 D1 F none none none (by omega) (Int.le_refl _) C1
    have hF : ¬ (F.length : Int) = 0 → sv_S tx F ∧ (∀ t : Nat, t < 4 → set.toNat.testBit t = true → en_of tx 15 F (t : Int) ≠ 0) ∧ o ≤ en_all tx F := by
      intro q
      have h0 : F ≠ [] := fun e => q (by rw [e]; rfl)
      rcases f1 with f1 | f1
      · exact absurd f1 h0
      · exact ⟨⟨h0, f1.1⟩, f1.2.1, f1.2.2⟩
    have lp25 : ∀ z t : Nat, t + z = k.toNat → mt 82 25 [some (mm_P 0), some (mm_I set), some (mm_I often), some (mm_I (F.length : Int)), some (mm_I 1), some (mm_I (t : Int)), none, none, none, none] [] (mm_mk D u x) (mm_pIx K KX) := by
      intro z
      induction z with
      | zero =>
        intro t ht
        apply q_L_isFound_25
        apply l_texts C
        refine ⟨fun _ => ⟨fun q => absurd q (by decide), fun _ => ⟨fun _ => s59 _, fun qF => ⟨fun _ => s59 _, fun qs => ?_⟩⟩⟩, fun q => absurd (by omega) q⟩
        apply l_occ C
        refine ⟨fun q => ?_, fun _ => s59 _⟩
        have := (hF qF).2.2
        exfalso
        rcases ho with ho | ho
        · omega
        · omega
      | succ z ih =>
        intro t ht
        have s43 : mt 82 43 [some (mm_P 0), some (mm_I set), some (mm_I often), some (mm_I (F.length : Int)), some (mm_I 1), some (mm_I (t : Int)), none, none, none, none] [] (mm_mk D u x) (mm_pIx K KX) := by
          apply q_L_isFound_43
          apply q_L_isFound_47
          exact ⟨by constructor <;> omega, ih (t + 1) (by omega)⟩
        apply q_L_isFound_25
        apply l_texts C
        refine ⟨fun q => absurd q (by omega), fun _ => ⟨fun q => absurd q (by decide), fun _ => ⟨fun _ => s43, fun qF => ⟨⟨s16.1, by omega, by omega⟩, srng t, fun _ => s43, fun qa => ?_⟩⟩⟩⟩
        refine l_occIn C (by omega) ⟨fun q => ?_, fun _ => s43⟩
        have h1 := (hF qF).2.1 t (by omega) (sbit t qa)
        have h2 := (en_b tx F (t : Int)).1
        exact absurd (by omega) h1
    have s19 : mt 82 19 [some (mm_P 0), some (mm_I set), some (mm_I often), some (mm_I (F.length : Int)), none, none, none, none, none, none] [] (mm_mk D u x) (mm_pIx K KX) := by
      apply q_L_isFound_19
      apply q_L_isFound_23
      exact lp25 k.toNat 0 (by omega)
    apply q_L_isFound_10
    apply l_plen C
    refine ⟨fun q => absurd rfl q, fun _ => ⟨fun _ => s19, fun qF => ?_⟩⟩
    apply l_isPart C
    rw [cI_1 (p := F ≠ [] ∧ fac tx F) (hF qF).1]
    exact ⟨fun q => absurd q (by decide), fun _ => s19⟩
  apply q_L_isFound_0
  refine ⟨fun q => ?_, fun q => ?_⟩
  · have h2 : set = 0 ∧ 1 ≤ often := by omega
    refine l_repeated C h2.2 (fun D' W C' hf => ?_)
    exact main D' W often C' (by rw [h2.1]; exact hf) (Or.inr ⟨h2.1, rfl⟩)
  · have h2 : 1 ≤ set ∧ set < 2 ^ k.toNat := by
      rcases h with h | h
      · exact ⟨h.1, h.2.1⟩
      · omega
    refine l_common C h2 (fun D' W C' hf => ?_)
    exact main D' W 1 C' hf (Or.inl ⟨h2.1, rfl⟩)
end LF
