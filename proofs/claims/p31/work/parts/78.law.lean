/-! the law itself -/
section LL
variable {D : mm_D} {u : Int} {x : mm_Xt} {Q : mm_O → mm_H → Prop} {tx : Nat → wd} {k : Int} {P : wd} {s : List Int}
theorem tx0_S (w : wd) : ¬ sv_S tx0 w := by
  rintro ⟨h0, h⟩
  obtain ⟨j, e, h1, h2⟩ := fac_ix h h0
  simp [tx0] at h1
theorem lw_loop {n : Int} (hn : 0 ≤ n ∧ n ≤ 40) (hx : x.2.2 = 0 :: s) (H : ∀ D, Q (.inl (some (mm_I 1))) (mm_mk D u x)) : ∀ (z i : Nat) (D : mm_D) (tx : Nat → wd) (k : Int) (P : wd) (o5 : Option mm_V), i + z = n.toNat → sv_C D tx k P → mt 84 41 [some (mm_P 999), some (mm_P 0), some (mm_I 1), some (mm_I n), some (mm_I (i : Int)), o5] [] (mm_mk D u x) Q := by
  intro z
  induction z with
  | zero =>
    intro i D tx k P o5 hi C
    apply q_L_law_41
    refine ⟨fun _ => ?_, fun q => absurd (by omega) q⟩
    apply q_L_law_124
    exact ⟨Or.inr rfl, H D⟩
  | succ z ih =>
    intro i D tx k P o5 hi C
    apply q_L_law_41
    refine ⟨fun q => absurd q (by omega), fun _ => ⟨fun q => absurd q (by decide), fun _ => ⟨by constructor <;> omega, by constructor <;> omega, ?_⟩⟩⟩
    refine lw_draw (i := 3 * i + 2) hx (by omega) (fun b b0 b1 => ⟨by constructor <;> omega, ?_⟩)
    refine lw_draw (i := 3 * i) hx (by omega) (fun w9 c0 c1 => ⟨by constructor <;> omega, by constructor <;> omega, ?_⟩)
    refine lw_draw (i := 3 * i + 1) hx (by omega) (fun a a0 a1 => ?_)
    refine lw_step C c0 a0 ⟨b0, b1⟩ (fun D1 tx1 k1 P1 C1 hk1 => ⟨fun q => absurd q (by decide), fun _ => ?_⟩)
    refine lw_places C1 ⟨fun q => absurd q (by decide), fun _ => ?_⟩
    have s122 : ∀ (D2 : mm_D) (P2 : wd), sv_C D2 tx1 k1 P2 → mt 84 122 [some (mm_P 999), some (mm_P 0), some (mm_I 1), some (mm_I n), some (mm_I (i : Int)), some (mm_I b)] [] (mm_mk D2 u x) Q := by
      intro D2 P2 C2
      apply q_L_law_122
      exact ⟨by constructor <;> omega, ih (i + 1) D2 tx1 k1 P2 _ (by omega) C2⟩
    have k4 := C1.1.1
    apply q_L_law_77
    refine ⟨fun q => absurd q (by decide), fun _ => ⟨⟨by omega, by decide⟩, by constructor <;> omega, fun _ => s122 _ _ C1, fun _ => ?_⟩⟩
    refine lw_parts C1 (fun D2 P2 C2 => ⟨fun q => absurd q (by decide), fun _ => ?_⟩)
    apply l_texts C2
    obtain ⟨X, hX⟩ : ∃ X : Int, X = 2 ^ k1.toNat := ⟨_, rfl⟩
    have hXb : 2 ≤ X ∧ X ≤ 16 := by
      have : k1.toNat = 1 ∨ k1.toNat = 2 ∨ k1.toNat = 3 ∨ k1.toNat = 4 := by omega
      rcases this with e | e | e | e <;> rw [e] at hX <;> omega
    rw [Int.one_mul, ← hX]
    have e0 : 0 ≤ b % (X - 1) := Int.emod_nonneg _ (by omega)
    have e1 : b % (X - 1) < X - 1 := Int.emod_lt_of_pos _ (by omega)
    refine ⟨⟨by decide, by omega, by omega⟩, by constructor <;> omega, by constructor <;> omega, ⟨b0, by omega⟩, by constructor <;> omega, by constructor <;> omega, ?_⟩
    refine lw_found C2 (Or.inl ⟨by omega, by rw [← hX]; omega, rfl⟩) (fun D3 P3 C3 => ⟨fun q => absurd q (by decide), fun _ => ⟨⟨b0, by decide⟩, by constructor <;> omega, by constructor <;> omega, ?_⟩⟩)
    refine lw_found C3 (Or.inr ⟨rfl, by omega⟩) (fun D4 P4 C4 => ⟨fun q => absurd q (by decide), fun _ => ⟨⟨b0, by decide⟩, by constructor <;> omega, by constructor <;> omega, ?_⟩⟩)
    exact lw_missing C4 (by omega) (fun D5 P5 C5 => ⟨fun q => absurd q (by decide), fun _ => s122 _ _ C5⟩)
theorem lw_main (hl : s.length ≤ 260) (hx : x.2.2 = 0 :: s) (H : ∀ D, Q (.inl (some (mm_I 1))) (mm_mk D u x)) : mt 84 4 [some (mm_P 999), some (mm_P 0), none, none, none, none] [] (mm_mk mm_D0 u x) Q := by
  have s26 : ∀ (D : mm_D) (P : wd), sv_C D tx0 0 P → mt 84 26 [some (mm_P 999), some (mm_P 0), some (mm_I 1), none, none, none] [] (mm_mk D u x) Q := by
    intro D P C
    have s39 : ∀ n : Int, 0 ≤ n ∧ n ≤ 40 → mt 84 39 [some (mm_P 999), some (mm_P 0), some (mm_I 1), some (mm_I n), none, none] [] (mm_mk D u x) Q := by
      intro n hn
      apply q_L_law_39
      exact lw_loop hn hx H n.toNat 0 D tx0 0 P none (by omega) C
    apply q_L_law_26
    refine ⟨0, s, hx, ⟨by omega, by decide⟩, by constructor <;> omega, fun q => ⟨0, s, hx, ⟨by omega, by decide⟩, by constructor <;> omega, s39 _ ⟨by omega, by omega⟩⟩, fun q => s39 _ (by decide)⟩
  have C0 := sv_C0
  have z0 : ∀ (p : wd → Prop) {m : Int}, sz (fun w => sv_S tx0 w ∧ p w) m → m = 0 := fun p m h => sz_uniq h (sz_0 (S := fun w => sv_S tx0 w ∧ p w) (fun w q => tx0_S w q.1)) (fun _ => Iff.rfl)
  apply q_L_law_4
  refine l_parts C0 (fun m hm => ?_)
  refine ⟨fun q => absurd (sz_uniq hm (sz_0 (S := sv_S tx0) tx0_S) (fun _ => Iff.rfl)) q, fun _ => ?_⟩
  refine l_classes C0 (fun c hc _ => ?_)
  refine ⟨fun q => absurd (z0 _ hc) q, fun _ => ?_⟩
  refine l_missing C0 (by decide) (fun D1 W C1 hW => ?_)
  obtain ⟨w1, w2, w3, w4⟩ := hW
  have h0 : W ≠ [] := fun e => w2 (by rw [e]; exact fac_nil tx0)
  have hp := List.length_pos_iff.mpr h0
  have h1 := w3 [0] (fun b hb => by rw [List.mem_singleton.mp hb]; decide) (fun h => tx0_S [0] ⟨by simp, h⟩)
  have e1 : (W.length : Int) = 1 := by
    rw [List.length_singleton] at h1
    omega
  refine ⟨fun q => absurd e1 q, fun _ => ?_⟩
  refine l_wipe C1 (fun D2 C2 => ?_)
  refine ⟨fun q => absurd e1 q, fun _ => ?_⟩
  exact lw_places C2 ⟨fun q => absurd q (by decide), fun _ => s26 _ _ C2⟩
end LL
theorem mm_law : mm_LAW := by
  intro scr hl hr
  have key := mm_law0 (s := 0 :: scr) (Q := fun o h => o = .inl (some (mm_I 1)) ∧ h.2.1 ≤ 600130 ∧ h.2.2.1 ≤ 7301079) (lw_main (s := scr) hl rfl (fun D => ⟨rfl, by show (24 : Nat) ≤ 600130; decide, by show (8999 : Nat) ≤ 7301079; decide⟩))
  obtain ⟨n, o, h', e, rfl, h1, h2⟩ := key
  exact ⟨n, h', e, h1, h2⟩
