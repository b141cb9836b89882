/-! the reference: rank -/
section RK
variable {D : mm_D} {u : Int} {x : mm_Xt} {Q : mm_O → mm_H → Prop} {tx : Nat → wd} {k : Int} {P : wd}
theorem rp_agreed {p : Int} (R : sv_R D tx k P) (hp : sv_vp tx k p) (H : Q (.inl (some (mm_I (lc (sv_sf tx p) P : Int)))) (mm_mk D u x)) : mt 116 0 [some (mm_P 24), some (mm_I p), none] [] (mm_mk D u x) Q := by
  have hlen := R.1.2.2.1
  have bp := sv_vpB R.1 hp
  have lp := sv_vpL R hp
  apply q_X5_agreed_0
  have loop : ∀ (m n : Nat), n + m = P.length → n ≤ (sv_sf tx p).length → (∀ j, j < n → wg (sv_sf tx p) j = wg P j) → mt 116 2 [some (mm_P 24), some (mm_I p), some (mm_I (n : Int))] [] (mm_mk D u x) Q := by
    intro m
    induction m with
    | zero =>
      intro n hn h2 hj
      apply q_X5_agreed_2
      rw [R.2.2.2.1]
      refine ⟨fun _ => ?_, fun y => absurd y (by omega)⟩
      rw [← lc_u h2 (by omega) hj (Or.inr (Or.inl (by omega)))]
      exact H
    | succ m ih =>
      intro n hn h2 hj
      apply q_X5_agreed_2
      rw [R.2.2.2.1]
      refine ⟨fun y => absurd y (by omega), fun _ => ?_⟩
      refine rp_left R hp ?_
      apply mm_pIi
      have e2 := R.2.2.2.2 n (by omega)
      rw [Int.zero_add] at e2
      refine ⟨fun y => ?_, fun y => ⟨by constructor <;> omega, by omega, by omega, by omega, by omega, fun y2 => ?_, fun y2 => ⟨by constructor <;> omega, ?_⟩⟩⟩
      · rw [← lc_u h2 (by omega) hj (Or.inl (by omega))]
        exact H
      · rw [lp n (by omega), e2] at y2
        rw [← lc_u h2 (by omega) hj (Or.inr (Or.inr y2))]
        exact H
      · rw [lp n (by omega), e2] at y2
        refine ih (n + 1) (by omega) (by omega) (fun j hj' => ?_)
        by_cases e : j = n
        · rw [e]
          exact Decidable.not_not.mp y2
        · exact hj j (by omega)
  exact loop P.length 0 (by omega) (Nat.zero_le _) (fun j h => by omega)
theorem lc_tk (u v : wd) : u.take (lc u v) <+: v := by
  rw [lc_pre (List.take_prefix _ _), List.length_take]
  omega
/-- beginnings of S that are ahead of P, by their length -/
theorem rk_lo {S w : wd} (hw : w <+: S) (hl : w.length ≤ lc S P) : w <+: P := by
  have h1 : w <+: S.take (lc S P) := List.prefix_of_prefix_length_le hw (List.take_prefix _ _) (by rw [List.length_take]; have := lc_le S P; omega)
  exact h1.trans (lc_tk S P)
theorem rk_1 {S w : wd} (hw : w <+: S) (h : lc S P = P.length) : lx w P ↔ (w.length : Int) ≤ (P.length : Int) - 1 := by
  constructor
  · intro q
    by_cases c : w.length < P.length
    · omega
    · exfalso
      have hP : P <+: S := by
        have h2 : S.take (lc S P) <+: P := lc_tk S P
        have h3 := lc_le S P
        have h4 : S.take (lc S P) = P := h2.eq_of_length (by rw [List.length_take]; omega)
        rw [← h4]
        exact List.take_prefix _ _
      exact lx_pre (List.prefix_of_prefix_length_le hP hw (by omega)) q
  · intro q
    exact lx_pre2 (rk_lo hw (by omega)) (fun e => by rw [e] at q; omega)
theorem rk_2 {S w : wd} (hw : w <+: S) (h : lc S P ≠ P.length) (h2 : S.length ≤ lc S P) : lx w P ↔ (w.length : Int) ≤ (lc S P : Int) := by
  have h3 := lc_le S P
  have h4 := hw.length_le
  refine ⟨fun _ => by omega, fun q => lx_pre2 (rk_lo hw (by omega)) (fun e => by rw [e] at h4; omega)⟩
theorem rk_div {S w : wd} (hw : w <+: S) (h : lc S P ≠ P.length) (h2 : lc S P < w.length) : lx w P ↔ lx S P := by
  have h3 := lc_le S P
  obtain ⟨v, e⟩ := hw
  have n1 : ¬ P <+: w := by
    intro y
    have y2 : P <+: S := by rw [← e]; exact y.trans (List.prefix_append w v)
    have := (lc_pre y2 (v := P)).mp (List.prefix_refl P)
    omega
  have n2 : ¬ w <+: P := by
    intro y
    have y2 : w <+: S := by rw [← e]; exact List.prefix_append w v
    have := (lc_pre y2 (v := P)).mp y
    omega
  have := (lx_div n1 n2 (v := []) (v' := v)).2.2
  rw [e] at this
  exact this.symm
theorem rk_3 {S w : wd} (hw : w <+: S) (h : lc S P ≠ P.length) (h2 : ¬ S.length ≤ lc S P) (h5 : wg S (lc S P) < wg P (lc S P)) : lx w P ↔ (w.length : Int) ≤ (S.length : Int) := by
  have h3 := lc_le S P
  have h4 := hw.length_le
  refine ⟨fun _ => by omega, fun _ => ?_⟩
  by_cases c : lc S P < w.length
  · exact (rk_div hw h c).mpr ((lc_lx S P).mpr (Or.inr ⟨by omega, by omega, h5⟩))
  · exact lx_pre2 (rk_lo hw (by omega)) (fun e => by rw [e] at c; omega)
theorem rk_4 {S w : wd} (hw : w <+: S) (h : lc S P ≠ P.length) (h2 : ¬ S.length ≤ lc S P) (h5 : wg P (lc S P) ≤ wg S (lc S P)) : lx w P ↔ (w.length : Int) ≤ (lc S P : Int) := by
  have h3 := lc_le S P
  constructor
  · intro q
    by_cases c : lc S P < w.length
    · exfalso
      rcases (lc_lx S P).mp ((rk_div hw h c).mp q) with y | y <;> omega
    · omega
  · intro q
    exact lx_pre2 (rk_lo hw (by omega)) (fun e => by rw [e] at q; omega)
theorem rs_rank (R : sv_R D tx k P) (H : ∀ r D', sv_E D D' → sv_R D' tx k P → sz (fun w => sv_S tx w ∧ lx w P) r → Q (.inl (some (mm_I r))) (mm_mk D' u x)) : mt 117 0 [some (mm_P 24), none, none, none, none] [] (mm_mk D u x) Q := by
  have t100 := R.1.2.1
  have hlen := R.1.2.2.1
  apply q_X5_rank_0
  intro D0 e0
  subst e0
  have R0 := sv_R_f R (p := 0) (v := 0) (by decide)
  refine rp_sorts R0 (fun D1 r1 s1 s2 s3 => ?_)
  apply mm_pVi
  have Z : sv_Z tx k D1 := ⟨s1, s2, s3⟩
  have R1 := sv_R_n R0 r1
  have E1 : sv_E D D1 := sv_E_t (sv_E_w (by decide)) (sv_E_n r1)
  have lp : ∀ (m e : Nat) (v : Int) (o3 o4 : Option mm_V), (e : Int) + m = sv_tot tx → sz (fun w => sv_pr tx D1 (e : Int) w ∧ lx w P) v → mt 117 9 [some (mm_P 24), some (mm_I v), some (mm_I (e : Int)), o3, o4] [] (mm_mk D1 u x) Q := by
    intro m
    induction m with
    | zero =>
      intro e v o3 o4 he hz
      apply q_X5_rank_9
      rw [R1.2.1.2]
      refine ⟨fun _ => H v D1 E1 R1 (sz_c hz (fun w => ?_)), fun y => absurd y (by omega)⟩
      rw [show (e : Int) = sv_tot tx by omega, pr_all R.1 Z w]
    | succ m ih =>
      intro e v o3 o4 he hz
      have hv := Z.1.1 (e : Int) (by omega) (by omega)
      have hb := sv_vpB R.1 hv
      have hl := sv_vpL R1 hv
      have hh := Z_h Z (e := (e : Int)) (by omega)
      have hll : ((sv_e tx D1 (e : Int)).length : Int) = ((sv_sf tx (D1 28 (e : Int))).length : Int) := rfl
      have hf := sv_fin R.1 hz (fun w q => (pr_fac R.1 Z (by omega) q.1).2)
      have hn := sz_nn hz
      have hg := lc_le (sv_sf tx (D1 28 (e : Int))) P
      have fin : ∀ (up : Int) (o3 o4 : Option mm_V), (∀ w : wd, w <+: sv_sf tx (D1 28 (e : Int)) → (lx w P ↔ (w.length : Int) ≤ up)) → (-1 ≤ up ∧ up ≤ ((sv_sf tx (D1 28 (e : Int))).length : Int)) → (up ≤ D1 29 (e : Int) → mm_rng (v + 0) ∧ (mm_rng ((e : Int) + 1) ∧ mt 117 9 [some (mm_P 24), some (mm_I (v + 0)), some (mm_I ((e : Int) + 1)), o3, o4] [] (mm_mk D1 u x) Q)) ∧ (¬ up ≤ D1 29 (e : Int) → 0 ≤ (e : Int) ∧ ((e : Int) < 100 ∧ (mm_rng (up - D1 29 (e : Int)) ∧ (mm_rng (v + (up - D1 29 (e : Int))) ∧ (mm_rng ((e : Int) + 1) ∧ mt 117 9 [some (mm_P 24), some (mm_I (v + (up - D1 29 (e : Int)))), some (mm_I ((e : Int) + 1)), o3, o4] [] (mm_mk D1 u x) Q))))) := by
        intro up o3 o4 hw hup
        rw [show (e : Int) + 1 = ((e + 1 : Nat) : Int) by omega]
        refine ⟨fun q => ⟨by constructor <;> omega, by constructor <;> omega, ih (e + 1) _ _ _ (by omega) ?_⟩, fun q => ⟨by omega, by omega, by constructor <;> omega, by constructor <;> omega, by constructor <;> omega, ih (e + 1) _ _ _ (by omega) ?_⟩⟩
        · rw [Int.add_zero]
          refine sz_c hz (fun w => ?_)
          rw [show ((e + 1 : Nat) : Int) = (e : Int) + 1 by omega, pr_s (by omega)]
          refine ⟨fun y => ⟨Or.inl y.1, y.2⟩, fun y => ⟨?_, y.2⟩⟩
          rcases y.1 with y1 | y1
          · exact y1
          · exfalso
            have := (hw w y1.1).mp y.2
            have := y1.2
            omega
        · refine sz_c (sz_add hz (sz_bk Z (e := (e : Int)) (l := up) (by omega) (by omega) (by omega)) (fun w a b => pr_no Z (by omega) a.1 b.1)) (fun w => ?_)
          rw [show ((e + 1 : Nat) : Int) = (e : Int) + 1 by omega, pr_s (by omega)]
          constructor
          · rintro (y | y)
            · exact ⟨Or.inl y.1, y.2⟩
            · exact ⟨Or.inr y.1, (hw w y.1.1).mpr y.2⟩
          · rintro ⟨y | y, y2⟩
            · exact Or.inl ⟨y, y2⟩
            · exact Or.inr ⟨y, (hw w y.1).mp y2⟩
      apply q_X5_rank_9
      rw [R1.2.1.2]
      refine ⟨fun y => absurd y (by omega), fun _ => ⟨by omega, by omega, ?_⟩⟩
      refine rp_agreed R1 hv ?_
      apply mm_pIi
      rw [R1.2.2.2.1]
      refine ⟨fun y => ⟨by omega, by omega, ?_⟩, fun y => ⟨by constructor <;> omega, by omega, by omega, fin _ _ _ (fun w hw => rk_1 hw (by omega)) (by omega)⟩⟩
      refine rp_left R1 hv ?_
      apply mm_pIi
      refine ⟨fun y2 => ⟨by omega, by omega, fin _ _ _ (fun w hw => rk_2 hw (by omega) (by omega)) (by omega)⟩, fun y2 => ⟨by omega, by omega, by constructor <;> omega, by omega, by omega, by omega, by omega, fun y3 => ?_, fun y3 => ?_⟩⟩
      · have e2 := R1.2.2.2.2 (lc (sv_sf tx (D1 28 (e : Int))) P) (by omega)
        rw [Int.zero_add] at e2
        rw [hl _ (by omega), e2] at y3
        exact ⟨by omega, by omega, fin _ _ _ (fun w hw => rk_4 hw (by omega) (by omega) y3) (by omega)⟩
      · have e2 := R1.2.2.2.2 (lc (sv_sf tx (D1 28 (e : Int))) P) (by omega)
        rw [Int.zero_add] at e2
        rw [hl _ (by omega), e2] at y3
        refine ⟨by omega, by omega, ?_⟩
        refine rp_left R1 hv ?_
        apply mm_pIi
        exact ⟨by omega, by omega, fin _ _ _ (fun w hw => rk_3 hw (by omega) (by omega) (by omega)) (by omega)⟩
  exact lp (sv_tot tx).toNat 0 0 none none (by have := sv_tot_0 tx; omega) (sz_0 (fun w q => pr_0 w q.1))
end RK
