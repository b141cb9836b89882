/-! the class: the pattern looked up -/
def sv_st (n : Int) (rep : Int → wd) (z : wd) (v : Int) : Prop := (v = -1 ∧ ¬ wm_F (au_M n (-1) rep) z) ∨ ((0 ≤ v ∧ v < n) ∧ wm_cl (au_M n (-1) rep) z (rep v))
theorem ws_nil1 (w : wd) (a : Int) : ¬ w ++ [a] <:+ ([] : wd) := by
  intro h
  have := h.length_le
  simp at this
theorem wm_F_pre {M : wd → Prop} (hM : wm_ok M) {w : wd} {a : Int} (h : wm_F M (w ++ [a])) : wm_F M w := by
  obtain ⟨m, hm, hs⟩ := h
  obtain ⟨y, rfl, hy⟩ := ws_last hs
  exact ⟨y, hM.2.1 y a hm, hy⟩
section SE
variable {D : mm_D} {u : Int} {x : mm_Xt} {Q : mm_O → mm_H → Prop} {tx : Nat → wd} {k : Int} {P : wd} {n : Int} {rep : Int → wd} {en : Nat → wd → Int → Int}
theorem sv_root (J : au_J D n (-1) rep [] en) : sv_st n rep [] 0 := by
  obtain ⟨j1, j2, j3, j4, j5, j6, j7, j8, j9, j10, j11⟩ := J
  exact Or.inr ⟨by omega, by rw [j4]; exact wm_cl_nil j6⟩
theorem sv_step (J : au_J D n (-1) rep [] en) {z : wd} {v a : Int} (h : sv_st n rep z v) (ha : 0 ≤ a ∧ a < 26) : sv_st n rep (z ++ [a]) (sd_step D v a) := by
  obtain ⟨j1, j2, j3, j4, j5, j6, j7, j8, j9, j10, j11⟩ := J
  rcases h with ⟨h1, h2⟩ | ⟨h1, h2⟩
  · left
    refine ⟨?_, fun q => h2 (wm_F_pre j6 q)⟩
    rw [h1]
    exact if_neg (by omega)
  · have e : sd_step D v a = D 18 (v * 26 + a) := if_pos (by omega)
    rw [e]
    have hs := wm_cl_snoc j6 h2 (a := a)
    rcases j8 v a ⟨h1, by omega⟩ ha with ⟨_, q, _⟩ | ⟨q1, _, q2⟩ | ⟨q1, q2⟩
    · exact absurd q (ws_nil1 _ _)
    · exact Or.inl ⟨q1, fun q => q2 (hs.1.mp q)⟩
    · exact Or.inr ⟨q1.1, (hs.2 _).mpr q2⟩
theorem sv_stF {z : wd} {v : Int} (h : sv_st n rep z v) : v ≠ -1 ↔ wm_F (au_M n (-1) rep) z := by
  rcases h with ⟨h1, h2⟩ | ⟨h1, h2⟩
  · exact ⟨fun q => absurd h1 q, fun q => absurd q h2⟩
  · exact ⟨fun _ => ⟨_, h2.1, h2.2.1⟩, fun _ => by omega⟩
theorem sp_walk4 (C : sv_C D tx k P) (J : au_J D n (-1) rep [] (en_of tx)) (T : tM tx (au_M n (-1) rep)) {z : wd} {v1 : Int} (H : ∀ v, sv_st n rep (z ++ P) v → Q (.inl (some (mm_I v))) (mm_mk D u x)) : ∀ (m i : Nat) (v2 : Int), i + m = P.length → sv_st n rep (z ++ P.take i) v2 → mt 73 4 [some (mm_P 0), some (mm_I v1), some (mm_I v2), some (mm_I (i : Int))] [] (mm_mk D u x) Q := by
  have w10 : mm_isW 10 := by unfold mm_isW; omega
  have hlen := C.1.2.2.1
  intro m
  induction m with
  | zero =>
    intro i v2 hi hs
    apply q_X4_walkPattern_4
    apply sp_size w10
    apply mm_pIi
    rw [C.2.2.2.1.1]
    rw [List.take_of_length_le (by omega)] at hs
    exact ⟨fun _ => H v2 hs, fun q => absurd q (by omega)⟩
  | succ m ih =>
    intro i v2 hi hs
    apply q_X4_walkPattern_4
    apply sp_size w10
    apply mm_pIi
    rw [C.2.2.2.1.1]
    refine ⟨fun q => absurd q (by omega), fun _ => ⟨fun q => ?_, fun q => ?_⟩⟩
    · refine H v2 (Or.inl ⟨q, fun f => ?_⟩)
      have hn : ¬ wm_F (au_M n (-1) rep) (z ++ P.take i) := fun f => (sv_stF hs).mpr f q
      rw [tM_F T] at f hn
      refine hn (fac_preL (P.drop i) _ ?_)
      rw [List.append_assoc, List.take_append_drop]
      exact f
    · apply sp_letter _ w10 (by omega) (by rw [C.2.2.2.1.1]; omega) (by show _ < (120 : Int); omega)
      apply mm_pIi
      have e1 := C.2.2.2.1.2 i (by omega)
      rw [Int.zero_add] at e1
      rw [e1]
      apply sp_step
      apply mm_pIi
      refine ⟨by constructor <;> omega, ih (i + 1) _ (by omega) ?_⟩
      rw [wd_take (by omega), ← List.append_assoc]
      exact sv_step J hs (C.1.2.2.2.2.1 _ (wg_mem (by omega)))
theorem sp_walk (C : sv_C D tx k P) (J : au_J D n (-1) rep [] (en_of tx)) (T : tM tx (au_M n (-1) rep)) {z : wd} {v1 : Int} (h : sv_st n rep z v1) (H : ∀ v, sv_st n rep (z ++ P) v → Q (.inl (some (mm_I v))) (mm_mk D u x)) : mt 73 0 [some (mm_P 0), some (mm_I v1), none, none] [] (mm_mk D u x) Q := by
  apply q_X4_walkPattern_0
  exact sp_walk4 C J T H P.length 0 v1 (by omega) (by rw [List.take_zero, List.append_nil]; exact h)
/-- the state of the pattern -/
def sv_ps (tx : Nat → wd) (n : Int) (rep : Int → wd) (P : wd) (v : Int) : Prop := (v = -1 ∧ (P = [] ∨ ¬ fac tx P)) ∨ (P ≠ [] ∧ fac tx P ∧ (0 < v ∧ v < n) ∧ wm_cl (au_M n (-1) rep) P (rep v))
theorem sp_ps (C : sv_C D tx k P) (J : au_J D n (-1) rep [] (en_of tx)) (T : tM tx (au_M n (-1) rep)) (H : ∀ v, sv_ps tx n rep P v → Q (.inl (some (mm_I v))) (mm_mk D u x)) : mt 74 0 [some (mm_P 0)] [] (mm_mk D u x) Q := by
  have w10 : mm_isW 10 := by unfold mm_isW; omega
  apply q_X4_partState_0
  apply sp_size w10
  apply mm_pIi
  rw [C.2.2.2.1.1]
  refine ⟨fun q => ?_, fun q => H _ (Or.inl ⟨rfl, Or.inl (List.length_eq_zero_iff.mp (by omega))⟩)⟩
  have hne : P ≠ [] := fun e => q (by rw [e]; rfl)
  refine sp_walk C J T (sv_root J) (fun v hv => ?_)
  apply mm_pIi
  rw [List.nil_append] at hv
  apply H
  rcases hv with ⟨h1, h2⟩ | ⟨h1, h2⟩
  · exact Or.inl ⟨h1, Or.inr (fun f => h2 ((tM_F T).mpr f))⟩
  · refine Or.inr ⟨hne, (tM_F T).mp ⟨_, h2.1, h2.2.1⟩, ⟨?_, h1.2⟩, h2⟩
    by_cases e : v = 0
    · exfalso
      have := h2.2.1
      rw [e, J.2.2.2.1] at this
      exact hne (List.suffix_nil.mp this)
    · omega
theorem oc_nil (T : wd) (e : Nat) : ¬ oc T [] e := fun h => h.1 rfl
theorem en_ps {tx : Nat → wd} {P : wd} (h : P = [] ∨ ¬ fac tx P) (j : Int) : en_of tx 15 P j = 0 ∧ en_of tx 16 P j = -1 ∧ en_of tx 17 P j = -1 := by
  rcases h with h | h
  · rw [h]
    exact cN_none (p := oc (tx j.toNat) []) (n := (tx j.toNat).length) (fun e _ => oc_nil _ e)
  · exact en_nofac h j
theorem sv_en (J : au_J D n (-1) rep [] (en_of tx)) (T : tM tx (au_M n (-1) rep)) {v : Int} (h : sv_ps tx n rep P v) {j : Int} (hj : 0 ≤ j ∧ j < 4) : sd_cnt D v j = en_of tx 15 P j ∧ sd_fst D v j = en_of tx 16 P j ∧ sd_lst D v j = en_of tx 17 P j := by
  obtain ⟨j1, j2, j3, j4, j5, j6, j7, j8, j9, j10, j11⟩ := J
  rcases h with ⟨h1, h2⟩ | ⟨h0, h1, h2, h3⟩
  · obtain ⟨e1, e2, e3⟩ := en_ps h2 j
    have hp : sd_pl v j = -1 := if_neg (by omega)
    rw [e1, e2, e3]
    exact ⟨if_pos hp, if_pos hp, if_pos hp⟩
  · have hp : sd_pl v j = v * 4 + j := if_pos (by omega)
    have hq : ¬ sd_pl v j = -1 := by omega
    have iv : au_in n (-1) v := ⟨by omega, by omega⟩
    have e := fun r hr => j11 v r j iv (by omega) hr hj
    have e1 : sd_cnt D v j = D 15 (sd_pl v j) := if_neg hq
    have e2 : sd_fst D v j = D 16 (sd_pl v j) := if_neg hq
    have e3 : sd_lst D v j = D 17 (sd_pl v j) := if_neg hq
    rw [e1, e2, e3, hp, e 15 (by decide), e 16 (by decide), e 17 (by decide), tM_en T h3 h0, tM_en T h3 h0, tM_en T h3 h0]
    exact ⟨rfl, rfl, rfl⟩
theorem sv_cI {v : Int} (h : sv_ps tx n rep P v) : v ≠ -1 ↔ P ≠ [] ∧ fac tx P := by
  rcases h with ⟨h1, h2⟩ | ⟨h0, h1, h2, h3⟩
  · refine ⟨fun q => absurd h1 q, fun q => ?_⟩
    rcases h2 with h2 | h2
    · exact absurd h2 q.1
    · exact absurd q.2 h2
  · exact ⟨fun _ => ⟨h0, h1⟩, fun _ => by omega⟩
theorem cs_isPart (C : sv_C D tx k P) (H : Q (.inl (some (mm_I (cI (P ≠ [] ∧ fac tx P))))) (mm_mk D u x)) : mt 54 0 [some (mm_P 0)] [] (mm_mk D u x) Q := by
  obtain ⟨n, rep, J, O, T, N, W⟩ := C.2.2.2.2
  apply q_X4_isPart_0
  refine sp_ps C J T (fun v hv => ?_)
  apply mm_pIi
  refine ⟨fun q => ?_, fun q => ?_⟩
  · rwa [cI_0 (fun z => (sv_cI hv).mpr z q)] at H
  · rwa [cI_1 ((sv_cI hv).mp q)] at H
theorem en15_b (T : sv_T tx k P) (w : wd) (j : Int) : 0 ≤ en_of tx 15 w j ∧ en_of tx 15 w j ≤ 100 := by
  have h1 := en_b tx w j
  have h2 := sv_len (T := T) j.toNat
  omega
theorem cs_occurrences (C : sv_C D tx k P) (H : Q (.inl (some (mm_I (en_of tx 15 P 0 + en_of tx 15 P 1 + en_of tx 15 P 2 + en_of tx 15 P 3)))) (mm_mk D u x)) : mt 55 0 [some (mm_P 0)] [] (mm_mk D u x) Q := by
  obtain ⟨n, rep, J, O, T, N, W⟩ := C.2.2.2.2
  apply q_X4_occurrences_0
  refine sp_ps C J T (fun v hv => ?_)
  apply mm_pIi
  refine sp_countInAll v (fun t h0 h1 => ?_) ?_
  · rw [(sv_en J T hv ⟨h0, h1⟩).1]
    have := en15_b C.1 P t
    omega
  · apply mm_pIi
    rw [(sv_en J T hv (j := 0) (by decide)).1, (sv_en J T hv (j := 1) (by decide)).1, (sv_en J T hv (j := 2) (by decide)).1, (sv_en J T hv (j := 3) (by decide)).1]
    exact H
theorem cs_occurrencesIn {t : Int} (C : sv_C D tx k P) (H1 : 0 ≤ t → t < k → Q (.inl (some (mm_I (en_of tx 15 P t)))) (mm_mk D u x)) (H2 : ¬ (0 ≤ t ∧ t < k) → Q (.inr 0) (mm_mk D u (sv_thr x))) : mt 56 0 [some (mm_P 0), some (mm_I t)] [] (mm_mk D u x) Q := by
  obtain ⟨n, rep, J, O, T, N, W⟩ := C.2.2.2.2
  have k4 := C.1.1
  apply q_X4_occurrencesIn_0
  refine sp_demand C.2.1.1 k4.2 (fun h1 h2 w h3 h4 => ?_) (fun h => mm_pRxx (H2 h))
  apply mm_pRxi h3
  refine sp_ps C J T (fun v hv => ?_)
  apply mm_pIi
  apply sp_countOf
  apply mm_pIi
  rw [(sv_en J T hv ⟨h1, by omega⟩).1]
  exact H1 h1 h2
theorem fst_b (p : Nat → Prop) (m : Nat) : -1 ≤ fN p m ∧ fN p m ≤ m ∧ -1 ≤ laN p m ∧ laN p m ≤ m := by
  rcases fN_sp p m with ⟨a, _⟩ | ⟨e, e1, e2, _, _⟩ <;> rcases laN_sp p m with ⟨b, _⟩ | ⟨f, f1, f2, _, _⟩ <;> omega
def sv_bg (P : wd) (e : Int) : Int := if e = -1 then -1 else e - (P.length : Int) + 1
theorem sp_bg {e : Int} (C : sv_C D tx k P) (h : -1 ≤ e ∧ e ≤ 100) (H : Q (.inl (some (mm_I (sv_bg P e)))) (mm_mk D u x)) : mt 75 0 [some (mm_P 0), some (mm_I e)] [] (mm_mk D u x) Q := by
  have w10 : mm_isW 10 := by unfold mm_isW; omega
  have hlen := C.1.2.2.1
  apply q_X4_beginOfPattern_0
  unfold sv_bg at H
  refine ⟨fun q => ?_, fun q => ?_⟩
  · apply sp_size w10
    apply mm_pIi
    rw [C.2.2.2.1.1]
    rw [if_neg q] at H
    exact ⟨by constructor <;> omega, by constructor <;> omega, H⟩
  · rwa [if_pos (Decidable.not_not.mp q)] at H
theorem cs_first {t : Int} (C : sv_C D tx k P) (H1 : 0 ≤ t → t < k → Q (.inl (some (mm_I (sv_bg P (en_of tx 16 P t))))) (mm_mk D u x)) (H2 : ¬ (0 ≤ t ∧ t < k) → Q (.inr 0) (mm_mk D u (sv_thr x))) : mt 57 0 [some (mm_P 0), some (mm_I t)] [] (mm_mk D u x) Q := by
  obtain ⟨n, rep, J, O, T, N, W⟩ := C.2.2.2.2
  have k4 := C.1.1
  apply q_X4_first_0
  refine sp_demand C.2.1.1 k4.2 (fun h1 h2 w h3 h4 => ?_) (fun h => mm_pRxx (H2 h))
  apply mm_pRxi h3
  refine sp_ps C J T (fun v hv => ?_)
  apply mm_pIi
  apply sp_firstOf
  apply mm_pIi
  rw [(sv_en J T hv ⟨h1, by omega⟩).2.1]
  refine sp_bg C ?_ ?_
  · have h1 := fst_b (oc (tx t.toNat) P) (tx t.toNat).length
    have h2 := sv_len (T := C.1) t.toNat
    show -1 ≤ fN _ _ ∧ fN _ _ ≤ 100
    omega
  · apply mm_pIi
    exact H1 h1 h2
theorem cs_last {t : Int} (C : sv_C D tx k P) (H1 : 0 ≤ t → t < k → Q (.inl (some (mm_I (sv_bg P (en_of tx 17 P t))))) (mm_mk D u x)) (H2 : ¬ (0 ≤ t ∧ t < k) → Q (.inr 0) (mm_mk D u (sv_thr x))) : mt 58 0 [some (mm_P 0), some (mm_I t)] [] (mm_mk D u x) Q := by
  obtain ⟨n, rep, J, O, T, N, W⟩ := C.2.2.2.2
  have k4 := C.1.1
  apply q_X4_last_0
  refine sp_demand C.2.1.1 k4.2 (fun h1 h2 w h3 h4 => ?_) (fun h => mm_pRxx (H2 h))
  apply mm_pRxi h3
  refine sp_ps C J T (fun v hv => ?_)
  apply mm_pIi
  apply sp_lastOf
  apply mm_pIi
  rw [(sv_en J T hv ⟨h1, by omega⟩).2.2]
  refine sp_bg C ?_ ?_
  · have h1 := fst_b (oc (tx t.toNat) P) (tx t.toNat).length
    have h2 := sv_len (T := C.1) t.toNat
    show -1 ≤ laN _ _ ∧ laN _ _ ≤ 100
    omega
  · apply mm_pIi
    exact H1 h1 h2
theorem cs_followers (C : sv_C D tx k P) (H : ∀ z, bm z (fun a => fac tx (P ++ [a])) → Q (.inl (some (mm_I z))) (mm_mk D u x)) : mt 59 0 [some (mm_P 0), none, none, none] [] (mm_mk D u x) Q := by
  obtain ⟨n, rep, J, O, T, N, W⟩ := C.2.2.2.2
  apply q_X4_followers_0
  refine sp_walk C J T (sv_root J) (fun v hv => ?_)
  apply mm_pIi
  rw [List.nil_append] at hv
  have lp : ∀ (m i : Nat) (z : Int), i + m = 26 → bm z (fun a => a < (i : Int) ∧ fac tx (P ++ [a])) → mt 59 8 [some (mm_P 0), some (mm_I v), some (mm_I z), some (mm_I (i : Int))] [] (mm_mk D u x) Q := by
    intro m
    induction m with
    | zero =>
      intro i z hi hz
      apply q_X4_followers_8
      exact ⟨fun _ => H z (bm_c hz (fun a ha => ⟨fun q => q.2, fun q => ⟨by omega, q⟩⟩)), fun q => absurd q (by omega)⟩
    | succ m ih =>
      intro i z hi hz
      apply q_X4_followers_8
      refine ⟨fun q => absurd q (by omega), fun _ => ?_⟩
      apply sp_step
      apply mm_pIi
      have hs := sv_stF (sv_step J hv (a := (i : Int)) (by omega))
      rw [tM_F T] at hs
      refine ⟨fun q => ⟨by constructor <;> omega, ih (i + 1) z (by omega) (bm_c hz (fun a ha => ⟨fun z => ⟨by omega, z.2⟩, fun z => ⟨?_, z.2⟩⟩))⟩, fun q => ⟨by omega, two_rng (by omega), by constructor <;> omega, ih (i + 1) _ (by omega) (bm_c (bm_or hz (a := i) (by omega)) (fun a ha => ⟨fun z => ?_, fun z => ?_⟩))⟩⟩
      · by_cases e : (a : Int) = (i : Int)
        · exfalso
          rw [e] at z
          exact hs.mpr z.2 q
        · omega
      · rcases z with z | z
        · exact ⟨by omega, z.2⟩
        · exact ⟨by omega, by rw [z]; exact hs.mp q⟩
      · by_cases e : (a : Int) = (i : Int)
        · exact Or.inr e
        · exact Or.inl ⟨by omega, z.2⟩
  exact lp 26 0 0 (by omega) (bm_0 (fun a ha q => by omega))
theorem cs_leaders (C : sv_C D tx k P) (H : ∀ z, bm z (fun a => fac tx ([a] ++ P)) → Q (.inl (some (mm_I z))) (mm_mk D u x)) : mt 60 0 [some (mm_P 0), none, none] [] (mm_mk D u x) Q := by
  obtain ⟨n, rep, J, O, T, N, W⟩ := C.2.2.2.2
  apply q_X4_leaders_0
  have lp : ∀ (m i : Nat) (z : Int), i + m = 26 → bm z (fun a => a < (i : Int) ∧ fac tx ([a] ++ P)) → mt 60 4 [some (mm_P 0), some (mm_I z), some (mm_I (i : Int))] [] (mm_mk D u x) Q := by
    intro m
    induction m with
    | zero =>
      intro i z hi hz
      apply q_X4_leaders_4
      exact ⟨fun _ => H z (bm_c hz (fun a ha => ⟨fun q => q.2, fun q => ⟨by omega, q⟩⟩)), fun q => absurd q (by omega)⟩
    | succ m ih =>
      intro i z hi hz
      apply q_X4_leaders_4
      refine ⟨fun q => absurd q (by omega), fun _ => ?_⟩
      apply sp_step
      apply mm_pIi
      refine sp_walk C J T (sv_step J (sv_root J) (a := (i : Int)) (by omega)) (fun v hv => ?_)
      apply mm_pIi
      rw [List.nil_append] at hv
      have hs := sv_stF hv
      rw [tM_F T] at hs
      refine ⟨fun q => ⟨by constructor <;> omega, ih (i + 1) z (by omega) (bm_c hz (fun a ha => ⟨fun z => ⟨by omega, z.2⟩, fun z => ⟨?_, z.2⟩⟩))⟩, fun q => ⟨by omega, two_rng (by omega), by constructor <;> omega, ih (i + 1) _ (by omega) (bm_c (bm_or hz (a := i) (by omega)) (fun a ha => ⟨fun z => ?_, fun z => ?_⟩))⟩⟩
      · by_cases e : (a : Int) = (i : Int)
        · exfalso
          rw [e] at z
          exact hs.mpr z.2 q
        · omega
      · rcases z with z | z
        · exact ⟨by omega, z.2⟩
        · exact ⟨by omega, by rw [z]; exact hs.mp q⟩
      · by_cases e : (a : Int) = (i : Int)
        · exact Or.inr e
        · exact Or.inl ⟨by omega, z.2⟩
  exact lp 26 0 0 (by omega) (bm_0 (fun a ha q => by omega))
end SE
