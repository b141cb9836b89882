/-! the reference: all ends of texts, sorted -/
def lc : wd → wd → Nat
  | a :: u, b :: v => if a = b then lc u v + 1 else 0
  | _, _ => 0
theorem lc_le : ∀ u v : wd, lc u v ≤ u.length ∧ lc u v ≤ v.length
  | [], _ => ⟨Nat.le_refl _, Nat.zero_le _⟩
  | _ :: _, [] => ⟨Nat.zero_le _, Nat.le_refl _⟩
  | a :: u, b :: v => by
    have ih := lc_le u v
    unfold lc
    by_cases e : a = b
    · rw [if_pos e, List.length_cons, List.length_cons]
      omega
    · rw [if_neg e]
      exact ⟨Nat.zero_le _, Nat.zero_le _⟩
theorem lc_u : ∀ {u v : wd} {n : Nat}, n ≤ u.length → n ≤ v.length → (∀ j, j < n → wg u j = wg v j) → (n = u.length ∨ n = v.length ∨ wg u n ≠ wg v n) → lc u v = n
  | [], _, n, h1, _, _, _ => by
    have : n = 0 := by rw [List.length_nil] at h1; omega
    rw [this]
    rfl
  | _ :: _, [], n, _, h2, _, _ => by
    have : n = 0 := by rw [List.length_nil] at h2; omega
    rw [this]
    rfl
  | a :: u, b :: v, 0, _, _, _, h4 => by
    rcases h4 with h | h | h
    · rw [List.length_cons] at h
      omega
    · rw [List.length_cons] at h
      omega
    · unfold lc
      exact if_neg h
  | a :: u, b :: v, n + 1, h1, h2, h3, h4 => by
    have e : a = b := h3 0 (by omega)
    rw [List.length_cons] at h1 h2
    have ih := lc_u (u := u) (v := v) (n := n) (by omega) (by omega) (fun j hj => h3 (j + 1) (by omega)) (by
      rcases h4 with h | h | h
      · rw [List.length_cons] at h
        exact Or.inl (by omega)
      · rw [List.length_cons] at h
        exact Or.inr (Or.inl (by omega))
      · exact Or.inr (Or.inr h))
    unfold lc
    rw [if_pos e, ih]
theorem lc_pre : ∀ {w u v : wd}, w <+: u → (w <+: v ↔ w.length ≤ lc u v)
  | [], _, _, _ => ⟨fun _ => Nat.zero_le _, fun _ => List.nil_prefix⟩
  | c :: w, [], _, h => absurd (List.prefix_nil.mp h) (by simp)
  | c :: w, a :: u, [], _ => ⟨fun h => absurd (List.prefix_nil.mp h) (by simp), fun h => by
      have := (lc_le (a :: u) []).2
      rw [List.length_nil] at this
      rw [List.length_cons] at h
      omega⟩
  | c :: w, a :: u, b :: v, h => by
    obtain ⟨h1, h2⟩ := List.cons_prefix_cons.mp h
    have ih := lc_pre (v := v) h2
    unfold lc
    rw [List.cons_prefix_cons, List.length_cons, h1]
    by_cases e : a = b
    · rw [if_pos e, ih]
      constructor
      · rintro ⟨_, h⟩
        omega
      · exact fun h => ⟨e, by omega⟩
    · rw [if_neg e]
      constructor
      · rintro ⟨h, _⟩
        exact absurd h e
      · intro h
        omega
theorem lc_lx : ∀ u v : wd, lx u v ↔ (lc u v = u.length ∧ lc u v < v.length) ∨ (lc u v ≠ u.length ∧ lc u v < v.length ∧ wg u (lc u v) < wg v (lc u v))
  | [], [] => ⟨fun h => absurd h id, fun h => by
      rcases h with ⟨_, h⟩ | ⟨_, h, _⟩ <;> exact absurd h (Nat.lt_irrefl 0)⟩
  | [], b :: v => ⟨fun _ => Or.inl ⟨rfl, by rw [List.length_cons]; exact Nat.succ_pos _⟩, fun _ => trivial⟩
  | a :: u, [] => ⟨fun h => absurd h id, fun h => by
      rcases h with ⟨_, h⟩ | ⟨_, h, _⟩ <;> (rw [List.length_nil] at h; omega)⟩
  | a :: u, b :: v => by
    have ih := lc_lx u v
    have e0 : lx (a :: u) (b :: v) ↔ a < b ∨ (a = b ∧ lx u v) := Iff.rfl
    rw [e0, List.length_cons, List.length_cons]
    by_cases e : a = b
    · have e1 : lc (a :: u) (b :: v) = lc u v + 1 := by
        have : lc (a :: u) (b :: v) = if a = b then lc u v + 1 else 0 := rfl
        rw [this, if_pos e]
      rw [e1, ih, wg_cons1, wg_cons1]
      constructor
      · rintro (h | ⟨_, h | h⟩)
        · omega
        · exact Or.inl ⟨by omega, by omega⟩
        · exact Or.inr ⟨by omega, by omega, h.2.2⟩
      · rintro (h | h)
        · exact Or.inr ⟨e, Or.inl ⟨by omega, by omega⟩⟩
        · exact Or.inr ⟨e, Or.inr ⟨by omega, by omega, h.2.2⟩⟩
    · have e1 : lc (a :: u) (b :: v) = 0 := by
        have : lc (a :: u) (b :: v) = if a = b then lc u v + 1 else 0 := rfl
        rw [this, if_neg e]
      rw [e1, wg_cons0, wg_cons0]
      constructor
      · rintro (h | ⟨h, _⟩)
        · exact Or.inr ⟨by omega, by omega, h⟩
        · exact absurd h e
      · rintro (h | h)
        · omega
        · exact Or.inl h.2.2
/-- the end of a text from a place on -/
def sv_sf (tx : Nat → wd) (p : Int) : wd := (tx (p / 100).toNat).drop (p % 100).toNat
def sv_vp (tx : Nat → wd) (k p : Int) : Prop := ∃ t i : Nat, (t : Int) < k ∧ i < (tx t).length ∧ p = 100 * (t : Int) + (i : Int)
section RD
variable {D : mm_D} {u : Int} {x : mm_Xt} {Q : mm_O → mm_H → Prop} {tx : Nat → wd} {k : Int} {P : wd}
theorem sv_vpE (T : sv_T tx k P) {t i : Nat} (hi : i < (tx t).length) : sv_sf tx (100 * (t : Int) + (i : Int)) = (tx t).drop i ∧ (100 * (t : Int) + (i : Int)) / 100 = (t : Int) ∧ (100 * (t : Int) + (i : Int)) % 100 = (i : Int) := by
  have := sv_len (T := T) t
  have e1 : (100 * (t : Int) + (i : Int)) / 100 = (t : Int) := by omega
  have e2 : (100 * (t : Int) + (i : Int)) % 100 = (i : Int) := by omega
  unfold sv_sf
  rw [e1, e2]
  exact ⟨rfl, rfl, rfl⟩
theorem sv_vpB (T : sv_T tx k P) {p : Int} (h : sv_vp tx k p) : 0 ≤ p ∧ p + ((sv_sf tx p).length : Int) ≤ 400 ∧ 1 ≤ (sv_sf tx p).length ∧ (sv_sf tx p).length ≤ 100 := by
  obtain ⟨t, i, h1, h2, rfl⟩ := h
  have := sv_len (T := T) t
  have := T.1
  rw [(sv_vpE T h2).1, List.length_drop]
  omega
theorem sv_vpL (R : sv_R D tx k P) {p : Int} (h : sv_vp tx k p) : sv_lay D 25 p (sv_sf tx p) := by
  obtain ⟨t, i, h1, h2, rfl⟩ := h
  rw [(sv_vpE R.1 h2).1]
  intro j hj
  rw [List.length_drop] at hj
  have := (R.2.2.1 t h1).2 (i + j) (by omega)
  rw [wg_drop, ← this]
  congr 1
  omega
theorem rp_left {p : Int} (R : sv_R D tx k P) (h : sv_vp tx k p) (H : Q (.inl (some (mm_I ((sv_sf tx p).length : Int)))) (mm_mk D u x)) : mt 105 0 [some (mm_P 24), some (mm_I p)] [] (mm_mk D u x) Q := by
  have k4 := R.1.1
  obtain ⟨t, i, h1, h2, rfl⟩ := h
  have htl := sv_len (T := R.1) t
  obtain ⟨e1, e2, e3⟩ := sv_vpE R.1 h2
  apply q_X5_left_0
  rw [e2, e3, (R.2.2.1 t h1).1]
  rw [e1, List.length_drop] at H
  refine ⟨by omega, by constructor <;> omega, by omega, by omega, by omega, by constructor <;> omega, by constructor <;> omega, ?_⟩
  rw [show ((tx t).length : Int) - (i : Int) = (((tx t).length - i : Nat) : Int) by omega]
  exact H
theorem rp_same {p q : Int} (R : sv_R D tx k P) (hp : sv_vp tx k p) (hq : sv_vp tx k q) (H : Q (.inl (some (mm_I (lc (sv_sf tx p) (sv_sf tx q) : Int)))) (mm_mk D u x)) : mt 106 0 [some (mm_P 24), some (mm_I p), some (mm_I q), none] [] (mm_mk D u x) Q := by
  have bp := sv_vpB R.1 hp
  have bq := sv_vpB R.1 hq
  have lp := sv_vpL R hp
  have lq := sv_vpL R hq
  apply q_X5_same_0
  have loop : ∀ (m n : Nat), n + m = (sv_sf tx p).length → n ≤ (sv_sf tx q).length → (∀ j, j < n → wg (sv_sf tx p) j = wg (sv_sf tx q) j) → mt 106 2 [some (mm_P 24), some (mm_I p), some (mm_I q), some (mm_I (n : Int))] [] (mm_mk D u x) Q := by
    intro m
    induction m with
    | zero =>
      intro n hn h2 hj
      apply q_X5_same_2
      refine rp_left R hp ?_
      apply mm_pIi
      refine ⟨fun _ => ?_, fun y => absurd y (by omega)⟩
      rw [← lc_u (by omega) h2 hj (Or.inl (by omega))]
      exact H
    | succ m ih =>
      intro n hn h2 hj
      apply q_X5_same_2
      refine rp_left R hp ?_
      apply mm_pIi
      refine ⟨fun y => absurd y (by omega), fun _ => ?_⟩
      refine rp_left R hq ?_
      apply mm_pIi
      refine ⟨fun y => ?_, fun y => ⟨by constructor <;> omega, by omega, by omega, by constructor <;> omega, by omega, by omega, fun y2 => ?_, fun y2 => ⟨by constructor <;> omega, ?_⟩⟩⟩
      · rw [← lc_u (by omega) h2 hj (Or.inr (Or.inl (by omega)))]
        exact H
      · rw [lp n (by omega), lq n (by omega)] at y2
        rw [← lc_u (by omega) h2 hj (Or.inr (Or.inr y2))]
        exact H
      · rw [lp n (by omega), lq n (by omega)] at y2
        refine ih (n + 1) (by omega) (by omega) (fun j hj' => ?_)
        by_cases e : j = n
        · rw [e]
          exact Decidable.not_not.mp y2
        · exact hj j (by omega)
  exact loop (sv_sf tx p).length 0 (by omega) (Nat.zero_le _) (fun j h => by omega)
theorem rp_comes {p q : Int} (R : sv_R D tx k P) (hp : sv_vp tx k p) (hq : sv_vp tx k q) (H : Q (.inl (some (mm_I (cI (lx (sv_sf tx p) (sv_sf tx q)))))) (mm_mk D u x)) : mt 107 0 [some (mm_P 24), some (mm_I p), some (mm_I q), none] [] (mm_mk D u x) Q := by
  have bp := sv_vpB R.1 hp
  have bq := sv_vpB R.1 hq
  have lp := sv_vpL R hp
  have lq := sv_vpL R hq
  have ll := lc_le (sv_sf tx p) (sv_sf tx q)
  have lx0 := lc_lx (sv_sf tx p) (sv_sf tx q)
  apply q_X5_comes_0
  refine rp_same R hp hq ?_
  apply mm_pIi
  refine rp_left R hp ?_
  apply mm_pIi
  refine ⟨fun y => ?_, fun y => ?_⟩
  · refine rp_left R hq ?_
    apply mm_pIi
    refine ⟨fun y2 => ?_, fun y2 => ⟨by constructor <;> omega, by omega, by omega, by constructor <;> omega, by omega, by omega, fun y3 => ?_, fun y3 => ?_⟩⟩
    · rwa [cI_0 (fun z => by rcases lx0.mp z with z | z <;> omega)] at H
    · rw [lp _ (by omega), lq _ (by omega)] at y3
      rwa [cI_0 (fun z => by rcases lx0.mp z with z | z <;> omega)] at H
    · rw [lp _ (by omega), lq _ (by omega)] at y3
      rwa [cI_1 (lx0.mpr (Or.inr ⟨by omega, by omega, by omega⟩))] at H
  · refine rp_left R hq ?_
    apply mm_pIi
    refine ⟨fun y2 => ?_, fun y2 => ?_⟩
    · rwa [cI_0 (fun z => by rcases lx0.mp z with z | z <;> omega)] at H
    · rwa [cI_1 (lx0.mpr (Or.inl ⟨by omega, by omega⟩))] at H
theorem lx_lt {a b c : wd} (h : lx a b) (h2 : ¬ lx c b) : lx a c := by
  rcases lx_tri c b with q | q | q
  · exact absurd q h2
  · rw [q]
    exact h
  · exact lx_tr h q
/-- so many places, sorted -/
def sv_srt (tx : Nat → wd) (D : mm_D) (n : Int) (V : Int → Prop) : Prop := (∀ e, 0 ≤ e → e < n → V (D 28 e)) ∧ (∀ p, V p → ∃ e, 0 ≤ e ∧ e < n ∧ D 28 e = p) ∧ ∀ e e', 0 ≤ e → e < e' → e' < n → D 28 e ≠ D 28 e' ∧ ¬ lx (sv_sf tx (D 28 e')) (sv_sf tx (D 28 e))
theorem srt_ins {D D3 : mm_D} {n : Int} {V : Int → Prop} {p0 q : Int} (S : sv_srt tx D n V) (hq : ¬ V q) (hp : 0 ≤ p0 ∧ p0 ≤ n) (h1 : 0 < p0 → ¬ lx (sv_sf tx q) (sv_sf tx (D 28 (p0 - 1)))) (h2 : ∀ j, p0 ≤ j → j < n → lx (sv_sf tx q) (sv_sf tx (D 28 j))) (h3 : ∀ j, D3 28 j = if j = p0 then q else if p0 < j ∧ j ≤ n then D 28 (j - 1) else D 28 j) : sv_srt tx D3 (n + 1) (fun p => V p ∨ p = q) := by
  obtain ⟨s1, s2, s3⟩ := S
  have a1 : ∀ j, j < p0 → D3 28 j = D 28 j := fun j hj => by rw [h3, if_neg (by omega), if_neg (by omega)]
  have a2 : D3 28 p0 = q := by rw [h3, if_pos rfl]
  have a3 : ∀ j, p0 < j → j ≤ n → D3 28 j = D 28 (j - 1) := fun j hj hj2 => by rw [h3, if_neg (by omega), if_pos ⟨hj, hj2⟩]
  have tri : ∀ e, 0 ≤ e → e < n + 1 → e < p0 ∨ e = p0 ∨ (p0 < e ∧ e ≤ n) := fun e _ _ => by omega
  have lo : ∀ e, 0 ≤ e → e < p0 → ¬ lx (sv_sf tx q) (sv_sf tx (D 28 e)) := by
    intro e a b c
    by_cases d : e = p0 - 1
    · rw [d] at c
      exact h1 (by omega) c
    · exact h1 (by omega) (lx_lt c (s3 e (p0 - 1) a (by omega) (by omega)).2)
  have nq : ∀ e, 0 ≤ e → e < n → D 28 e ≠ q := fun e a b c => hq (by rw [← c]; exact s1 e a b)
  refine ⟨fun e a b => ?_, fun p hp2 => ?_, fun e e' a b c => ?_⟩
  · rcases tri e a b with d | d | d
    · rw [a1 e d]
      exact Or.inl (s1 e a (by omega))
    · rw [d, a2]
      exact Or.inr rfl
    · rw [a3 e d.1 d.2]
      exact Or.inl (s1 (e - 1) (by omega) (by omega))
  · rcases hp2 with hp2 | hp2
    · obtain ⟨e, e0, e1, e2⟩ := s2 p hp2
      by_cases d : e < p0
      · exact ⟨e, e0, by omega, by rw [a1 e d, e2]⟩
      · refine ⟨e + 1, by omega, by omega, ?_⟩
        rw [a3 (e + 1) (by omega) (by omega), show e + 1 - 1 = e by omega, e2]
    · exact ⟨p0, hp.1, by omega, by rw [a2, hp2]⟩
  · rcases tri e a (by omega) with d | d | d <;> rcases tri e' (by omega) c with f | f | f
    · rw [a1 e d, a1 e' f]
      exact s3 e e' a b (by omega)
    · rw [a1 e d, f, a2]
      exact ⟨nq e a (by omega), lo e a d⟩
    · rw [a1 e d, a3 e' f.1 f.2]
      exact s3 e (e' - 1) a (by omega) (by omega)
    · omega
    · omega
    · rw [d, a2, a3 e' f.1 f.2]
      exact ⟨fun z => nq (e' - 1) (by omega) (by omega) z.symm, lx_asy (h2 (e' - 1) (by omega) (by omega))⟩
    · omega
    · omega
    · rw [a3 e d.1 d.2, a3 e' f.1 f.2]
      exact s3 (e - 1) (e' - 1) (by omega) (by omega) (by omega)
def sv_cum (tx : Nat → wd) (t : Nat) : Int := sm (fun t => ((tx t).length : Int)) t
theorem sv_cumB (T : sv_T tx k P) {t : Nat} (h : (t : Int) < k) : 0 ≤ sv_cum tx t ∧ sv_cum tx (t + 1) = sv_cum tx t + ((tx t).length : Int) ∧ sv_cum tx (t + 1) ≤ sv_tot tx := by
  have k4 := T.1
  have : t = 0 ∨ t = 1 ∨ t = 2 ∨ t = 3 := by omega
  unfold sv_tot
  have e0 : sv_cum tx 0 = 0 := rfl
  have e1 : sv_cum tx 1 = sv_cum tx 0 + ((tx 0).length : Int) := rfl
  have e2 : sv_cum tx 2 = sv_cum tx 1 + ((tx 1).length : Int) := rfl
  have e3 : sv_cum tx 3 = sv_cum tx 2 + ((tx 2).length : Int) := rfl
  have e4 : sv_cum tx 4 = sv_cum tx 3 + ((tx 3).length : Int) := rfl
  rcases this with rfl | rfl | rfl | rfl
  · exact ⟨by omega, e1, by show sv_cum tx 1 ≤ _; omega⟩
  · exact ⟨by omega, e2, by show sv_cum tx 2 ≤ _; omega⟩
  · exact ⟨by omega, e3, by show sv_cum tx 3 ≤ _; omega⟩
  · exact ⟨by omega, e4, by show sv_cum tx 4 ≤ _; omega⟩
theorem sv_cumK (T : sv_T tx k P) : sv_cum tx k.toNat = sv_tot tx := by
  have k4 := T.1
  refine (sm_k (by omega) (fun t ht => ?_)).trans rfl
  rw [T.2.2.2.2.2 t (by omega)]
  rfl
theorem rp_sorts (R : sv_R D tx k P) (H : ∀ D', (∀ r, r ≠ 28 → r ≠ 29 → D' r = D r) → sv_srt tx D' (sv_tot tx) (sv_vp tx k) → (0 < sv_tot tx → D' 29 0 = 0) → (∀ e, 1 ≤ e → e < sv_tot tx → D' 29 e = (lc (sv_sf tx (D' 28 (e - 1))) (sv_sf tx (D' 28 e)) : Int)) → Q (.inl none) (mm_mk D' u x)) : mt 108 0 [some (mm_P 24), none, none, none, none] [] (mm_mk D u x) Q := by
  have k4 := R.1.1
  have t100 := R.1.2.1
  have tot0 := sv_tot_0 tx
  apply q_X5_sorts_0
  have Rr : ∀ D2 : mm_D, (∀ r, r ≠ 28 → r ≠ 29 → D2 r = D r) → sv_R D2 tx k P := fun D2 h => sv_R_row R (by rw [h 24 (by decide) (by decide)]) (by rw [h 24 (by decide) (by decide)]) (by rw [h 24 (by decide) (by decide)]) (h 25 (by decide) (by decide)) (h 26 (by decide) (by decide)) (h 27 (by decide) (by decide))
  -- behind the sort: what neighbours share
  have sh : ∀ (m e : Nat) (D2 : mm_D) (o3 o4 : Option mm_V), (e : Int) + m = sv_tot tx → (∀ r, r ≠ 28 → r ≠ 29 → D2 r = D r) → sv_srt tx D2 (sv_tot tx) (sv_vp tx k) → (0 < (e : Int) → D2 29 0 = 0) → (∀ e', 1 ≤ e' → e' < (e : Int) → D2 29 e' = (lc (sv_sf tx (D2 28 (e' - 1))) (sv_sf tx (D2 28 e')) : Int)) → mt 108 62 [some (mm_P 24), some (mm_I (sv_tot tx)), some (mm_I (e : Int)), o3, o4] [] (mm_mk D2 u x) Q := by
    intro m
    induction m with
    | zero =>
      intro e D2 o3 o4 he hr S h0 h1
      apply q_X5_sorts_62
      have : (e : Int) = sv_tot tx := by omega
      rw [this] at h0 h1
      exact ⟨fun _ => H D2 hr S h0 h1, fun y => absurd y (by omega)⟩
    | succ m ih =>
      intro e D2 o3 o4 he hr S h0 h1
      apply q_X5_sorts_62
      refine ⟨fun y => absurd y (by omega), fun _ => ⟨fun y => ?_, fun y => ?_⟩⟩
      · refine ⟨by constructor <;> omega, by omega, by omega, by omega, by omega, ?_⟩
        refine rp_same (Rr D2 hr) (S.1 _ (by omega) (by omega)) (S.1 _ (by omega) (by omega)) ?_
        apply mm_pIi
        refine ⟨by omega, by omega, fun D12 e12 => ⟨by constructor <;> omega, ?_⟩⟩
        have g28 : D12 28 = D2 28 := by rw [e12, mm_wr_row (by decide)]
        refine ih (e + 1) D12 _ _ (by omega) (fun r a b => by rw [e12, mm_wr_row b]; exact hr r a b) ?_ (fun _ => ?_) (fun e' a b => ?_)
        · unfold sv_srt at S ⊢
          rw [g28]
          exact S
        · rw [e12, mm_wr_k (by omega)]
          exact h0 (by omega)
        · rw [g28]
          by_cases c : e' = (e : Int)
          · rw [c, e12, mm_wr_eq]
          · rw [e12, mm_wr_k c]
            exact h1 e' a (by omega)
      · have e0 : (e : Int) = 0 := by omega
        refine ⟨by omega, by omega, fun D16 e16 => ⟨by constructor <;> omega, ?_⟩⟩
        have g28 : D16 28 = D2 28 := by rw [e16, mm_wr_row (by decide)]
        refine ih (e + 1) D16 _ _ (by omega) (fun r a b => by rw [e16, mm_wr_row b]; exact hr r a b) ?_ (fun _ => ?_) (fun e' a b => by omega)
        · unfold sv_srt at S ⊢
          rw [g28]
          exact S
        · rw [e16, e0, mm_wr_eq]
  have lp : ∀ (m t : Nat) (D2 : mm_D) (o3 o4 : Option mm_V), (t : Int) + m = k → (∀ r, r ≠ 28 → r ≠ 29 → D2 r = D r) → sv_srt tx D2 (sv_cum tx t) (fun p => ∃ t' i' : Nat, t' < t ∧ i' < (tx t').length ∧ p = 100 * (t' : Int) + (i' : Int)) → mt 108 4 [some (mm_P 24), some (mm_I (sv_cum tx t)), some (mm_I (t : Int)), o3, o4] [] (mm_mk D2 u x) Q := by
    intro m
    induction m with
    | zero =>
      intro t D2 o3 o4 ht hr S
      apply q_X5_sorts_4
      rw [(Rr D2 hr).2.1.1]
      refine ⟨fun _ => ?_, fun y => absurd y (by omega)⟩
      have e1 : sv_cum tx t = sv_tot tx := by
        rw [← sv_cumK R.1, show k.toNat = t by omega]
      rw [e1] at S ⊢
      refine sh (sv_tot tx).toNat 0 D2 _ _ (by omega) hr ⟨fun e a b => ?_, fun p hp => ?_, S.2.2⟩ (fun y => absurd y (by decide)) (fun e' a b => by omega)
      · obtain ⟨t', i', h1, h2, h3⟩ := S.1 e a b
        exact ⟨t', i', by omega, h2, h3⟩
      · obtain ⟨t', i', h1, h2, h3⟩ := hp
        exact S.2.1 p ⟨t', i', by omega, h2, h3⟩
    | succ m ih =>
      intro t D2 o3 o4 ht hr S
      obtain ⟨cb1, cb2, cb3⟩ := sv_cumB R.1 (t := t) (by omega)
      have htl := sv_len (T := R.1) t
      apply q_X5_sorts_4
      rw [(Rr D2 hr).2.1.1]
      refine ⟨fun y => absurd y (by omega), fun _ => ?_⟩
      have inn : ∀ (z i : Nat) (D3 : mm_D) (o4 : Option mm_V), i + z = (tx t).length → (∀ r, r ≠ 28 → r ≠ 29 → D3 r = D r) → sv_srt tx D3 (sv_cum tx t + (i : Int)) (fun p => ∃ t' i' : Nat, (t' < t ∨ (t' = t ∧ i' < i)) ∧ i' < (tx t').length ∧ p = 100 * (t' : Int) + (i' : Int)) → mt 108 10 [some (mm_P 24), some (mm_I (sv_cum tx t + (i : Int))), some (mm_I (t : Int)), some (mm_I (i : Int)), o4] [] (mm_mk D3 u x) Q := by
        intro z
        induction z with
        | zero =>
          intro i D3 o4 hi hr3 S3
          have R3 := Rr D3 hr3
          apply q_X5_sorts_10
          rw [(R3.2.2.1 t (by omega)).1]
          refine ⟨by omega, by omega, fun _ => ⟨by constructor <;> omega, ?_⟩, fun y => absurd y (by omega)⟩
          have e1 : sv_cum tx t + (i : Int) = sv_cum tx (t + 1) := by rw [cb2]; omega
          rw [e1] at S3 ⊢
          refine ih (t + 1) D3 _ _ (by omega) hr3 ⟨fun e a b => ?_, fun p hp => ?_, S3.2.2⟩
          · obtain ⟨t', i', h1, h2, h3⟩ := S3.1 e a b
            exact ⟨t', i', by omega, h2, h3⟩
          · obtain ⟨t', i', h1, h2, h3⟩ := hp
            refine S3.2.1 p ⟨t', i', ?_, h2, h3⟩
            by_cases e : t' = t
            · rw [e] at h2
              exact Or.inr ⟨e, by omega⟩
            · exact Or.inl (by omega)
        | succ z ih2 =>
          intro i D3 o4 hi hr3 S3
          have R3 := Rr D3 hr3
          apply q_X5_sorts_10
          rw [(R3.2.2.1 t (by omega)).1]
          refine ⟨by omega, by omega, fun y => absurd y (by omega), fun _ => ?_⟩
          have hn : sv_cum tx t + (i : Int) < 100 := by omega
          have vq : sv_vp tx k (100 * (t : Int) + (i : Int)) := ⟨t, i, by omega, by omega, rfl⟩
          have nV : ¬ ∃ t' i' : Nat, (t' < t ∨ (t' = t ∧ i' < i)) ∧ i' < (tx t').length ∧ 100 * (t : Int) + (i : Int) = 100 * (t' : Int) + (i' : Int) := by
            rintro ⟨t', i', h1, h2, h3⟩
            have := sv_len (T := R.1) t'
            omega
          have vV : ∀ e, 0 ≤ e → e < sv_cum tx t + (i : Int) → sv_vp tx k (D3 28 e) := by
            intro e a b
            obtain ⟨t', i', h1, h2, h3⟩ := S3.1 e a b
            exact ⟨t', i', by omega, h2, h3⟩
          -- put in at place p
          have put : ∀ (p : Int) (D5 : mm_D), 0 ≤ p → p ≤ sv_cum tx t + (i : Int) → (0 < p → ¬ lx (sv_sf tx (100 * (t : Int) + (i : Int))) (sv_sf tx (D3 28 (p - 1)))) → (∀ j, p ≤ j → j < sv_cum tx t + (i : Int) → lx (sv_sf tx (100 * (t : Int) + (i : Int))) (sv_sf tx (D3 28 j))) → (∀ r, r ≠ 28 → r ≠ 29 → D5 r = D r) → (∀ j, D5 28 j = if j = p then 100 * (t : Int) + (i : Int) else if p < j ∧ j ≤ sv_cum tx t + (i : Int) then D3 28 (j - 1) else D3 28 j) → ∀ o4, mt 108 10 [some (mm_P 24), some (mm_I (sv_cum tx t + (i : Int) + 1)), some (mm_I (t : Int)), some (mm_I ((i : Int) + 1)), o4] [] (mm_mk D5 u x) Q := by
            intro p D5 p0 p1 h1 h2 hr5 h3 o4
            have S5 := srt_ins S3 nV ⟨p0, p1⟩ h1 h2 h3
            rw [show sv_cum tx t + (i : Int) + 1 = sv_cum tx t + ((i + 1 : Nat) : Int) by omega] at S5 ⊢
            rw [show (i : Int) + 1 = ((i + 1 : Nat) : Int) by omega]
            refine ih2 (i + 1) D5 _ (by omega) hr5 ⟨fun e a b => ?_, fun q hq => ?_, S5.2.2⟩
            · rcases S5.1 e a b with ⟨t', i', y1, y2, y3⟩ | y
              · exact ⟨t', i', by omega, y2, y3⟩
              · exact ⟨t, i, Or.inr ⟨rfl, by omega⟩, by omega, y⟩
            · obtain ⟨t', i', y1, y2, y3⟩ := hq
              refine S5.2.1 q ?_
              by_cases e : t' = t ∧ i' = i
              · rw [e.1, e.2] at y3
                exact Or.inr y3
              · exact Or.inl ⟨t', i', by omega, y2, y3⟩
          have ins : ∀ (p : Nat) (D4 : mm_D), (p : Int) ≤ sv_cum tx t + (i : Int) → (∀ r, r ≠ 28 → r ≠ 29 → D4 r = D r) → (∀ j, D4 28 j = if (p : Int) < j ∧ j ≤ sv_cum tx t + (i : Int) then D3 28 (j - 1) else D3 28 j) → (∀ j, (p : Int) ≤ j → j < sv_cum tx t + (i : Int) → lx (sv_sf tx (100 * (t : Int) + (i : Int))) (sv_sf tx (D3 28 j))) → mt 108 18 [some (mm_P 24), some (mm_I (sv_cum tx t + (i : Int))), some (mm_I (t : Int)), some (mm_I (i : Int)), some (mm_I (p : Int))] [] (mm_mk D4 u x) Q := by
            intro p
            have fin5 : ∀ (D4 D5 : mm_D), D5 = mm_wr D4 28 (p : Int) (100 * (t : Int) + (i : Int)) → (∀ r, r ≠ 28 → r ≠ 29 → D4 r = D r) → (∀ j, D4 28 j = if (p : Int) < j ∧ j ≤ sv_cum tx t + (i : Int) then D3 28 (j - 1) else D3 28 j) → (∀ r, r ≠ 28 → r ≠ 29 → D5 r = D r) ∧ ∀ j, D5 28 j = if j = (p : Int) then 100 * (t : Int) + (i : Int) else if (p : Int) < j ∧ j ≤ sv_cum tx t + (i : Int) then D3 28 (j - 1) else D3 28 j := by
              intro D4 D5 e5 hr4 h4
              refine ⟨fun r a b => by rw [e5, mm_wr_row a]; exact hr4 r a b, fun j => ?_⟩
              by_cases e : j = (p : Int)
              · rw [e5, e, mm_wr_eq, if_pos rfl]
              · rw [e5, mm_wr_k e, if_neg e, h4]
            induction p with
            | zero =>
              intro D4 hp hr4 h4 hj
              apply q_X5_sorts_18
              refine ⟨fun _ => ⟨by constructor <;> omega, by constructor <;> omega, by omega, by omega, fun D5 e5 => ⟨by constructor <;> omega, by constructor <;> omega, ?_⟩⟩, fun y => absurd y (by decide)⟩
              obtain ⟨f1, f2⟩ := fin5 D4 D5 e5 hr4 h4
              exact put 0 D5 (by decide) hp (fun y => absurd y (by decide)) hj f1 f2 _
            | succ p ihp =>
              intro D4 hp hr4 h4 hj
              have R4 := Rr D4 hr4
              have e28 : D4 28 (((p + 1 : Nat) : Int) - 1) = D3 28 (p : Int) := by
                rw [h4, if_neg (by omega)]
                congr 1
                omega
              apply q_X5_sorts_18
              refine ⟨fun y => absurd y (by omega), fun _ => ⟨by constructor <;> omega, by constructor <;> omega, by constructor <;> omega, by omega, by omega, ?_⟩⟩
              rw [e28]
              refine rp_comes R4 vq (vV _ (by omega) (by omega)) ?_
              apply mm_pIi
              by_cases c : lx (sv_sf tx (100 * (t : Int) + (i : Int))) (sv_sf tx (D3 28 (p : Int)))
              · rw [cI_1 c]
                refine ⟨fun y => absurd y (by decide), fun _ => ⟨by constructor <;> omega, by omega, by omega, by omega, by omega, fun D29 e29 => ⟨by constructor <;> omega, ?_⟩⟩⟩
                rw [show ((p + 1 : Nat) : Int) + -1 = (p : Int) by omega]
                refine ihp (fun A B e5 a b => ?_) D29 (by omega) (fun r a b => by rw [e29, mm_wr_row a]; exact hr4 r a b) (fun j => ?_) (fun j a b => ?_)
                · refine ⟨fun r a' b' => by rw [e5, mm_wr_row a']; exact a r a' b', fun j => ?_⟩
                  by_cases e : j = (p : Int)
                  · rw [e5, e, mm_wr_eq, if_pos rfl]
                  · rw [e5, mm_wr_k e, if_neg e, b]
                · rw [e29, e28]
                  by_cases e : j = ((p + 1 : Nat) : Int)
                  · rw [e, mm_wr_eq, if_pos (by omega)]
                    congr 1
                    omega
                  · rw [mm_wr_k e, h4]
                    by_cases f : ((p + 1 : Nat) : Int) < j ∧ j ≤ sv_cum tx t + (i : Int)
                    · rw [if_pos f, if_pos (by omega)]
                    · rw [if_neg f, if_neg (by omega)]
                · by_cases e : j = (p : Int)
                  · rw [e]
                    exact c
                  · exact hj j (by omega) b
              · rw [cI_0 c]
                refine ⟨fun _ => ⟨by constructor <;> omega, by constructor <;> omega, by omega, by omega, fun D5 e5 => ⟨by constructor <;> omega, by constructor <;> omega, ?_⟩⟩, fun y => absurd rfl y⟩
                obtain ⟨f1, f2⟩ := fin5 D4 D5 e5 hr4 h4
                refine put ((p + 1 : Nat) : Int) D5 (by omega) hp (fun _ => ?_) hj f1 f2 _
                rw [show ((p + 1 : Nat) : Int) - 1 = (p : Int) by omega]
                exact c
          have := ins (sv_cum tx t + (i : Int)).toNat D3 (by omega) hr3 (fun j => by rw [if_neg (by omega)]) (fun j a b => by omega)
          rw [Int.toNat_of_nonneg (by omega)] at this
          exact this
      have := inn (tx t).length 0 D2 o4 (by omega) hr ⟨fun e a b => ?_, fun p hp => ?_, fun e e' a b c => S.2.2 e e' a b (by omega)⟩
      · rw [show sv_cum tx t + ((0 : Nat) : Int) = sv_cum tx t by omega] at this
        exact this
      · obtain ⟨t', i', h1, h2, h3⟩ := S.1 e a (by omega)
        exact ⟨t', i', by omega, h2, h3⟩
      · obtain ⟨t', i', h1, h2, h3⟩ := hp
        obtain ⟨e, e0, e1, e2⟩ := S.2.1 p ⟨t', i', by omega, h2, h3⟩
        exact ⟨e, e0, by omega, e2⟩
  have := lp k.toNat 0 D none none (by omega) (fun _ _ _ => rfl) ⟨fun e a b => by have : sv_cum tx 0 = 0 := rfl; omega, fun p hp => by obtain ⟨t', i', h1, _⟩ := hp; omega, fun e e' a b c => by have : sv_cum tx 0 = 0 := rfl; omega⟩
  exact this
end RD
