/-! the reference: a part looked at -/
section LK
variable {D : mm_D} {u : Int} {x : mm_Xt} {Q : mm_O → mm_H → Prop} {tx : Nat → wd} {k : Int} {P : wd}
/-- what was seen of the ends from a to b -/
def sv_G (D D2 : mm_D) (a b : Int) : Prop := (∀ r, r ≠ 24 → D2 r = D r) ∧ (∀ p, p ≠ 9 → p ≠ 10 → p ≠ 11 → p ≠ 12 → D2 24 p = D 24 p) ∧ D2 24 9 = b - a ∧ bm (D2 24 10) (fun t => ∃ e, a ≤ e ∧ e < b ∧ D 28 e / 100 = t) ∧ bm (D2 24 11) (fun c => ∃ e, a ≤ e ∧ e < b ∧ D 28 e % 100 ≠ 0 ∧ c = D 25 (D 28 e - 1)) ∧ D2 24 12 = cI (∃ e, a ≤ e ∧ e < b ∧ D 28 e % 100 = 0)
theorem sv_G_s {D2 D3 : mm_D} {a b : Int} (hab : a ≤ b) (G : sv_G D D2 a b) (hr : ∀ r, r ≠ 24 → D3 r = D2 r) (hp : ∀ p, p ≠ 9 → p ≠ 10 → p ≠ 11 → p ≠ 12 → D3 24 p = D2 24 p) (h9 : D3 24 9 = D2 24 9 + 1) (h10 : bm (D3 24 10) (fun t => (∃ e, a ≤ e ∧ e < b ∧ D 28 e / 100 = t) ∨ t = D 28 b / 100)) (h11 : (D 28 b % 100 ≠ 0 ∧ bm (D3 24 11) (fun c => (∃ e, a ≤ e ∧ e < b ∧ D 28 e % 100 ≠ 0 ∧ c = D 25 (D 28 e - 1)) ∨ c = D 25 (D 28 b - 1)) ∧ D3 24 12 = D2 24 12) ∨ (D 28 b % 100 = 0 ∧ D3 24 11 = D2 24 11 ∧ D3 24 12 = 1)) : sv_G D D3 a (b + 1) := by
  obtain ⟨g1, g2, g3, g4, g5, g6⟩ := G
  refine ⟨fun r h => (hr r h).trans (g1 r h), fun p a b c d => (hp p a b c d).trans (g2 p a b c d), by omega, bm_c h10 (fun t _ => ⟨fun q => ?_, fun q => ?_⟩), ?_, ?_⟩
  · rcases q with ⟨e, q1, q2, q3⟩ | q
    · exact ⟨e, q1, by omega, q3⟩
    · exact ⟨b, hab, by omega, q.symm⟩
  · obtain ⟨e, q1, q2, q3⟩ := q
    by_cases c : e = b
    · rw [c] at q3
      exact Or.inr q3.symm
    · exact Or.inl ⟨e, q1, by omega, q3⟩
  · rcases h11 with ⟨c1, c2, c3⟩ | ⟨c1, c2, c3⟩
    · refine bm_c c2 (fun t _ => ⟨fun q => ?_, fun q => ?_⟩)
      · rcases q with ⟨e, q1, q2, q3⟩ | q
        · exact ⟨e, q1, by omega, q3⟩
        · exact ⟨b, hab, by omega, c1, q⟩
      · obtain ⟨e, q1, q2, q3⟩ := q
        by_cases c : e = b
        · rw [c] at q3
          exact Or.inr q3.2
        · exact Or.inl ⟨e, q1, by omega, q3⟩
    · rw [c2]
      refine bm_c g5 (fun t _ => ⟨fun q => ?_, fun q => ?_⟩)
      · obtain ⟨e, q1, q2, q3⟩ := q
        exact ⟨e, q1, by omega, q3⟩
      · obtain ⟨e, q1, q2, q3⟩ := q
        by_cases c : e = b
        · rw [c] at q3
          exact absurd c1 q3.1
        · exact ⟨e, q1, by omega, q3⟩
  · rcases h11 with ⟨c1, c2, c3⟩ | ⟨c1, c2, c3⟩
    · rw [c3, g6]
      refine cI_c ⟨fun q => ?_, fun q => ?_⟩
      · obtain ⟨e, q1, q2, q3⟩ := q
        exact ⟨e, q1, by omega, q3⟩
      · obtain ⟨e, q1, q2, q3⟩ := q
        by_cases c : e = b
        · rw [c] at q3
          exact absurd q3 c1
        · exact ⟨e, q1, by omega, q3⟩
    · rw [c3, cI_1 ⟨b, hab, by omega, c1⟩]
theorem rp_looksG (R : sv_R D tx k P) (Z : sv_Z tx k D) {a : Int} {w : wd} (ha : 0 ≤ a ∧ a < sv_tot tx) (hw : sv_bk tx D a w) (H : ∀ D' b, a < b → b ≤ sv_tot tx → (∀ e, a ≤ e → e < b → w <+: sv_e tx D e) → (∀ e, b ≤ e → e < sv_tot tx → ¬ w <+: sv_e tx D e) → sv_G D D' a b → Q (.inl none) (mm_mk D' u x)) : mt 109 0 [some (mm_P 24), some (mm_I a), some (mm_I (w.length : Int)), none, none, none] [] (mm_mk D u x) Q := by
  have t100 := R.1.2.1
  have wl : (w.length : Int) ≤ 100 := by
    have := sv_vpB R.1 (Z.1.1 a ha.1 ha.2)
    have := hw.1.length_le
    have hll : (sv_e tx D a).length = (sv_sf tx (D 28 a)).length := rfl
    omega
  apply q_X5_looks_0
  intro D1 e1 D2 e2 D3 e3 D4 e4
  have G0 : sv_G D D4 a a := by
    refine ⟨fun r h => by rw [e4, mm_wr_row h, e3, mm_wr_row h, e2, mm_wr_row h, e1, mm_wr_row h], fun p a b c d => by rw [e4, mm_wr_k d, e3, mm_wr_k c, e2, mm_wr_k b, e1, mm_wr_k a], ?_, ?_, ?_, ?_⟩
    · rw [e4, mm_wr_k (by decide), e3, mm_wr_k (by decide), e2, mm_wr_k (by decide), e1, mm_wr_eq]
      omega
    · rw [e4, mm_wr_k (by decide), e3, mm_wr_k (by decide), e2, mm_wr_eq]
      exact bm_0 (fun t _ q => by obtain ⟨e, q1, q2, _⟩ := q; omega)
    · rw [e4, mm_wr_k (by decide), e3, mm_wr_eq]
      exact bm_0 (fun t _ q => by obtain ⟨e, q1, q2, _⟩ := q; omega)
    · rw [e4, mm_wr_eq, cI_0 (fun q => by obtain ⟨e, q1, q2, _⟩ := q; omega)]
  have ex0 : ∀ (D5 : mm_D) (b : Int) (o5 : Option mm_V), a < b → b ≤ sv_tot tx → (∀ e, a ≤ e → e < b → w <+: sv_e tx D e) → (∀ e, b ≤ e → e < sv_tot tx → ¬ w <+: sv_e tx D e) → sv_G D D5 a b → mt 109 16 [some (mm_P 24), some (mm_I a), some (mm_I (w.length : Int)), some (mm_I 0), some (mm_I b), o5] [] (mm_mk D5 u x) Q := by
    intro D5 b o5 h1 h2 h3 h4 G
    apply q_X5_looks_16
    exact ⟨fun _ => H D5 b h1 h2 h3 h4 G, fun _ => ⟨fun _ => H D5 b h1 h2 h3 h4 G, fun y => absurd rfl y⟩⟩
  have lp : ∀ (m : Nat) (b : Int) (D5 : mm_D) (o5 : Option mm_V), b + m = sv_tot tx → a ≤ b → b < sv_tot tx → (∀ e, a ≤ e → e ≤ b → w <+: sv_e tx D e) → sv_G D D5 a b → mt 109 16 [some (mm_P 24), some (mm_I a), some (mm_I (w.length : Int)), some (mm_I 1), some (mm_I b), o5] [] (mm_mk D5 u x) Q := by
    intro m
    induction m with
    | zero => intro b D5 o5 hb h1 h2; omega
    | succ m ih =>
      intro b D5 o5 hb h1 h2 h3 G
      obtain ⟨g1, g2, g3, g4, g5, g6⟩ := G
      have G : sv_G D D5 a b := ⟨g1, g2, g3, g4, g5, g6⟩
      have hvp := Z.1.1 b (by omega) h2
      have hB := sv_vpB R.1 hvp
      obtain ⟨t, i, ht, hi, hpe⟩ := hvp
      have k4 := R.1.1
      have htl := sv_len (T := R.1) t
      obtain ⟨v1, v2, v3⟩ := sv_vpE R.1 hi
      rw [← hpe] at v2 v3
      have e28 : D5 28 = D 28 := g1 28 (by decide)
      have e25 : D5 25 = D 25 := g1 25 (by decide)
      have e29 : D5 29 = D 29 := g1 29 (by decide)
      have e4' : D5 24 4 = sv_tot tx := by rw [g2 4 (by decide) (by decide) (by decide) (by decide)]; exact R.2.1.2
      -- what follows an end
      have tl : ∀ (Dx : mm_D) (ob : Option mm_V), sv_G D Dx a (b + 1) → mm_rng (b + 1) ∧ ((Dx 24 4 ≤ b + 1 → mm_rng (b + 1) ∧ mt 109 16 [some (mm_P 24), some (mm_I a), some (mm_I (w.length : Int)), some (mm_I 0), some (mm_I (b + 1)), ob] [] (mm_mk Dx u x) Q) ∧ (¬ Dx 24 4 ≤ b + 1 → mm_rng (b + 1) ∧ (0 ≤ b + 1 ∧ (b + 1 < 100 ∧ ((Dx 29 (b + 1) < (w.length : Int) → mm_rng (b + 1) ∧ mt 109 16 [some (mm_P 24), some (mm_I a), some (mm_I (w.length : Int)), some (mm_I 0), some (mm_I (b + 1)), ob] [] (mm_mk Dx u x) Q) ∧ (¬ Dx 29 (b + 1) < (w.length : Int) → mm_rng (b + 1) ∧ mt 109 16 [some (mm_P 24), some (mm_I a), some (mm_I (w.length : Int)), some (mm_I 1), some (mm_I (b + 1)), ob] [] (mm_mk Dx u x) Q)))))) := by
        intro Dx ob Gx
        have x4 : Dx 24 4 = sv_tot tx := by rw [Gx.2.1 4 (by decide) (by decide) (by decide) (by decide)]; exact R.2.1.2
        have x29 : Dx 29 = D 29 := Gx.1 29 (by decide)
        rw [x4, x29]
        have rb : mm_rng (b + 1) := by constructor <;> omega
        refine ⟨rb, fun q => ⟨rb, ex0 Dx (b + 1) _ (by omega) (by omega) (fun e p1 p2 => h3 e p1 (by omega)) (fun e p1 p2 => by omega) Gx⟩, fun q => ⟨rb, by omega, by omega, fun q2 => ⟨rb, ex0 Dx (b + 1) _ (by omega) (by omega) (fun e p1 p2 => h3 e p1 (by omega)) (fun e p1 p2 y => ?_) Gx⟩, fun q2 => ⟨rb, ih (b + 1) Dx _ (by omega) (by omega) (by omega) (fun e p1 p2 => ?_) Gx⟩⟩⟩
        · have hz := Z.2.2 (b + 1) (by omega) (by omega)
          rw [show b + 1 - 1 = b by omega] at hz
          have y2 := Z_mid Z (a := a) (b := b + 1) (c := e) (by omega) (by omega) p1 p2 hw.1 y
          have y3 := (lc_pre (h3 b h1 (by omega)) (v := sv_e tx D (b + 1))).mp y2
          have hc : lc (sv_e tx D b) (sv_e tx D (b + 1)) = lc (sv_sf tx (D 28 b)) (sv_sf tx (D 28 (b + 1))) := rfl
          omega
        · by_cases c : e = b + 1
          · rw [c]
            have hz := Z.2.2 (b + 1) (by omega) (by omega)
            rw [show b + 1 - 1 = b by omega] at hz
            have hc : lc (sv_e tx D b) (sv_e tx D (b + 1)) = lc (sv_sf tx (D 28 b)) (sv_sf tx (D 28 (b + 1))) := rfl
            exact (lc_pre (h3 b h1 (by omega)) (v := sv_e tx D (b + 1))).mpr (by omega)
          · exact h3 e p1 (by omega)
      apply q_X5_looks_16
      rw [e4']
      refine ⟨fun y => absurd y (by omega), fun _ => ⟨fun y => absurd y (by decide), fun _ => ⟨by rw [g3]; constructor <;> omega, fun D6 e6 => ?_⟩⟩⟩
      have f28 : D6 28 = D 28 := by rw [e6, mm_wr_row (by decide)]; exact e28
      rw [f28, v2]
      have tn : ((t : Int)).toNat = t := rfl
      rw [tn]
      refine ⟨by omega, by omega, by omega, by constructor <;> omega, by omega, two_rng (by omega), fun D9 e9 => ?_⟩
      have g28 : D9 28 = D 28 := by rw [e9, mm_wr_row (by decide)]; exact f28
      rw [g28, v3]
      have g9 : D9 24 9 = D5 24 9 + 1 := by rw [e9, mm_wr_k (by decide), e6, mm_wr_eq]
      have g10 : bm (D9 24 10) (fun t => (∃ e, a ≤ e ∧ e < b ∧ D 28 e / 100 = t) ∨ t = D 28 b / 100) := by
        rw [e9, mm_wr_eq, e6, mm_wr_k (by decide), v2]
        exact bm_or g4 (by omega)
      have g11 : D9 24 11 = D5 24 11 := by rw [e9, mm_wr_k (by decide), e6, mm_wr_k (by decide)]
      have g12 : D9 24 12 = D5 24 12 := by rw [e9, mm_wr_k (by decide), e6, mm_wr_k (by decide)]
      have gr : ∀ r, r ≠ 24 → D9 r = D5 r := fun r h => by rw [e9, mm_wr_row h, e6, mm_wr_row h]
      have gp : ∀ p, p ≠ 9 → p ≠ 10 → p ≠ 11 → p ≠ 12 → D9 24 p = D5 24 p := fun p a b c d => by rw [e9, mm_wr_k b, e6, mm_wr_k a]
      have c12 : D5 24 12 = 0 ∨ D5 24 12 = 1 := by
        rw [g6]
        have := cI_b (∃ e, a ≤ e ∧ e < b ∧ D 28 e % 100 = 0)
        omega
      refine ⟨by omega, by omega, by omega, by constructor <;> omega, fun q0 => ?_, fun q0 => ?_⟩
      · -- not at a beginning
        have hl26 := R.1.2.2.2.1 t _ (wg_mem (w := tx t) (i := i - 1) (by omega))
        have hlet : D 25 (D 28 b - 1) = wg (tx t) (i - 1) := by
          have := (R.2.2.1 t ht).2 (i - 1) (by omega)
          rw [← this, hpe]
          congr 1
          omega
        have go : ∀ (Dy Dz : mm_D) (ob : Option mm_V), (∀ r, r ≠ 24 → Dy r = D9 r) → (∀ p, p ≠ 12 → Dy 24 p = D9 24 p) → Dy 24 12 = D9 24 12 → Dz = mm_wr Dy 24 11 (mm_or (Dy 24 11) ((1 : Int) * 2 ^ (Dy 25 (Dy 28 b - 1)).toNat)) → sv_G D Dz a (b + 1) := by
          intro Dy Dz ob hr hp h12 ez
          refine sv_G_s h1 G (fun r h => by rw [ez, mm_wr_row h, hr r h, gr r h]) (fun p a b c d => by rw [ez, mm_wr_k c, hp p d, gp p a b c d]) (by rw [ez, mm_wr_k (by decide), hp 9 (by decide), g9]) ?_ (Or.inl ⟨by omega, ?_, ?_⟩)
          · rw [ez, mm_wr_k (by decide), hp 10 (by decide)]
            exact g10
          · rw [ez, mm_wr_eq, hp 11 (by decide), g11, hr 25 (by decide), hr 28 (by decide), gr 25 (by decide), gr 28 (by decide), e25, e28, hlet]
            refine bm_c (bm_or g5 (a := (wg (tx t) (i - 1)).toNat) (by omega)) (fun c _ => ?_)
            rw [Int.toNat_of_nonneg hl26.1]
          · rw [ez, mm_wr_k (by decide), h12, g12]
        refine ⟨fun q1 D14 e14 => ?_, fun q1 D30 e30 => ?_⟩
        · have y28 : D14 28 = D 28 := by rw [e14, mm_wr_row (by decide)]; exact g28
          have y25 : D14 25 = D 25 := by rw [e14, mm_wr_row (by decide), gr 25 (by decide), e25]
          have hd := go D14
          refine ⟨by omega, by omega, by rw [y28]; constructor <;> omega, by rw [y28]; omega, by rw [y28]; omega, by rw [y28, y25, hlet]; omega, by rw [y28, y25, hlet]; exact two_rng (by omega), fun D22 e22 => tl D22 _ (go D14 D22 none (fun r h => by rw [e14, mm_wr_row h]) (fun p h => by rw [e14, mm_wr_k h]) (by rw [e14, mm_wr_eq, g12]; omega) e22)⟩
        · have y28 : D30 28 = D 28 := by rw [e30, mm_wr_row (by decide)]; exact g28
          have y25 : D30 25 = D 25 := by rw [e30, mm_wr_row (by decide), gr 25 (by decide), e25]
          refine ⟨by omega, by omega, by rw [y28]; constructor <;> omega, by rw [y28]; omega, by rw [y28]; omega, by rw [y28, y25, hlet]; omega, by rw [y28, y25, hlet]; exact two_rng (by omega), fun D38 e38 => tl D38 _ (go D30 D38 none (fun r h => by rw [e30, mm_wr_row h]) (fun p h => by rw [e30, mm_wr_k h]) (by rw [e30, mm_wr_eq, g12]; omega) e38)⟩
      · have go : ∀ (Dy Dz : mm_D), Dy = mm_wr D9 24 12 1 → Dz = mm_wr Dy 24 11 (mm_or (Dy 24 11) 0) → sv_G D Dz a (b + 1) := by
          intro Dy Dz ey ez
          refine sv_G_s h1 G (fun r h => by rw [ez, mm_wr_row h, ey, mm_wr_row h, gr r h]) (fun p a b c d => by rw [ez, mm_wr_k c, ey, mm_wr_k d, gp p a b c d]) (by rw [ez, mm_wr_k (by decide), ey, mm_wr_k (by decide), g9]) ?_ (Or.inr ⟨by omega, ?_, ?_⟩)
          · rw [ez, mm_wr_k (by decide), ey, mm_wr_k (by decide)]
            exact g10
          · rw [ez, mm_wr_eq, ey, mm_wr_k (by decide), g11]
            exact bm_or0 g5
          · rw [ez, mm_wr_k (by decide), ey, mm_wr_eq]
        exact ⟨fun _ D46 e46 D47 e47 => tl D47 _ (go D46 D47 e46 e47), fun _ D55 e55 D56 e56 => tl D56 _ (go D55 D56 e55 e56)⟩
  exact lp (sv_tot tx - a).toNat a D4 none (by omega) (by omega) ha.2 (fun e p1 p2 => by rw [show e = a by omega]; exact hw.1) G0
/-- where a word stands -/
theorem pos_iff (R : sv_R D tx k P) (Z : sv_Z tx k D) {a b : Int} {w : wd} (ha : 0 ≤ a ∧ a < sv_tot tx) (hw : sv_bk tx D a w) (hb : b ≤ sv_tot tx) (h1 : ∀ e, a ≤ e → e < b → w <+: sv_e tx D e) (h2 : ∀ e, b ≤ e → e < sv_tot tx → ¬ w <+: sv_e tx D e) (p : Int) : (∃ e, a ≤ e ∧ e < b ∧ D 28 e = p) ↔ ∃ t i : Nat, stn (tx t) w i ∧ p = 100 * (t : Int) + (i : Int) := by
  have w0 : w ≠ [] := ((bk_ex R.1 Z).mpr ⟨a, ha, hw⟩).1
  constructor
  · rintro ⟨e, e0, e1, e2⟩
    obtain ⟨t, i, q1, q2, q3⟩ := Z.1.1 e (by omega) (by omega)
    have := h1 e e0 e1
    have hs : sv_e tx D e = (tx t).drop i := by
      show sv_sf tx (D 28 e) = _
      rw [q3]
      exact (sv_vpE R.1 q2).1
    rw [hs] at this
    exact ⟨t, i, ⟨w0, this⟩, by omega⟩
  · rintro ⟨t, i, hs, hp⟩
    have hl := stn_len hs
    have hpos := List.length_pos_iff.mpr w0
    obtain ⟨e, e0, e1, e2⟩ := Z.1.2.1 p ⟨t, i, (tx_lt R.1 (by omega)).1, by omega, hp⟩
    have hw2 : w <+: sv_e tx D e := by
      show w <+: sv_sf tx (D 28 e)
      rw [e2, hp, (sv_vpE R.1 (by omega)).1]
      exact hs.2
    refine ⟨e, ?_, ?_, e2⟩
    · by_cases c : a ≤ e
      · exact c
      · exact absurd hw2 (bk_first Z e0 (by omega) ha.2 hw)
    · by_cases c : e < b
      · exact c
      · exact absurd hw2 (h2 e (by omega) e1)
theorem sz_pos (p : Nat → Prop) (o : Int) : ∀ n : Nat, sz (fun v => ∃ i : Nat, i < n ∧ p i ∧ v = [o + (i : Int)]) (cN p n) := by
  intro n
  induction n with
  | zero => exact sz_0 (fun v q => by obtain ⟨i, q, _⟩ := q; omega)
  | succ n ih =>
    rw [cN_s]
    by_cases c : p n
    · rw [cI_1 c]
      refine sz_c (sz_1 ih (v := [o + (n : Int)]) ?_) (fun v => ⟨fun q => ?_, fun q => ?_⟩)
      · rintro ⟨i, q1, _, q3⟩
        have := (List.cons.inj q3).1
        omega
      · rcases q with q | ⟨i, q1, q2, q3⟩
        · exact ⟨n, by omega, c, q⟩
        · exact ⟨i, by omega, q2, q3⟩
      · obtain ⟨i, q1, q2, q3⟩ := q
        by_cases e : i = n
        · rw [e] at q3
          exact Or.inl q3
        · exact Or.inr ⟨i, by omega, q2, q3⟩
    · rw [cI_0 c, Int.add_zero]
      refine sz_c ih (fun v => ⟨fun q => ?_, fun q => ?_⟩)
      · obtain ⟨i, q1, q2, q3⟩ := q
        exact ⟨i, by omega, q2, q3⟩
      · obtain ⟨i, q1, q2, q3⟩ := q
        by_cases e : i = n
        · rw [e] at q2
          exact absurd q2 c
        · exact ⟨i, by omega, q2, q3⟩
theorem sz_txt (T : sv_T tx k P) (w : wd) (t : Nat) : sz (fun v => ∃ i : Nat, stn (tx t) w i ∧ v = [100 * (t : Int) + (i : Int)]) (en_of tx 15 w (t : Int)) := by
  have h := sz_pos (stn (tx t) w) (100 * (t : Int)) (tx t).length
  rw [cN_starts] at h
  refine sz_c h (fun v => ⟨fun q => ?_, fun q => ?_⟩)
  · obtain ⟨i, _, q2, q3⟩ := q
    exact ⟨i, q2, q3⟩
  · obtain ⟨i, q2, q3⟩ := q
    have := stn_len q2
    have := List.length_pos_iff.mpr q2.1
    exact ⟨i, by omega, q2, q3⟩
theorem sz_all (T : sv_T tx k P) (w : wd) : sz (fun v => ∃ t i : Nat, stn (tx t) w i ∧ v = [100 * (t : Int) + (i : Int)]) (en_all tx w) := by
  have dj : ∀ {t t' i i' : Nat} {v : wd}, t ≠ t' → stn (tx t) w i → v = [100 * (t : Int) + (i : Int)] → stn (tx t') w i' → ¬ v = [100 * (t' : Int) + (i' : Int)] := by
    intro t t' i i' v h1 h2 h3 h4 h5
    rw [h3] at h5
    have h6 := (List.cons.inj h5).1
    have := stn_len h2
    have := stn_len h4
    have := List.length_pos_iff.mpr h2.1
    have := sv_len (T := T) t
    have := sv_len (T := T) t'
    omega
  have a1 := sz_add (sz_txt T w 0) (sz_txt T w 1) (fun v p q => by obtain ⟨i, p1, p2⟩ := p; obtain ⟨j, q1, q2⟩ := q; exact dj (by decide) p1 p2 q1 q2)
  have a2 := sz_add a1 (sz_txt T w 2) (fun v p q => by
    obtain ⟨j, q1, q2⟩ := q
    rcases p with ⟨i, p1, p2⟩ | ⟨i, p1, p2⟩
    · exact dj (by decide) p1 p2 q1 q2
    · exact dj (by decide) p1 p2 q1 q2)
  have a3 := sz_add a2 (sz_txt T w 3) (fun v p q => by
    obtain ⟨j, q1, q2⟩ := q
    rcases p with (⟨i, p1, p2⟩ | ⟨i, p1, p2⟩) | ⟨i, p1, p2⟩
    · exact dj (by decide) p1 p2 q1 q2
    · exact dj (by decide) p1 p2 q1 q2
    · exact dj (by decide) p1 p2 q1 q2)
  refine sz_c a3 (fun v => ⟨fun q => ?_, fun q => ?_⟩)
  · rcases q with ((⟨i, h⟩ | ⟨i, h⟩) | ⟨i, h⟩) | ⟨i, h⟩
    · exact ⟨0, i, h⟩
    · exact ⟨1, i, h⟩
    · exact ⟨2, i, h⟩
    · exact ⟨3, i, h⟩
  · obtain ⟨t, i, h1, h2⟩ := q
    have hl := stn_len h1
    have hp := List.length_pos_iff.mpr h1.1
    have ht := (tx_lt T (j := t) (by omega)).2
    have : t = 0 ∨ t = 1 ∨ t = 2 ∨ t = 3 := by omega
    rcases this with rfl | rfl | rfl | rfl
    · exact Or.inl (Or.inl (Or.inl ⟨i, h1, h2⟩))
    · exact Or.inl (Or.inl (Or.inr ⟨i, h1, h2⟩))
    · exact Or.inl (Or.inr ⟨i, h1, h2⟩)
    · exact Or.inr ⟨i, h1, h2⟩
theorem en_ne0 {w : wd} {t : Nat} : en_of tx 15 w (t : Int) ≠ 0 ↔ ∃ i, stn (tx t) w i := by
  have e : en_of tx 15 w (t : Int) = cN (stn (tx t) w) (tx t).length := (cN_starts (tx t) w).symm
  rw [e]
  constructor
  · intro h
    by_cases c : ∃ i, stn (tx t) w i
    · exact c
    · exact absurd (cN_0.mpr (fun e _ y => c ⟨e, y⟩)) h
  · rintro ⟨i, hi⟩ h
    have := stn_len hi
    have := List.length_pos_iff.mpr hi.1
    exact cN_0.mp h i (by omega) hi
theorem rp_looks (R : sv_R D tx k P) (Z : sv_Z tx k D) {a : Int} {w : wd} (ha : 0 ≤ a ∧ a < sv_tot tx) (hw : sv_bk tx D a w) (H : ∀ D', (∀ r, r ≠ 24 → D' r = D r) → sv_R D' tx k P → sv_Z tx k D' → D' 24 0 = D 24 0 → D' 24 9 = en_all tx w → bm (D' 24 10) (fun t => en_of tx 15 w t ≠ 0) → bm (D' 24 11) (fun c => fac tx ([c] ++ w)) → D' 24 12 = cI (∃ t : Nat, w <+: tx t) → Q (.inl none) (mm_mk D' u x)) : mt 109 0 [some (mm_P 24), some (mm_I a), some (mm_I (w.length : Int)), none, none, none] [] (mm_mk D u x) Q := by
  have w0 : w ≠ [] := ((bk_ex R.1 Z).mpr ⟨a, ha, hw⟩).1
  have hpos := List.length_pos_iff.mpr w0
  refine rp_looksG R Z ha hw (fun D' b hab hb h1 h2 G => ?_)
  obtain ⟨g1, g2, g3, g4, g5, g6⟩ := G
  have pi := pos_iff R Z ha hw hb h1 h2
  have txl : ∀ t : Nat, (tx t).length ≤ 100 := fun t => sv_len (T := R.1) t
  refine H D' g1 (sv_R_row R (g2 3 (by decide) (by decide) (by decide) (by decide)) (g2 4 (by decide) (by decide) (by decide) (by decide)) (g2 6 (by decide) (by decide) (by decide) (by decide)) (g1 25 (by decide)) (g1 26 (by decide)) (g1 27 (by decide))) (sv_Z_row (g1 28 (by decide)) (g1 29 (by decide)) Z) (g2 0 (by decide) (by decide) (by decide) (by decide)) ?_ (bm_c g4 (fun t _ => ?_)) (bm_c g5 (fun c _ => ?_)) ?_
  · have s1 : ∀ m : Nat, (a + m ≤ sv_tot tx) → sz (fun v => ∃ e, a ≤ e ∧ e < a + m ∧ v = [D 28 e]) m := by
      intro m
      induction m with
      | zero => exact fun _ => sz_0 (fun v q => by obtain ⟨e, q1, q2, _⟩ := q; omega)
      | succ m ih =>
        intro hm
        refine sz_c (sz_1 (ih (by omega)) (v := [D 28 (a + m)]) ?_) (fun v => ⟨fun q => ?_, fun q => ?_⟩)
        · rintro ⟨e, q1, q2, q3⟩
          exact (Z.1.2.2 e (a + m) (by omega) q2 (by omega)).1 (List.cons.inj q3).1.symm
        · rcases q with q | ⟨e, q1, q2, q3⟩
          · exact ⟨a + m, by omega, by omega, q⟩
          · exact ⟨e, q1, by omega, q3⟩
        · obtain ⟨e, q1, q2, q3⟩ := q
          by_cases c : e = a + m
          · rw [c] at q3
            exact Or.inl q3
          · exact Or.inr ⟨e, q1, by omega, q3⟩
    have s2 := s1 (b - a).toNat (by omega)
    rw [Int.toNat_of_nonneg (by omega), show a + (b - a) = b by omega] at s2
    rw [g3]
    refine sz_uniq s2 (sz_all R.1 w) (fun v => ⟨fun q => ?_, fun q => ?_⟩)
    · obtain ⟨e, q1, q2, q3⟩ := q
      obtain ⟨t, i, y1, y2⟩ := (pi (D 28 e)).mp ⟨e, q1, q2, rfl⟩
      exact ⟨t, i, y1, by rw [q3, y2]⟩
    · obtain ⟨t, i, y1, y2⟩ := q
      obtain ⟨e, q1, q2, q3⟩ := (pi _).mpr ⟨t, i, y1, rfl⟩
      exact ⟨e, q1, q2, by rw [q3]; exact y2⟩
  · show (∃ e, a ≤ e ∧ e < b ∧ D 28 e / 100 = (t : Int)) ↔ en_of tx 15 w (t : Int) ≠ 0
    rw [en_ne0]
    constructor
    · rintro ⟨e, q1, q2, q3⟩
      obtain ⟨t', i, y1, y2⟩ := (pi (D 28 e)).mp ⟨e, q1, q2, rfl⟩
      have := stn_len y1
      have := txl t'
      have et : t' = t := by omega
      rw [et] at y1
      exact ⟨i, y1⟩
    · rintro ⟨i, y1⟩
      obtain ⟨e, q1, q2, q3⟩ := (pi _).mpr ⟨t, i, y1, rfl⟩
      have := stn_len y1
      have := txl t
      exact ⟨e, q1, q2, by omega⟩
  · show _ ↔ fac tx ((c : Int) :: w)
    rw [fac_st (by simp)]
    constructor
    · rintro ⟨e, q1, q2, q3, q4⟩
      obtain ⟨t, i, y1, y2⟩ := (pi (D 28 e)).mp ⟨e, q1, q2, rfl⟩
      have hl := stn_len y1
      have := txl t
      have i0 : 0 < i := by omega
      refine ⟨t, i - 1, (stn_cons w0).mpr ⟨by rw [show i - 1 + 1 = i by omega]; exact y1, ?_⟩⟩
      have := (R.2.2.1 t (tx_lt R.1 (j := t) (by omega)).1).2 (i - 1) (by omega)
      rw [q4, ← this, y2]
      congr 1
      omega
    · rintro ⟨t, i, h⟩
      obtain ⟨y1, y2⟩ := (stn_cons w0).mp h
      have hl := stn_len y1
      have := txl t
      obtain ⟨e, q1, q2, q3⟩ := (pi _).mpr ⟨t, i + 1, y1, rfl⟩
      refine ⟨e, q1, q2, by omega, ?_⟩
      have := (R.2.2.1 t (tx_lt R.1 (j := t) (by omega)).1).2 i (by omega)
      rw [q3, y2, ← this]
      congr 1
      omega
  · rw [g6]
    refine cI_c ⟨fun q => ?_, fun q => ?_⟩
    · obtain ⟨e, q1, q2, q3⟩ := q
      obtain ⟨t, i, y1, y2⟩ := (pi (D 28 e)).mp ⟨e, q1, q2, rfl⟩
      have hl := stn_len y1
      have := txl t
      have i0 : i = 0 := by omega
      rw [i0] at y1
      have := y1.2
      rw [List.drop_zero] at this
      exact ⟨t, this⟩
    · obtain ⟨t, ht⟩ := q
      obtain ⟨e, q1, q2, q3⟩ := (pi _).mpr ⟨t, 0, ⟨w0, by rw [List.drop_zero]; exact ht⟩, rfl⟩
      exact ⟨e, q1, q2, by omega⟩
end LK
