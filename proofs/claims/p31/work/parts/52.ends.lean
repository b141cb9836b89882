/-! counting below a bound; the ends of words in texts -/
noncomputable def cI (p : Prop) : Int := @ite Int p (Classical.propDecidable p) 1 0
theorem cI_1 {p : Prop} (h : p) : cI p = 1 := by unfold cI; exact if_pos h
theorem cI_0 {p : Prop} (h : ¬ p) : cI p = 0 := by unfold cI; exact if_neg h
theorem cI_c {p q : Prop} (h : p ↔ q) : cI p = cI q := by rw [propext h]
theorem cI_b (p : Prop) : 0 ≤ cI p ∧ cI p ≤ 1 := by
  by_cases h : p
  · rw [cI_1 h]; decide
  · rw [cI_0 h]; decide
noncomputable def cN (p : Nat → Prop) : Nat → Int
  | 0 => 0
  | n + 1 => cN p n + cI (p n)
noncomputable def fN (p : Nat → Prop) : Nat → Int
  | 0 => -1
  | n + 1 => if fN p n = -1 then @ite Int (p n) (Classical.propDecidable (p n)) (n : Int) (-1) else fN p n
noncomputable def laN (p : Nat → Prop) : Nat → Int
  | 0 => -1
  | n + 1 => @ite Int (p n) (Classical.propDecidable (p n)) (n : Int) (laN p n)
theorem cN_s (p : Nat → Prop) (n : Nat) : cN p (n + 1) = cN p n + cI (p n) := rfl
theorem fN_s (p : Nat → Prop) (n : Nat) : fN p (n + 1) = if fN p n = -1 then @ite Int (p n) (Classical.propDecidable (p n)) (n : Int) (-1) else fN p n := rfl
theorem laN_s (p : Nat → Prop) (n : Nat) : laN p (n + 1) = @ite Int (p n) (Classical.propDecidable (p n)) (n : Int) (laN p n) := rfl
theorem cN_c {p q : Nat → Prop} : ∀ {n : Nat}, (∀ e, e < n → (p e ↔ q e)) → cN p n = cN q n ∧ fN p n = fN q n ∧ laN p n = laN q n := by
  intro n
  induction n with
  | zero => exact fun _ => ⟨rfl, rfl, rfl⟩
  | succ n ih =>
    intro h
    obtain ⟨a, b, c⟩ := ih (fun e he => h e (by omega))
    have hn : p n = q n := propext (h n (by omega))
    rw [cN_s, cN_s, fN_s, fN_s, laN_s, laN_s, a, b, c, hn]
    exact ⟨rfl, rfl, rfl⟩
theorem cN_b (p : Nat → Prop) : ∀ n : Nat, 0 ≤ cN p n ∧ cN p n ≤ n := by
  intro n
  induction n with
  | zero => exact ⟨Int.le_refl _, Int.le_refl _⟩
  | succ n ih =>
    rw [cN_s]
    have := cI_b (p n)
    omega
theorem cN_0 {p : Nat → Prop} : ∀ {n : Nat}, cN p n = 0 ↔ ∀ e, e < n → ¬ p e := by
  intro n
  induction n with
  | zero => exact ⟨fun _ e h => absurd h (by omega), fun _ => rfl⟩
  | succ n ih =>
    rw [cN_s]
    have b1 := cI_b (p n)
    have b2 := cN_b p n
    constructor
    · intro h e he
      by_cases c : e = n
      · intro hp
        rw [c] at hp
        rw [cI_1 hp] at h
        omega
      · exact ih.mp (by omega) e (by omega)
    · intro h
      rw [ih.mpr (fun e he => h e (by omega)), cI_0 (h n (by omega))]
      rfl
theorem fN_sp (p : Nat → Prop) : ∀ n : Nat, (fN p n = -1 ∧ ∀ e, e < n → ¬ p e) ∨ ∃ e : Nat, e < n ∧ fN p n = (e : Int) ∧ p e ∧ ∀ e', e' < e → ¬ p e' := by
  intro n
  induction n with
  | zero => exact Or.inl ⟨rfl, fun e h => absurd h (by omega)⟩
  | succ n ih =>
    rw [fN_s]
    rcases ih with ⟨a, b⟩ | ⟨e, e1, e2, e3, e4⟩
    · rw [if_pos a]
      by_cases c : p n
      · rw [if_pos c]
        exact Or.inr ⟨n, by omega, rfl, c, b⟩
      · rw [if_neg c]
        refine Or.inl ⟨rfl, fun e he => ?_⟩
        by_cases d : e = n
        · rw [d]; exact c
        · exact b e (by omega)
    · rw [if_neg (by omega)]
      exact Or.inr ⟨e, by omega, e2, e3, e4⟩
theorem laN_sp (p : Nat → Prop) : ∀ n : Nat, (laN p n = -1 ∧ ∀ e, e < n → ¬ p e) ∨ ∃ e : Nat, e < n ∧ laN p n = (e : Int) ∧ p e ∧ ∀ e', e < e' → e' < n → ¬ p e' := by
  intro n
  induction n with
  | zero => exact Or.inl ⟨rfl, fun e h => absurd h (by omega)⟩
  | succ n ih =>
    rw [laN_s]
    by_cases c : p n
    · rw [if_pos c]
      exact Or.inr ⟨n, by omega, rfl, c, fun e' h1 h2 => by omega⟩
    · rw [if_neg c]
      rcases ih with ⟨a, b⟩ | ⟨e, e1, e2, e3, e4⟩
      · refine Or.inl ⟨a, fun e he => ?_⟩
        by_cases d : e = n
        · rw [d]; exact c
        · exact b e (by omega)
      · refine Or.inr ⟨e, by omega, e2, e3, fun e' h1 h2 => ?_⟩
        by_cases d : e' = n
        · rw [d]; exact c
        · exact e4 e' h1 (by omega)
theorem fN_neg {p : Nat → Prop} {n : Nat} : fN p n = -1 ↔ cN p n = 0 := by
  rw [cN_0]
  rcases fN_sp p n with ⟨a, b⟩ | ⟨e, e1, e2, e3, e4⟩
  · exact ⟨fun _ => b, fun _ => a⟩
  · exact ⟨fun h => by omega, fun h => absurd e3 (h e e1)⟩
theorem cN_none {p : Nat → Prop} {n : Nat} (h : ∀ e, e < n → ¬ p e) : cN p n = 0 ∧ fN p n = -1 ∧ laN p n = -1 := by
  refine ⟨cN_0.mpr h, fN_neg.mpr (cN_0.mpr h), ?_⟩
  rcases laN_sp p n with ⟨a, b⟩ | ⟨e, e1, e2, e3, e4⟩
  · exact a
  · exact absurd e3 (h e e1)
/-! the ends of a word in a text -/
def oc (T w : wd) (e : Nat) : Prop := w ≠ [] ∧ w <:+ T.take (e + 1)
noncomputable def en_of (tx : Nat → wd) (r : Nat) (w : wd) (j : Int) : Int := if r = 15 then cN (oc (tx j.toNat) w) (tx j.toNat).length else if r = 16 then fN (oc (tx j.toNat) w) (tx j.toNat).length else laN (oc (tx j.toNat) w) (tx j.toNat).length
def txa (tx : Nat → wd) (t : Nat) (c : Int) : Nat → wd := fun j => if j = t then tx t ++ [c] else tx j
theorem txa_t (tx : Nat → wd) (t : Nat) (c : Int) : txa tx t c t = tx t ++ [c] := if_pos rfl
theorem txa_o (tx : Nat → wd) {t j : Nat} (c : Int) (h : j ≠ t) : txa tx t c j = tx j := if_neg h
theorem oc_old {T w : wd} {c : Int} {e : Nat} (h : e < T.length) : oc (T ++ [c]) w e ↔ oc T w e := by
  unfold oc
  rw [List.take_append_of_le_length (by omega)]
theorem oc_new {T w : wd} {c : Int} : oc (T ++ [c]) w T.length ↔ w ≠ [] ∧ w <:+ T ++ [c] := by
  unfold oc
  rw [List.take_of_length_le (by simp)]
theorem en_eq {tx tx' : Nat → wd} {w w' : wd} {r : Nat} {j : Int} (hl : (tx j.toNat).length = (tx' j.toNat).length) (h : ∀ e, e < (tx j.toNat).length → (oc (tx j.toNat) w e ↔ oc (tx' j.toNat) w' e)) : en_of tx r w j = en_of tx' r w' j := by
  unfold en_of
  rw [(cN_c h).1, (cN_c h).2.1, (cN_c h).2.2, hl]
theorem en_txa_no {tx : Nat → wd} {t : Nat} {c : Int} {w : wd} {r : Nat} {j : Int} (h : j.toNat ≠ t ∨ w = [] ∨ ¬ w <:+ tx t ++ [c]) : en_of (txa tx t c) r w j = en_of tx r w j := by
  by_cases e : j.toNat = t
  · have hno : ¬ oc (tx t ++ [c]) w (tx t).length := by
      rw [oc_new]
      rintro ⟨h1, h2⟩
      rcases h with h | h | h
      · exact h e
      · exact h1 h
      · exact h h2
    have hc := cN_c (p := oc (tx t ++ [c]) w) (q := oc (tx t) w) (n := (tx t).length) (fun e he => oc_old he)
    unfold en_of
    rw [e, txa_t, List.length_append, List.length_singleton, cN_s, fN_s, laN_s, hc.1, hc.2.1, hc.2.2, cI_0 hno, if_neg hno, if_neg hno]
    have : (if fN (oc (tx t) w) (tx t).length = -1 then -1 else fN (oc (tx t) w) (tx t).length) = fN (oc (tx t) w) (tx t).length := by
      split <;> omega
    rw [this, Int.add_zero]
  · have e2 : txa tx t c j.toNat = tx j.toNat := txa_o tx c e
    exact en_eq (by rw [e2]) (fun _ _ => by rw [e2])
theorem en_txa_yes {tx : Nat → wd} {t : Nat} {c : Int} {w : wd} (h0 : w ≠ []) (h1 : w <:+ tx t ++ [c]) : en_of (txa tx t c) 15 w (t : Int) = en_of tx 15 w (t : Int) + 1 ∧ en_of (txa tx t c) 17 w (t : Int) = ((tx t).length : Int) ∧ en_of (txa tx t c) 16 w (t : Int) = if en_of tx 15 w (t : Int) = 0 then ((tx t).length : Int) else en_of tx 16 w (t : Int) := by
  have hyes : oc (tx t ++ [c]) w (tx t).length := oc_new.mpr ⟨h0, h1⟩
  have hc := cN_c (p := oc (tx t ++ [c]) w) (q := oc (tx t) w) (n := (tx t).length) (fun e he => oc_old he)
  have e1 : (t : Int).toNat = t := rfl
  refine ⟨?_, ?_, ?_⟩
  · show cN (oc (txa tx t c t) w) (txa tx t c t).length = cN (oc (tx t) w) (tx t).length + 1
    rw [txa_t, List.length_append, List.length_singleton, cN_s, hc.1, cI_1 hyes]
  · show laN (oc (txa tx t c t) w) (txa tx t c t).length = _
    rw [txa_t, List.length_append, List.length_singleton, laN_s, if_pos hyes]
  · show fN (oc (txa tx t c t) w) (txa tx t c t).length = if cN (oc (tx t) w) (tx t).length = 0 then _ else fN (oc (tx t) w) (tx t).length
    rw [txa_t, List.length_append, List.length_singleton, fN_s, hc.2.1, if_pos hyes]
    by_cases q : cN (oc (tx t) w) (tx t).length = 0
    · rw [if_pos q, if_pos (fN_neg.mpr q)]
    · rw [if_neg q, if_neg (fun q2 => q (fN_neg.mp q2))]
theorem en_b (tx : Nat → wd) (w : wd) (j : Int) : 0 ≤ en_of tx 15 w j ∧ en_of tx 15 w j ≤ ((tx j.toNat).length : Int) := cN_b _ _
/-! the words of the states, by the texts -/
def fac (tx : Nat → wd) (w : wd) : Prop := ∃ (j e : Nat), w <:+ (tx j).take e
def lmx (tx : Nat → wd) (w : wd) : Prop := (∃ (j e : Nat), w = (tx j).take e) ∨ ∃ b c : Int, b ≠ c ∧ fac tx (b :: w) ∧ fac tx (c :: w)
def tM (tx : Nat → wd) (M : wd → Prop) : Prop := wm_ok M ∧ (∀ j, M (tx j)) ∧ ∀ m, M m → m ≠ [] → lmx tx m
theorem fac_suf {tx : Nat → wd} {u w : wd} (h : fac tx w) (hu : u <:+ w) : fac tx u := by
  obtain ⟨j, e, h⟩ := h
  exact ⟨j, e, hu.trans h⟩
theorem fac_of {tx : Nat → wd} {y w : wd} {j : Nat} (h : y <+: tx j) (hw : w <:+ y) : fac tx w := by
  refine ⟨j, y.length, ?_⟩
  rw [← List.prefix_iff_eq_take.mp h]
  exact hw
theorem fac_nil (tx : Nat → wd) : fac tx [] := ⟨0, 0, List.nil_suffix⟩
theorem fac_pre {tx : Nat → wd} {w : wd} {a : Int} (h : fac tx (w ++ [a])) : fac tx w := by
  obtain ⟨j, e, h⟩ := h
  obtain ⟨y, hy, hs⟩ := ws_last h
  refine fac_of (y := y) (j := j) ?_ hs
  have h1 : (tx j).take e <+: tx j := List.take_prefix e (tx j)
  rw [hy] at h1
  exact (List.prefix_append y [a]).trans h1
theorem fac_preL {tx : Nat → wd} : ∀ (z w : wd), fac tx (w ++ z) → fac tx w := by
  intro z
  induction z with
  | nil => intro w h; rwa [List.append_nil] at h
  | cons a z ih =>
    intro w h
    have : fac tx ((w ++ [a]) ++ z) := by rw [List.append_assoc]; exact h
    exact fac_pre (ih (w ++ [a]) this)
theorem wm_pre {M : wd → Prop} (hM : wm_ok M) : ∀ (z w : wd), M (w ++ z) → M w := by
  intro z
  induction z with
  | nil => intro w h; rwa [List.append_nil] at h
  | cons a z ih =>
    intro w h
    have : M ((w ++ [a]) ++ z) := by rw [List.append_assoc]; exact h
    exact hM.2.1 w a (ih (w ++ [a]) this)
theorem wm_take {M : wd → Prop} (hM : wm_ok M) {w : wd} (h : M w) (e : Nat) : M (w.take e) := wm_pre hM (w.drop e) (w.take e) (by rwa [List.take_append_drop])
theorem tM_F {tx : Nat → wd} {M : wd → Prop} (h : tM tx M) {w : wd} : wm_F M w ↔ fac tx w := by
  constructor
  · rintro ⟨m, hm, hs⟩
    by_cases e : m = []
    · rw [e] at hs
      rw [List.suffix_nil.mp hs]
      exact fac_nil tx
    · rcases h.2.2 m hm e with ⟨j, k, hk⟩ | ⟨b, c, _, hb, _⟩
      · exact ⟨j, k, by rw [← hk]; exact hs⟩
      · exact fac_suf hb (hs.trans (List.suffix_cons b m))
  · rintro ⟨j, e, hs⟩
    exact ⟨_, wm_take h.1 (h.2.1 j) e, hs⟩
theorem tM_oc {tx : Nat → wd} {M : wd → Prop} (h : tM tx M) {w d : wd} (hc : wm_cl M w d) (hw : w ≠ []) (j e : Nat) : oc (tx j) w e ↔ oc (tx j) d e := by
  have hd : d ≠ [] := by
    intro q
    have := hc.2.1
    rw [q] at this
    exact hw (List.suffix_nil.mp this)
  constructor
  · rintro ⟨_, h2⟩
    exact ⟨hd, hc.2.2 _ (wm_take h.1 (h.2.1 j) _) h2⟩
  · rintro ⟨_, h2⟩
    exact ⟨hw, hc.2.1.trans h2⟩
theorem tM_en {tx : Nat → wd} {M : wd → Prop} (h : tM tx M) {w d : wd} (hc : wm_cl M w d) (hw : w ≠ []) (r : Nat) (j : Int) : en_of tx r w j = en_of tx r d j := en_eq rfl (fun e _ => tM_oc h hc hw j.toNat e)
theorem en_nofac {tx : Nat → wd} {x : wd} (h : ¬ fac tx x) (j : Int) : en_of tx 15 x j = 0 ∧ en_of tx 16 x j = -1 ∧ en_of tx 17 x j = -1 := by
  have := cN_none (p := oc (tx j.toNat) x) (n := (tx j.toNat).length) (fun e _ q => h ⟨j.toNat, e + 1, q.2⟩)
  exact this
theorem fac_mono {tx : Nat → wd} {w : wd} {t : Nat} {c : Int} (h : fac tx w) : fac (txa tx t c) w := by
  obtain ⟨j, e, h⟩ := h
  refine fac_of (y := (tx j).take e) (j := j) ?_ h
  refine (List.take_prefix e (tx j)).trans ?_
  by_cases q : j = t
  · rw [q, txa_t]
    exact List.prefix_append _ _
  · rw [txa_o tx c q]
    exact List.prefix_refl _
theorem lmx_mono {tx : Nat → wd} {w : wd} {t : Nat} {c : Int} (h : lmx tx w) : lmx (txa tx t c) w := by
  rcases h with ⟨j, e, h⟩ | ⟨a, b, h0, h1, h2⟩
  · have h1 : w <+: txa tx t c j := by
      rw [h]
      refine (List.take_prefix e (tx j)).trans ?_
      by_cases q : j = t
      · rw [q, txa_t]
        exact List.prefix_append _ _
      · rw [txa_o tx c q]
        exact List.prefix_refl _
    exact Or.inl ⟨j, w.length, List.prefix_iff_eq_take.mp h1⟩
  · exact Or.inr ⟨a, b, h0, fac_mono h1, fac_mono h2⟩
theorem ws_ahead {p x : wd} (h : p <:+ x) (hne : p ≠ x) : ∃ a : Int, a :: p <:+ x := by
  obtain ⟨z, e⟩ := h
  rcases List.eq_nil_or_concat z with q | ⟨z', a, q⟩
  · rw [q] at e
    exact absurd e hne
  · refine ⟨a, z', ?_⟩
    rw [← e, q]
    simp
theorem tM_ext {tx : Nat → wd} {M : wd → Prop} (h : tM tx M) {t : Nat} {c : Int} {p : wd} (hp : wm_p M (tx t ++ [c]) p) : tM (txa tx t c) (wm_ext M (tx t ++ [c]) p) := by
  obtain ⟨h1, h2, h3⟩ := h
  have hX : fac (txa tx t c) (tx t ++ [c]) := fac_of (y := tx t ++ [c]) (j := t) (by rw [txa_t]; exact List.prefix_refl _) (List.suffix_refl _)
  have hXm : lmx (txa tx t c) (tx t ++ [c]) := Or.inl ⟨t, (tx t ++ [c]).length, by rw [txa_t, List.take_length]⟩
  refine ⟨wm_ext_ok h1 (h2 t) hp, fun j => ?_, fun m hm hne => ?_⟩
  · by_cases q : j = t
    · rw [q, txa_t]
      exact Or.inr (Or.inl rfl)
    · rw [txa_o tx c q]
      exact Or.inl (h2 j)
  · rcases hm with hm | hm | hm
    · exact lmx_mono (h3 m hm hne)
    · rw [hm]
      exact hXm
    · subst hm
      by_cases q : m = tx t ++ [c]
      · rw [q]
        exact hXm
      · obtain ⟨a, ha⟩ := ws_ahead hp.1 q
        have hna : ¬ wm_F M (a :: m) := by
          intro k
          have := (hp.2.2 _ ha k).length_le
          rw [List.length_cons] at this
          omega
        obtain ⟨d, hd, hs⟩ := hp.2.1
        by_cases q2 : m = d
        · rw [q2] at hne ⊢
          exact lmx_mono (h3 d hd hne)
        · obtain ⟨b, hb⟩ := ws_ahead hs q2
          refine Or.inr ⟨a, b, ?_, fac_suf hX ha, fac_mono ((tM_F ⟨h1, h2, h3⟩).mp ⟨d, hd, hb⟩)⟩
          intro e
          rw [e] at hna
          exact hna ⟨d, hd, hb⟩
