/-! the automaton's ints and the words of its states -/
def au_in (n f s : Int) : Prop := (0 ≤ s ∧ s < n) ∧ s ≠ f
def au_M (n f : Int) (rep : Int → wd) : wd → Prop := fun w => ∃ s, au_in n f s ∧ rep s = w
/-- l is the longest proper end of w in M -/
def au_lk (M : wd → Prop) (w l : wd) : Prop := M l ∧ l <:+ w ∧ l ≠ w ∧ ∀ m : wd, M m → m <:+ w → m ≠ w → m <:+ l
/-- what a step from w by a must be -/
def au_sp (M : wd → Prop) (n f : Int) (rep : Int → wd) (x w : wd) (a v : Int) : Prop :=
  (v = f ∧ w ++ [a] <:+ x ∧ ¬ wm_F M (w ++ [a])) ∨ (v = -1 ∧ ¬ w ++ [a] <:+ x ∧ ¬ wm_F M (w ++ [a])) ∨ (au_in n f v ∧ wm_cl M (w ++ [a]) (rep v))
def au_J (D : mm_D) (n f : Int) (rep : Int → wd) (x : wd) (en : Nat → wd → Int → Int) : Prop :=
  D 13 6 = n ∧ (1 ≤ n ∧ n ≤ 201) ∧ (f < n ∧ f ≠ 0) ∧ rep 0 = [] ∧
  (∀ s t, 0 ≤ s ∧ s < n → 0 ≤ t ∧ t < n → rep s = rep t → s = t) ∧
  wm_ok (au_M n f rep) ∧
  (∀ s, 0 ≤ s ∧ s < n → D 19 s = ((rep s).length : Int)) ∧
  (∀ s a, au_in n f s → 0 ≤ a ∧ a < 26 → au_sp (au_M n f rep) n f rep x (rep s) a (D 18 (s * 26 + a))) ∧
  D 20 0 = -1 ∧
  (∀ s, au_in n f s → s ≠ 0 → au_in n f (D 20 s) ∧ au_lk (au_M n f rep) (rep s) (rep (D 20 s))) ∧
  (∀ s r j, au_in n f s → s ≠ 0 → r = 15 ∨ r = 16 ∨ r = 17 → 0 ≤ j ∧ j < 4 → D r (s * 4 + j) = en r (rep s) j)
theorem wm_ext_pp {M : wd → Prop} {p w : wd} : wm_ext M p p w ↔ M w ∨ w = p := by
  unfold wm_ext
  constructor
  · rintro (h | h | h)
    · exact Or.inl h
    · exact Or.inr h
    · exact Or.inr h
  · rintro (h | h)
    · exact Or.inl h
    · exact Or.inr (Or.inl h)
theorem wm_p_self {M : wd → Prop} {p : wd} (h : wm_F M p) : wm_p M p p := ⟨List.suffix_refl p, h, fun w h1 _ => h1⟩
theorem wm_F_pp {M : wd → Prop} {p w : wd} (h : wm_F M p) : wm_F (wm_ext M p p) w ↔ wm_F M w := by
  rw [wm_ext_F (wm_p_self h)]
  exact ⟨fun q => q.elim id (fun q => wm_F_suf h q), Or.inl⟩
theorem au_M_new {n f : Int} {rep : Int → wd} {p : wd} (hn : 0 ≤ n) (hf : f < n) : au_M (n + 1) f (fun s => if s = n then p else rep s) = wm_ext (au_M n f rep) p p := by
  funext w
  apply propext
  rw [wm_ext_pp]
  constructor
  · rintro ⟨s, ⟨⟨h1, h2⟩, h3⟩, h4⟩
    dsimp only at h4
    by_cases c : s = n
    · rw [if_pos c] at h4
      exact Or.inr h4.symm
    · rw [if_neg c] at h4
      exact Or.inl ⟨s, ⟨⟨h1, by omega⟩, h3⟩, h4⟩
  · rintro (⟨s, ⟨⟨h1, h2⟩, h3⟩, h4⟩ | h)
    · refine ⟨s, ⟨⟨h1, by omega⟩, h3⟩, ?_⟩
      show (if s = n then p else rep s) = w
      rw [if_neg (by omega), h4]
    · refine ⟨n, ⟨⟨hn, by omega⟩, by omega⟩, ?_⟩
      show (if n = n then p else rep n) = w
      rw [if_pos rfl, h]
/-- a state split off -/
theorem au_split {D D' : mm_D} {n f : Int} {rep : Int → wd} {x : wd} {en : Nat → wd → Int → Int} (J : au_J D n f rep x en) (hx : x = [] ∨ ∃ T a, x = T ++ [a] ∧ au_M n f rep T) {s0 c t : Int} (h201 : n < 201) (hs0 : au_in n f s0) (hc : 0 ≤ c ∧ c < 26) (ht : au_in n f t) (hcl : wm_cl (au_M n f rep) (rep s0 ++ [c]) (rep t)) (hne : rep t ≠ rep s0 ++ [c]) (hxp : f ≠ -1 → rep f ≠ rep s0 ++ [c]) (hf0 : -1 ≤ f)
    (hen : ∀ r j, en r (rep s0 ++ [c]) j = en r (rep t) j)
    (d13 : D' 13 6 = n + 1) (d19 : ∀ k, D' 19 k = if k = n then ((rep s0).length : Int) + 1 else D 19 k)
    (d20 : ∀ k, D' 20 k = if k = t then n else if k = n then D 20 t else D 20 k)
    (d18n : ∀ a, 0 ≤ a ∧ a < 26 → D' 18 (n * 26 + a) = D 18 (t * 26 + a))
    (d18t : ∀ s, 0 ≤ s ∧ s < n → rep s <:+ rep s0 → D 18 (s * 26 + c) = t → D' 18 (s * 26 + c) = n)
    (d18o : ∀ s a, 0 ≤ s ∧ s < n → 0 ≤ a ∧ a < 26 → ¬ (a = c ∧ rep s <:+ rep s0 ∧ D 18 (s * 26 + c) = t) → D' 18 (s * 26 + a) = D 18 (s * 26 + a))
    (den : ∀ r, r = 15 ∨ r = 16 ∨ r = 17 → (∀ j, 0 ≤ j ∧ j < 4 → D' r (n * 4 + j) = D r (t * 4 + j)) ∧ ∀ s j, 0 ≤ s ∧ s < n → 0 ≤ j ∧ j < 4 → D' r (s * 4 + j) = D r (s * 4 + j)) :
    au_J D' (n + 1) f (fun s => if s = n then rep s0 ++ [c] else rep s) x en := by
  obtain ⟨j1, j2, j3, j4, j5, j6, j7, j8, j9, j10, j11⟩ := J
  generalize hp : rep s0 ++ [c] = p at *
  generalize hM : au_M n f rep = M at *
  have hMs : M (rep s0) := by rw [← hM]; exact ⟨s0, hs0, rfl⟩
  have hMi : ∀ s, au_in n f s → M (rep s) := by intro s h; rw [← hM]; exact ⟨s, h, rfl⟩
  have hF : wm_F M p := ⟨rep t, hcl.1, hcl.2.1⟩
  have hpp := wm_p_self hF
  have hnp : ¬ M p := by
    intro h
    exact hne (ws_anti (hcl.2.2 p h (List.suffix_refl p)) hcl.2.1)
  have hMn : au_M (n + 1) f (fun s => if s = n then p else rep s) = wm_ext M p p := by rw [← hM]; exact au_M_new (by omega) j3.1
  have rn : (fun s => if s = n then p else rep s) n = p := if_pos rfl
  have ro : ∀ s, s < n → (fun s => if s = n then p else rep s) s = rep s := fun s h => if_neg (by omega)
  have inU : ∀ s, au_in n f s → au_in (n + 1) f s := fun s h => ⟨⟨h.1.1, by have := h.1.2; omega⟩, h.2⟩
  have inn : au_in (n + 1) f n := ⟨⟨by omega, by omega⟩, by omega⟩
  have inD : ∀ s, au_in (n + 1) f s → s ≠ n → au_in n f s := fun s h h' => ⟨⟨h.1.1, by have := h.1.2; omega⟩, h.2⟩
  have hok : wm_ok (wm_ext M p p) := by
    have := wm_ext_ok (T := rep s0) (c := c) (p := p) j6 hMs (by rw [hp]; exact hpp)
    rwa [hp] at this
  have t0 : t ≠ 0 := by
    intro h
    have h1 := hcl.2.1
    rw [h, j4] at h1
    have := h1.length_le
    rw [← hp] at this
    simp at this
  have hpl : p ≠ [] := by rw [← hp]; simp
  -- closures of the grown set
  have clo : ∀ w d, wm_cl M w d → ¬ (w <:+ p ∧ d = rep t) → wm_cl (wm_ext M p p) w d := by
    intro w d h h2
    refine wm_ext_old hpp h (fun h3 => ?_)
    have h4 := h.2.2 (rep t) hcl.1 (h3.trans hcl.2.1)
    rcases ws_tot h4 hcl.2.1 with h5 | h5
    · exact h5
    · exact absurd ⟨h3, ws_anti h4 (hcl.2.2 d h.1 h5)⟩ h2
  have clo2 : ∀ w, wm_cl M w (rep t) → w <:+ p → wm_cl (wm_ext M p p) w p := fun w h h2 => wm_ext_p hpp h2 (fun m hm hs => hcl.2.1.trans (h.2.2 m hm hs))
  have hFF : ∀ w, wm_F (wm_ext M p p) w ↔ wm_F M w := fun w => wm_F_pp hF
  have hT : ∀ a, p ++ [a] <:+ x → rep t ++ [a] <:+ x := by
    intro a h
    rcases hx with h0 | ⟨T, b, rfl, hTM⟩
    · rw [h0] at h
      have := h.length_le
      simp at this
    · obtain ⟨y, e, hy⟩ := ws_last h
      obtain ⟨e1, e2⟩ := List.append_inj' e rfl
      cases e2
      rw [← e1] at hy
      exact ws_snoc.mpr (hcl.2.2 T hTM hy)
  have hsn := fun a => wm_cl_snoc j6 hcl (a := a)
  refine ⟨d13, by omega, by omega, ?_, ?_, ?_, ?_, ?_, ?_, ?_, ?_⟩
  · rw [ro 0 (by omega)]
    exact j4
  · have cas : ∀ s, 0 ≤ s ∧ s < n → rep s ≠ p := by
      intro s h e
      by_cases c1 : s = f
      · exact hxp (by omega) (by rw [← c1]; exact e)
      · exact hnp (by rw [← e]; exact hMi s ⟨h, c1⟩)
    intro s s' h h' e
    by_cases c1 : s = n <;> by_cases c2 : s' = n
    · omega
    · rw [c1, rn, ro s' (by omega)] at e
      exact absurd e.symm (cas s' (by omega))
    · rw [c2, rn, ro s (by omega)] at e
      exact absurd e (cas s (by omega))
    · rw [ro s (by omega), ro s' (by omega)] at e
      exact j5 s s' (by omega) (by omega) e
  · rw [hMn]
    exact hok
  · intro s h
    rw [d19]
    by_cases c1 : s = n
    · rw [if_pos c1, c1, rn, ← hp]
      simp
    · rw [if_neg c1, ro s (by omega)]
      exact j7 s (by omega)
  · rw [hMn]
    intro s a h ha
    by_cases c1 : s = n
    · rw [c1, rn, d18n a ha]
      rcases j8 t a ht ha with ⟨h1, h2, h3⟩ | ⟨h1, h2, h3⟩ | ⟨h1, h2⟩
      · exact Or.inl ⟨h1, (ws_snoc.mpr hcl.2.1).trans h2, fun q => h3 ((hsn a).1.mp ((hFF _).mp q))⟩
      · exact Or.inr (Or.inl ⟨h1, fun q => h2 (hT a q), fun q => h3 ((hsn a).1.mp ((hFF _).mp q))⟩)
      · refine Or.inr (Or.inr ⟨inU _ h1, ?_⟩)
        rw [ro _ h1.1.2]
        refine clo _ _ (((hsn a).2 _).mpr h2) (fun q => ?_)
        have := q.1.length_le
        rw [List.length_append, List.length_singleton] at this
        omega
    · have hs := inD s h c1
      rw [ro s hs.1.2]
      by_cases c2 : a = c ∧ rep s <:+ rep s0 ∧ D 18 (s * 26 + c) = t
      · obtain ⟨q1, q2, q3⟩ := c2
        subst q1
        rw [d18t s hs.1 q2 q3]
        refine Or.inr (Or.inr ⟨inn, ?_⟩)
        rw [rn]
        have := j8 s a hs ha
        rw [q3] at this
        rcases this with ⟨h1, _⟩ | ⟨h1, _⟩ | ⟨_, h2⟩
        · exact absurd h1 ht.2
        · have := ht.1.1
          omega
        · exact clo2 _ h2 (by rw [← hp]; exact ws_snoc.mpr q2)
      · rw [d18o s a hs.1 ha c2]
        rcases j8 s a hs ha with ⟨h1, h2, h3⟩ | ⟨h1, h2, h3⟩ | ⟨h1, h2⟩
        · exact Or.inl ⟨h1, h2, fun q => h3 ((hFF _).mp q)⟩
        · exact Or.inr (Or.inl ⟨h1, h2, fun q => h3 ((hFF _).mp q)⟩)
        · refine Or.inr (Or.inr ⟨inU _ h1, ?_⟩)
          rw [ro _ h1.1.2]
          refine clo _ _ h2 (fun q => c2 ?_)
          obtain ⟨q1, q2⟩ := q
          rw [← hp] at q1
          obtain ⟨y, e, hy⟩ := ws_last q1
          obtain ⟨e1, e2⟩ := List.append_inj' e rfl
          cases e2
          rw [← e1] at hy
          exact ⟨rfl, hy, j5 _ _ h1.1 ht.1 q2⟩
  · rw [d20, if_neg (Ne.symm t0), if_neg (by omega)]
    exact j9
  · rw [hMn]
    intro s h h0
    rw [d20]
    by_cases c1 : s = t
    · rw [if_pos c1, c1, ro t ht.1.2, rn]
      refine ⟨inn, wm_ext_pp.mpr (Or.inr rfl), hcl.2.1, Ne.symm hne, fun m hm h1 h2 => ?_⟩
      rcases wm_ext_pp.mp hm with hm | hm
      · rcases ws_tot h1 hcl.2.1 with h3 | h3
        · exact h3
        · exact absurd (ws_anti h1 (hcl.2.2 m hm h3)) h2
      · rw [hm]
        exact List.suffix_refl p
    · rw [if_neg c1]
      by_cases c2 : s = n
      · rw [if_pos c2, c2, rn]
        obtain ⟨l1, l2, l3, l4, l5⟩ := j10 t ht t0
        rw [ro _ l1.1.2]
        refine ⟨inU _ l1, wm_ext_pp.mpr (Or.inl l2), ?_, fun e => hnp (by rw [← e]; exact l2), fun m hm h1 h2 => ?_⟩
        · rcases ws_tot l3 hcl.2.1 with h3 | h3
          · exact h3
          · exact absurd (ws_anti l3 (hcl.2.2 _ l2 h3)) l4
        · rcases wm_ext_pp.mp hm with hm | hm
          · refine l5 m hm (h1.trans hcl.2.1) (fun e => hne ?_)
            rw [e] at h1
            exact ws_anti h1 hcl.2.1
          · exact absurd hm h2
      · rw [if_neg c2]
        have hs := inD s h c2
        rw [ro s hs.1.2]
        obtain ⟨l1, l2, l3, l4, l5⟩ := j10 s hs h0
        rw [ro _ l1.1.2]
        refine ⟨inU _ l1, wm_ext_pp.mpr (Or.inl l2), l3, l4, fun m hm h1 h2 => ?_⟩
        rcases wm_ext_pp.mp hm with hm | hm
        · exact l5 m hm h1 h2
        · rw [hm] at h1 ⊢
          have h3 := hcl.2.2 _ (hMi s hs) h1
          exact hcl.2.1.trans (l5 _ hcl.1 h3 (fun e => c1 (j5 _ _ hs.1 ht.1 e.symm)))
  · intro s r j h h0 hr hj
    by_cases c1 : s = n
    · rw [c1, rn, (den r hr).1 j hj, j11 t r j ht t0 hr hj, hen]
    · have hs := inD s h c1
      rw [ro s hs.1.2, (den r hr).2 s j hs.1 hj]
      exact j11 s r j hs h0 hr hj
