/-! words, and sets of words that hold with a word its beginnings, and with two words their longest common end -/
abbrev wd : Type := List Int
def wm_ok (M : wd → Prop) : Prop := M [] ∧ (∀ (w : wd) (a : Int), M (w ++ [a]) → M w) ∧ ∀ u v : wd, M u → M v → ∃ z, M z ∧ z <:+ u ∧ z <:+ v ∧ ∀ w : wd, w <:+ u → w <:+ v → w <:+ z
def wm_F (M : wd → Prop) (w : wd) : Prop := ∃ m, M m ∧ w <:+ m
/-- c is the least word of M that ends with w -/
def wm_cl (M : wd → Prop) (w c : wd) : Prop := M c ∧ w <:+ c ∧ ∀ m : wd, M m → w <:+ m → c <:+ m
theorem ws_anti {u v : wd} (h1 : u <:+ v) (h2 : v <:+ u) : u = v := h1.eq_of_length (Nat.le_antisymm h1.length_le h2.length_le)
theorem ws_cmp {u v w : wd} (h1 : u <:+ w) (h2 : v <:+ w) (h : u.length ≤ v.length) : u <:+ v := List.suffix_of_suffix_length_le h1 h2 h
theorem ws_tot {u v w : wd} (h1 : u <:+ w) (h2 : v <:+ w) : u <:+ v ∨ v <:+ u := (Nat.le_total u.length v.length).elim (fun h => Or.inl (ws_cmp h1 h2 h)) (fun h => Or.inr (ws_cmp h2 h1 h))
theorem ws_snoc {u v : wd} {a : Int} : u ++ [a] <:+ v ++ [a] ↔ u <:+ v := by
  constructor
  · rintro ⟨t, e⟩
    rw [← List.append_assoc] at e
    exact ⟨t, List.append_cancel_right e⟩
  · rintro ⟨t, e⟩
    exact ⟨t, by rw [← List.append_assoc, e]⟩
/-- a word that ends with u a ends with a -/
theorem ws_last {u d : wd} {a : Int} (h : u ++ [a] <:+ d) : ∃ y : wd, d = y ++ [a] ∧ u <:+ y := by
  obtain ⟨t, e⟩ := h
  exact ⟨t ++ u, by rw [← e, List.append_assoc], ⟨t, rfl⟩⟩
/-- ends of u a: none, or an end of u with a behind it -/
theorem ws_of_snoc {w u : wd} {a : Int} (h : w <:+ u ++ [a]) : w = [] ∨ ∃ q : wd, w = q ++ [a] ∧ q <:+ u := by
  rcases List.eq_nil_or_concat w with rfl | ⟨q, b, rfl⟩
  · exact Or.inl rfl
  · right
    rw [List.concat_eq_append] at h ⊢
    obtain ⟨y, e, hy⟩ := ws_last h
    obtain ⟨e1, e2⟩ := List.append_inj' e rfl
    cases e2
    exact ⟨q, rfl, by rw [e1]; exact hy⟩
theorem wm_F_suf {M : wd → Prop} {u w : wd} (h : wm_F M w) (hu : u <:+ w) : wm_F M u := by
  obtain ⟨m, hm, hw⟩ := h
  exact ⟨m, hm, hu.trans hw⟩
theorem wm_cl_uniq {M : wd → Prop} {w c c' : wd} (h : wm_cl M w c) (h' : wm_cl M w c') : c = c' := ws_anti (h.2.2 c' h'.1 h'.2.1) (h'.2.2 c h.1 h.2.1)
theorem wm_cl_self {M : wd → Prop} {m : wd} (h : M m) : wm_cl M m m := ⟨h, List.suffix_refl m, fun _ _ q => q⟩
theorem wm_cl_ex {M : wd → Prop} (hM : wm_ok M) {w : wd} (h : wm_F M w) : ∃ c, wm_cl M w c := by
  obtain ⟨m, hm, hw⟩ := h
  have key : ∀ (n : Nat) (m : wd), m.length ≤ n → M m → w <:+ m → ∃ c, wm_cl M w c := by
    intro n
    induction n with
    | zero =>
      intro m hl hm hw
      have e : m = [] := List.length_eq_zero_iff.mp (by omega)
      subst e
      exact ⟨[], hm, hw, fun m' _ _ => List.nil_suffix⟩
    | succ n ih =>
      intro m hl hm hw
      by_cases q : ∀ m' : wd, M m' → w <:+ m' → m <:+ m'
      · exact ⟨m, hm, hw, q⟩
      · obtain ⟨m', hq⟩ := Classical.not_forall.mp q
        obtain ⟨h1, hq⟩ := Classical.not_imp.mp hq
        obtain ⟨h2, hq⟩ := Classical.not_imp.mp hq
        obtain ⟨z, z1, z2, z3, z4⟩ := hM.2.2 m m' hm h1
        refine ih z ?_ z1 (z4 w hw h2)
        have h5 := z2.length_le
        by_cases h6 : z.length = m.length
        · exact absurd (by rw [← z2.eq_of_length h6]; exact z3) hq
        · omega
  exact key m.length m (Nat.le_refl _) hm hw
theorem wm_cl_nil {M : wd → Prop} (hM : wm_ok M) : wm_cl M [] [] := wm_cl_self hM.1
/-- a letter behind a word, a letter behind its closure -/
theorem wm_cl_snoc {M : wd → Prop} (hM : wm_ok M) {w c : wd} (hc : wm_cl M w c) {a : Int} : (wm_F M (w ++ [a]) ↔ wm_F M (c ++ [a])) ∧ ∀ d, wm_cl M (w ++ [a]) d ↔ wm_cl M (c ++ [a]) d := by
  have key : ∀ m, M m → (w ++ [a] <:+ m ↔ c ++ [a] <:+ m) := by
    intro m hm
    constructor
    · intro h
      obtain ⟨y, rfl, hy⟩ := ws_last h
      exact ws_snoc.mpr (hc.2.2 y (hM.2.1 y a hm) hy)
    · intro h
      exact (ws_snoc.mpr hc.2.1).trans h
  refine ⟨⟨fun ⟨m, h1, h2⟩ => ⟨m, h1, (key m h1).mp h2⟩, fun ⟨m, h1, h2⟩ => ⟨m, h1, (key m h1).mpr h2⟩⟩, fun d => ?_⟩
  constructor
  · rintro ⟨h1, h2, h3⟩
    exact ⟨h1, (key d h1).mp h2, fun m hm hs => h3 m hm ((key m hm).mpr hs)⟩
  · rintro ⟨h1, h2, h3⟩
    exact ⟨h1, (key d h1).mpr h2, fun m hm hs => h3 m hm ((key m hm).mp hs)⟩
/-- alike: the same closure for all between -/
theorem wm_cl_mid {M : wd → Prop} {w v c : wd} (hc : wm_cl M w c) (h1 : w <:+ v) (h2 : v <:+ c) : wm_cl M v c := ⟨hc.1, h2, fun m hm hs => hc.2.2 m hm (h1.trans hs)⟩
/-! one more letter behind a word T of M: T c comes in, and p, its longest end that was there -/
def wm_p (M : wd → Prop) (x p : wd) : Prop := p <:+ x ∧ wm_F M p ∧ ∀ w : wd, w <:+ x → wm_F M w → w <:+ p
def wm_ext (M : wd → Prop) (x p : wd) : wd → Prop := fun w => M w ∨ w = x ∨ w = p
/-- longest common ends of p and a word of M -/
theorem wm_p_lcs {M : wd → Prop} (hM : wm_ok M) {x p m : wd} (hp : wm_p M x p) (hm : M m) : ∃ z, wm_ext M x p z ∧ z <:+ p ∧ z <:+ m ∧ ∀ w : wd, w <:+ p → w <:+ m → w <:+ z := by
  obtain ⟨e, he⟩ := wm_cl_ex hM hp.2.1
  obtain ⟨z, z1, z2, z3, z4⟩ := hM.2.2 e m he.1 hm
  rcases ws_tot z2 he.2.1 with h | h
  · exact ⟨z, Or.inl z1, h, z3, fun w h1 h2 => z4 w (h1.trans he.2.1) h2⟩
  · exact ⟨p, Or.inr (Or.inr rfl), List.suffix_refl p, h.trans z3, fun w h1 _ => h1⟩
theorem wm_p_pre {M : wd → Prop} (hM : wm_ok M) {T p q : wd} {c : Int} (hT : M T) (hp : wm_p M (T ++ [c]) p) (e : p = q ++ [c]) (hq : q <:+ T) : M q := by
  subst e
  obtain ⟨d, hd⟩ := wm_cl_ex hM hp.2.1
  obtain ⟨y, rfl, hy⟩ := ws_last hd.2.1
  have hyM := hM.2.1 y c hd.1
  obtain ⟨z, z1, z2, z3, z4⟩ := hM.2.2 y T hyM hT
  have h1 : z ++ [c] <:+ q ++ [c] := hp.2.2 _ (ws_snoc.mpr z3) ⟨y ++ [c], hd.1, ws_snoc.mpr z2⟩
  have h2 := z4 q hy hq
  rw [ws_anti h2 (ws_snoc.mp h1)]
  exact z1
theorem wm_ext_ok {M : wd → Prop} (hM : wm_ok M) {T p : wd} {c : Int} (hT : M T) (hp : wm_p M (T ++ [c]) p) : wm_ok (wm_ext M (T ++ [c]) p) := by
  refine ⟨Or.inl hM.1, fun w a h => ?_, fun u v hu hv => ?_⟩
  · rcases h with h | h | h
    · exact Or.inl (hM.2.1 w a h)
    · obtain ⟨e1, e2⟩ := List.append_inj' h rfl
      rw [e1]
      exact Or.inl hT
    · rcases ws_of_snoc hp.1 with q | ⟨q, hq, hq2⟩
      · rw [q] at h
        exact absurd h (by simp)
      · rw [hq] at h
        obtain ⟨e1, e2⟩ := List.append_inj' h rfl
        rw [e1]
        exact Or.inl (wm_p_pre hM hT hp hq hq2)
  · have self : ∀ x : wd, wm_ext M (T ++ [c]) p x → ∃ z, wm_ext M (T ++ [c]) p z ∧ z <:+ x ∧ z <:+ x ∧ ∀ w : wd, w <:+ x → w <:+ x → w <:+ z := fun x hx => ⟨x, hx, List.suffix_refl x, List.suffix_refl x, fun w h _ => h⟩
    have xm : ∀ m, M m → ∃ z, wm_ext M (T ++ [c]) p z ∧ z <:+ T ++ [c] ∧ z <:+ m ∧ ∀ w : wd, w <:+ T ++ [c] → w <:+ m → w <:+ z := by
      intro m hm
      obtain ⟨z, z1, z2, z3, z4⟩ := wm_p_lcs hM hp hm
      exact ⟨z, z1, z2.trans hp.1, z3, fun w h1 h2 => z4 w (hp.2.2 w h1 ⟨m, hm, h2⟩) h2⟩
    have sw : ∀ {x y : wd}, (∃ z, wm_ext M (T ++ [c]) p z ∧ z <:+ x ∧ z <:+ y ∧ ∀ w : wd, w <:+ x → w <:+ y → w <:+ z) → ∃ z, wm_ext M (T ++ [c]) p z ∧ z <:+ y ∧ z <:+ x ∧ ∀ w : wd, w <:+ y → w <:+ x → w <:+ z := by
      rintro x y ⟨z, z1, z2, z3, z4⟩
      exact ⟨z, z1, z3, z2, fun w h1 h2 => z4 w h2 h1⟩
    have px : ∃ z, wm_ext M (T ++ [c]) p z ∧ z <:+ p ∧ z <:+ T ++ [c] ∧ ∀ w : wd, w <:+ p → w <:+ T ++ [c] → w <:+ z := ⟨p, Or.inr (Or.inr rfl), List.suffix_refl p, hp.1, fun w h _ => h⟩
    rcases hu with hu | rfl | rfl <;> rcases hv with hv | rfl | rfl
    · obtain ⟨z, z1, z2⟩ := hM.2.2 u v hu hv
      exact ⟨z, Or.inl z1, z2⟩
    · exact sw (xm u hu)
    · exact sw (wm_p_lcs hM hp hu)
    · exact xm v hv
    · exact self _ (Or.inr (Or.inl rfl))
    · exact sw px
    · exact wm_p_lcs hM hp hv
    · exact px
    · exact self _ (Or.inr (Or.inr rfl))
/-- the factors behind it -/
theorem wm_ext_F {M : wd → Prop} {x p w : wd} (hp : wm_p M x p) : wm_F (wm_ext M x p) w ↔ wm_F M w ∨ w <:+ x := by
  constructor
  · rintro ⟨m, hm | rfl | rfl, hs⟩
    · exact Or.inl ⟨m, hm, hs⟩
    · exact Or.inr hs
    · exact Or.inl (wm_F_suf hp.2.1 hs)
  · rintro (⟨m, hm, hs⟩ | h)
    · exact ⟨m, Or.inl hm, hs⟩
    · exact ⟨x, Or.inr (Or.inl rfl), h⟩
/-- the closures behind it -/
theorem wm_ext_new {M : wd → Prop} {x p w : wd} (hp : wm_p M x p) (h : w <:+ x) (hF : ¬ wm_F M w) : wm_cl (wm_ext M x p) w x := by
  refine ⟨Or.inr (Or.inl rfl), h, fun m hm hs => ?_⟩
  rcases hm with hm | rfl | rfl
  · exact absurd ⟨m, hm, hs⟩ hF
  · exact List.suffix_refl _
  · exact absurd (wm_F_suf hp.2.1 hs) hF
theorem wm_ext_p {M : wd → Prop} {x p w : wd} (hp : wm_p M x p) (h : w <:+ p) (hc : ∀ m, M m → w <:+ m → p <:+ m) : wm_cl (wm_ext M x p) w p := by
  refine ⟨Or.inr (Or.inr rfl), h, fun m hm hs => ?_⟩
  rcases hm with hm | rfl | rfl
  · exact hc m hm hs
  · exact hp.1
  · exact List.suffix_refl _
theorem wm_ext_old {M : wd → Prop} {x p w c : wd} (hp : wm_p M x p) (hc : wm_cl M w c) (h : w <:+ p → c <:+ p) : wm_cl (wm_ext M x p) w c := by
  refine ⟨Or.inl hc.1, hc.2.1, fun m hm hs => ?_⟩
  rcases hm with hm | rfl | rfl
  · exact hc.2.2 m hm hs
  · exact (h (hp.2.2 w hs ⟨c, hc.1, hc.2.1⟩)).trans hp.1
  · exact h hs
