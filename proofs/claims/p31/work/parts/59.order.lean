/-! the order of words -/
def lx : wd → wd → Prop
  | [], [] => False
  | [], _ :: _ => True
  | _ :: _, [] => False
  | a :: u, b :: v => a < b ∨ (a = b ∧ lx u v)
theorem lx_irr : ∀ u : wd, ¬ lx u u
  | [], h => h
  | a :: u, h => by
    rcases h with h | ⟨_, h⟩
    · omega
    · exact lx_irr u h
theorem lx_tr : ∀ {u v w : wd}, lx u v → lx v w → lx u w
  | [], [], _, h, _ => absurd h id
  | _ :: _, [], _, h, _ => absurd h id
  | _, _ :: _, [], _, h => absurd h id
  | [], _ :: _, _ :: _, _, _ => trivial
  | a :: u, b :: v, c :: w, h1, h2 => by
    rcases h1 with h1 | ⟨e1, h1⟩ <;> rcases h2 with h2 | ⟨e2, h2⟩
    · exact Or.inl (by omega)
    · exact Or.inl (by omega)
    · exact Or.inl (by omega)
    · exact Or.inr ⟨by omega, lx_tr h1 h2⟩
theorem lx_tri : ∀ u v : wd, lx u v ∨ u = v ∨ lx v u
  | [], [] => Or.inr (Or.inl rfl)
  | [], _ :: _ => Or.inl trivial
  | _ :: _, [] => Or.inr (Or.inr trivial)
  | a :: u, b :: v => by
    by_cases h1 : a < b
    · exact Or.inl (Or.inl h1)
    · by_cases h2 : b < a
      · exact Or.inr (Or.inr (Or.inl h2))
      · have e : a = b := by omega
        rcases lx_tri u v with h | h | h
        · exact Or.inl (Or.inr ⟨e, h⟩)
        · exact Or.inr (Or.inl (by rw [e, h]))
        · exact Or.inr (Or.inr (Or.inr ⟨e.symm, h⟩))
theorem lx_asy {u v : wd} (h : lx u v) : ¬ lx v u := fun q => lx_irr u (lx_tr h q)
theorem lx_app : ∀ {w u v : wd}, lx (w ++ u) (w ++ v) ↔ lx u v
  | [], _, _ => Iff.rfl
  | a :: w, u, v => by
    constructor
    · rintro (h | ⟨_, h⟩)
      · omega
      · exact lx_app.mp h
    · exact fun h => Or.inr ⟨rfl, lx_app.mpr h⟩
theorem lx_pre {u v : wd} (h : u <+: v) : ¬ lx v u := by
  obtain ⟨t, rfl⟩ := h
  intro q
  have : lx (u ++ t) (u ++ []) := by rw [List.append_nil]; exact q
  rw [lx_app] at this
  cases t with
  | nil => exact this
  | cons _ _ => exact this
theorem lx_pre2 {u v : wd} (h : u <+: v) (hne : u ≠ v) : lx u v := by
  rcases lx_tri u v with q | q | q
  · exact q
  · exact absurd q hne
  · exact absurd q (lx_pre h)
/-- q is no beginning of w: w against q is w against all that q begins -/
theorem lx_div : ∀ {q w : wd}, ¬ q <+: w → ¬ w <+: q → ∀ {v v' : wd}, (lx w (q ++ v) ↔ lx w q) ∧ (lx (q ++ v) w ↔ lx q w) ∧ (lx (w ++ v') q ↔ lx w q)
  | [], w, h, _ => absurd List.nil_prefix h
  | _ :: _, [], _, h => absurd List.nil_prefix h
  | a :: q, b :: w, h1, h2 => by
    rename_i v v'
    by_cases e : a = b
    · subst e
      have k1 : ¬ q <+: w := fun z => h1 (List.cons_prefix_cons.mpr ⟨rfl, z⟩)
      have k2 : ¬ w <+: q := fun z => h2 (List.cons_prefix_cons.mpr ⟨rfl, z⟩)
      obtain ⟨i1, i2, i3⟩ := lx_div k1 k2 (v := v) (v' := v')
      refine ⟨⟨?_, ?_⟩, ⟨?_, ?_⟩, ⟨?_, ?_⟩⟩
      · rintro (h | ⟨_, h⟩)
        · omega
        · exact Or.inr ⟨rfl, i1.mp h⟩
      · rintro (h | ⟨_, h⟩)
        · omega
        · exact Or.inr ⟨rfl, i1.mpr h⟩
      · rintro (h | ⟨_, h⟩)
        · omega
        · exact Or.inr ⟨rfl, i2.mp h⟩
      · rintro (h | ⟨_, h⟩)
        · omega
        · exact Or.inr ⟨rfl, i2.mpr h⟩
      · rintro (h | ⟨_, h⟩)
        · omega
        · exact Or.inr ⟨rfl, i3.mp h⟩
      · rintro (h | ⟨_, h⟩)
        · omega
        · exact Or.inr ⟨rfl, i3.mpr h⟩
    · refine ⟨⟨?_, ?_⟩, ⟨?_, ?_⟩, ⟨?_, ?_⟩⟩
      all_goals
        rintro (h | ⟨h, _⟩)
        · exact Or.inl h
        · omega
/-- words ahead of q c -/
theorem lx_snoc {w q : wd} {c : Int} : lx w (q ++ [c]) ↔ ¬ lx q w ∨ ∃ b : Int, b < c ∧ q ++ [b] <+: w := by
  by_cases h1 : q <+: w
  · obtain ⟨t, rfl⟩ := h1
    rw [lx_app]
    have e : lx q (q ++ t) ↔ lx [] t := by
      have := lx_app (w := q) (u := []) (v := t)
      rwa [List.append_nil] at this
    rw [e]
    cases t with
    | nil => exact ⟨fun _ => Or.inl id, fun _ => trivial⟩
    | cons b t =>
      constructor
      · rintro (h | ⟨_, h⟩)
        · refine Or.inr ⟨b, h, t, ?_⟩
          rw [List.append_assoc]
          rfl
        · cases t <;> exact absurd h id
      · rintro (h | ⟨b', hb, h⟩)
        · exact absurd trivial h
        · rw [List.prefix_append_right_inj] at h
          have := (List.cons_prefix_cons.mp h).1
          exact Or.inl (by omega)
  · by_cases h2 : w <+: q
    · have hne : w ≠ q := fun e => h1 (by rw [e]; exact List.prefix_refl q)
      have h3 : lx w (q ++ [c]) := by
        refine lx_pre2 (h2.trans (List.prefix_append q [c])) (fun e => ?_)
        have := h2.length_le
        rw [e, List.length_append, List.length_singleton] at this
        omega
      exact ⟨fun _ => Or.inl (lx_asy (lx_pre2 h2 hne)), fun _ => h3⟩
    · rw [(lx_div h1 h2 (v := [c]) (v' := [])).1]
      constructor
      · exact fun h => Or.inl (lx_asy h)
      · rintro (h | ⟨b, _, h⟩)
        · rcases lx_tri w q with k | k | k
          · exact k
          · exact absurd (by rw [k]; exact List.prefix_refl q) h1
          · exact absurd k h
        · exact absurd ((List.prefix_append q [b]).trans h) h1
theorem lx_cut {w q v : wd} (h : ¬ q <+: w) : lx w (q ++ v) ↔ lx w q := by
  by_cases h2 : w <+: q
  · have hne : w ≠ q := fun e => h (by rw [e]; exact List.prefix_refl q)
    have h3 := lx_pre2 h2 hne
    refine ⟨fun _ => h3, fun _ => ?_⟩
    by_cases e : v = []
    · rw [e, List.append_nil]
      exact h3
    · exact lx_tr h3 (lx_pre2 (List.prefix_append q v) (fun z => e (List.self_eq_append_right.mp z)))
  · exact (lx_div h h2 (v := v) (v' := [])).1
/-! numbers of words -/
theorem sz_cons {S : wd → Prop} {m : Int} (h : sz S m) (a : Int) : sz (fun w => ∃ z, w = a :: z ∧ S z) m := by
  obtain ⟨L, a1, a2, a3⟩ := h
  refine ⟨L.map (fun z => a :: z), ?_, fun w => ?_, by rw [List.length_map]; exact a3⟩
  · exact List.pairwise_map.mpr (List.Pairwise.imp (fun h e => h (List.cons.inj e).2) a1)
  · rw [List.mem_map]
    constructor
    · rintro ⟨z, h1, h2⟩
      exact ⟨z, h2.symm, (a2 z).mp h1⟩
    · rintro ⟨z, h1, h2⟩
      exact ⟨z, (a2 z).mpr h2, h1.symm⟩
theorem sz_app {S : wd → Prop} {m : Int} (h : sz S m) (u : wd) : sz (fun w => ∃ z, w = u ++ z ∧ S z) m := by
  obtain ⟨L, a1, a2, a3⟩ := h
  refine ⟨L.map (fun z => u ++ z), ?_, fun w => ?_, by rw [List.length_map]; exact a3⟩
  · exact List.pairwise_map.mpr (List.Pairwise.imp (fun h e => h (List.append_cancel_left e)) a1)
  · rw [List.mem_map]
    constructor
    · rintro ⟨z, h1, h2⟩
      exact ⟨z, h2.symm, (a2 z).mp h1⟩
    · rintro ⟨z, h1, h2⟩
      exact ⟨z, (a2 z).mpr h2, h1.symm⟩
theorem sz_le {S S' : wd → Prop} {m m' : Int} (h : sz S m) (h' : sz S' m') (e : ∀ w, S w → S' w) : m ≤ m' := by
  obtain ⟨L, a1, a2, a3⟩ := h
  obtain ⟨L', b1, b2, b3⟩ := h'
  have h1 := List.Nodup.length_le_of_subset a1 (l₂ := L') (fun w hw => (b2 w).mpr (e w ((a2 w).mp hw)))
  omega
theorem sz_nn {S : wd → Prop} {m : Int} (h : sz S m) : 0 ≤ m := by
  obtain ⟨L, a1, a2, a3⟩ := h
  omega
/-- a word by its number of words ahead -/
theorem sz_rank {S : wd → Prop} {W W' : wd} {m : Int} (hW : S W) (hW' : S W') (h : sz (fun w => S w ∧ lx w W) m) (h' : sz (fun w => S w ∧ lx w W') m) : W = W' := by
  have key : ∀ {U V : wd}, S U → sz (fun w => S w ∧ lx w U) m → sz (fun w => S w ∧ lx w V) m → ¬ lx U V := by
    intro U V hU h1 h2 q
    have := sz_le (sz_1 h1 (v := U) (fun z => lx_irr U z.2)) h2 (fun w hw => ?_)
    · omega
    · rcases hw with hw | hw
      · rw [hw]
        exact ⟨hU, q⟩
      · exact ⟨hw.1, lx_tr hw.2 q⟩
  rcases lx_tri W W' with q | q | q
  · exact absurd q (key hW h h')
  · exact q
  · exact absurd q (key hW' h' h)
/-- a letter that follows a word -/
theorem fac_let {tx : Nat → wd} {k : Int} {P w : wd} (T : sv_T tx k P) (h : fac tx w) {a : Int} (ha : a ∈ w) : 0 ≤ a ∧ a < 26 := by
  obtain ⟨j, e, h⟩ := h
  exact T.2.2.2.1 j a (List.mem_of_mem_take (h.subset ha))
theorem fac_cl {tx : Nat → wd} {M : wd → Prop} (T : tM tx M) : ∀ {z w c : wd}, wm_cl M w c → (fac tx (w ++ z) ↔ fac tx (c ++ z)) ∧ ∀ d, wm_cl M (w ++ z) d ↔ wm_cl M (c ++ z) d := by
  intro z
  induction z with
  | nil =>
    intro w c h
    rw [List.append_nil, List.append_nil]
    refine ⟨⟨fun _ => (tM_F T).mp ⟨c, h.1, List.suffix_refl c⟩, fun f => fac_suf f h.2.1⟩, fun d => ⟨fun q => ?_, fun q => ?_⟩⟩
    · rw [wm_cl_uniq q h]
      exact wm_cl_self h.1
    · rw [wm_cl_uniq q (wm_cl_self h.1)]
      exact h
  | cons a z ih =>
    intro w c h
    have hs := wm_cl_snoc T.1 h (a := a)
    have e1 : w ++ a :: z = (w ++ [a]) ++ z := by rw [List.append_assoc]; rfl
    have e2 : c ++ a :: z = (c ++ [a]) ++ z := by rw [List.append_assoc]; rfl
    rw [e1, e2]
    by_cases f : wm_F M (w ++ [a])
    · obtain ⟨d, hd⟩ := wm_cl_ex T.1 f
      have i1 := ih hd
      have i2 := ih ((hs.2 d).mp hd)
      exact ⟨i1.1.trans i2.1.symm, fun q => (i1.2 q).trans (i2.2 q).symm⟩
    · have f2 : ¬ wm_F M (c ++ [a]) := fun q => f (hs.1.mpr q)
      have n1 : ¬ fac tx ((w ++ [a]) ++ z) := fun q => f ((tM_F T).mpr (fac_preL z _ q))
      have n2 : ¬ fac tx ((c ++ [a]) ++ z) := fun q => f2 ((tM_F T).mpr (fac_preL z _ q))
      exact ⟨⟨fun q => absurd q n1, fun q => absurd q n2⟩, fun d => ⟨fun q => absurd ((tM_F T).mp ⟨d, q.1, q.2.1⟩) n1, fun q => absurd ((tM_F T).mp ⟨d, q.1, q.2.1⟩) n2⟩⟩
