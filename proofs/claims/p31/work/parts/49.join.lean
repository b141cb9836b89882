/-! a fresh state takes its link -/
theorem au_join {D : mm_D} {n f : Int} {rep : Int → wd} {x : wd} {en : Nat → wd → Int → Int} (J : au_J D n f rep x en) (hf : 0 < f) (hrf : rep f = x) (hx : ∃ T a, x = T ++ [a] ∧ au_M n f rep T) (hnF : ¬ wm_F (au_M n f rep) x) {sp : Int} (hsp : au_in n f sp) (hp : wm_p (au_M n f rep) x (rep sp)) (hst : ∀ a, 0 ≤ a ∧ a < 26 → D 18 (f * 26 + a) = -1) (hef : ∀ r j, r = 15 ∨ r = 16 ∨ r = 17 → 0 ≤ j ∧ j < 4 → D r (f * 4 + j) = en r x j) :
    au_J (mm_wr D 20 f sp) n (-1) rep [] en ∧ au_M n (-1) rep = wm_ext (au_M n f rep) x (rep sp) := by
  obtain ⟨j1, j2, j3, j4, j5, j6, j7, j8, j9, j10, j11⟩ := J
  have hMe : au_M n (-1) rep = wm_ext (au_M n f rep) x (rep sp) := by
    funext w
    apply propext
    constructor
    · rintro ⟨s, ⟨h1, h2⟩, h3⟩
      by_cases c : s = f
      · exact Or.inr (Or.inl (by rw [← h3, c, hrf]))
      · exact Or.inl ⟨s, ⟨h1, c⟩, h3⟩
    · rintro (⟨s, ⟨h1, h2⟩, h3⟩ | h | h)
      · exact ⟨s, ⟨h1, by omega⟩, h3⟩
      · exact ⟨f, ⟨by omega, by omega⟩, by rw [hrf, h]⟩
      · exact ⟨sp, ⟨hsp.1, by have := hsp.1; omega⟩, h.symm⟩
  have hMs : ∀ s, au_in n f s → au_M n f rep (rep s) := fun s h => ⟨s, h, rfl⟩
  have hnl : ∀ (w : wd) (a : Int), ¬ w ++ [a] <:+ ([] : wd) := by
    intro w a h
    have := h.length_le
    simp at this
  have inU : ∀ s, au_in n f s → au_in n (-1) s := fun s h => ⟨h.1, by have := h.1; omega⟩
  have hok : wm_ok (wm_ext (au_M n f rep) x (rep sp)) := by
    obtain ⟨T, a, e, hT⟩ := hx
    subst e
    exact wm_ext_ok j6 hT hp
  refine ⟨⟨by rw [mm_wr_r (by decide)]; exact j1, j2, by omega, j4, j5, by rw [hMe]; exact hok, fun s h => by rw [mm_wr_r (by decide)]; exact j7 s h, ?_, ?_, ?_, ?_⟩, hMe⟩
  · intro s a h ha
    rw [hMe, mm_wr_r (by decide)]
    by_cases c : s = f
    · rw [c, hrf, hst a ha]
      refine Or.inr (Or.inl ⟨rfl, hnl _ _, fun q => ?_⟩)
      rcases (wm_ext_F hp).mp q with ⟨m, hm, hs⟩ | q
      · obtain ⟨y, rfl, hy⟩ := ws_last hs
        exact hnF ⟨y, j6.2.1 y a hm, hy⟩
      · have := q.length_le
        rw [List.length_append, List.length_singleton] at this
        omega
    · rcases j8 s a ⟨h.1, c⟩ ha with ⟨h1, h2, h3⟩ | ⟨h1, h2, h3⟩ | ⟨h1, h2⟩
      · refine Or.inr (Or.inr ⟨⟨by omega, by omega⟩, ?_⟩)
        rw [h1, hrf]
        exact wm_ext_new hp h2 h3
      · exact Or.inr (Or.inl ⟨h1, hnl _ _, fun q => ((wm_ext_F hp).mp q).elim h3 h2⟩)
      · exact Or.inr (Or.inr ⟨inU _ h1, wm_ext_old hp h2 (fun h3 => h2.2.2 _ (hMs sp hsp) h3)⟩)
  · rw [mm_wr_k (by omega)]
    exact j9
  · intro s h h0
    rw [hMe]
    by_cases c : s = f
    · rw [c, mm_wr_eq, hrf]
      refine ⟨inU _ hsp, Or.inl (hMs sp hsp), hp.1, fun e => hnF ⟨_, hMs sp hsp, by rw [e]; exact List.suffix_refl x⟩, fun m hm h1 h2 => ?_⟩
      rcases hm with hm | hm | hm
      · exact hp.2.2 m h1 ⟨m, hm, List.suffix_refl m⟩
      · exact absurd hm h2
      · rw [hm]
        exact List.suffix_refl _
    · rw [mm_wr_k c]
      obtain ⟨l1, l2, l3, l4, l5⟩ := j10 s ⟨h.1, c⟩ h0
      refine ⟨inU _ l1, Or.inl l2, l3, l4, fun m hm h1 h2 => ?_⟩
      rcases hm with hm | hm | hm
      · exact l5 m hm h1 h2
      · rw [hm] at h1
        exact absurd ⟨_, hMs s ⟨h.1, c⟩, h1⟩ hnF
      · rw [hm] at h1 h2 ⊢
        exact l5 _ (hMs sp hsp) h1 h2
  · intro s r j h h0 hr hj
    rw [mm_wr_r (by rcases hr with rfl | rfl | rfl <;> decide)]
    by_cases c : s = f
    · rw [c, hrf]
      exact hef r j hr hj
    · exact j11 s r j ⟨h.1, c⟩ h0 hr hj
