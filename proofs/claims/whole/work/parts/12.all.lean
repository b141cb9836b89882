section MMB
variable {l : Launch}
theorem mm_hnoH {y : Nat} (h : mm_noH y = true) : mm_hh y = [] := by
  unfold mm_noH at h
  exact List.isEmpty_iff.mp h
theorem mm_hp0 {y i pc op a : Nat} {b : Int} {E : Nat} {z : Int} (hc : mm_code y i = some (pc, (op, (a, b)))) (h105 : 105 ≤ op ∧ op ≤ 108) (hh : mm_hand y E = some z) : mm_okH y pc E z := by
  have hm := mm_handA y E z hh
  have h1 := mm_HA0 _ hm
  have h2 := mm_hpA y (mm_hyA _ hm)
  have h3 : pc = mm_hpc y := by
    unfold mm_code at hc
    cases hy : mm_codeT[y]? with
    | none => rw [hy] at hc; cases hc
    | some l9 =>
      rw [hy] at hc
      have e : mm_codeT.getD y [] = l9 := by rw [List.getD_eq_getElem?_getD, hy]; rfl
      rw [e] at h2
      exact of_decide_eq_true (List.all_eq_true.mp h2 _ (List.mem_of_getElem? hc)) h105
  rw [h3]
  exact h1
theorem mm_no0 : mm_codeT.all (fun l => l.all (fun q => decide (q.2.1 < 60 ∨ 100 ≤ q.2.1))) = true := by decide +kernel
theorem mm_noop {y i pc op a : Nat} {b : Int} (h : mm_code y i = some (pc, (op, (a, b)))) (h1 : ¬ op < 60) (h2 : op < 100) : False := by
  unfold mm_code at h
  cases hy : mm_codeT[y]? with
  | none => rw [hy] at h; cases h
  | some l =>
    rw [hy] at h
    have h3 := of_decide_eq_true (List.all_eq_true.mp (List.all_eq_true.mp mm_no0 l (List.mem_of_getElem? hy)) _ (List.mem_of_getElem? h))
    dsimp only at h3
    omega
theorem mm_all (n : Nat) : mm_B l n := by
  induction n with
  | zero => intro y i ls st h o h' hr; cases hr
  | succ n ih =>
    intro y i ls st h o h' hr p e R s m args below meth c g D n0 s0 L xs mc ms X K hz0 hmc hms rc rs H locs cells slots rls hS hR hL hst hcc hss hsc
    obtain ⟨mo1, mo2, mo3⟩ := mm_mono _ _ _ _ _ _ _ _ hr
    unfold mm_go mm_run at hr
    cases hc : mm_code y i with
    | none => rw [hc] at hr; cases hr
    | some q =>
      obtain ⟨pc, op, a, b⟩ := q
      have epc : mm_nx y i = pc := by unfold mm_nx; rw [hc]
      rw [epc]
      rw [hc] at hr
      dsimp only at hr
      by_cases h60 : op < 60
      · rw [if_pos h60] at hr
        by_cases h56 : op = 56
        · rw [if_pos h56] at hr
          subst h56
          split at hr
          · rename_i x st
            have k := ih _ _ _ _ _ _ _ hr p e R s m args below meth c g D n0 s0 L xs mc ms X K hz0 hmc hms rc rs H locs cells slots rls hS hR hL (mm_okt hst).2 hcc hss hsc
            exact mm_swt hc X (mm_okt hst).1 k
          · cases hr
        · rw [if_neg h56] at hr
          split at hr
          · cases hr
          · rename_i ls1 st1 h1 j hop
            obtain ⟨a1, a2, a3⟩ := mm_op_mono hop
            obtain ⟨b1, b2, b3⟩ := mm_mono _ _ _ _ _ _ _ _ hr
            exact mm_step hc h60 h56 hop X K hS hR hL hst hcc hss hsc hz0 (by omega) (by omega) (ih _ _ _ _ _ _ _ hr p e R s m args below meth c g D n0 s0 L xs mc ms X K hz0 hmc hms rc rs)
      · rw [if_neg h60] at hr
        by_cases h100 : op = 100
        · rw [if_pos h100] at hr
          split at hr
          · rename_i z
            cases hr
            exact mm_end hc X K hS hR hL hst (by omega) (by omega) (Or.inl ⟨h100, z, rfl, rfl⟩)
          · cases hr
        · rw [if_neg h100] at hr
          by_cases h101 : op = 101
          · rw [if_pos h101] at hr
            split at hr
            · rename_i z
              split at hr
              · rename_i hz
                cases hr
                exact mm_end hc X K hS hR hL hst (by omega) (by omega) (Or.inr (Or.inl ⟨h101, z, rfl, hz, rfl⟩))
              · cases hr
            · cases hr
          · rw [if_neg h101] at hr
            by_cases h102 : op = 102
            · rw [if_pos h102] at hr
              split at hr
              · rename_i r
                cases hr
                exact mm_end hc X K hS hR hL hst (by omega) (by omega) (Or.inr (Or.inr (Or.inl ⟨h102, r, rfl, rfl⟩)))
              · cases hr
            · rw [if_neg h102] at hr
              by_cases h103 : op = 103
              · rw [if_pos h103] at hr
                split at hr
                · cases hr
                  exact mm_end hc X K hS hR hL hst (by omega) (by omega) (Or.inr (Or.inr (Or.inr ⟨h103, rfl, rfl⟩)))
                · cases hr
              · rw [if_neg h103] at hr
                by_cases h104 : op = 104
                · rw [if_pos h104] at hr
                  subst h104
                  split at hr
                  · cases hr
                    dsimp only at hmc hms
                    exact mm_thr hc X K hS hR hL (by omega) (by omega) rc rs rfl
                  · cases hr
                · rw [if_neg h104] at hr
                  by_cases h109 : op < 109
                  · rw [if_pos h109] at hr
                    try dsimp only at hr
                    split at hr
                    · rename_i hg
                      have h105 : 105 ≤ op ∧ op ≤ 108 := by
                        refine ⟨?_, by omega⟩
                        by_cases q : 105 ≤ op
                        · exact q
                        · exfalso
                          have hlt : op < 100 := by omega
                          exact mm_noop hc h60 hlt
                      split at hr
                      · cases hr
                      · rename_i v h1 hcal
                        obtain ⟨b1, b2, b3⟩ := mm_mono _ _ _ _ _ _ _ _ hr
                        refine mm_callA ih h105 hc X K hz0 hS hR hL hst hcc hss hsc hg hcal (fun _ => ⟨v, rfl⟩) (by omega) (by omega) (fun k q9 ce H1 locs1 c1 s1 hk => by cases hk) (fun v2 hv2 => ?_)
                        cases hv2
                        exact ih _ _ _ _ _ _ _ hr p e R s m args below meth c g D n0 s0 L xs mc ms X K hz0 hmc hms rc rs
                      · rename_i E h1 hcal
                        by_cases h107 : op = 107 ∨ op = 108
                        · rw [if_pos h107] at hr
                          cases hr
                        · rw [if_neg h107] at hr
                          cases hh : mm_hand y E with
                          | some z =>
                            rw [hh] at hr
                            cases hr
                            refine mm_callA ih h105 hc X K hz0 hS hR hL hst hcc hss hsc hg hcal (fun q => absurd q h107) (by omega) (by omega) (fun k q9 ce H1 locs1 c1 s1 hk hk3 hc1 hs1 hS1 hR1 hq1 hq2 hq3 => ?_) (fun v2 hv2 => by cases hv2)
                            cases hk
                            obtain ⟨hx, hb, hml, hr9, hlk, hnm, hown, hts, htab, hnF, hnL, htr⟩ := id X
                            obtain ⟨pre, x, suf, kk, e1, e2, e3, e4, e5, e6, e7, e8, e9, e10⟩ := mm_hp0 hc h105 hh
                            rw [e1] at htab
                            have ec : c1 = mc := by omega
                            have es : s1 = ms := by omega
                            subst ec; subst es
                            have fin : ∀ (rls2 : Array Slot) (pc2 : Nat), decode (mm_by y) pc2 = .ok (.iconst z, 1) → decode (mm_by y) (pc2 + 1) = .ok (.ireturn, 1) → W p l e R s m args below meth c H1 locs1 c1 s1 (vx_MQ below (mm_Qc g D (.inl (some (mm_I z))) h') (mm_XC g D (.inl (some (mm_I z))) h') args s c1 s1 (mm_A g)) (F0 m pc2 rls2 []) := by
                              intro rls2 pc2 d1 d2
                              refine lv_iconst hx hb d1 rfl ?_
                              exact vx_ret (W.iret (v := Int32.ofInt z) hx hb (hr9.trans e8) (fun t ht hW => ⟨⟨some (mm_I z), rfl, rfl, by rw [ht]; exact hR1, fun w hw => by cases hw; exact e7⟩, hS1.F ht⟩) hS1.2.2 d2 hlk)
                            refine vx_catch hown pre x suf htab (fun q hq => ?_) e3 e4 (hts _ e6) (va_Nw.use rfl (K.2.2.2.2.1 _ e5 _ List.mem_cons_self)) hq1 hq2 hq3 ?_
                            · obtain ⟨f1, F, f2, f3, f4⟩ := e2 q hq
                              exact Or.inr ⟨f1, _, hts _ f4, K.2.2.2.2.2.1 _ _ e5 f2 f3⟩
                            · rcases e10 with ⟨d0, k4, d1, d2⟩ | ⟨d0, d1, d2⟩
                              · refine lv_astore_n hx hb d0 (Nat.mod_eq_of_lt k4) hL.has e9 rfl (fun rls2 h9 => ?_)
                                exact fin rls2 _ d1 d2
                              · refine lv_astore hx hb d0 hL.has e9 rfl (fun rls2 h9 => ?_)
                                exact fin rls2 _ d1 d2
                          | none =>
                            rw [hh] at hr
                            dsimp only at hr
                            split at hr
                            · rename_i hno
                              cases hr
                              refine mm_callA ih h105 hc X K hz0 hS hR hL hst hcc hss hsc hg hcal (fun q => absurd q h107) (by omega) (by omega) (fun k q9 ce H1 locs1 c1 s1 hk hk3 hc1 hs1 hS1 hR1 hq1 hq2 hq3 => ?_) (fun v2 hv2 => by cases hv2)
                              cases hk
                              obtain ⟨hx, hb, hml, hr9, hlk, hnm, hown, hts, htab, hnF, hnL, htr⟩ := id X
                              refine vx_out (fun x hx9 => ?_) hlk hq1 hq2 hq3 (fun t ht ha => ⟨⟨E, rfl, rfl, hk3, by rw [ht]; exact hR1⟩, hS1.F ht⟩) hS1.2.2 (by omega) (by omega)
                              rw [htab, mm_hnoH hno] at hx9
                              cases hx9
                            · cases hr
                    · cases hr
                  · rw [if_neg h109] at hr
                    cases hr
end MMB
