section MMB
variable {l : Launch}
theorem mm_hnoH {y : Nat} (h : mm_noH y = true) : mm_hh y = [] := by
  unfold mm_noH at h
  exact List.isEmpty_iff.mp h
theorem mm_hp0 {y i pc op a : Nat} {b : Int} {E : Nat} {z : Int} (hc : mm_code y i = some (pc, (op, (a, b)))) (h105 : 105 ≤ op ∧ op ≤ 108) (hh : mm_hand y E = some z) : mm_okH y pc E z := by
  have hm := mm_handA y E z hh
  have h1 := mm_HA0 _ hm
  have h2 := mm_hpA y (mm_hyA _ hm)
  have h3 : pc = mm_hpc y := by
    unfold mm_code at hc
    cases hy : mm_codeT[y]? with
    | none => rw [hy] at hc; cases hc
    | some l9 =>
      rw [hy] at hc
      have e : mm_codeT.getD y [] = l9 := by rw [List.getD_eq_getElem?_getD, hy]; rfl
      rw [e] at h2
      exact of_decide_eq_true (List.all_eq_true.mp h2 _ (List.mem_of_getElem? hc)) h105
  rw [h3]
  exact h1
theorem mm_no0 : mm_codeT.all (fun l => l.all (fun q => decide (q.2.1 < 60 ∨ 100 ≤ q.2.1))) = true := by decide +kernel
theorem mm_noop {y i pc op a : Nat} {b : Int} (h : mm_code y i = some (pc, (op, (a, b)))) (h1 : ¬ op < 60) (h2 : op < 100) : False := by
  unfold mm_code at h
  cases hy : mm_codeT[y]? with
  | none => rw [hy] at h; cases h
  | some l =>
    rw [hy] at h
    have h3 := of_decide_eq_true (List.all_eq_true.mp (List.all_eq_true.mp mm_no0 l (List.mem_of_getElem? hy)) _ (List.mem_of_getElem? h))
    dsimp only at h3
    omega
theorem mm_no560 : mm_codeT.all (fun l => l.all (fun q => decide (q.2.1 ≠ 56))) = true := by decide +kernel
theorem mm_no56 {y i pc op a : Nat} {b : Int} (h : mm_code y i = some (pc, (op, (a, b)))) : op ≠ 56 := by
  unfold mm_code at h
  cases hy : mm_codeT[y]? with
  | none => rw [hy] at h; cases h
  | some l =>
    rw [hy] at h
    exact of_decide_eq_true (List.all_eq_true.mp (List.all_eq_true.mp mm_no560 l (List.mem_of_getElem? hy)) _ (List.mem_of_getElem? h))
theorem mm_all (n : Nat) : mm_B l n := by
  induction n with
  | zero => intro y i ls st h o h' hr; cases hr
  | succ n ih =>
    intro y i ls st h o h' hr p e R s m args below meth c g D n0 s0 L xs mc ms X K hz0 hmc hms rc rs H locs cells slots rls hS hR hL hst hcc hss hsc
    obtain ⟨mo1, mo2, mo3⟩ := mm_mono _ _ _ _ _ _ _ _ hr
    unfold mm_go mm_run at hr
    cases hc : mm_code y i with
    | none => rw [hc] at hr; cases hr
    | some q =>
      obtain ⟨pc, op, a, b⟩ := q
      have epc : mm_nx y i = pc := by unfold mm_nx; rw [hc]
      rw [epc]
      rw [hc] at hr
      dsimp only at hr
      by_cases h60 : op < 60
      · rw [if_pos h60] at hr
        by_cases h56 : op = 56
        · rw [if_pos h56] at hr
          subst h56
          exact absurd rfl (mm_no56 hc)
        · rw [if_neg h56] at hr
          split at hr
          · cases hr
          · rename_i ls1 st1 h1 j hop
            obtain ⟨a1, a2, a3⟩ := mm_op_mono hop
            obtain ⟨b1, b2, b3⟩ := mm_mono _ _ _ _ _ _ _ _ hr
            exact mm_step hc h60 h56 hop X K hS hR hL hst hcc hss hsc hz0 (by omega) (by omega) (ih _ _ _ _ _ _ _ hr p e R s m args below meth c g D n0 s0 L xs mc ms X K hz0 hmc hms rc rs)
      · rw [if_neg h60] at hr
        by_cases h100 : op = 100
        · rw [if_pos h100] at hr
          split at hr
          · rename_i z
            cases hr
            exact mm_end hc X K hS hR hL hst (by omega) (by omega) (Or.inl ⟨h100, z, rfl, rfl⟩)
          · cases hr
        · rw [if_neg h100] at hr
          by_cases h101 : op = 101
          · rw [if_pos h101] at hr
            split at hr
            · rename_i z
              split at hr
              · rename_i hz
                cases hr
                exact mm_end hc X K hS hR hL hst (by omega) (by omega) (Or.inr (Or.inl ⟨h101, z, rfl, hz, rfl⟩))
              · cases hr
            · cases hr
          · rw [if_neg h101] at hr
            by_cases h102 : op = 102
            · rw [if_pos h102] at hr
              split at hr
              · rename_i r
                cases hr
                exact mm_end hc X K hS hR hL hst (by omega) (by omega) (Or.inr (Or.inr (Or.inl ⟨h102, r, rfl, rfl⟩)))
              · cases hr
            · rw [if_neg h102] at hr
              by_cases h103 : op = 103
              · rw [if_pos h103] at hr
                split at hr
                · cases hr
                  exact mm_end hc X K hS hR hL hst (by omega) (by omega) (Or.inr (Or.inr (Or.inr ⟨h103, rfl, rfl⟩)))
                · cases hr
              · rw [if_neg h103] at hr
                by_cases h104 : op = 104
                · rw [if_pos h104] at hr
                  subst h104
                  split at hr
                  · cases hr
                    dsimp only at hmc hms
                    exact mm_thr hc X K hS hR hL (by omega) (by omega) rc rs rfl
                  · cases hr
                · rw [if_neg h104] at hr
                  by_cases h109 : op < 109
                  · rw [if_pos h109] at hr
                    try dsimp only at hr
                    split at hr
                    · rename_i hg
                      have h105 : 105 ≤ op ∧ op ≤ 108 := by
                        refine ⟨?_, by omega⟩
                        by_cases q : 105 ≤ op
                        · exact q
                        · exfalso
                          have hlt : op < 100 := by omega
                          exact mm_noop hc h60 hlt
                      split at hr
                      · cases hr
                      · rename_i v h1 hcal
                        obtain ⟨b1, b2, b3⟩ := mm_mono _ _ _ _ _ _ _ _ hr
                        refine mm_callA ih h105 hc X K hz0 hS hR hL hst hcc hss hsc hg hcal (fun _ => ⟨v, rfl⟩) (by omega) (by omega) (fun k q9 ce H1 locs1 c1 s1 hk => by cases hk) (fun v2 hv2 => ?_)
                        cases hv2
                        exact ih _ _ _ _ _ _ _ hr p e R s m args below meth c g D n0 s0 L xs mc ms X K hz0 hmc hms rc rs
                      · rename_i E h1 hcal
                        by_cases h107 : op = 107 ∨ op = 108
                        · rw [if_pos h107] at hr
                          cases hr
                        · rw [if_neg h107] at hr
                          cases hh : mm_hand y E with
                          | some z =>
                            have hh9 : mm_hand y E = none := rfl
                            rw [hh9] at hh
                            cases hh
                          | none =>
                            rw [hh] at hr
                            dsimp only at hr
                            split at hr
                            · rename_i hno
                              cases hr
                              refine mm_callA ih h105 hc X K hz0 hS hR hL hst hcc hss hsc hg hcal (fun q => absurd q h107) (by omega) (by omega) (fun k q9 ce H1 locs1 c1 s1 hk hk3 hc1 hs1 hS1 hR1 hq1 hq2 hq3 => ?_) (fun v2 hv2 => by cases hv2)
                              cases hk
                              obtain ⟨hx, hb, hml, hr9, hlk, hnm, hown, hts, htab, hnF, hnL, htr⟩ := id X
                              refine vx_out (fun x hx9 => ?_) hlk hq1 hq2 hq3 (fun t ht ha => ⟨⟨E, rfl, rfl, hk3, by rw [ht]; exact hR1⟩, hS1.F ht⟩) hS1.2.2 (by omega) (by omega)
                              rw [htab, mm_hnoH hno] at hx9
                              cases hx9
                            · cases hr
                    · cases hr
                  · rw [if_neg h109] at hr
                    cases hr
end MMB
