/-! the constructors: run by the kernel, without a script -/
theorem mm_op_scr {fld : Nat → Nat × Nat} {op a : Nat} {b : Int} {ls ls' : mm_F} {st st' : List mm_V} {cs : List (Nat × List mm_V)} {nc ns : Nat} {h' : mm_H} {j : Option Nat} (s : List Int) (hop : mm_op fld op a b ls st (cs, (nc, (ns, []))) = some (ls', (st', (h', j)))) : mm_op fld op a b ls st (cs, (nc, (ns, s))) = some (ls', (st', ((h'.1, (h'.2.1, (h'.2.2.1, s))), j))) := by
  unfold mm_op mm_o_load mm_o_aload mm_o_store mm_o_astore mm_o_bin mm_o_if mm_o_icmp mm_o_iinc mm_o_null mm_o_get mm_o_put mm_o_putF mm_o_iald mm_o_iast mm_o_aald mm_o_aast mm_o_alen mm_o_newa mm_push mm_o_max at hop ⊢
  repeat' split at hop
  all_goals first
    | (cases hop; done)
    | (cases hop; simp_all; done)
    | (cases hop; simp_all; omega)
theorem mm_run_scr : ∀ (n y i : Nat) (ls : mm_F) (st : List mm_V) (cs : List (Nat × List mm_V)) (nc ns : Nat) (o : mm_O) (h' : mm_H) (s : List Int), mm_go n y i ls st (cs, (nc, (ns, []))) = some (o, h') → mm_go n y i ls st (cs, (nc, (ns, s))) = some (o, (h'.1, (h'.2.1, (h'.2.2.1, s)))) := by
  intro n
  induction n with
  | zero => intro y i ls st cs nc ns o h' s hr; cases hr
  | succ n ih =>
    intro y i ls st cs nc ns o h' s hr
    have hm := mm_mono (n + 1) y i ls st (cs, (nc, (ns, []))) o h' hr
    rw [mm_run_succ] at hr ⊢
    cases hc : mm_code y i with
    | none => rw [hc] at hr; cases hr
    | some q =>
      obtain ⟨pc, op, a, b⟩ := q
      rw [hc] at hr
      dsimp only at hr ⊢
      by_cases h60 : op < 60
      · rw [if_pos h60] at hr ⊢
        by_cases h56 : op = 56
        · rw [if_pos h56] at hr ⊢
          split at hr
          · exact ih _ _ _ _ _ _ _ _ _ s hr
          · cases hr
        · rw [if_neg h56] at hr ⊢
          cases hop : mm_op mm_fld op a b ls st (cs, (nc, (ns, []))) with
          | none => rw [hop] at hr; cases hr
          | some z =>
            obtain ⟨ls', st', ⟨cs', nc', ns', s'⟩, j⟩ := z
            have hs := (mm_op_mono hop).2.2
            have hs : s' = [] := hs
            subst hs
            rw [hop] at hr
            rw [mm_op_scr s hop]
            exact ih _ _ _ _ _ _ _ _ _ s hr
      · rw [if_neg h60] at hr ⊢
        by_cases h100 : op = 100
        · rw [if_pos h100] at hr ⊢
          split at hr
          · cases hr; rfl
          · cases hr
        rw [if_neg h100] at hr ⊢
        by_cases h101 : op = 101
        · rw [if_pos h101] at hr ⊢
          split at hr
          · split at hr
            · rename_i hz
              cases hr
              rw [if_pos hz]
            · cases hr
          · cases hr
        rw [if_neg h101] at hr ⊢
        by_cases h102 : op = 102
        · rw [if_pos h102] at hr ⊢
          split at hr
          · cases hr; rfl
          · cases hr
        rw [if_neg h102] at hr ⊢
        by_cases h103 : op = 103
        · rw [if_pos h103] at hr ⊢
          split at hr
          · cases hr; rfl
          · cases hr
        rw [if_neg h103] at hr ⊢
        by_cases h104 : op = 104
        · rw [if_pos h104] at hr ⊢
          split at hr
          · cases hr; rfl
          · cases hr
        rw [if_neg h104] at hr ⊢
        by_cases h109 : op < 109
        · rw [if_pos h109] at hr ⊢
          split at hr
          · rename_i hg
            have hg2 : (mm_site a).2.1 ≤ st.length ∧ mm_rOK (st.drop (mm_site a).2.1) ∧ ((st.take (mm_site a).2.1).reverse).all mm_no2 = true ∧ (mm_site a).2.1 ≤ (mm_site a).2.2.1 ∧ mm_rcv (mm_site a).2.2.2 (st.take (mm_site a).2.1).reverse (cs, (nc, (ns, s))) = true := hg
            rw [if_pos hg2]
            cases hcal : mm_go n (mm_site a).1 0 (((st.take (mm_site a).2.1).reverse).map some ++ List.replicate ((mm_site a).2.2.1 - (mm_site a).2.1) none) [] (cs, (nc, (ns, []))) with
            | none => rw [hcal] at hr; cases hr
            | some z =>
              obtain ⟨o1, ⟨cs1, nc1, ns1, s1⟩⟩ := z
              have hs : s1 = [] := (mm_mono _ _ _ _ _ _ _ _ hcal).2.2
              subst hs
              rw [hcal] at hr
              rw [ih _ _ _ _ _ _ _ _ _ s hcal]
              cases o1 with
              | inl v => exact ih _ _ _ _ _ _ _ _ _ s hr
              | inr E =>
                dsimp only at hr ⊢
                split at hr
                · cases hr
                · rename_i h8
                  rw [if_neg h8]
                  split at hr
                  · cases hr; rfl
                  · split at hr
                    · rename_i h9
                      cases hr
                      rw [if_pos h9]
                    · cases hr
          · cases hr
        · rw [if_neg h109] at hr; cases hr
def mm_D0 : mm_D := fun r k => if r = 13 ∧ k = 6 then 1 else if r = 20 ∧ k = 0 then -1 else if r = 18 ∧ 0 ≤ k ∧ k < 26 then -1 else if (r = 16 ∨ r = 17) ∧ 0 ≤ k ∧ k < 4 then -1 else 0
def mm_eqV : mm_V → mm_V → Bool
  | .inl a, .inl b => decide (a = b)
  | .inr (.inl a), .inr (.inl b) => decide (a = b)
  | .inr (.inr a), .inr (.inr b) => decide (a = b)
  | _, _ => false
theorem mm_eqV_s {v w : mm_V} (h : mm_eqV v w = true) : v = w := by
  unfold mm_eqV at h
  split at h <;> first | (have h := of_decide_eq_true h; subst h; rfl) | cases h
def mm_eqL : List mm_V → List mm_V → Bool
  | [], [] => true
  | v :: l, w :: k => mm_eqV v w && mm_eqL l k
  | _, _ => false
theorem mm_eqL_s : ∀ {l k : List mm_V}, mm_eqL l k = true → l = k
  | [], [], _ => rfl
  | v :: l, w :: k, h => by
    unfold mm_eqL at h
    rw [Bool.and_eq_true] at h
    rw [mm_eqV_s h.1, mm_eqL_s h.2]
  | [], w :: k, h => by cases h
  | v :: l, [], h => by cases h
def mm_eqC : List (Nat × List mm_V) → List (Nat × List mm_V) → Bool
  | [], [] => true
  | v :: l, w :: k => decide (v.1 = w.1) && mm_eqL v.2 w.2 && mm_eqC l k
  | _, _ => false
theorem mm_eqC_s : ∀ {l k : List (Nat × List mm_V)}, mm_eqC l k = true → l = k
  | [], [], _ => rfl
  | v :: l, w :: k, h => by
    unfold mm_eqC at h
    rw [Bool.and_eq_true, Bool.and_eq_true] at h
    have e : v = w := Prod.ext (of_decide_eq_true h.1.1) (mm_eqL_s h.1.2)
    rw [e, mm_eqC_s h.2]
  | [], w :: k, h => by cases h
  | v :: l, [], h => by cases h
def mm_ctOK (r : Option (mm_O × mm_H)) (cs : List (Nat × List mm_V)) (nc ns : Nat) : Bool := match r with
  | some (.inl none, (cs', (nc', (ns', [])))) => mm_eqC cs' cs && decide (nc' = nc) && decide (ns' = ns)
  | _ => false
theorem mm_ctOK_s {r : Option (mm_O × mm_H)} {cs : List (Nat × List mm_V)} {nc ns : Nat} (h : mm_ctOK r cs nc ns = true) : r = some (.inl none, (cs, (nc, (ns, [])))) := by
  unfold mm_ctOK at h
  split at h
  · rw [Bool.and_eq_true, Bool.and_eq_true] at h
    rw [mm_eqC_s h.1.1, of_decide_eq_true h.1.2, of_decide_eq_true h.2]
  · cases h
set_option maxRecDepth 100000 in
theorem mm_cA0 : mm_ctOK (mm_go 2000 41 0 [some (mm_P 0), none] [] ([(14, (mm_fk 4).map mm_df)], (1, (6, [])))) ((mm_mk mm_D0 0 (0, (0, []))).1) 24 8999 = true := by decide +kernel
theorem mm_mk24 (D : mm_D) (x x' : mm_Xt) : (mm_mk D 0 x).1 = (mm_mk D 0 x').1 := rfl
/-- the law's entry, up to the row behind the constructor -/
theorem mm_law0 {s : List Int} {Q : mm_O → mm_H → Prop} (K : mt 84 4 [some (mm_P 999), some (mm_P 0), none, none, none, none] [] (mm_mk mm_D0 0 (24, (8999, s))) Q) : mt 84 0 ([mm_P 999].map some ++ List.replicate (6 - [mm_P 999].length) none) [] ([], (0, (0, s))) Q := by
  have eA := mm_run_scr _ _ _ _ _ _ _ _ _ _ s (mm_ctOK_s mm_cA0)
  refine mt_op mc_84_0 (by decide) (by decide) (ls' := [some (mm_P 999), none, none, none, none, none]) (st' := [mm_P 0]) (h' := ([(14, (mm_fk 4).map mm_df)], (1, (6, s)))) (j := none) rfl ?_
  refine mu_rfl mc_84_1 (by decide) rfl rfl ?_
  refine mt_call (args := [mm_P 0]) (rest := [mm_P 0]) (Q1 := fun o h => o = .inl none ∧ h = mm_mk mm_D0 0 (24, (8999, s))) mc_84_2 (by decide) rfl rfl rfl ⟨by decide, rfl, by decide⟩ rfl ⟨2000, _, _, eA, rfl, rfl⟩ ?_
  rintro _ _ ⟨rfl, rfl⟩
  refine Or.inl ⟨_, rfl, ?_⟩
  refine mu_astore (r := some 0) mc_84_3 (by decide) (by decide) (ls' := [some (mm_P 999), some (mm_P 0), none, none, none, none]) rfl ?_
  exact K
