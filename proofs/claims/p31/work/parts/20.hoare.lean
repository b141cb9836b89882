/-! triples over MM: from here the run ends with Q -/
def mt (y i : Nat) (ls : mm_F) (st : List mm_V) (h : mm_H) (Q : mm_O → mm_H → Prop) : Prop := ∃ (n : Nat) (o : mm_O) (h' : mm_H), mm_go n y i ls st h = some (o, h') ∧ Q o h'
theorem mm_run_succ (n y i : Nat) (ls : mm_F) (st : List mm_V) (h : mm_H) : mm_go (n + 1) y i ls st h = match mm_code y i with
    | none => none
    | some (_, (op, (a, b))) =>
      if op < 60 then
        if op = 56 then match st with
          | .inl x :: st => mm_go n y (mm_sw x) ls st h
          | _ => none
        else match mm_op mm_fld op a b ls st h with
        | none => none
        | some (ls', (st', (h', j))) => mm_go n y (j.getD (i + 1)) ls' st' h'
      else if op = 100 then match st with
        | [.inl z] => some (.inl (some (mm_I z)), h)
        | _ => none
      else if op = 101 then match st with
        | [.inl z] => if z = 0 ∨ z = 1 then some (.inl (some (mm_I z)), h) else none
        | _ => none
      else if op = 102 then match st with
        | [.inr (.inr (some r))] => some (.inl (some (mm_P r)), h)
        | _ => none
      else if op = 103 then match st with
        | [] => some (.inl none, h)
        | _ => none
      else if op = 104 then match st with
        | [] => some (.inr b.toNat, (h.1, (h.2.1 + 1, (h.2.2.1 + 6, h.2.2.2))))
        | _ => none
      else if op < 109 then
        let s := mm_site a
        let args := (st.take s.2.1).reverse
        let rest := st.drop s.2.1
        if s.2.1 ≤ st.length ∧ mm_rOK rest ∧ args.all mm_no2 = true ∧ s.2.1 ≤ s.2.2.1 ∧ mm_rcv s.2.2.2 args h = true then
          match mm_go n s.1 0 (args.map some ++ List.replicate (s.2.2.1 - s.2.1) none) [] h with
          | none => none
          | some (.inl v, h') => mm_go n y (i + 1) ls (v.toList ++ rest) h'
          | some (.inr E, h') => if op = 107 ∨ op = 108 then none else match mm_hand y E with
            | some z => some (.inl (some (mm_I z)), h')
            | none => if mm_noH y then some (.inr E, h') else none
        else none
      else none := rfl
theorem mm_more1 : ∀ (n y i : Nat) (ls : mm_F) (st : List mm_V) (h : mm_H) (r : mm_O × mm_H), mm_go n y i ls st h = some r → mm_go (n + 1) y i ls st h = some r := by
  intro n
  induction n with
  | zero => intro y i ls st h r hr; cases hr
  | succ n ih =>
    intro y i ls st h r hr
    rw [mm_run_succ] at hr ⊢
    cases hc : mm_code y i with
    | none => rw [hc] at hr; cases hr
    | some q =>
      obtain ⟨pc, op, a, b⟩ := q
      rw [hc] at hr
      dsimp only at hr ⊢
      by_cases h60 : op < 60
      · rw [if_pos h60] at hr ⊢
        by_cases h56 : op = 56
        · rw [if_pos h56] at hr ⊢
          split at hr
          · exact ih _ _ _ _ _ _ hr
          · cases hr
        · rw [if_neg h56] at hr ⊢
          cases hop : mm_op mm_fld op a b ls st h with
          | none => rw [hop] at hr; cases hr
          | some z =>
            obtain ⟨ls', st', h', j⟩ := z
            rw [hop] at hr
            exact ih _ _ _ _ _ _ hr
      · rw [if_neg h60] at hr ⊢
        by_cases h100 : op = 100
        · rw [if_pos h100] at hr ⊢; exact hr
        rw [if_neg h100] at hr ⊢
        by_cases h101 : op = 101
        · rw [if_pos h101] at hr ⊢; exact hr
        rw [if_neg h101] at hr ⊢
        by_cases h102 : op = 102
        · rw [if_pos h102] at hr ⊢; exact hr
        rw [if_neg h102] at hr ⊢
        by_cases h103 : op = 103
        · rw [if_pos h103] at hr ⊢; exact hr
        rw [if_neg h103] at hr ⊢
        by_cases h104 : op = 104
        · rw [if_pos h104] at hr ⊢; exact hr
        rw [if_neg h104] at hr ⊢
        by_cases h109 : op < 109
        · rw [if_pos h109] at hr ⊢
          split at hr
          · rename_i hg
            rw [if_pos hg]
            cases hcal : mm_go n (mm_site a).1 0 (((st.take (mm_site a).2.1).reverse).map some ++ List.replicate ((mm_site a).2.2.1 - (mm_site a).2.1) none) [] h with
            | none => rw [hcal] at hr; cases hr
            | some z =>
              rw [hcal] at hr
              rw [ih _ _ _ _ _ _ hcal]
              obtain ⟨o1, h1⟩ := z
              cases o1 with
              | inl v => exact ih _ _ _ _ _ _ hr
              | inr E => exact hr
          · cases hr
        · rw [if_neg h109] at hr; cases hr
theorem mm_more {n m y i : Nat} {ls : mm_F} {st : List mm_V} {h : mm_H} {r : mm_O × mm_H} (hr : mm_go n y i ls st h = some r) (hm : n ≤ m) : mm_go m y i ls st h = some r := by
  obtain ⟨k, rfl⟩ := Nat.le.dest hm
  induction k with
  | zero => exact hr
  | succ k ih => exact mm_more1 _ _ _ _ _ _ _ (ih (Nat.le_add_right _ _))
section MT
variable {y i pc op a : Nat} {b : Int} {ls ls' : mm_F} {st st' : List mm_V} {h h' : mm_H} {j : Option Nat} {Q : mm_O → mm_H → Prop}
theorem mt_mono {Q' : mm_O → mm_H → Prop} (k : mt y i ls st h Q) (hq : ∀ o h', Q o h' → Q' o h') : mt y i ls st h Q' := by
  obtain ⟨n, o, h', h1, h2⟩ := k
  exact ⟨n, o, h', h1, hq _ _ h2⟩
/-- any row but calls and ends -/
theorem mt_op (hc : mm_code y i = some (pc, (op, (a, b)))) (h60 : op < 60) (h56 : ¬ op = 56) (hop : mm_op mm_fld op a b ls st h = some (ls', (st', (h', j)))) (k : mt y (j.getD (i + 1)) ls' st' h' Q) : mt y i ls st h Q := by
  obtain ⟨n, o, h1, h2, h3⟩ := k
  refine ⟨n + 1, o, h1, ?_, h3⟩
  rw [mm_run_succ, hc]
  dsimp only
  rw [if_pos h60, if_neg h56, hop]
  exact h2
theorem mt_sw {x : Int} (hc : mm_code y i = some (pc, (56, (a, b)))) (k : mt y (mm_sw x) ls st h Q) : mt y i ls (.inl x :: st) h Q := by
  obtain ⟨n, o, h1, h2, h3⟩ := k
  refine ⟨n + 1, o, h1, ?_, h3⟩
  rw [mm_run_succ, hc]
  exact h2
theorem mt_ret {z : Int} (hc : mm_code y i = some (pc, (100, (a, b)))) (k : Q (.inl (some (mm_I z))) h) : mt y i ls [.inl z] h Q := by
  refine ⟨1, _, h, ?_, k⟩
  rw [mm_run_succ, hc]
  rfl
theorem mt_retB {z : Int} (hc : mm_code y i = some (pc, (101, (a, b)))) (hz : z = 0 ∨ z = 1) (k : Q (.inl (some (mm_I z))) h) : mt y i ls [.inl z] h Q := by
  refine ⟨1, _, h, ?_, k⟩
  rw [mm_run_succ, hc]
  dsimp only
  rw [if_neg (by decide), if_neg (by decide), if_pos rfl, if_pos hz]
theorem mt_retR {r : Nat} (hc : mm_code y i = some (pc, (102, (a, b)))) (k : Q (.inl (some (mm_P r))) h) : mt y i ls [.inr (.inr (some r))] h Q := by
  refine ⟨1, _, h, ?_, k⟩
  rw [mm_run_succ, hc]
  rfl
theorem mt_retV (hc : mm_code y i = some (pc, (103, (a, b)))) (k : Q (.inl none) h) : mt y i ls [] h Q := by
  refine ⟨1, _, h, ?_, k⟩
  rw [mm_run_succ, hc]
  rfl
theorem mt_thr (hc : mm_code y i = some (pc, (104, (a, b)))) (k : Q (.inr b.toNat) (h.1, (h.2.1 + 1, (h.2.2.1 + 6, h.2.2.2)))) : mt y i ls [] h Q := by
  refine ⟨1, _, _, ?_, k⟩
  rw [mm_run_succ, hc]
  rfl
/-- a call -/
theorem mt_call {Q1 : mm_O → mm_H → Prop} {y1 k m kd : Nat} {args rest : List mm_V} (hc : mm_code y i = some (pc, (op, (a, b)))) (hop : 105 ≤ op ∧ op ≤ 108) (hs : mm_site a = (y1, (k, (m, kd)))) (hst : st = args.reverse ++ rest) (hk : args.length = k) (hg : mm_rOK rest ∧ args.all mm_no2 = true ∧ k ≤ m) (hr : mm_rcv kd args h = true)
    (hcal : mt y1 0 (args.map some ++ List.replicate (m - k) none) [] h Q1)
    (kk : ∀ (o1 : mm_O) (h1 : mm_H), Q1 o1 h1 → (∃ v, o1 = .inl v ∧ mt y (i + 1) ls (v.toList ++ rest) h1 Q) ∨ (∃ E, o1 = .inr E ∧ ¬ (op = 107 ∨ op = 108) ∧ ((∃ z, mm_hand y E = some z ∧ Q (.inl (some (mm_I z))) h1) ∨ (mm_hand y E = none ∧ mm_noH y = true ∧ Q (.inr E) h1)))) :
    mt y i ls st h Q := by
  obtain ⟨n1, o1, h1, e1, q1⟩ := hcal
  have et : (st.take k).reverse = args := by rw [hst, ← hk, List.take_left' (List.length_reverse), List.reverse_reverse]
  have ed : st.drop k = rest := by rw [hst, ← hk]; exact List.drop_left' List.length_reverse
  have el : k ≤ st.length := by rw [hst, List.length_append, List.length_reverse]; omega
  have hgg : (mm_site a).2.1 ≤ st.length ∧ mm_rOK (st.drop (mm_site a).2.1) ∧ ((st.take (mm_site a).2.1).reverse).all mm_no2 = true ∧ (mm_site a).2.1 ≤ (mm_site a).2.2.1 ∧ mm_rcv (mm_site a).2.2.2 (st.take (mm_site a).2.1).reverse h = true := by
    rw [hs]
    dsimp only
    rw [et, ed]
    exact ⟨el, hg.1, hg.2.1, hg.2.2, hr⟩
  have step : ∀ n, mm_go (n + 1) y i ls st h = match mm_go n y1 0 (args.map some ++ List.replicate (m - k) none) [] h with
          | none => none
          | some (.inl v, h') => mm_go n y (i + 1) ls (v.toList ++ rest) h'
          | some (.inr E, h') => if op = 107 ∨ op = 108 then none else match mm_hand y E with
            | some z => some (.inl (some (mm_I z)), h')
            | none => if mm_noH y then some (.inr E, h') else none := by
    intro n
    rw [mm_run_succ, hc]
    dsimp only
    rw [if_neg (show ¬ op < 60 by omega), if_neg (show ¬ op = 100 by omega), if_neg (show ¬ op = 101 by omega), if_neg (show ¬ op = 102 by omega), if_neg (show ¬ op = 103 by omega), if_neg (show ¬ op = 104 by omega), if_pos (show op < 109 by omega), if_pos hgg, hs]
    dsimp only
    rw [et, ed]
  rcases kk o1 h1 q1 with ⟨v, rfl, n2, o2, h2, e2, q2⟩ | ⟨E, rfl, hno, hx⟩
  · refine ⟨n1 + n2 + 1, o2, h2, ?_, q2⟩
    rw [step, mm_more e1 (Nat.le_add_right _ _)]
    exact mm_more e2 (Nat.le_add_left _ _)
  · rcases hx with ⟨z, hz, q2⟩ | ⟨hz, hn, q2⟩
    · refine ⟨n1 + 1, _, h1, ?_, q2⟩
      rw [step, e1]
      dsimp only
      rw [if_neg hno, hz]
    · refine ⟨n1 + 1, _, h1, ?_, q2⟩
      rw [step, e1]
      dsimp only
      rw [if_neg hno, hz]
      dsimp only
      rw [if_pos hn]
end MT
