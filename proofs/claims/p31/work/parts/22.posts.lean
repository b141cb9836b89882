abbrev mm_Xt : Type := Nat × (Nat × List Int)
def mm_pI (K : Int → mm_D → Int → mm_Xt → Prop) : mm_O → mm_H → Prop := fun o h => ∃ (r : Int) (D : mm_D) (u : Int) (x : mm_Xt), o = .inl (some (mm_I r)) ∧ h = mm_mk D u x ∧ K r D u x
def mm_pV (K : mm_D → Int → mm_Xt → Prop) : mm_O → mm_H → Prop := fun o h => ∃ (D : mm_D) (u : Int) (x : mm_Xt), o = .inl none ∧ h = mm_mk D u x ∧ K D u x
def mm_pIx (K : Int → mm_D → Int → mm_Xt → Prop) (KX : Nat → mm_D → Int → mm_Xt → Prop) : mm_O → mm_H → Prop := fun o h => (∃ (r : Int) (D : mm_D) (u : Int) (x : mm_Xt), o = .inl (some (mm_I r)) ∧ h = mm_mk D u x ∧ K r D u x) ∨ (∃ (E : Nat) (D : mm_D) (u : Int) (x : mm_Xt), o = .inr E ∧ h = mm_mk D u x ∧ KX E D u x)
def mm_pVx (K : mm_D → Int → mm_Xt → Prop) (KX : Nat → mm_D → Int → mm_Xt → Prop) : mm_O → mm_H → Prop := fun o h => (∃ (D : mm_D) (u : Int) (x : mm_Xt), o = .inl none ∧ h = mm_mk D u x ∧ K D u x) ∨ (∃ (E : Nat) (D : mm_D) (u : Int) (x : mm_Xt), o = .inr E ∧ h = mm_mk D u x ∧ KX E D u x)
def mm_pRx (K : Nat → mm_D → Int → mm_Xt → Prop) (KX : Nat → mm_D → Int → mm_Xt → Prop) : mm_O → mm_H → Prop := fun o h => (∃ (r : Nat) (D : mm_D) (u : Int) (x : mm_Xt), o = .inl (some (mm_P r)) ∧ h = mm_mk D u x ∧ mm_isW r ∧ K r D u x) ∨ (∃ (E : Nat) (D : mm_D) (u : Int) (x : mm_Xt), o = .inr E ∧ h = mm_mk D u x ∧ KX E D u x)
theorem mm_cell_k (f f' : Int → Int) (u u' : Int) (r : Nat) : (mm_cell f u r).1 = (mm_cell f' u' r).1 := by
  unfold mm_cell
  cases mm_al r with
  | some n => rfl
  | none =>
    dsimp only
    unfold mm_ob
    split <;> rfl
theorem mu_rcv {r kd : Nat} {As : List mm_V} {D : mm_D} {u : Int} {x : mm_Xt} (h31 : r < 24) (hk : (mm_cell (fun _ => 0) 0 r).1 = kd) (h0 : kd ≠ 0) : mm_rcv kd (mm_P r :: As) (mm_mk D u x) = true := by
  unfold mm_rcv
  rw [if_neg h0]
  show decide (((mm_mk D u x).1[r]?).map (·.1) = some kd) = true
  rw [mm_mk_at D u x h31]
  refine decide_eq_true ?_
  show some (mm_cell (D r) u r).1 = some kd
  rw [mm_cell_k (D r) (fun _ => 0) u 0 r, hk]
theorem mu_rcvW {r : Nat} {As : List mm_V} {D : mm_D} {u : Int} {x : mm_Xt} (h : mm_isW r) : mm_rcv 13 (mm_P r :: As) (mm_mk D u x) = true := by
  rcases h with rfl | rfl | rfl | rfl | rfl <;> exact mu_rcv (by decide) rfl (by decide)
theorem mm_isWi {i : Int} {w : Nat} (h : 0 ≤ i ∧ i < 4) (e : w = 2 + 2 * i.toNat) : mm_isW w := by
  unfold mm_isW
  omega
theorem mm_handN {y : Nat} (_ : y < 85) (E : Nat) : mm_hand y E = none := rfl
