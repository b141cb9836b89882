/-! the heap behind the constructors: 24 cells; their ints are D cell place -/
def mm_al (r : Nat) : Option Nat := match r with
  | 3 => some 100
  | 5 => some 100
  | 7 => some 100
  | 9 => some 100
  | 11 => some 120
  | 15 => some 804
  | 16 => some 804
  | 17 => some 804
  | 18 => some 5226
  | 19 => some 201
  | 20 => some 201
  | 21 => some 201
  | 22 => some 4
  | 23 => some 201
  | _ => none
def mm_ob (f : Int → Int) (u : Int) (r : Nat) : Nat × List mm_V := match r with
  | 0 => (14, [mm_P 1, mm_P 10, mm_P 12, mm_P 13, mm_I (f 4), mm_I (f 5)])
  | 1 => (2, [mm_P 2, mm_P 4, mm_P 6, mm_P 8])
  | 2 => (13, [mm_P 3, mm_I (f 1)])
  | 4 => (13, [mm_P 5, mm_I (f 1)])
  | 6 => (13, [mm_P 7, mm_I (f 1)])
  | 8 => (13, [mm_P 9, mm_I (f 1)])
  | 10 => (13, [mm_P 11, mm_I (f 1)])
  | 12 => (12, [mm_P 13, mm_P 23, mm_I (f 2)])
  | 13 => (10, [mm_P 14, mm_P 18, mm_P 19, mm_P 20, mm_P 21, mm_P 22, mm_I (f 6)])
  | 14 => (11, [mm_P 15, mm_P 16, mm_P 17])
  | _ => (1, [mm_L u])
def mm_cell (f : Int → Int) (u : Int) (r : Nat) : Nat × List mm_V := match mm_al r with
  | some n => (0, (List.range n).map fun j : Nat => mm_I (f (j : Int)))
  | none => mm_ob f u r
/-- D: the ints; u: what out holds; x: cells made, slots made, the script -/
abbrev mm_D : Type := Nat → Int → Int
def mm_mk (D : mm_D) (u : Int) (x : Nat × (Nat × List Int)) : mm_H := ((List.range 24).map fun r => mm_cell (D r) u r, x)
def mm_wr (D : mm_D) (r : Nat) (k v : Int) : mm_D := fun r' k' => if r' = r ∧ k' = k then v else D r' k'
theorem mm_wr_eq (D : mm_D) (r : Nat) (k v : Int) : mm_wr D r k v r k = v := if_pos ⟨rfl, rfl⟩
theorem mm_wr_ne {D : mm_D} {r r' : Nat} {k k' v : Int} (h : ¬ (r' = r ∧ k' = k)) : mm_wr D r k v r' k' = D r' k' := if_neg h
theorem mm_wr_r {D : mm_D} {r r' : Nat} {k k' v : Int} (h : r' ≠ r) : mm_wr D r k v r' k' = D r' k' := if_neg (fun q => h q.1)
theorem mm_wr_k {D : mm_D} {r : Nat} {k k' v : Int} (h : k' ≠ k) : mm_wr D r k v r k' = D r k' := if_neg (fun q => h q.2)
theorem mm_wr_row {D : mm_D} {r r' : Nat} {k v : Int} (h : r' ≠ r) : mm_wr D r k v r' = D r' := by funext k'; exact mm_wr_r h
theorem mm_mk_at (D : mm_D) (u : Int) (x : Nat × (Nat × List Int)) {r : Nat} (h : r < 24) : (mm_mk D u x).1[r]? = some (mm_cell (D r) u r) := by
  unfold mm_mk
  rw [List.getElem?_map, List.getElem?_range h]
  rfl
theorem mm_mk_set (D D' : mm_D) (u u' : Int) (x : Nat × (Nat × List Int)) {r : Nat} {c : Nat × List mm_V} (hr : r < 24) (hc : c = mm_cell (D' r) u' r) (ho : ∀ r', r' < 24 → r' ≠ r → mm_cell (D' r') u' r' = mm_cell (D r') u r') : ((mm_mk D u x).1.set r c, x) = mm_mk D' u' x := by
  unfold mm_mk
  congr 1
  apply List.ext_getElem?
  intro i
  rw [List.getElem?_set, List.getElem?_map, List.getElem?_map, List.length_map, List.length_range]
  by_cases h : r = i
  · subst h
    rw [if_pos rfl, if_pos hr, List.getElem?_range hr, hc]
    rfl
  · rw [if_neg h]
    by_cases h31 : i < 24
    · rw [List.getElem?_range h31]
      show some (mm_cell (D i) u i) = some (mm_cell (D' i) u' i)
      rw [ho i h31 (Ne.symm h)]
    · rw [List.getElem?_eq_none (by rw [List.length_range]; omega)]
      rfl
theorem mm_al_lt {r n : Nat} (h : mm_al r = some n) : r < 24 := by
  unfold mm_al at h
  split at h <;> first | omega | cases h
theorem mm_cell_al {r n : Nat} (f : Int → Int) (u : Int) (h : mm_al r = some n) : mm_cell f u r = (0, (List.range n).map fun j : Nat => mm_I (f (j : Int))) := by unfold mm_cell; rw [h]
theorem mm_cell_u {r : Nat} (f : Int → Int) (u u' : Int) (h31 : r < 24) : mm_cell f u r = mm_cell f u' r := by
  have h9 : r = 0 ∨ r = 1 ∨ r = 2 ∨ r = 3 ∨ r = 4 ∨ r = 5 ∨ r = 6 ∨ r = 7 ∨ r = 8 ∨ r = 9 ∨ r = 10 ∨ r = 11 ∨ r = 12 ∨ r = 13 ∨ r = 14 ∨ r = 15 ∨ r = 16 ∨ r = 17 ∨ r = 18 ∨ r = 19 ∨ r = 20 ∨ r = 21 ∨ r = 22 ∨ r = 23 := by omega
  rcases h9 with rfl | rfl | rfl | rfl | rfl | rfl | rfl | rfl | rfl | rfl | rfl | rfl | rfl | rfl | rfl | rfl | rfl | rfl | rfl | rfl | rfl | rfl | rfl | rfl <;> rfl
/-- storing an int of an array -/
theorem mm_mk_ast (D : mm_D) (u : Int) (x : Nat × (Nat × List Int)) {r n : Nat} {i v : Int} (h : mm_al r = some n) (h0 : 0 ≤ i) (hi : i < n) : ((mm_mk D u x).1.set r (0, (mm_cell (D r) u r).2.set i.toNat (mm_I v)), x) = mm_mk (mm_wr D r i v) u x := by
  refine mm_mk_set D (mm_wr D r i v) u u x (by have := mm_al_lt h; omega) ?_ (fun r' _ hne => by rw [mm_wr_row hne])
  rw [mm_cell_al _ _ h, mm_cell_al _ _ h]
  congr 1
  apply List.ext_getElem?
  intro j
  rw [List.getElem?_set, List.getElem?_map, List.getElem?_map, List.length_map, List.length_range]
  by_cases e : i.toNat = j
  · subst e
    have hlt : i.toNat < n := by omega
    rw [if_pos rfl, if_pos hlt, List.getElem?_range hlt]
    show some (mm_I v) = some (mm_I (mm_wr D r i v r (i.toNat : Int)))
    rw [Int.toNat_of_nonneg h0, mm_wr_eq]
  · rw [if_neg e]
    by_cases hj : j < n
    · rw [List.getElem?_range hj]
      show some (mm_I (D r j)) = some (mm_I (mm_wr D r i v r j))
      rw [mm_wr_k (by omega)]
    · rw [List.getElem?_eq_none (by rw [List.length_range]; omega)]
      rfl
/-- a Word's cell -/
def mm_isW (w : Nat) : Prop := w = 2 ∨ w = 4 ∨ w = 6 ∨ w = 8 ∨ w = 10
/-- what a field holds -/
def mm_fv (cf : Nat × Nat) (r : Nat) (D : mm_D) : Option mm_V := if r < 24 ∧ (mm_ob (D r) 0 r).1 = 10 + cf.1 ∧ mm_al r = none then (mm_ob (D r) 0 r).2[cf.2]? else none
theorem mm_fvW (D : mm_D) {w : Nat} (h : mm_isW w) : mm_fv (3, 0) w D = some (mm_P (w + 1)) ∧ mm_fv (3, 1) w D = some (mm_I (D w 1)) ∧ mm_al (w + 1) = some (if w = 10 then 120 else 100) := by
  rcases h with rfl | rfl | rfl | rfl | rfl <;> exact ⟨rfl, rfl, rfl⟩
/-- the int fields -/
def mm_pvT : List ((Nat × Nat) × Nat) := [((4, 4), 0), ((4, 5), 0), ((3, 1), 2), ((3, 1), 4), ((3, 1), 6), ((3, 1), 8), ((3, 1), 10), ((2, 2), 12), ((0, 6), 13)]
theorem mm_mk_put (D : mm_D) (u : Int) (x : Nat × (Nat × List Int)) {ci k r : Nat} {v : Int} (h : ((ci, k), r) ∈ mm_pvT) : ((mm_mk D u x).1.set r ((mm_cell (D r) u r).1, (mm_cell (D r) u r).2.set k (mm_I v)), x) = mm_mk (mm_wr D r k v) u x ∧ (mm_cell (D r) u r).1 = 10 + ci ∧ k < (mm_cell (D r) u r).2.length ∧ r < 24 := by
  have key : (mm_cell (D r) u r).1 = 10 + ci ∧ k < (mm_cell (D r) u r).2.length ∧ r < 24 ∧ ((mm_cell (D r) u r).1, (mm_cell (D r) u r).2.set k (mm_I v)) = mm_cell (mm_wr D r k v r) u r := by
    simp only [mm_pvT, List.mem_cons, List.not_mem_nil, or_false, Prod.mk.injEq] at h
    rcases h with ⟨⟨rfl, rfl⟩, rfl⟩ | ⟨⟨rfl, rfl⟩, rfl⟩ | ⟨⟨rfl, rfl⟩, rfl⟩ | ⟨⟨rfl, rfl⟩, rfl⟩ | ⟨⟨rfl, rfl⟩, rfl⟩ | ⟨⟨rfl, rfl⟩, rfl⟩ | ⟨⟨rfl, rfl⟩, rfl⟩ | ⟨⟨rfl, rfl⟩, rfl⟩ | ⟨⟨rfl, rfl⟩, rfl⟩
    all_goals
      refine ⟨rfl, by simp [mm_cell, mm_al, mm_ob], by decide, ?_⟩
      simp [mm_cell, mm_al, mm_ob, mm_wr]
  exact ⟨mm_mk_set D (mm_wr D r k v) u u x key.2.2.1 key.2.2.2 (fun r' _ hne => by rw [mm_wr_row hne]), key.1, key.2.1, key.2.2.1⟩
theorem mm_pvW {w : Nat} (h : mm_isW w) : ((3, 1), w) ∈ mm_pvT := by
  rcases h with rfl | rfl | rfl | rfl | rfl <;> decide
section MU
variable {y i pc op a : Nat} {b : Int} {ls ls' : mm_F} {st st' : List mm_V} {h h' : mm_H} {D : mm_D} {u : Int} {x : Nat × (Nat × List Int)} {Q : mm_O → mm_H → Prop}
theorem mu_const {z : Int} (hc : mm_code y i = some (pc, (op, (a, z)))) (ho : op < 3) (hr : mm_rng z) (k : mt y (i + 1) ls (mm_I z :: st) h Q) : mt y i ls st h Q := by
  have h9 : op = 0 ∨ op = 1 ∨ op = 2 := by omega
  refine mt_op hc (by omega) (by omega) (ls' := ls) (st' := mm_I z :: st) (h' := h) (j := none) ?_ k
  rcases h9 with rfl | rfl | rfl <;> exact if_pos hr
theorem mu_ldc {z : Int} (hc : mm_code y i = some (pc, (55, (a, z)))) (hr : mm_rng z) (k : mt y (i + 1) ls (mm_I z :: st) h Q) : mt y i ls st h Q :=
  mt_op hc (by decide) (by decide) (ls' := ls) (st' := mm_I z :: st) (h' := h) (j := none) (if_pos hr) k
theorem mu_load {z : Int} (hc : mm_code y i = some (pc, (op, (a, b)))) (ho : op = 3 ∨ op = 4) (hl : ls[a]? = some (some (mm_I z))) (k : mt y (i + 1) ls (mm_I z :: st) h Q) : mt y i ls st h Q := by
  refine mt_op hc (by omega) (by omega) (ls' := ls) (st' := mm_I z :: st) (h' := h) (j := none) ?_ k
  rcases ho with rfl | rfl <;> (show mm_o_load a ls st h = _; unfold mm_o_load; rw [hl])
theorem mu_aload {r : Option Nat} (hc : mm_code y i = some (pc, (op, (a, b)))) (ho : op = 5 ∨ op = 6) (hl : ls[a]? = some (some (.inr (.inr r)))) (k : mt y (i + 1) ls (.inr (.inr r) :: st) h Q) : mt y i ls st h Q := by
  refine mt_op hc (by omega) (by omega) (ls' := ls) (st' := .inr (.inr r) :: st) (h' := h) (j := none) ?_ k
  rcases ho with rfl | rfl <;> (show mm_o_aload a ls st h = _; unfold mm_o_aload; rw [hl])
theorem mu_store {z : Int} (hc : mm_code y i = some (pc, (op, (a, b)))) (ho : op = 7 ∨ op = 8) (ha : a < ls.length) (hl : ls.set a (some (mm_I z)) = ls') (k : mt y (i + 1) ls' st h Q) : mt y i ls (mm_I z :: st) h Q := by
  subst hl
  refine mt_op hc (by omega) (by omega) (ls' := ls.set a (some (mm_I z))) (st' := st) (h' := h) (j := none) ?_ k
  rcases ho with rfl | rfl <;> exact if_pos ha
theorem mu_astore {r : Option Nat} (hc : mm_code y i = some (pc, (op, (a, b)))) (ho : op = 9 ∨ op = 10) (ha : a < ls.length) (hl : ls.set a (some (.inr (.inr r))) = ls') (k : mt y (i + 1) ls' st h Q) : mt y i ls (.inr (.inr r) :: st) h Q := by
  subst hl
  refine mt_op hc (by omega) (by omega) (ls' := ls.set a (some (.inr (.inr r)))) (st' := st) (h' := h) (j := none) ?_ k
  rcases ho with rfl | rfl <;> exact if_pos ha
theorem mu_bin {g : Int → Int → Option Int} {x9 y9 z : Int} (hc : mm_code y i = some (pc, (op, (a, b)))) (ho : op < 60 ∧ ¬ op = 56) (he : mm_op mm_fld op a b ls (mm_I y9 :: mm_I x9 :: st) h = mm_o_bin g ls (mm_I y9 :: mm_I x9 :: st) h) (hg : g x9 y9 = some z) (hr : mm_rng z) (k : mt y (i + 1) ls (mm_I z :: st) h Q) : mt y i ls (mm_I y9 :: mm_I x9 :: st) h Q := by
  refine mt_op hc ho.1 ho.2 (ls' := ls) (st' := mm_I z :: st) (h' := h) (j := none) ?_ k
  rw [he]
  show (match g x9 y9 with | some z => if mm_rng z then some (ls, (mm_I z :: st, (h, none))) else none | none => none) = _
  rw [hg]
  exact if_pos hr
theorem mu_iadd {x9 y9 : Int} (hc : mm_code y i = some (pc, (11, (a, b)))) (hr : mm_rng (x9 + y9)) (k : mt y (i + 1) ls (mm_I (x9 + y9) :: st) h Q) : mt y i ls (mm_I y9 :: mm_I x9 :: st) h Q := mu_bin (g := fun x y => some (x + y)) hc (by decide) rfl rfl hr k
theorem mu_isub {x9 y9 : Int} (hc : mm_code y i = some (pc, (12, (a, b)))) (hr : mm_rng (x9 - y9)) (k : mt y (i + 1) ls (mm_I (x9 - y9) :: st) h Q) : mt y i ls (mm_I y9 :: mm_I x9 :: st) h Q := mu_bin (g := fun x y => some (x - y)) hc (by decide) rfl rfl hr k
theorem mu_imul {x9 y9 : Int} (hc : mm_code y i = some (pc, (13, (a, b)))) (hr : mm_rng (x9 * y9)) (k : mt y (i + 1) ls (mm_I (x9 * y9) :: st) h Q) : mt y i ls (mm_I y9 :: mm_I x9 :: st) h Q := mu_bin (g := fun x y => some (x * y)) hc (by decide) rfl rfl hr k
theorem mu_idiv {x9 y9 : Int} (hc : mm_code y i = some (pc, (14, (a, b)))) (hg : 0 ≤ x9 ∧ 0 < y9) (hr : mm_rng (x9 / y9)) (k : mt y (i + 1) ls (mm_I (x9 / y9) :: st) h Q) : mt y i ls (mm_I y9 :: mm_I x9 :: st) h Q := mu_bin (g := fun x y => if 0 ≤ x ∧ 0 < y then some (x / y) else none) hc (by decide) rfl (if_pos hg) hr k
theorem mu_irem {x9 y9 : Int} (hc : mm_code y i = some (pc, (15, (a, b)))) (hg : 0 ≤ x9 ∧ 0 < y9) (hr : mm_rng (x9 % y9)) (k : mt y (i + 1) ls (mm_I (x9 % y9) :: st) h Q) : mt y i ls (mm_I y9 :: mm_I x9 :: st) h Q := mu_bin (g := fun x y => if 0 ≤ x ∧ 0 < y then some (x % y) else none) hc (by decide) rfl (if_pos hg) hr k
theorem mu_ishl {x9 y9 : Int} (hc : mm_code y i = some (pc, (16, (a, b)))) (hg : 0 ≤ x9 ∧ 0 ≤ y9 ∧ y9 < 31) (hr : mm_rng (x9 * 2 ^ y9.toNat)) (k : mt y (i + 1) ls (mm_I (x9 * 2 ^ y9.toNat) :: st) h Q) : mt y i ls (mm_I y9 :: mm_I x9 :: st) h Q := mu_bin (g := fun x y => if 0 ≤ x ∧ 0 ≤ y ∧ y < 31 then some (x * 2 ^ y.toNat) else none) hc (by decide) rfl (if_pos hg) hr k
theorem mu_ishr {x9 y9 : Int} (hc : mm_code y i = some (pc, (17, (a, b)))) (hg : 0 ≤ x9 ∧ 0 ≤ y9 ∧ y9 < 31) (hr : mm_rng (x9 / 2 ^ y9.toNat)) (k : mt y (i + 1) ls (mm_I (x9 / 2 ^ y9.toNat) :: st) h Q) : mt y i ls (mm_I y9 :: mm_I x9 :: st) h Q := mu_bin (g := fun x y => if 0 ≤ x ∧ 0 ≤ y ∧ y < 31 then some (x / 2 ^ y.toNat) else none) hc (by decide) rfl (if_pos hg) hr k
theorem mu_iand {x9 y9 : Int} (hc : mm_code y i = some (pc, (18, (a, b)))) (k : mt y (i + 1) ls (mm_I (mm_and x9 y9) :: st) h Q) : mt y i ls (mm_I y9 :: mm_I x9 :: st) h Q := mu_bin (g := fun x y => some (mm_and x y)) hc (by decide) rfl rfl (mm_and_r _ _) k
theorem mu_ior {x9 y9 : Int} (hc : mm_code y i = some (pc, (19, (a, b)))) (k : mt y (i + 1) ls (mm_I (mm_or x9 y9) :: st) h Q) : mt y i ls (mm_I y9 :: mm_I x9 :: st) h Q := mu_bin (g := fun x y => some (mm_or x y)) hc (by decide) rfl rfl (mm_or_r _ _) k
theorem mu_iinc {z : Int} (hc : mm_code y i = some (pc, (20, (a, b)))) (hl : ls[a]? = some (some (mm_I z))) (hr : mm_rng (z + b)) (hs : ls.set a (some (mm_I (z + b))) = ls') (k : mt y (i + 1) ls' st h Q) : mt y i ls st h Q := by
  subst hs
  refine mt_op hc (by decide) (by decide) (ls' := ls.set a (some (mm_I (z + b)))) (st' := st) (h' := h) (j := none) ?_ k
  show mm_o_iinc a b ls st h = _
  unfold mm_o_iinc
  rw [hl]
  exact if_pos hr
/-- rows that 'rfl' works out -/
theorem mu_rfl {j : Option Nat} {n : Nat} (hc : mm_code y i = some (pc, (op, (a, b)))) (ho : op < 60 ∧ ¬ op = 56) (he : mm_op mm_fld op a b ls st h = some (ls, (st', (h, j)))) (hj : j.getD (i + 1) = n) (k : mt y n ls st' h Q) : mt y i ls st h Q := by
  subst hj
  exact mt_op hc ho.1 ho.2 he k
theorem mu_if_eq {z : Int} (hc : mm_code y i = some (pc, (25, (a, b)))) (k1 : (z = 0) → mt y a ls st h Q) (k2 : ¬ (z = 0) → mt y (i + 1) ls st h Q) : mt y i ls (mm_I z :: st) h Q := by
  by_cases q : z = 0
  · exact mt_op hc (by decide) (by decide) (ls' := ls) (st' := st) (h' := h) (j := some a) (by show some (ls, (st, (h, if decide (z = 0) = true then some a else none))) = _; rw [if_pos (decide_eq_true q)]) (k1 q)
  · exact mt_op hc (by decide) (by decide) (ls' := ls) (st' := st) (h' := h) (j := none) (by show some (ls, (st, (h, if decide (z = 0) = true then some a else none))) = _; rw [if_neg (by rw [decide_eq_true_eq]; exact q)]) (k2 q)
theorem mu_if_ne {z : Int} (hc : mm_code y i = some (pc, (26, (a, b)))) (k1 : (¬ z = 0) → mt y a ls st h Q) (k2 : ¬ (¬ z = 0) → mt y (i + 1) ls st h Q) : mt y i ls (mm_I z :: st) h Q := by
  by_cases q : ¬ z = 0
  · exact mt_op hc (by decide) (by decide) (ls' := ls) (st' := st) (h' := h) (j := some a) (by show some (ls, (st, (h, if decide (¬ z = 0) = true then some a else none))) = _; rw [if_pos (decide_eq_true q)]) (k1 q)
  · exact mt_op hc (by decide) (by decide) (ls' := ls) (st' := st) (h' := h) (j := none) (by show some (ls, (st, (h, if decide (¬ z = 0) = true then some a else none))) = _; rw [if_neg (by rw [decide_eq_true_eq]; exact q)]) (k2 q)
theorem mu_if_lt {z : Int} (hc : mm_code y i = some (pc, (27, (a, b)))) (k1 : (z < 0) → mt y a ls st h Q) (k2 : ¬ (z < 0) → mt y (i + 1) ls st h Q) : mt y i ls (mm_I z :: st) h Q := by
  by_cases q : z < 0
  · exact mt_op hc (by decide) (by decide) (ls' := ls) (st' := st) (h' := h) (j := some a) (by show some (ls, (st, (h, if decide (z < 0) = true then some a else none))) = _; rw [if_pos (decide_eq_true q)]) (k1 q)
  · exact mt_op hc (by decide) (by decide) (ls' := ls) (st' := st) (h' := h) (j := none) (by show some (ls, (st, (h, if decide (z < 0) = true then some a else none))) = _; rw [if_neg (by rw [decide_eq_true_eq]; exact q)]) (k2 q)
theorem mu_if_ge {z : Int} (hc : mm_code y i = some (pc, (28, (a, b)))) (k1 : (0 ≤ z) → mt y a ls st h Q) (k2 : ¬ (0 ≤ z) → mt y (i + 1) ls st h Q) : mt y i ls (mm_I z :: st) h Q := by
  by_cases q : 0 ≤ z
  · exact mt_op hc (by decide) (by decide) (ls' := ls) (st' := st) (h' := h) (j := some a) (by show some (ls, (st, (h, if decide (0 ≤ z) = true then some a else none))) = _; rw [if_pos (decide_eq_true q)]) (k1 q)
  · exact mt_op hc (by decide) (by decide) (ls' := ls) (st' := st) (h' := h) (j := none) (by show some (ls, (st, (h, if decide (0 ≤ z) = true then some a else none))) = _; rw [if_neg (by rw [decide_eq_true_eq]; exact q)]) (k2 q)
theorem mu_if_gt {z : Int} (hc : mm_code y i = some (pc, (29, (a, b)))) (k1 : (0 < z) → mt y a ls st h Q) (k2 : ¬ (0 < z) → mt y (i + 1) ls st h Q) : mt y i ls (mm_I z :: st) h Q := by
  by_cases q : 0 < z
  · exact mt_op hc (by decide) (by decide) (ls' := ls) (st' := st) (h' := h) (j := some a) (by show some (ls, (st, (h, if decide (0 < z) = true then some a else none))) = _; rw [if_pos (decide_eq_true q)]) (k1 q)
  · exact mt_op hc (by decide) (by decide) (ls' := ls) (st' := st) (h' := h) (j := none) (by show some (ls, (st, (h, if decide (0 < z) = true then some a else none))) = _; rw [if_neg (by rw [decide_eq_true_eq]; exact q)]) (k2 q)
theorem mu_if_le {z : Int} (hc : mm_code y i = some (pc, (30, (a, b)))) (k1 : (z ≤ 0) → mt y a ls st h Q) (k2 : ¬ (z ≤ 0) → mt y (i + 1) ls st h Q) : mt y i ls (mm_I z :: st) h Q := by
  by_cases q : z ≤ 0
  · exact mt_op hc (by decide) (by decide) (ls' := ls) (st' := st) (h' := h) (j := some a) (by show some (ls, (st, (h, if decide (z ≤ 0) = true then some a else none))) = _; rw [if_pos (decide_eq_true q)]) (k1 q)
  · exact mt_op hc (by decide) (by decide) (ls' := ls) (st' := st) (h' := h) (j := none) (by show some (ls, (st, (h, if decide (z ≤ 0) = true then some a else none))) = _; rw [if_neg (by rw [decide_eq_true_eq]; exact q)]) (k2 q)
theorem mu_ic_eq {x9 y9 : Int} (hc : mm_code y i = some (pc, (31, (a, b)))) (k1 : (x9 = y9) → mt y a ls st h Q) (k2 : ¬ (x9 = y9) → mt y (i + 1) ls st h Q) : mt y i ls (mm_I y9 :: mm_I x9 :: st) h Q := by
  by_cases q : x9 = y9
  · exact mt_op hc (by decide) (by decide) (ls' := ls) (st' := st) (h' := h) (j := some a) (by show some (ls, (st, (h, if decide (x9 = y9) = true then some a else none))) = _; rw [if_pos (decide_eq_true q)]) (k1 q)
  · exact mt_op hc (by decide) (by decide) (ls' := ls) (st' := st) (h' := h) (j := none) (by show some (ls, (st, (h, if decide (x9 = y9) = true then some a else none))) = _; rw [if_neg (by rw [decide_eq_true_eq]; exact q)]) (k2 q)
theorem mu_ic_ne {x9 y9 : Int} (hc : mm_code y i = some (pc, (32, (a, b)))) (k1 : (¬ x9 = y9) → mt y a ls st h Q) (k2 : ¬ (¬ x9 = y9) → mt y (i + 1) ls st h Q) : mt y i ls (mm_I y9 :: mm_I x9 :: st) h Q := by
  by_cases q : ¬ x9 = y9
  · exact mt_op hc (by decide) (by decide) (ls' := ls) (st' := st) (h' := h) (j := some a) (by show some (ls, (st, (h, if decide (¬ x9 = y9) = true then some a else none))) = _; rw [if_pos (decide_eq_true q)]) (k1 q)
  · exact mt_op hc (by decide) (by decide) (ls' := ls) (st' := st) (h' := h) (j := none) (by show some (ls, (st, (h, if decide (¬ x9 = y9) = true then some a else none))) = _; rw [if_neg (by rw [decide_eq_true_eq]; exact q)]) (k2 q)
theorem mu_ic_lt {x9 y9 : Int} (hc : mm_code y i = some (pc, (33, (a, b)))) (k1 : (x9 < y9) → mt y a ls st h Q) (k2 : ¬ (x9 < y9) → mt y (i + 1) ls st h Q) : mt y i ls (mm_I y9 :: mm_I x9 :: st) h Q := by
  by_cases q : x9 < y9
  · exact mt_op hc (by decide) (by decide) (ls' := ls) (st' := st) (h' := h) (j := some a) (by show some (ls, (st, (h, if decide (x9 < y9) = true then some a else none))) = _; rw [if_pos (decide_eq_true q)]) (k1 q)
  · exact mt_op hc (by decide) (by decide) (ls' := ls) (st' := st) (h' := h) (j := none) (by show some (ls, (st, (h, if decide (x9 < y9) = true then some a else none))) = _; rw [if_neg (by rw [decide_eq_true_eq]; exact q)]) (k2 q)
theorem mu_ic_ge {x9 y9 : Int} (hc : mm_code y i = some (pc, (34, (a, b)))) (k1 : (y9 ≤ x9) → mt y a ls st h Q) (k2 : ¬ (y9 ≤ x9) → mt y (i + 1) ls st h Q) : mt y i ls (mm_I y9 :: mm_I x9 :: st) h Q := by
  by_cases q : y9 ≤ x9
  · exact mt_op hc (by decide) (by decide) (ls' := ls) (st' := st) (h' := h) (j := some a) (by show some (ls, (st, (h, if decide (y9 ≤ x9) = true then some a else none))) = _; rw [if_pos (decide_eq_true q)]) (k1 q)
  · exact mt_op hc (by decide) (by decide) (ls' := ls) (st' := st) (h' := h) (j := none) (by show some (ls, (st, (h, if decide (y9 ≤ x9) = true then some a else none))) = _; rw [if_neg (by rw [decide_eq_true_eq]; exact q)]) (k2 q)
theorem mu_ic_gt {x9 y9 : Int} (hc : mm_code y i = some (pc, (35, (a, b)))) (k1 : (y9 < x9) → mt y a ls st h Q) (k2 : ¬ (y9 < x9) → mt y (i + 1) ls st h Q) : mt y i ls (mm_I y9 :: mm_I x9 :: st) h Q := by
  by_cases q : y9 < x9
  · exact mt_op hc (by decide) (by decide) (ls' := ls) (st' := st) (h' := h) (j := some a) (by show some (ls, (st, (h, if decide (y9 < x9) = true then some a else none))) = _; rw [if_pos (decide_eq_true q)]) (k1 q)
  · exact mt_op hc (by decide) (by decide) (ls' := ls) (st' := st) (h' := h) (j := none) (by show some (ls, (st, (h, if decide (y9 < x9) = true then some a else none))) = _; rw [if_neg (by rw [decide_eq_true_eq]; exact q)]) (k2 q)
theorem mu_ic_le {x9 y9 : Int} (hc : mm_code y i = some (pc, (36, (a, b)))) (k1 : (x9 ≤ y9) → mt y a ls st h Q) (k2 : ¬ (x9 ≤ y9) → mt y (i + 1) ls st h Q) : mt y i ls (mm_I y9 :: mm_I x9 :: st) h Q := by
  by_cases q : x9 ≤ y9
  · exact mt_op hc (by decide) (by decide) (ls' := ls) (st' := st) (h' := h) (j := some a) (by show some (ls, (st, (h, if decide (x9 ≤ y9) = true then some a else none))) = _; rw [if_pos (decide_eq_true q)]) (k1 q)
  · exact mt_op hc (by decide) (by decide) (ls' := ls) (st' := st) (h' := h) (j := none) (by show some (ls, (st, (h, if decide (x9 ≤ y9) = true then some a else none))) = _; rw [if_neg (by rw [decide_eq_true_eq]; exact q)]) (k2 q)
theorem mu_get {r : Nat} {v : mm_V} (hc : mm_code y i = some (pc, (40, (a, b)))) (hv : mm_fv (mm_fld a) r D = some v) (k : mt y (i + 1) ls (v :: st) (mm_mk D u x) Q) : mt y i ls (mm_P r :: st) (mm_mk D u x) Q := by
  refine mt_op hc (by decide) (by decide) (ls' := ls) (st' := v :: st) (h' := mm_mk D u x) (j := none) ?_ k
  show mm_o_get (mm_fld a).1 (mm_fld a).2 ls (mm_P r :: st) (mm_mk D u x) = _
  unfold mm_fv at hv
  split at hv
  · rename_i hh
    unfold mm_o_get
    dsimp only
    rw [mm_mk_at D u x hh.1]
    have e : mm_cell (D r) u r = mm_ob (D r) u r := by unfold mm_cell; rw [hh.2.2]
    have e2 : mm_ob (D r) u r = mm_ob (D r) 0 r := by
      have h8 := mm_cell_u (D r) u 0 hh.1
      unfold mm_cell at h8
      rw [hh.2.2] at h8
      exact h8
    rw [e, e2]
    dsimp only
    rw [if_pos hh.2.1, hv]
  · cases hv
theorem mu_put {r : Nat} {z : Int} (hc : mm_code y i = some (pc, (41, (a, b)))) (hp : (mm_fld a, r) ∈ mm_pvT) (hz : (mm_fk (mm_fld a).1)[(mm_fld a).2]? = some 0 ∨ (mm_fk (mm_fld a).1)[(mm_fld a).2]? = some 1 ∧ (z = 0 ∨ z = 1)) (k : mt y (i + 1) ls st (mm_mk (mm_wr D r (mm_fld a).2 z) u x) Q) : mt y i ls (mm_I z :: mm_P r :: st) (mm_mk D u x) Q := by
  obtain ⟨e1, e2, e3, e4⟩ := mm_mk_put D u x (v := z) hp
  refine mt_op hc (by decide) (by decide) (ls' := ls) (st' := st) (j := none) ?_ k
  show mm_o_put (mm_fld a).1 (mm_fld a).2 ls (mm_I z :: mm_P r :: st) (mm_mk D u x) = _
  unfold mm_o_put
  dsimp only
  rw [mm_mk_at D u x e4]
  dsimp only
  rw [if_pos ⟨e2, e3, hz⟩, ← e1]
  rfl
theorem mu_iald {r n : Nat} {i9 : Int} (hc : mm_code y i = some (pc, (43, (a, b)))) (ha : mm_al r = some n) (h0 : 0 ≤ i9) (hn : i9 < n) (k : mt y (i + 1) ls (mm_I (D r i9) :: st) (mm_mk D u x) Q) : mt y i ls (mm_I i9 :: mm_P r :: st) (mm_mk D u x) Q := by
  refine mt_op hc (by decide) (by decide) (ls' := ls) (st' := mm_I (D r i9) :: st) (h' := mm_mk D u x) (j := none) ?_ k
  show mm_o_iald ls (mm_I i9 :: mm_P r :: st) (mm_mk D u x) = _
  have hr := mm_al_lt ha
  unfold mm_o_iald
  dsimp only
  rw [if_neg (by omega), if_neg (by omega), mm_mk_at D u x (by omega), mm_cell_al _ _ ha]
  have hlt : i9.toNat < n := by omega
  have e2 : ((List.range n).map fun j : Nat => mm_I (D r (j : Int)))[i9.toNat]? = some (mm_I (D r i9)) := by
    rw [List.getElem?_map, List.getElem?_range hlt]
    show some (mm_I (D r (i9.toNat : Int))) = _
    rw [Int.toNat_of_nonneg h0]
  show (match ((List.range n).map fun j : Nat => mm_I (D r (j : Int)))[i9.toNat]? with | some (.inl z) => some (ls, (mm_I z :: st, (mm_mk D u x, none))) | _ => none) = _
  rw [e2]
theorem mu_scr {i9 z : Int} (hc : mm_code y i = some (pc, (43, (a, b)))) (h0 : 0 ≤ i9) (hz : x.2.2[i9.toNat + 1]? = some z) (k : mt y (i + 1) ls (mm_I z :: st) (mm_mk D u x) Q) : mt y i ls (mm_I i9 :: mm_P 999 :: st) (mm_mk D u x) Q := by
  refine mt_op hc (by decide) (by decide) (ls' := ls) (st' := mm_I z :: st) (h' := mm_mk D u x) (j := none) ?_ k
  show mm_o_iald ls (mm_I i9 :: mm_P 999 :: st) (mm_mk D u x) = _
  unfold mm_o_iald
  dsimp only
  rw [if_neg (by omega), if_pos rfl]
  show (match x.2.2[i9.toNat + 1]? with | some z => some (ls, (mm_I z :: st, (mm_mk D u x, none))) | none => none) = _
  rw [hz]
theorem mu_iast {r n : Nat} {i9 z : Int} (hc : mm_code y i = some (pc, (44, (a, b)))) (ha : mm_al r = some n) (h0 : 0 ≤ i9) (hn : i9 < n) (k : mt y (i + 1) ls st (mm_mk (mm_wr D r i9 z) u x) Q) : mt y i ls (mm_I z :: mm_I i9 :: mm_P r :: st) (mm_mk D u x) Q := by
  refine mt_op hc (by decide) (by decide) (ls' := ls) (st' := st) (j := none) ?_ k
  show mm_o_iast ls (mm_I z :: mm_I i9 :: mm_P r :: st) (mm_mk D u x) = _
  have hr := mm_al_lt ha
  have e1 := mm_mk_ast D u x (v := z) ha h0 hn
  unfold mm_o_iast
  dsimp only
  rw [if_neg (by omega), mm_mk_at D u x (by omega), mm_cell_al _ _ ha]
  rw [mm_cell_al _ _ ha] at e1
  show (if i9.toNat < ((List.range n).map fun j : Nat => mm_I (D r (j : Int))).length then some (ls, (st, (((mm_mk D u x).1.set r (0, ((List.range n).map fun j : Nat => mm_I (D r (j : Int))).set i9.toNat (mm_I z)), x), (none : Option Nat)))) else none) = _
  rw [if_pos (by rw [List.length_map, List.length_range]; omega), e1]
theorem mu_aald {i9 : Int} {q : Nat} (hc : mm_code y i = some (pc, (47, (a, b)))) (h0 : 0 ≤ i9 ∧ i9 < 4) (hq : q = 2 + 2 * i9.toNat) (k : mt y (i + 1) ls (mm_P q :: st) (mm_mk D u x) Q) : mt y i ls (mm_I i9 :: mm_P 1 :: st) (mm_mk D u x) Q := by
  have h9 : i9 = 0 ∨ i9 = 1 ∨ i9 = 2 ∨ i9 = 3 := by omega
  subst hq
  refine mt_op hc (by decide) (by decide) (ls' := ls) (st' := _ :: st) (h' := mm_mk D u x) (j := none) ?_ k
  rcases h9 with rfl | rfl | rfl | rfl <;> rfl
theorem mu_alen {r n : Nat} (hc : mm_code y i = some (pc, (49, (a, b)))) (ha : mm_al r = some n) (k : mt y (i + 1) ls (mm_I n :: st) (mm_mk D u x) Q) : mt y i ls (mm_P r :: st) (mm_mk D u x) Q := by
  refine mt_op hc (by decide) (by decide) (ls' := ls) (st' := mm_I n :: st) (h' := mm_mk D u x) (j := none) ?_ k
  show mm_o_alen ls (mm_P r :: st) (mm_mk D u x) = _
  have hr := mm_al_lt ha
  unfold mm_o_alen
  dsimp only
  rw [if_neg (by omega), mm_mk_at D u x (by omega), mm_cell_al _ _ ha]
  dsimp only
  have hn : n < 1000000 := by
    unfold mm_al at ha
    split at ha <;> first | (cases ha; decide) | cases ha
  rw [if_pos ⟨by decide, by rw [List.length_map, List.length_range]; exact hn⟩, List.length_map, List.length_range]
theorem mu_alenW (hc : mm_code y i = some (pc, (49, (a, b)))) (k : mt y (i + 1) ls (mm_I 4 :: st) (mm_mk D u x) Q) : mt y i ls (mm_P 1 :: st) (mm_mk D u x) Q :=
  mt_op hc (by decide) (by decide) (ls' := ls) (st' := mm_I 4 :: st) (h' := mm_mk D u x) (j := none) rfl k
theorem mu_alenS {z0 : Int} {t : List Int} (hc : mm_code y i = some (pc, (49, (a, b)))) (hx : x.2.2 = z0 :: t) (k : mt y (i + 1) ls (mm_I t.length :: st) (mm_mk D u x) Q) : mt y i ls (mm_P 999 :: st) (mm_mk D u x) Q := by
  refine mt_op hc (by decide) (by decide) (ls' := ls) (st' := mm_I t.length :: st) (h' := mm_mk D u x) (j := none) ?_ k
  show (match x.2.2 with | _ :: t => some (ls, (mm_I (t.length : Int) :: st, (mm_mk D u x, none))) | [] => none) = _
  rw [hx]
theorem mu_max {x9 y9 : Int} (hc : mm_code y i = some (pc, (58, (a, b)))) (hl : st.length ≤ 4) (k : mt y (i + 1) ls (mm_I (if x9 < y9 then y9 else x9) :: st) h Q) : mt y i ls (mm_I y9 :: mm_I x9 :: st) h Q :=
  mt_op hc (by decide) (by decide) (ls' := ls) (st' := mm_I (if x9 < y9 then y9 else x9) :: st) (h' := h) (j := none) (by show (if st.length ≤ 4 then _ else none) = _; rw [if_pos hl]) k
theorem mu_min {x9 y9 : Int} (hc : mm_code y i = some (pc, (59, (a, b)))) (hl : st.length ≤ 4) (k : mt y (i + 1) ls (mm_I (if y9 < x9 then y9 else x9) :: st) h Q) : mt y i ls (mm_I y9 :: mm_I x9 :: st) h Q :=
  mt_op hc (by decide) (by decide) (ls' := ls) (st' := mm_I (if y9 < x9 then y9 else x9) :: st) (h' := h) (j := none) (by show (if st.length ≤ 4 then _ else none) = _; rw [if_pos hl]) k
end MU
