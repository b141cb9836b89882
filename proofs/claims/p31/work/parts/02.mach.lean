/-! MM: a small machine over mathematical ints; values: int, long, null or cell -/
abbrev mm_V : Type := Int ⊕ (Int ⊕ Option Nat)
abbrev mm_I (z : Int) : mm_V := .inl z
abbrev mm_L (z : Int) : mm_V := .inr (.inl z)
abbrev mm_P (r : Nat) : mm_V := .inr (.inr (some r))
abbrev mm_N : mm_V := .inr (.inr none)
/-- cells (kind, values), cells made, slots made, the script behind a first entry that says that there is one -/
abbrev mm_H : Type := List (Nat × List mm_V) × (Nat × (Nat × List Int))
abbrev mm_rng (z : Int) : Prop := -2147483648 ≤ z ∧ z ≤ 2147483647
abbrev mm_F : Type := List (Option mm_V)
abbrev mm_Q : Type := Option (mm_F × (List mm_V × (mm_H × Option Nat)))
def mm_and (x y : Int) : Int := (Int32.ofInt x &&& Int32.ofInt y).toInt
def mm_or (x y : Int) : Int := (Int32.ofInt x ||| Int32.ofInt y).toInt
/-- the fields of a class: 0 int, 1 boolean, 2 a reference; all but the last kind are written at any time, references in constructors alone -/
def mm_fk (ci : Nat) : List Nat := match ci with
  | 0 => [2, 2, 2, 2, 2, 2, 0]
  | 1 => [2, 2, 2]
  | 2 => [2, 2, 0]
  | 3 => [2, 0]
  | 4 => [2, 2, 2, 2, 0, 0]
  | _ => []
def mm_df (k : Nat) : mm_V := if k = 2 then mm_N else mm_I 0
def mm_o_load (a : Nat) (ls : mm_F) (st : List mm_V) (h : mm_H) : mm_Q := match ls[a]? with
  | some (some (.inl z)) => some (ls, (mm_I z :: st, (h, none)))
  | _ => none
def mm_o_aload (a : Nat) (ls : mm_F) (st : List mm_V) (h : mm_H) : mm_Q := match ls[a]? with
  | some (some (.inr (.inr r))) => some (ls, (.inr (.inr r) :: st, (h, none)))
  | _ => none
def mm_o_store (a : Nat) (ls : mm_F) (st : List mm_V) (h : mm_H) : mm_Q := match st with
  | .inl z :: st => if a < ls.length then some (ls.set a (some (mm_I z)), (st, (h, none))) else none
  | _ => none
def mm_o_astore (a : Nat) (ls : mm_F) (st : List mm_V) (h : mm_H) : mm_Q := match st with
  | .inr (.inr r) :: st => if a < ls.length then some (ls.set a (some (.inr (.inr r))), (st, (h, none))) else none
  | _ => none
/-- two ints to one: 'g x y = some z' -/
def mm_o_bin (g : Int → Int → Option Int) (ls : mm_F) (st : List mm_V) (h : mm_H) : mm_Q := match st with
  | .inl y :: .inl x :: st => match g x y with
    | some z => if mm_rng z then some (ls, (mm_I z :: st, (h, none))) else none
    | none => none
  | _ => none
def mm_o_if (g : Int → Bool) (a : Nat) (ls : mm_F) (st : List mm_V) (h : mm_H) : mm_Q := match st with
  | .inl x :: st => some (ls, (st, (h, if g x then some a else none)))
  | _ => none
def mm_o_icmp (g : Int → Int → Bool) (a : Nat) (ls : mm_F) (st : List mm_V) (h : mm_H) : mm_Q := match st with
  | .inl y :: .inl x :: st => some (ls, (st, (h, if g x y then some a else none)))
  | _ => none
def mm_o_iinc (a : Nat) (b : Int) (ls : mm_F) (st : List mm_V) (h : mm_H) : mm_Q := match ls[a]? with
  | some (some (.inl z)) => if mm_rng (z + b) then some (ls.set a (some (mm_I (z + b))), (st, (h, none))) else none
  | _ => none
def mm_o_null (g : Bool) (a : Nat) (ls : mm_F) (st : List mm_V) (h : mm_H) : mm_Q := match st with
  | .inr (.inr r) :: st => some (ls, (st, (h, if r.isNone = g then some a else none)))
  | _ => none
def mm_o_get (ci k : Nat) (ls : mm_F) (st : List mm_V) (h : mm_H) : mm_Q := match st with
  | .inr (.inr (some r)) :: st => match h.1[r]? with
    | some (kd, l) => if kd = 10 + ci then match l[k]? with
      | some v => some (ls, (v :: st, (h, none)))
      | none => none
      else none
    | none => none
  | _ => none
def mm_o_put (ci k : Nat) (ls : mm_F) (st : List mm_V) (h : mm_H) : mm_Q := match st with
  | .inl z :: .inr (.inr (some r)) :: st => match h.1[r]? with
    | some (kd, l) => if kd = 10 + ci ∧ k < l.length ∧ ((mm_fk ci)[k]? = some 0 ∨ ((mm_fk ci)[k]? = some 1 ∧ (z = 0 ∨ z = 1))) then some (ls, (st, ((h.1.set r (kd, l.set k (mm_I z)), h.2), none))) else none
    | none => none
  | _ => none
def mm_o_putF (ci k : Nat) (ls : mm_F) (st : List mm_V) (h : mm_H) : mm_Q := match st with
  | .inr (.inr (some v)) :: .inr (.inr (some r)) :: st => match h.1[r]? with
    | some (kd, l) => if kd = 10 + ci ∧ k < l.length ∧ (mm_fk ci)[k]? = some 2 then some (ls, (st, ((h.1.set r (kd, l.set k (mm_P v)), h.2), none))) else none
    | none => none
  | _ => none
def mm_o_iald (ls : mm_F) (st : List mm_V) (h : mm_H) : mm_Q := match st with
  | .inl i :: .inr (.inr (some r)) :: st => if i < 0 then none else if r = 999 then match h.2.2.2[i.toNat + 1]? with
      | some z => some (ls, (mm_I z :: st, (h, none)))
      | none => none
    else match h.1[r]? with
    | some (0, l) => match l[i.toNat]? with
      | some (.inl z) => some (ls, (mm_I z :: st, (h, none)))
      | _ => none
    | _ => none
  | _ => none
def mm_o_iast (ls : mm_F) (st : List mm_V) (h : mm_H) : mm_Q := match st with
  | .inl z :: .inl i :: .inr (.inr (some r)) :: st => if i < 0 then none else match h.1[r]? with
    | some (0, l) => if i.toNat < l.length then some (ls, (st, ((h.1.set r (0, l.set i.toNat (mm_I z)), h.2), none))) else none
    | _ => none
  | _ => none
def mm_o_aald (ls : mm_F) (st : List mm_V) (h : mm_H) : mm_Q := match st with
  | .inl i :: .inr (.inr (some r)) :: st => if i < 0 then none else match h.1[r]? with
    | some (2, l) => match l[i.toNat]? with
      | some (.inr (.inr q)) => some (ls, (.inr (.inr q) :: st, (h, none)))
      | _ => none
    | _ => none
  | _ => none
/-- into an array of Words: a Word -/
def mm_o_aast (ls : mm_F) (st : List mm_V) (h : mm_H) : mm_Q := match st with
  | .inr (.inr (some v)) :: .inl i :: .inr (.inr (some r)) :: st => if i < 0 then none else match h.1[r]? with
    | some (2, l) => if i.toNat < l.length ∧ (h.1[v]?).map (·.1) = some 13 then some (ls, (st, ((h.1.set r (2, l.set i.toNat (mm_P v)), h.2), none))) else none
    | _ => none
  | _ => none
def mm_o_alen (ls : mm_F) (st : List mm_V) (h : mm_H) : mm_Q := match st with
  | .inr (.inr (some r)) :: st => if r = 999 then match h.2.2.2 with
    | _ :: t => some (ls, (mm_I t.length :: st, (h, none)))
    | [] => none
    else match h.1[r]? with
    | some (kd, l) => if kd < 3 ∧ l.length < 1000000 then some (ls, (mm_I l.length :: st, (h, none))) else none
    | none => none
  | _ => none
/-- a new cell, of the kind kd, holding l; none once something was thrown -/
def mm_push (kd : Nat) (l : List mm_V) (ls : mm_F) (st : List mm_V) (h : mm_H) : mm_Q :=
  if h.1.length = h.2.1 ∧ h.1.length < 900 then some (ls, (mm_P h.1.length :: st, ((h.1 ++ [(kd, l)], (h.2.1 + 1, (h.2.2.1 + l.length, h.2.2.2))), none))) else none
def mm_o_newa (kd : Nat) (v : mm_V) (ls : mm_F) (st : List mm_V) (h : mm_H) : mm_Q := match st with
  | .inl n :: st => if 0 ≤ n ∧ n < 100000 then mm_push kd (List.replicate n.toNat v) ls st h else none
  | _ => none
def mm_o_max (g : Int → Int → Int) (ls : mm_F) (st : List mm_V) (h : mm_H) : mm_Q := match st with
  | .inl y :: .inl x :: st => if st.length ≤ 4 then some (ls, (mm_I (g x y) :: st, (h, none))) else none
  | _ => none
/-- the rows' own instructions but calls, returns and throws; 'some j' at the end: a jump -/
def mm_op (fld : Nat → Nat × Nat) (op a : Nat) (b : Int) (ls : mm_F) (st : List mm_V) (h : mm_H) : mm_Q := match op with
  | 0 | 1 | 2 => if mm_rng b then some (ls, (mm_I b :: st, (h, none))) else none
  | 3 | 4 => mm_o_load a ls st h
  | 5 | 6 => mm_o_aload a ls st h
  | 7 | 8 => mm_o_store a ls st h
  | 9 | 10 => mm_o_astore a ls st h
  | 11 => mm_o_bin (fun x y => some (x + y)) ls st h
  | 12 => mm_o_bin (fun x y => some (x - y)) ls st h
  | 13 => mm_o_bin (fun x y => some (x * y)) ls st h
  | 14 => mm_o_bin (fun x y => if 0 ≤ x ∧ 0 < y then some (x / y) else none) ls st h
  | 15 => mm_o_bin (fun x y => if 0 ≤ x ∧ 0 < y then some (x % y) else none) ls st h
  | 16 => mm_o_bin (fun x y => if 0 ≤ x ∧ 0 ≤ y ∧ y < 31 then some (x * 2 ^ y.toNat) else none) ls st h
  | 17 => mm_o_bin (fun x y => if 0 ≤ x ∧ 0 ≤ y ∧ y < 31 then some (x / 2 ^ y.toNat) else none) ls st h
  | 18 => mm_o_bin (fun x y => some (mm_and x y)) ls st h
  | 19 => mm_o_bin (fun x y => some (mm_or x y)) ls st h
  | 20 => mm_o_iinc a b ls st h
  | 21 => match st with
    | .inl z :: st => some (ls, (mm_I z :: mm_I z :: st, (h, none)))
    | .inr (.inr r) :: st => some (ls, (.inr (.inr r) :: .inr (.inr r) :: st, (h, none)))
    | _ => none
  | 22 => match st with
    | .inl z :: .inr (.inr r) :: st => some (ls, (mm_I z :: .inr (.inr r) :: mm_I z :: .inr (.inr r) :: st, (h, none)))
    | _ => none
  | 23 => match st with
    | .inl _ :: st => some (ls, (st, (h, none)))
    | .inr (.inr _) :: st => some (ls, (st, (h, none)))
    | _ => none
  | 24 => some (ls, (st, (h, some a)))
  | 25 => mm_o_if (fun x => decide (x = 0)) a ls st h
  | 26 => mm_o_if (fun x => decide (¬ x = 0)) a ls st h
  | 27 => mm_o_if (fun x => decide (x < 0)) a ls st h
  | 28 => mm_o_if (fun x => decide (0 ≤ x)) a ls st h
  | 29 => mm_o_if (fun x => decide (0 < x)) a ls st h
  | 30 => mm_o_if (fun x => decide (x ≤ 0)) a ls st h
  | 31 => mm_o_icmp (fun x y => decide (x = y)) a ls st h
  | 32 => mm_o_icmp (fun x y => decide (¬ x = y)) a ls st h
  | 33 => mm_o_icmp (fun x y => decide (x < y)) a ls st h
  | 34 => mm_o_icmp (fun x y => decide (y ≤ x)) a ls st h
  | 35 => mm_o_icmp (fun x y => decide (y < x)) a ls st h
  | 36 => mm_o_icmp (fun x y => decide (x ≤ y)) a ls st h
  | 37 => mm_o_null true a ls st h
  | 38 => mm_o_null false a ls st h
  | 39 => some (ls, (mm_N :: st, (h, none)))
  | 40 => mm_o_get (fld a).1 (fld a).2 ls st h
  | 41 => mm_o_put (fld a).1 (fld a).2 ls st h
  | 42 => mm_o_putF (fld a).1 (fld a).2 ls st h
  | 43 => mm_o_iald ls st h
  | 44 => mm_o_iast ls st h
  | 47 => mm_o_aald ls st h
  | 48 => mm_o_aast ls st h
  | 49 => mm_o_alen ls st h
  | 50 => mm_push (10 + b.toNat) ((mm_fk b.toNat).map mm_df) ls st h
  | 51 => mm_o_newa 0 (mm_I 0) ls st h
  | 53 => mm_o_newa 2 mm_N ls st h
  | 55 => if mm_rng b then some (ls, (mm_I b :: st, (h, none))) else none
  | 57 => match st with
    | .inr (.inr (some _)) :: st => if st.length ≤ 4 then some (ls, (st, (h, none))) else none
    | _ => none
  | 58 => mm_o_max (fun x y => if x < y then y else x) ls st h
  | 59 => mm_o_max (fun x y => if y < x then y else x) ls st h
  | _ => none
abbrev mm_E : Type := Nat × (Nat × (Nat × Int))
abbrev mm_O : Type := Option mm_V ⊕ Nat
/-- a call: callee, how many arguments (the receiver with them), its locals, the receiver's kind (0: a static method) -/
abbrev mm_S : Type := Nat × (Nat × (Nat × Nat))
def mm_no2 (v : mm_V) : Bool := match v with
  | .inr (.inl _) => false
  | _ => true
def mm_rcv (kd : Nat) (args : List mm_V) (h : mm_H) : Bool := if kd = 0 then true else match args with
  | .inr (.inr (some r)) :: _ => decide ((h.1[r]?).map (·.1) = some kd)
  | _ => false
/-- what lies below a call's arguments: eight words at most -/
abbrev mm_rOK (rest : List mm_V) : Prop := rest.length ≤ 4 ∨ (rest.length ≤ 8 ∧ rest.all mm_no2 = true)
/-- code: the rows of a method; fld, site: what rows name; hand y E: what a method's handler of E answers, none where it has no handler; noH: a method without a table; sw: where a switch goes -/
def mm_run (code : Nat → Nat → Option mm_E) (fld : Nat → Nat × Nat) (site : Nat → mm_S) (hand : Nat → Nat → Option Int) (noH : Nat → Bool) (sw : Int → Nat) : Nat → Nat → Nat → mm_F → List mm_V → mm_H → Option (mm_O × mm_H)
  | 0, _, _, _, _, _ => none
  | n + 1, y, i, ls, st, h => match code y i with
    | none => none
    | some (_, (op, (a, b))) =>
      if op < 60 then
        if op = 56 then match st with
          | .inl x :: st => mm_run code fld site hand noH sw n y (sw x) ls st h
          | _ => none
        else match mm_op fld op a b ls st h with
        | none => none
        | some (ls', (st', (h', j))) => mm_run code fld site hand noH sw n y (j.getD (i + 1)) ls' st' h'
      else if op = 100 then match st with
        | [.inl z] => some (.inl (some (mm_I z)), h)
        | _ => none
      else if op = 101 then match st with
        | [.inl z] => if z = 0 ∨ z = 1 then some (.inl (some (mm_I z)), h) else none
        | _ => none
      else if op = 102 then match st with
        | [.inr (.inr (some r))] => some (.inl (some (mm_P r)), h)
        | _ => none
      else if op = 103 then match st with
        | [] => some (.inl none, h)
        | _ => none
      else if op = 104 then match st with
        | [] => some (.inr b.toNat, (h.1, (h.2.1 + 1, (h.2.2.1 + 6, h.2.2.2))))
        | _ => none
      else if op < 109 then
        let s := site a
        let args := (st.take s.2.1).reverse
        let rest := st.drop s.2.1
        if s.2.1 ≤ st.length ∧ mm_rOK rest ∧ args.all mm_no2 = true ∧ s.2.1 ≤ s.2.2.1 ∧ mm_rcv s.2.2.2 args h = true then
          match mm_run code fld site hand noH sw n s.1 0 (args.map some ++ List.replicate (s.2.2.1 - s.2.1) none) [] h with
          | none => none
          | some (.inl v, h') => mm_run code fld site hand noH sw n y (i + 1) ls (v.toList ++ rest) h'
          | some (.inr E, h') => if op = 107 ∨ op = 108 then none else match hand y E with
            | some z => some (.inl (some (mm_I z)), h')
            | none => if noH y then some (.inr E, h') else none
        else none
      else none
