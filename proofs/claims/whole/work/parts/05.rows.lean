/-! every row of MM is the instruction that stands there -/
def mm_ins (op a : Nat) (b : Int) : Instr × Nat := match op with
  | 0 => (.iconst b, 1)
  | 1 => (.bipush b, 2)
  | 2 => (.sipush b, 3)
  | 3 => (.iload_n (Fin.ofNat 4 a), 1)
  | 4 => (.iload a, 2)
  | 5 => (.aload_n (Fin.ofNat 4 a), 1)
  | 6 => (.aload a, 2)
  | 7 => (.istore_n (Fin.ofNat 4 a), 1)
  | 8 => (.istore a, 2)
  | 9 => (.astore_n (Fin.ofNat 4 a), 1)
  | 10 => (.astore a, 2)
  | 11 => (.iadd, 1)
  | 12 => (.isub, 1)
  | 13 => (.imul, 1)
  | 14 => (.idiv, 1)
  | 15 => (.irem, 1)
  | 16 => (.ishl, 1)
  | 17 => (.ishr, 1)
  | 18 => (.iand, 1)
  | 19 => (.ior, 1)
  | 20 => (.iinc a b, 3)
  | 21 => (.dup, 1)
  | 22 => (.dup2, 1)
  | 23 => (.pop, 1)
  | 24 => (.goto b, 3)
  | 25 => (.ifCond .eq b, 3)
  | 26 => (.ifCond .ne b, 3)
  | 27 => (.ifCond .lt b, 3)
  | 28 => (.ifCond .ge b, 3)
  | 29 => (.ifCond .gt b, 3)
  | 30 => (.ifCond .le b, 3)
  | 31 => (.if_icmp .eq b, 3)
  | 32 => (.if_icmp .ne b, 3)
  | 33 => (.if_icmp .lt b, 3)
  | 34 => (.if_icmp .ge b, 3)
  | 35 => (.if_icmp .gt b, 3)
  | 36 => (.if_icmp .le b, 3)
  | 37 => (.ifnull b, 3)
  | 38 => (.ifnonnull b, 3)
  | 39 => (.aconst_null, 1)
  | 40 => (.getfield (mm_fd a).2.2, 3)
  | 41 => (.putfield (mm_fd a).2.2, 3)
  | 42 => (.putfield (mm_fd a).2.2, 3)
  | 43 => (.iaload, 1)
  | 44 => (.iastore, 1)
  | 45 => (.laload, 1)
  | 46 => (.lastore, 1)
  | 47 => (.aaload, 1)
  | 48 => (.aastore, 1)
  | 49 => (.arraylength, 1)
  | 50 => (.new a, 3)
  | 51 => (.newarray .int, 2)
  | 52 => (.newarray .long, 2)
  | 53 => (.anewarray a, 3)
  | 54 => (.i2l, 1)
  | 55 => (.lcmp, 1)
  | 56 => (.tableswitch 1136 0 27 mm_swO.toArray, 125)
  | 57 => (.invokespecial a, 3)
  | 58 => (.invokestatic a, 3)
  | 59 => (.invokestatic a, 3)
  | 100 => (.ireturn, 1)
  | 101 => (.ireturn, 1)
  | 102 => (.areturn, 1)
  | 103 => (.return_, 1)
  | 104 => (.new (mm_th a).1, 3)
  | 105 => (.invokevirtual (mm_sd a).2.2.1, 3)
  | 106 => (.invokestatic (mm_sd a).2.2.1, 3)
  | 107 => (.invokestatic (mm_sd a).2.2.1, 3)
  | 108 => (.invokespecial (mm_sd a).2.2.1, 3)
  | _ => (.nop, 1)
def mm_nx (y i : Nat) : Nat := match mm_code y i with
  | some q => q.1
  | none => 0
def mm_okB (y i : Nat) (q : mm_E) : Bool :=
  if q.2.1 = 111 then true else
  decide (decode (mm_by y) q.1 = .ok (mm_ins q.2.1 q.2.2.1 q.2.2.2)) &&
  (if q.2.1 = 24 ∨ q.2.1 = 56 ∨ (100 ≤ q.2.1 ∧ q.2.1 ≤ 104) then true else decide (mm_nx y (i + 1) = q.1 + (mm_ins q.2.1 q.2.2.1 q.2.2.2).2)) &&
  (if 24 ≤ q.2.1 ∧ q.2.1 ≤ 38 then decide ((q.1 : Int) + q.2.2.2 = (mm_nx y q.2.2.1 : Int)) else true) &&
  (if q.2.1 = 3 ∨ q.2.1 = 5 ∨ q.2.1 = 7 ∨ q.2.1 = 9 then decide (q.2.2.1 < 4) else true) &&
  (if 40 ≤ q.2.1 ∧ q.2.1 ≤ 42 then decide ((mm_fd q.2.2.1).2.1 = mm_own y ∧ q.2.2.1 < mm_fldT.length) else true) &&
  (if 105 ≤ q.2.1 ∧ q.2.1 ≤ 108 then decide ((mm_sd q.2.2.1).2.1 = mm_own y ∧ (mm_sd q.2.2.1).2.2.2 = q.2.1 ∧ q.2.2.1 < mm_siteT.length ∧ mm_nF (mm_sd q.2.2.1).1.1 + 1 ≤ mm_nF y ∧ 8 + (mm_mL (mm_sd q.2.2.1).1.1 + 11) + mm_nL (mm_sd q.2.2.1).1.1 ≤ mm_nL y) else true) &&
  (if 57 ≤ q.2.1 ∧ q.2.1 ≤ 59 then decide (1 ≤ mm_nF y ∧ 21 ≤ mm_nL y) else true) &&
  (if q.2.1 = 104 then decide (6 ≤ mm_nF y ∧ 82 ≤ mm_nL y ∧ q.2.2.1 < mm_thrT.length ∧ mm_own y = 4 ∧ (mm_th q.2.2.1).2.2.2.1 = q.2.2.2.toNat ∧ mm_hh y = [] ∧ decode (mm_by y) (q.1 + 3) = .ok (.dup, 1) ∧ decode (mm_by y) (q.1 + 4) = .ok (.ldc (mm_th q.2.2.1).2.1, 2) ∧ decode (mm_by y) (q.1 + 6) = .ok (.invokespecial (mm_th q.2.2.1).2.2.1, 3) ∧ decode (mm_by y) (q.1 + 9) = .ok (.athrow, 1)) else true) &&
  (if q.2.1 = 100 then decide (mm_rt y = some .int) else true) && (if q.2.1 = 101 then decide (mm_rt y = some .boolean) else true) && (if q.2.1 = 102 then decide (mm_rt y = some (.object RX3)) else true) && (if q.2.1 = 103 then decide (mm_rt y = none) else true)

theorem mm_okA {y i : Nat} {q : mm_E} (h : mm_code y i = some q) : mm_okB y i q = true ∧ y < 140 := sorry
