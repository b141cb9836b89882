/-! every row of MM is the instruction that stands there -/
def mm_ins (op a : Nat) (b : Int) : Instr × Nat := match op with
  | 0 => (.iconst b, 1)
  | 1 => (.bipush b, 2)
  | 2 => (.sipush b, 3)
  | 3 => (.iload_n (Fin.ofNat 4 a), 1)
  | 4 => (.iload a, 2)
  | 5 => (.aload_n (Fin.ofNat 4 a), 1)
  | 6 => (.aload a, 2)
  | 7 => (.istore_n (Fin.ofNat 4 a), 1)
  | 8 => (.istore a, 2)
  | 9 => (.astore_n (Fin.ofNat 4 a), 1)
  | 10 => (.astore a, 2)
  | 11 => (.iadd, 1)
  | 12 => (.isub, 1)
  | 13 => (.imul, 1)
  | 14 => (.idiv, 1)
  | 15 => (.irem, 1)
  | 16 => (.ishl, 1)
  | 17 => (.ishr, 1)
  | 18 => (.iand, 1)
  | 19 => (.ior, 1)
  | 20 => (.iinc a b, 3)
  | 21 => (.dup, 1)
  | 22 => (.dup2, 1)
  | 23 => (.pop, 1)
  | 24 => (.goto b, 3)
  | 25 => (.ifCond .eq b, 3)
  | 26 => (.ifCond .ne b, 3)
  | 27 => (.ifCond .lt b, 3)
  | 28 => (.ifCond .ge b, 3)
  | 29 => (.ifCond .gt b, 3)
  | 30 => (.ifCond .le b, 3)
  | 31 => (.if_icmp .eq b, 3)
  | 32 => (.if_icmp .ne b, 3)
  | 33 => (.if_icmp .lt b, 3)
  | 34 => (.if_icmp .ge b, 3)
  | 35 => (.if_icmp .gt b, 3)
  | 36 => (.if_icmp .le b, 3)
  | 37 => (.ifnull b, 3)
  | 38 => (.ifnonnull b, 3)
  | 39 => (.aconst_null, 1)
  | 40 => (.getfield (mm_fd a).2.2, 3)
  | 41 => (.putfield (mm_fd a).2.2, 3)
  | 42 => (.putfield (mm_fd a).2.2, 3)
  | 43 => (.iaload, 1)
  | 44 => (.iastore, 1)
  | 47 => (.aaload, 1)
  | 48 => (.aastore, 1)
  | 49 => (.arraylength, 1)
  | 50 => (.new a, 3)
  | 51 => (.newarray .int, 2)
  | 53 => (.anewarray a, 3)
  | 55 => (.ldc a, 2)
  | 57 => (.invokespecial a, 3)
  | 58 => (.invokestatic a, 3)
  | 59 => (.invokestatic a, 3)
  | 100 => (.ireturn, 1)
  | 101 => (.ireturn, 1)
  | 102 => (.areturn, 1)
  | 103 => (.return_, 1)
  | 104 => (.new (mm_th a).1, 3)
  | 105 => (.invokevirtual (mm_sd a).2.2.1, 3)
  | 106 => (.invokestatic (mm_sd a).2.2.1, 3)
  | 107 => (.invokestatic (mm_sd a).2.2.1, 3)
  | 108 => (.invokespecial (mm_sd a).2.2.1, 3)
  | _ => (.nop, 1)
def mm_nx (y i : Nat) : Nat := match mm_code y i with
  | some q => q.1
  | none => 0
def mm_okB (y i : Nat) (q : mm_E) : Bool :=
  if q.2.1 = 111 then true else
  decide (decode (mm_by y) q.1 = .ok (mm_ins q.2.1 q.2.2.1 q.2.2.2)) &&
  (if q.2.1 = 24 ∨ q.2.1 = 56 ∨ (100 ≤ q.2.1 ∧ q.2.1 ≤ 104) then true else decide (mm_nx y (i + 1) = q.1 + (mm_ins q.2.1 q.2.2.1 q.2.2.2).2)) &&
  (if 24 ≤ q.2.1 ∧ q.2.1 ≤ 38 then decide ((q.1 : Int) + q.2.2.2 = (mm_nx y q.2.2.1 : Int)) else true) &&
  (if q.2.1 = 3 ∨ q.2.1 = 5 ∨ q.2.1 = 7 ∨ q.2.1 = 9 then decide (q.2.2.1 < 4) else true) &&
  (if 40 ≤ q.2.1 ∧ q.2.1 ≤ 42 then decide ((mm_fd q.2.2.1).2.1 = mm_own y ∧ q.2.2.1 < mm_fldT.length) else true) &&
  (if 105 ≤ q.2.1 ∧ q.2.1 ≤ 108 then decide ((mm_sd q.2.2.1).2.1 = mm_own y ∧ (mm_sd q.2.2.1).2.2.2 = q.2.1 ∧ q.2.2.1 < mm_siteT.length ∧ mm_nF (mm_sd q.2.2.1).1.1 + 1 ≤ mm_nF y ∧ 8 + (mm_mL (mm_sd q.2.2.1).1.1 + 11) + mm_nL (mm_sd q.2.2.1).1.1 ≤ mm_nL y) else true) &&
  (if 57 ≤ q.2.1 ∧ q.2.1 ≤ 59 then decide (1 ≤ mm_nF y ∧ 21 ≤ mm_nL y) else true) &&
  (if q.2.1 = 104 then decide (6 ≤ mm_nF y ∧ 82 ≤ mm_nL y ∧ q.2.2.1 < mm_thrT.length ∧ mm_own y = 4 ∧ (mm_th q.2.2.1).2.2.2.1 = q.2.2.2.toNat ∧ mm_hh y = [] ∧ decode (mm_by y) (q.1 + 3) = .ok (.dup, 1) ∧ decode (mm_by y) (q.1 + 4) = .ok (.ldc (mm_th q.2.2.1).2.1, 2) ∧ decode (mm_by y) (q.1 + 6) = .ok (.invokespecial (mm_th q.2.2.1).2.2.1, 3) ∧ decode (mm_by y) (q.1 + 9) = .ok (.athrow, 1)) else true) &&
  (if q.2.1 = 100 then decide (mm_rt y = some .int) else true) && (if q.2.1 = 101 then decide (mm_rt y = some .boolean) else true) && (if q.2.1 = 102 then decide (mm_rt y = some (.object RX3)) else true) && (if q.2.1 = 103 then decide (mm_rt y = none) else true)

set_option maxRecDepth 20000 in
theorem mm_ck_0 : ((mm_codeT.getD 0 []).zipIdx.all fun p => mm_okB 0 p.2 p.1) = true := by decide +kernel
set_option maxRecDepth 20000 in
theorem mm_ck_1 : ((mm_codeT.getD 1 []).zipIdx.all fun p => mm_okB 1 p.2 p.1) = true := by decide +kernel
set_option maxRecDepth 20000 in
theorem mm_ck_2 : ((mm_codeT.getD 2 []).zipIdx.all fun p => mm_okB 2 p.2 p.1) = true := by decide +kernel
set_option maxRecDepth 20000 in
theorem mm_ck_3 : ((mm_codeT.getD 3 []).zipIdx.all fun p => mm_okB 3 p.2 p.1) = true := by decide +kernel
set_option maxRecDepth 20000 in
theorem mm_ck_4 : ((mm_codeT.getD 4 []).zipIdx.all fun p => mm_okB 4 p.2 p.1) = true := by decide +kernel
set_option maxRecDepth 20000 in
theorem mm_ck_5 : ((mm_codeT.getD 5 []).zipIdx.all fun p => mm_okB 5 p.2 p.1) = true := by decide +kernel
set_option maxRecDepth 20000 in
theorem mm_ck_6 : ((mm_codeT.getD 6 []).zipIdx.all fun p => mm_okB 6 p.2 p.1) = true := by decide +kernel
set_option maxRecDepth 20000 in
theorem mm_ck_7 : ((mm_codeT.getD 7 []).zipIdx.all fun p => mm_okB 7 p.2 p.1) = true := by decide +kernel
set_option maxRecDepth 20000 in
theorem mm_ck_8 : ((mm_codeT.getD 8 []).zipIdx.all fun p => mm_okB 8 p.2 p.1) = true := by decide +kernel
set_option maxRecDepth 20000 in
theorem mm_ck_9 : ((mm_codeT.getD 9 []).zipIdx.all fun p => mm_okB 9 p.2 p.1) = true := by decide +kernel
set_option maxRecDepth 20000 in
theorem mm_ck_10 : ((mm_codeT.getD 10 []).zipIdx.all fun p => mm_okB 10 p.2 p.1) = true := by decide +kernel
set_option maxRecDepth 20000 in
theorem mm_ck_11 : ((mm_codeT.getD 11 []).zipIdx.all fun p => mm_okB 11 p.2 p.1) = true := by decide +kernel
set_option maxRecDepth 20000 in
theorem mm_ck_12 : ((mm_codeT.getD 12 []).zipIdx.all fun p => mm_okB 12 p.2 p.1) = true := by decide +kernel
set_option maxRecDepth 20000 in
theorem mm_ck_13 : ((mm_codeT.getD 13 []).zipIdx.all fun p => mm_okB 13 p.2 p.1) = true := by decide +kernel
set_option maxRecDepth 20000 in
theorem mm_ck_14 : ((mm_codeT.getD 14 []).zipIdx.all fun p => mm_okB 14 p.2 p.1) = true := by decide +kernel
set_option maxRecDepth 20000 in
theorem mm_ck_15 : ((mm_codeT.getD 15 []).zipIdx.all fun p => mm_okB 15 p.2 p.1) = true := by decide +kernel
set_option maxRecDepth 20000 in
theorem mm_ck_16 : ((mm_codeT.getD 16 []).zipIdx.all fun p => mm_okB 16 p.2 p.1) = true := by decide +kernel
set_option maxRecDepth 20000 in
theorem mm_ck_17 : ((mm_codeT.getD 17 []).zipIdx.all fun p => mm_okB 17 p.2 p.1) = true := by decide +kernel
set_option maxRecDepth 20000 in
theorem mm_ck_18 : ((mm_codeT.getD 18 []).zipIdx.all fun p => mm_okB 18 p.2 p.1) = true := by decide +kernel
set_option maxRecDepth 20000 in
theorem mm_ck_19 : ((mm_codeT.getD 19 []).zipIdx.all fun p => mm_okB 19 p.2 p.1) = true := by decide +kernel
set_option maxRecDepth 20000 in
theorem mm_ck_20 : ((mm_codeT.getD 20 []).zipIdx.all fun p => mm_okB 20 p.2 p.1) = true := by decide +kernel
set_option maxRecDepth 20000 in
theorem mm_ck_21 : ((mm_codeT.getD 21 []).zipIdx.all fun p => mm_okB 21 p.2 p.1) = true := by decide +kernel
set_option maxRecDepth 20000 in
theorem mm_ck_22 : ((mm_codeT.getD 22 []).zipIdx.all fun p => mm_okB 22 p.2 p.1) = true := by decide +kernel
set_option maxRecDepth 20000 in
theorem mm_ck_23 : ((mm_codeT.getD 23 []).zipIdx.all fun p => mm_okB 23 p.2 p.1) = true := by decide +kernel
set_option maxRecDepth 20000 in
theorem mm_ck_24 : ((mm_codeT.getD 24 []).zipIdx.all fun p => mm_okB 24 p.2 p.1) = true := by decide +kernel
set_option maxRecDepth 20000 in
theorem mm_ck_25 : ((mm_codeT.getD 25 []).zipIdx.all fun p => mm_okB 25 p.2 p.1) = true := by decide +kernel
set_option maxRecDepth 20000 in
theorem mm_ck_26 : ((mm_codeT.getD 26 []).zipIdx.all fun p => mm_okB 26 p.2 p.1) = true := by decide +kernel
set_option maxRecDepth 20000 in
theorem mm_ck_27 : ((mm_codeT.getD 27 []).zipIdx.all fun p => mm_okB 27 p.2 p.1) = true := by decide +kernel
set_option maxRecDepth 20000 in
theorem mm_ck_28 : ((mm_codeT.getD 28 []).zipIdx.all fun p => mm_okB 28 p.2 p.1) = true := by decide +kernel
set_option maxRecDepth 20000 in
theorem mm_ck_29 : ((mm_codeT.getD 29 []).zipIdx.all fun p => mm_okB 29 p.2 p.1) = true := by decide +kernel
set_option maxRecDepth 20000 in
theorem mm_ck_30 : ((mm_codeT.getD 30 []).zipIdx.all fun p => mm_okB 30 p.2 p.1) = true := by decide +kernel
set_option maxRecDepth 20000 in
theorem mm_ck_31 : ((mm_codeT.getD 31 []).zipIdx.all fun p => mm_okB 31 p.2 p.1) = true := by decide +kernel
set_option maxRecDepth 20000 in
theorem mm_ck_32 : ((mm_codeT.getD 32 []).zipIdx.all fun p => mm_okB 32 p.2 p.1) = true := by decide +kernel
set_option maxRecDepth 20000 in
theorem mm_ck_33 : ((mm_codeT.getD 33 []).zipIdx.all fun p => mm_okB 33 p.2 p.1) = true := by decide +kernel
set_option maxRecDepth 20000 in
theorem mm_ck_34 : ((mm_codeT.getD 34 []).zipIdx.all fun p => mm_okB 34 p.2 p.1) = true := by decide +kernel
set_option maxRecDepth 20000 in
theorem mm_ck_35 : ((mm_codeT.getD 35 []).zipIdx.all fun p => mm_okB 35 p.2 p.1) = true := by decide +kernel
set_option maxRecDepth 20000 in
theorem mm_ck_36 : ((mm_codeT.getD 36 []).zipIdx.all fun p => mm_okB 36 p.2 p.1) = true := by decide +kernel
set_option maxRecDepth 20000 in
theorem mm_ck_37 : ((mm_codeT.getD 37 []).zipIdx.all fun p => mm_okB 37 p.2 p.1) = true := by decide +kernel
set_option maxRecDepth 20000 in
theorem mm_ck_38 : ((mm_codeT.getD 38 []).zipIdx.all fun p => mm_okB 38 p.2 p.1) = true := by decide +kernel
set_option maxRecDepth 20000 in
theorem mm_ck_39 : ((mm_codeT.getD 39 []).zipIdx.all fun p => mm_okB 39 p.2 p.1) = true := by decide +kernel
set_option maxRecDepth 20000 in
theorem mm_ck_40 : ((mm_codeT.getD 40 []).zipIdx.all fun p => mm_okB 40 p.2 p.1) = true := by decide +kernel
set_option maxRecDepth 20000 in
theorem mm_ck_41 : ((mm_codeT.getD 41 []).zipIdx.all fun p => mm_okB 41 p.2 p.1) = true := by decide +kernel
set_option maxRecDepth 20000 in
theorem mm_ck_42 : ((mm_codeT.getD 42 []).zipIdx.all fun p => mm_okB 42 p.2 p.1) = true := by decide +kernel
set_option maxRecDepth 20000 in
theorem mm_ck_43 : ((mm_codeT.getD 43 []).zipIdx.all fun p => mm_okB 43 p.2 p.1) = true := by decide +kernel
set_option maxRecDepth 20000 in
theorem mm_ck_44 : ((mm_codeT.getD 44 []).zipIdx.all fun p => mm_okB 44 p.2 p.1) = true := by decide +kernel
set_option maxRecDepth 20000 in
theorem mm_ck_45 : ((mm_codeT.getD 45 []).zipIdx.all fun p => mm_okB 45 p.2 p.1) = true := by decide +kernel
set_option maxRecDepth 20000 in
theorem mm_ck_46 : ((mm_codeT.getD 46 []).zipIdx.all fun p => mm_okB 46 p.2 p.1) = true := by decide +kernel
set_option maxRecDepth 20000 in
theorem mm_ck_47 : ((mm_codeT.getD 47 []).zipIdx.all fun p => mm_okB 47 p.2 p.1) = true := by decide +kernel
set_option maxRecDepth 20000 in
theorem mm_ck_48 : ((mm_codeT.getD 48 []).zipIdx.all fun p => mm_okB 48 p.2 p.1) = true := by decide +kernel
set_option maxRecDepth 20000 in
theorem mm_ck_49 : ((mm_codeT.getD 49 []).zipIdx.all fun p => mm_okB 49 p.2 p.1) = true := by decide +kernel
set_option maxRecDepth 20000 in
theorem mm_ck_50 : ((mm_codeT.getD 50 []).zipIdx.all fun p => mm_okB 50 p.2 p.1) = true := by decide +kernel
set_option maxRecDepth 20000 in
theorem mm_ck_51 : ((mm_codeT.getD 51 []).zipIdx.all fun p => mm_okB 51 p.2 p.1) = true := by decide +kernel
set_option maxRecDepth 20000 in
theorem mm_ck_52 : ((mm_codeT.getD 52 []).zipIdx.all fun p => mm_okB 52 p.2 p.1) = true := by decide +kernel
set_option maxRecDepth 20000 in
theorem mm_ck_53 : ((mm_codeT.getD 53 []).zipIdx.all fun p => mm_okB 53 p.2 p.1) = true := by decide +kernel
set_option maxRecDepth 20000 in
theorem mm_ck_54 : ((mm_codeT.getD 54 []).zipIdx.all fun p => mm_okB 54 p.2 p.1) = true := by decide +kernel
set_option maxRecDepth 20000 in
theorem mm_ck_55 : ((mm_codeT.getD 55 []).zipIdx.all fun p => mm_okB 55 p.2 p.1) = true := by decide +kernel
set_option maxRecDepth 20000 in
theorem mm_ck_56 : ((mm_codeT.getD 56 []).zipIdx.all fun p => mm_okB 56 p.2 p.1) = true := by decide +kernel
set_option maxRecDepth 20000 in
theorem mm_ck_57 : ((mm_codeT.getD 57 []).zipIdx.all fun p => mm_okB 57 p.2 p.1) = true := by decide +kernel
set_option maxRecDepth 20000 in
theorem mm_ck_58 : ((mm_codeT.getD 58 []).zipIdx.all fun p => mm_okB 58 p.2 p.1) = true := by decide +kernel
set_option maxRecDepth 20000 in
theorem mm_ck_59 : ((mm_codeT.getD 59 []).zipIdx.all fun p => mm_okB 59 p.2 p.1) = true := by decide +kernel
set_option maxRecDepth 20000 in
theorem mm_ck_60 : ((mm_codeT.getD 60 []).zipIdx.all fun p => mm_okB 60 p.2 p.1) = true := by decide +kernel
set_option maxRecDepth 20000 in
theorem mm_ck_61 : ((mm_codeT.getD 61 []).zipIdx.all fun p => mm_okB 61 p.2 p.1) = true := by decide +kernel
set_option maxRecDepth 20000 in
theorem mm_ck_62 : ((mm_codeT.getD 62 []).zipIdx.all fun p => mm_okB 62 p.2 p.1) = true := by decide +kernel
set_option maxRecDepth 20000 in
theorem mm_ck_63 : ((mm_codeT.getD 63 []).zipIdx.all fun p => mm_okB 63 p.2 p.1) = true := by decide +kernel
set_option maxRecDepth 20000 in
theorem mm_ck_64 : ((mm_codeT.getD 64 []).zipIdx.all fun p => mm_okB 64 p.2 p.1) = true := by decide +kernel
set_option maxRecDepth 20000 in
theorem mm_ck_65 : ((mm_codeT.getD 65 []).zipIdx.all fun p => mm_okB 65 p.2 p.1) = true := by decide +kernel
set_option maxRecDepth 20000 in
theorem mm_ck_66 : ((mm_codeT.getD 66 []).zipIdx.all fun p => mm_okB 66 p.2 p.1) = true := by decide +kernel
set_option maxRecDepth 20000 in
theorem mm_ck_67 : ((mm_codeT.getD 67 []).zipIdx.all fun p => mm_okB 67 p.2 p.1) = true := by decide +kernel
set_option maxRecDepth 20000 in
theorem mm_ck_68 : ((mm_codeT.getD 68 []).zipIdx.all fun p => mm_okB 68 p.2 p.1) = true := by decide +kernel
set_option maxRecDepth 20000 in
theorem mm_ck_69 : ((mm_codeT.getD 69 []).zipIdx.all fun p => mm_okB 69 p.2 p.1) = true := by decide +kernel
set_option maxRecDepth 20000 in
theorem mm_ck_70 : ((mm_codeT.getD 70 []).zipIdx.all fun p => mm_okB 70 p.2 p.1) = true := by decide +kernel
set_option maxRecDepth 20000 in
theorem mm_ck_71 : ((mm_codeT.getD 71 []).zipIdx.all fun p => mm_okB 71 p.2 p.1) = true := by decide +kernel
set_option maxRecDepth 20000 in
theorem mm_ck_72 : ((mm_codeT.getD 72 []).zipIdx.all fun p => mm_okB 72 p.2 p.1) = true := by decide +kernel
set_option maxRecDepth 20000 in
theorem mm_ck_73 : ((mm_codeT.getD 73 []).zipIdx.all fun p => mm_okB 73 p.2 p.1) = true := by decide +kernel
set_option maxRecDepth 20000 in
theorem mm_ck_74 : ((mm_codeT.getD 74 []).zipIdx.all fun p => mm_okB 74 p.2 p.1) = true := by decide +kernel
set_option maxRecDepth 20000 in
theorem mm_ck_75 : ((mm_codeT.getD 75 []).zipIdx.all fun p => mm_okB 75 p.2 p.1) = true := by decide +kernel
set_option maxRecDepth 20000 in
theorem mm_ck_76 : ((mm_codeT.getD 76 []).zipIdx.all fun p => mm_okB 76 p.2 p.1) = true := by decide +kernel
set_option maxRecDepth 20000 in
theorem mm_ck_77 : ((mm_codeT.getD 77 []).zipIdx.all fun p => mm_okB 77 p.2 p.1) = true := by decide +kernel
set_option maxRecDepth 20000 in
theorem mm_ck_78 : ((mm_codeT.getD 78 []).zipIdx.all fun p => mm_okB 78 p.2 p.1) = true := by decide +kernel
set_option maxRecDepth 20000 in
theorem mm_ck_79 : ((mm_codeT.getD 79 []).zipIdx.all fun p => mm_okB 79 p.2 p.1) = true := by decide +kernel
set_option maxRecDepth 20000 in
theorem mm_ck_80 : ((mm_codeT.getD 80 []).zipIdx.all fun p => mm_okB 80 p.2 p.1) = true := by decide +kernel
set_option maxRecDepth 20000 in
theorem mm_ck_81 : ((mm_codeT.getD 81 []).zipIdx.all fun p => mm_okB 81 p.2 p.1) = true := by decide +kernel
set_option maxRecDepth 20000 in
theorem mm_ck_82 : ((mm_codeT.getD 82 []).zipIdx.all fun p => mm_okB 82 p.2 p.1) = true := by decide +kernel
set_option maxRecDepth 20000 in
theorem mm_ck_83 : ((mm_codeT.getD 83 []).zipIdx.all fun p => mm_okB 83 p.2 p.1) = true := by decide +kernel
set_option maxRecDepth 20000 in
theorem mm_ckl_0 : (((mm_codeT.getD 84 []).zipIdx.drop 0).take 80).all (fun p => mm_okB 84 p.2 p.1) = true := by decide +kernel
set_option maxRecDepth 20000 in
theorem mm_ckl_1 : (((mm_codeT.getD 84 []).zipIdx.drop 80).take 80).all (fun p => mm_okB 84 p.2 p.1) = true := by decide +kernel
theorem mm_cut {α : Type} (f : α → Bool) (l : List α) (n : Nat) (h1 : (l.take n).all f = true) (h2 : (l.drop n).all f = true) : l.all f = true := by
  rw [← List.take_append_drop n l, List.all_append, h1, h2]
  rfl
set_option maxRecDepth 20000 in
theorem mm_ck_84 : ((mm_codeT.getD 84 []).zipIdx.all fun p => mm_okB 84 p.2 p.1) = true := by
  have e : ∀ j : Nat, ((mm_codeT.getD 84 []).zipIdx.drop j).drop 80 = (mm_codeT.getD 84 []).zipIdx.drop (j + 80) := fun j => by rw [List.drop_drop]
  have z : ((mm_codeT.getD 84 []).zipIdx.drop 160) = [] := List.drop_eq_nil_of_le (by decide +kernel)
  have h1 : ((mm_codeT.getD 84 []).zipIdx.drop 80).all (fun p => mm_okB 84 p.2 p.1) = true := mm_cut _ _ 80 mm_ckl_1 (by rw [e]; rw [z]; rfl)
  have h0 : ((mm_codeT.getD 84 []).zipIdx.drop 0).all (fun p => mm_okB 84 p.2 p.1) = true := mm_cut _ _ 80 mm_ckl_0 (by rw [e]; exact h1)
  rw [List.drop_zero] at h0
  exact h0
theorem mm_ck_s0 : ∀ a, a < 0 → ((mm_codeT.getD a []).zipIdx.all fun p => mm_okB a p.2 p.1) = true := lt_0
theorem mm_ck_s20 : ∀ a, a < 20 → ((mm_codeT.getD a []).zipIdx.all fun p => mm_okB a p.2 p.1) = true := lt_s (lt_s (lt_s (lt_s (lt_s (lt_s (lt_s (lt_s (lt_s (lt_s (lt_s (lt_s (lt_s (lt_s (lt_s (lt_s (lt_s (lt_s (lt_s (lt_s (mm_ck_s0) mm_ck_0) mm_ck_1) mm_ck_2) mm_ck_3) mm_ck_4) mm_ck_5) mm_ck_6) mm_ck_7) mm_ck_8) mm_ck_9) mm_ck_10) mm_ck_11) mm_ck_12) mm_ck_13) mm_ck_14) mm_ck_15) mm_ck_16) mm_ck_17) mm_ck_18) mm_ck_19
theorem mm_ck_s40 : ∀ a, a < 40 → ((mm_codeT.getD a []).zipIdx.all fun p => mm_okB a p.2 p.1) = true := lt_s (lt_s (lt_s (lt_s (lt_s (lt_s (lt_s (lt_s (lt_s (lt_s (lt_s (lt_s (lt_s (lt_s (lt_s (lt_s (lt_s (lt_s (lt_s (lt_s (mm_ck_s20) mm_ck_20) mm_ck_21) mm_ck_22) mm_ck_23) mm_ck_24) mm_ck_25) mm_ck_26) mm_ck_27) mm_ck_28) mm_ck_29) mm_ck_30) mm_ck_31) mm_ck_32) mm_ck_33) mm_ck_34) mm_ck_35) mm_ck_36) mm_ck_37) mm_ck_38) mm_ck_39
theorem mm_ck_s60 : ∀ a, a < 60 → ((mm_codeT.getD a []).zipIdx.all fun p => mm_okB a p.2 p.1) = true := lt_s (lt_s (lt_s (lt_s (lt_s (lt_s (lt_s (lt_s (lt_s (lt_s (lt_s (lt_s (lt_s (lt_s (lt_s (lt_s (lt_s (lt_s (lt_s (lt_s (mm_ck_s40) mm_ck_40) mm_ck_41) mm_ck_42) mm_ck_43) mm_ck_44) mm_ck_45) mm_ck_46) mm_ck_47) mm_ck_48) mm_ck_49) mm_ck_50) mm_ck_51) mm_ck_52) mm_ck_53) mm_ck_54) mm_ck_55) mm_ck_56) mm_ck_57) mm_ck_58) mm_ck_59
theorem mm_ck_s80 : ∀ a, a < 80 → ((mm_codeT.getD a []).zipIdx.all fun p => mm_okB a p.2 p.1) = true := lt_s (lt_s (lt_s (lt_s (lt_s (lt_s (lt_s (lt_s (lt_s (lt_s (lt_s (lt_s (lt_s (lt_s (lt_s (lt_s (lt_s (lt_s (lt_s (lt_s (mm_ck_s60) mm_ck_60) mm_ck_61) mm_ck_62) mm_ck_63) mm_ck_64) mm_ck_65) mm_ck_66) mm_ck_67) mm_ck_68) mm_ck_69) mm_ck_70) mm_ck_71) mm_ck_72) mm_ck_73) mm_ck_74) mm_ck_75) mm_ck_76) mm_ck_77) mm_ck_78) mm_ck_79
theorem mm_ck_s85 : ∀ a, a < 85 → ((mm_codeT.getD a []).zipIdx.all fun p => mm_okB a p.2 p.1) = true := lt_s (lt_s (lt_s (lt_s (lt_s (mm_ck_s80) mm_ck_80) mm_ck_81) mm_ck_82) mm_ck_83) mm_ck_84
theorem mm_okA {y i : Nat} {q : mm_E} (h : mm_code y i = some q) : mm_okB y i q = true ∧ y < 85 := by
  unfold mm_code at h
  have hl : mm_codeT.length = 85 := by decide +kernel
  cases hy : mm_codeT[y]? with
  | none => rw [hy] at h; cases h
  | some l =>
    rw [hy] at h
    have hy1 : y < mm_codeT.length := (List.getElem?_eq_some_iff.mp hy).1
    rw [hl] at hy1
    have h1 := mm_ck_s85 y hy1
    have e : mm_codeT.getD y [] = l := by rw [List.getD_eq_getElem?_getD, hy]; rfl
    rw [e, List.all_eq_true] at h1
    refine ⟨h1 (q, i) ?_, hy1⟩
    rw [List.mem_zipIdx_iff_getElem?]
    exact h
