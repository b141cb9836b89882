/-! the tables' words that rows need: their places -/
def mm_w : List Cond := lw_tbl.filter goodWord
theorem mm_wi {w : Cond} (i : Nat) (h : lw_tbl[i]? = some w) (hg : goodWord w = true) : w ∈ mm_w := List.mem_filter.mpr ⟨List.mem_of_getElem? h, hg⟩
theorem mm_w_good : GoodIn lw_tbl mm_w := fun w h => ⟨(List.mem_filter.mp h).1, good_of_word (List.mem_filter.mp h).2⟩
theorem mm_ww : GoodIn mm_w mm_w := fun w h => ⟨h, good_of_word (List.mem_filter.mp h).2⟩
theorem mm_wl {ws : List Cond} (is : List Nat) (h : ws = is.filterMap (fun i => lw_tbl[i]?)) (hg : ws.all goodWord = true) : ∀ w ∈ ws, w ∈ mm_w := by
  intro w hw
  refine List.mem_filter.mpr ⟨?_, List.all_eq_true.mp hg w hw⟩
  rw [h] at hw
  obtain ⟨i, -, hi⟩ := List.mem_filterMap.mp hw
  exact List.mem_of_getElem? hi
def mm_cl (ci : Nat) : vw_C := vwCl.getD ci (RX0, TX0, 7)
def mm_ty (ci : Nat) : Nat → FieldType := match ci with
  | 0 => tyX0
  | 1 => tyX1
  | 2 => tyX2
  | 3 => tyX3
  | 4 => tyX4
  | _ => tyX5
def mm_kOK (ci k : Nat) : Bool := match (mm_fk ci)[k]? with
  | some 0 => decide (mm_ty ci k = .int) && !((mm_cl ci).2.1 k).2.2.2
  | some 1 => decide (mm_ty ci k = .boolean) && !((mm_cl ci).2.1 k).2.2.2
  | some 2 => (match mm_ty ci k with
    | .object _ => true
    | .array _ => true
    | _ => false) && ((mm_cl ci).2.1 k).2.2.2
  | _ => false
def mm_okC (ci : Nat) : Prop := vwCl[ci]? = some (mm_cl ci) ∧ (∀ w ∈ u_ws (mm_cl ci).1 (mm_cl ci).2.1 (mm_cl ci).2.2, w ∈ mm_w) ∧ (∀ k, k < (mm_cl ci).2.2 → parseFieldDescriptor ((mm_cl ci).2.1 k).2.2.1 = some (mm_ty ci k)) ∧ (∀ a, a < (mm_cl ci).2.2 → ∀ b, b < (mm_cl ci).2.2 → a ≠ b → ((mm_cl ci).2.1 a).2.1 ≠ ((mm_cl ci).2.1 b).2.1) ∧ (mm_fk ci).length = (mm_cl ci).2.2 ∧ (∀ k, k < (mm_cl ci).2.2 → mm_kOK ci k = true ∧ ((mm_cl ci).2.1 k).1 = (mm_cl ci).1) ∧ (mm_cl ci).1 = mm_cn ci
theorem mm_CA : ∀ ci, ci < 6 → mm_okC ci := sorry
def mm_okF (a : Nat) : Prop := (mm_fd a).1.1 < 6 ∧ (mm_fd a).1.2 < (mm_cl (mm_fd a).1.1).2.2 ∧ Cond.fieldLink (mm_cn (mm_fd a).2.1) (mm_fd a).2.2 (mm_cl (mm_fd a).1.1).1 ((mm_cl (mm_fd a).1.1).2.1 (mm_fd a).1.2).2.1 ((mm_cl (mm_fd a).1.1).2.1 (mm_fd a).1.2).2.2.1 ∈ mm_w
theorem mm_FA {a : Nat} (h : a < mm_fldT.length) : mm_okF a := sorry
/-- a method but the law: its code is a word, its class is its own -/
def mm_okM (y : Nat) : Prop := (mm_hh y = [] → Cond.code (mm_yn y) (mm_by y) (mm_mL y) (mm_rt y) ∈ mm_w) ∧ (¬ mm_hh y = [] → Cond.codeWith (mm_yn y) (mm_by y) (mm_mL y) (mm_rt y) (mm_hh y) ∈ mm_w) ∧ plainName (mm_yn y).cls = true ∧ Cond.initialized (mm_yn y).cls ∈ mm_w ∧ mm_cn (mm_own y) = (mm_yn y).cls ∧ (mm_yn y).cls ≠ "java/lang/invoke/MethodHandle" ∧ (mm_yn y).cls ≠ "java/lang/invoke/VarHandle" ∧ mm_own y < 7
theorem mm_MA {y : Nat} (h : y < 139) : mm_okM y := sorry
def mm_okS (a : Nat) : Prop := (mm_sd a).1.1 < 139 ∧ (mm_sd a).1.2.2.1 = mm_mL (mm_sd a).1.1 ∧
  (parseMethodDescriptor (mm_yn (mm_sd a).1.1).desc).map (fun d => d.parameters.length) = some ((mm_sd a).1.2.1 - if (mm_sd a).2.2.2 = 105 ∨ (mm_sd a).2.2.2 = 108 then 1 else 0) ∧
  (¬ (mm_sd a).2.2.2 = 107 → Cond.methodLink (mm_cn (mm_sd a).2.1) (mm_sd a).2.2.1 (mm_yn (mm_sd a).1.1) ∈ mm_w) ∧
  ((mm_sd a).2.2.2 = 105 ∨ (mm_sd a).2.2.2 = 108 → Cond.instanceMethod (mm_yn (mm_sd a).1.1) ∈ mm_w ∧ 0 < (mm_sd a).1.2.1 ∧ (mm_sd a).1.2.2.2 = 10 + mm_own (mm_sd a).1.1 ∧ mm_own (mm_sd a).1.1 < 6) ∧
  ((mm_sd a).2.2.2 = 106 ∨ (mm_sd a).2.2.2 = 107 → Cond.static (mm_yn (mm_sd a).1.1) ∈ mm_w) ∧
  ((mm_sd a).2.2.2 = 105 → Cond.selects (mm_yn (mm_sd a).1.1).cls (mm_yn (mm_sd a).1.1) (mm_yn (mm_sd a).1.1) ∈ mm_w) ∧
  ((mm_sd a).2.2.2 = 108 → (mm_yn (mm_sd a).1.1).name = "<init>" ∧ mm_rt (mm_sd a).1.1 = none ∧ mm_hh (mm_sd a).1.1 = []) ∧
  ((mm_sd a).2.2.2 = 107 → mm_hh (mm_sd a).1.1 = [] ∧ (mm_yn (mm_sd a).1.1) = yX4_within)
theorem mm_SA {a : Nat} (h : a < mm_siteT.length) : mm_okS a := sorry
def mm_newT : List (Nat × (Nat × (Nat × Int))) := [(0, 57, 3, 0), (0, 50, 9, 1), (1, 57, 3, 0), (2, 57, 3, 0), (2, 50, 9, 0), (2, 58, 45, 0), (2, 59, 54, 0), (3, 57, 3, 0), (3, 58, 9, 0), (4, 57, 3, 0), (4, 53, 9, 0), (4, 50, 9, 3), (4, 50, 22, 2), (5, 57, 1, 0), (6, 50, 8, 4), (6, 50, 65, 5)]
def mm_isN (op : Nat) : Bool := op == 50 || op == 53 || op == 57 || op == 58 || op == 59
theorem mm_nA {y i : Nat} {q : mm_E} (h : mm_code y i = some q) (hn : mm_isN q.2.1 = true) : (mm_own y, q.2) ∈ mm_newT := sorry
def mm_okN (q : Nat × (Nat × (Nat × Int))) : Prop :=
  (q.2.1 = 50 → q.2.2.2.toNat < 6 ∧ Cond.classLink (mm_cn q.1) q.2.2.1 (mm_cl q.2.2.2.toNat).1 ∈ mm_w ∧ Cond.instantiable (mm_cl q.2.2.2.toNat).1 (mm_cl q.2.2.2.toNat).2.2 ∈ mm_w ∧ Cond.initialized (mm_cl q.2.2.2.toNat).1 ∈ mm_w) ∧
  (q.2.1 = 53 → Cond.classLink (mm_cn q.1) q.2.2.1 RX3 ∈ mm_w) ∧
  (q.2.1 = 57 → Cond.methodLink (mm_cn q.1) q.2.2.1 objectInit ∈ mm_w) ∧
  (q.2.1 = 58 → Cond.methodLink (mm_cn q.1) q.2.2.1 Lib.Math.max.name ∈ mm_w) ∧
  (q.2.1 = 59 → Cond.methodLink (mm_cn q.1) q.2.2.1 Lib.Math.min.name ∈ mm_w)
theorem mm_NA : ∀ q ∈ mm_newT, mm_okN q := sorry
theorem mm_wOI : Cond.instanceMethod objectInit ∈ mm_w ∧ Cond.code objectInit ⟨#[0xb1]⟩ 1 none ∈ mm_w := sorry
theorem mm_w_max : Cond.static Lib.Math.max.name ∈ mm_w ∧ Cond.code Lib.Math.max.name Lib.Math.max.code 2 (some .int) ∈ mm_w := sorry
theorem mm_w_min : Cond.static Lib.Math.min.name ∈ mm_w ∧ Cond.code Lib.Math.min.name Lib.Math.min.code 2 (some .int) ∈ mm_w := sorry
theorem mm_wMath : Cond.initialized "java/lang/Math" ∈ mm_w := sorry
theorem mm_wAr : Cond.arrayClass .int ∈ mm_w ∧ Cond.arrayClass .long ∈ mm_w := sorry
def mm_nms : List String := ["java/lang/RuntimeException", "java/lang/Exception"]
def mm_bad (E : String) : List Cond := [Cond.castable E E, Cond.declares (Bundle.initS "java/lang/RuntimeException"), Cond.declares (Bundle.initS "java/lang/Exception"), Cond.declares (Bundle.initS "java/lang/Throwable")]
def mm_okT (a : Nat) : Prop := (mm_th a).2.2.2.1 < 3 ∧ Cond.classLink RX4 (mm_th a).1 (mm_en (mm_th a).2.2.2.1) ∈ mm_w ∧ Cond.initialized (mm_en (mm_th a).2.2.2.1) ∈ mm_w ∧ (∀ w ∈ (vx_atS RX4 (mm_th a).2.2.1 (mm_en (mm_th a).2.2.2.1) mm_nms).filter goodWord, w ∈ mm_w) ∧ (∀ w ∈ (vx_atS RX4 (mm_th a).2.2.1 (mm_en (mm_th a).2.2.2.1) mm_nms).filter (fun w => !goodWord w), w ∈ mm_bad (mm_en (mm_th a).2.2.2.1)) ∧ (∀ w ∈ Cond.classLink RX4 (mm_th a).1 (mm_en (mm_th a).2.2.2.1) :: Cond.initialized (mm_en (mm_th a).2.2.2.1) :: vx_atS RX4 (mm_th a).2.2.1 (mm_en (mm_th a).2.2.2.1) mm_nms, vx_ot w = true) ∧ Bundle.fit (mm_en (mm_th a).2.2.2.1) = true
theorem mm_fm {L : List Cond} (h : ∀ w ∈ L.filter goodWord, w ∈ lw_tbl) : ∀ w ∈ L.filter goodWord, w ∈ mm_w := fun w hw => List.mem_filter.mpr ⟨h w hw, (List.mem_filter.mp hw).2⟩
theorem mm_TA {a : Nat} (h : a < mm_thrT.length) : mm_okT a := sorry
theorem mm_fitN : ∀ n ∈ mm_nms, Bundle.fit n = true := sorry
/-- a handler: the call stands at pc; the row of the table that takes E; rows ahead name other exceptions; astore, iconst, ireturn -/
def mm_okH (y pc E : Nat) (z : Int) : Prop := ∃ (pre : List ExceptionTableEntry) (x : ExceptionTableEntry) (suf : List ExceptionTableEntry) (k : Nat), tableOf (mm_hh y) = pre ++ x :: suf ∧ (∀ q ∈ pre, q.catchType ≠ 0 ∧ ∃ F, F < 3 ∧ E ≠ F ∧ Cond.classLink (mm_cn (mm_own y)) q.catchType (mm_en F) ∈ mm_w) ∧ covers x pc = true ∧ x.catchType ≠ 0 ∧ E < 3 ∧ Cond.classLink (mm_cn (mm_own y)) x.catchType (mm_en E) ∈ mm_w ∧ mm_rng z ∧ mm_rt y = some .int ∧ k < mm_mL y ∧
  ((decode (mm_by y) x.handlerPc = .ok (.astore_n (Fin.ofNat 4 k), 1) ∧ k < 4 ∧ decode (mm_by y) (x.handlerPc + 1) = .ok (.iconst z, 1) ∧ decode (mm_by y) (x.handlerPc + 2) = .ok (.ireturn, 1)) ∨ (decode (mm_by y) x.handlerPc = .ok (.astore k, 2) ∧ decode (mm_by y) (x.handlerPc + 2) = .ok (.iconst z, 1) ∧ decode (mm_by y) (x.handlerPc + 3) = .ok (.ireturn, 1)))
/-- where the one call of a method with a table stands -/
def mm_hpc (y : Nat) : Nat := match y with
  | 124 => 3
  | 125 => 5
  | 126 => 4
  | 127 => 5
  | 128 => 4
  | 129 => 3
  | 130 => 4
  | 131 => 4
  | 132 => 4
  | 133 => 4
  | 134 => 4
  | 135 => 4
  | 136 => 4
  | 137 => 4
  | 138 => 4
  | _ => 0
theorem mm_HA0 : ∀ q ∈ mm_handT, mm_okH q.1.1 (mm_hpc q.1.1) q.1.2 q.2 := sorry
def mm_hy : List Nat := [124, 125, 126, 127, 128, 129, 130, 131, 132, 133, 134, 135, 136, 137, 138]
theorem mm_hpA : ∀ y ∈ mm_hy, (mm_codeT.getD y []).all (fun q => decide (105 ≤ q.2.1 ∧ q.2.1 ≤ 108 → q.1 = mm_hpc y)) = true := sorry
theorem mm_hyA : ∀ q ∈ mm_handT, q.1.1 ∈ mm_hy := sorry
def mm_nestT : List (Nat × Nat) := [(0, 45), (2, 85), (3, 25)]
theorem mm_nestA : ∀ a, a < mm_siteT.length → (mm_sd a).2.2.2 = 107 → ((mm_sd a).2.1, (mm_sd a).2.2.1) ∈ mm_nestT := sorry
theorem mm_nestW : ∀ q ∈ mm_nestT, Cond.methodLinkNest (mm_cn q.1) q.2 yX4_within RX4 ∈ lw_tbl := sorry
theorem mm_castW : ∀ E, E < 3 → Cond.castable (mm_en E) (mm_en E) ∈ lw_tbl := sorry
theorem mm_decW0 : Cond.declares (Bundle.initS "java/lang/RuntimeException") ∈ lw_tbl := sorry
theorem mm_decW1 : Cond.declares (Bundle.initS "java/lang/Exception") ∈ lw_tbl := sorry
theorem mm_decW2 : Cond.declares (Bundle.initS "java/lang/Throwable") ∈ lw_tbl := sorry
theorem mm_aoW : Cond.arrayOver (.object RX3) ∈ lw_tbl := sorry
theorem mm_strA {a : Nat} (h : a < mm_thrT.length) : Cond.stringRef RX4 (mm_th a).2.1 (mm_th a).2.2.2.2 ∈ lw_tbl := sorry
