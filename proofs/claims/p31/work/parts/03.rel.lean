/-! numbers: an int of the machine is Int32.ofInt of a mathematical one in range -/
theorem mm_ti {z : Int} (h : mm_rng z) : (Int32.ofInt z).toInt = z := Int32.toInt_ofInt_of_le (by have := h.1; omega) (by have := h.2; omega)
theorem mm_rT (x : Int32) : mm_rng x.toInt := ⟨by have := x.le_toInt; omega, by have := x.toInt_lt; omega⟩
theorem mm_eqI {x y : Int} (hx : mm_rng x) (hy : mm_rng y) : Int32.ofInt x = Int32.ofInt y ↔ x = y := by
  rw [← Int32.toInt_inj, mm_ti hx, mm_ti hy]
theorem mm_ltI {x y : Int} (hx : mm_rng x) (hy : mm_rng y) : Int32.ofInt x < Int32.ofInt y ↔ x < y := by
  rw [Int32.lt_iff_toInt_lt, mm_ti hx, mm_ti hy]
theorem mm_leI {x y : Int} (hx : mm_rng x) (hy : mm_rng y) : Int32.ofInt x ≤ Int32.ofInt y ↔ x ≤ y := by
  rw [Int32.le_iff_toInt_le, mm_ti hx, mm_ti hy]
theorem mm_rng0 : mm_rng 0 := by decide
theorem mm_lt0 {x : Int} (hx : mm_rng x) : Int32.ofInt x < 0 ↔ x < 0 := by have h := mm_ltI hx mm_rng0; simpa using h
theorem mm_eq0 {x : Int} (hx : mm_rng x) : Int32.ofInt x = 0 ↔ x = 0 := by have h := mm_eqI hx mm_rng0; simpa using h
theorem mm_le0 {x : Int} (hx : mm_rng x) : Int32.ofInt x ≤ 0 ↔ x ≤ 0 := by have h := mm_leI hx mm_rng0; simpa using h
theorem mm_0le {x : Int} (hx : mm_rng x) : 0 ≤ Int32.ofInt x ↔ 0 ≤ x := by have h := mm_leI mm_rng0 hx; simpa using h
theorem mm_0lt {x : Int} (hx : mm_rng x) : 0 < Int32.ofInt x ↔ 0 < x := by have h := mm_ltI mm_rng0 hx; simpa using h
theorem mm_nI (n : Nat) : Int32.ofInt (n : Int) = nI n := Int32.ofInt_eq_ofNat
theorem mm_clamp {i : Int} (h : mm_rng i) : (Int32.ofInt i).toNatClampNeg = i.toNat := Int32.toNatClampNeg_ofInt_of_le (by have := h.1; omega) (by have := h.2; omega)
theorem mm_vin {i : Int} {n : Nat} (h : mm_rng i) (h0 : 0 ≤ i) (hn : i.toNat < n) : vp_in (Int32.ofInt i) n := by
  unfold vp_in
  rw [mm_lt0 h, mm_clamp h]
  omega
theorem mm_div {x y : Int} (hx : mm_rng x) (hy : mm_rng y) (h0 : 0 ≤ x) (h1 : 0 < y) : Int32.ofInt x / Int32.ofInt y = Int32.ofInt (x / y) := by
  obtain ⟨a, rfl⟩ := Int.eq_ofNat_of_zero_le h0
  obtain ⟨d, rfl⟩ := Int.eq_ofNat_of_zero_le (Int.le_of_lt h1)
  have hx2 := hx.2
  have hy2 := hy.2
  rw [mm_nI, mm_nI, pk_div (by omega) (by omega) (by omega), show ((a : Int) / (d : Int)) = ((a / d : Nat) : Int) from rfl, mm_nI]
theorem mm_rem {x y : Int} (hx : mm_rng x) (hy : mm_rng y) (h0 : 0 ≤ x) (h1 : 0 < y) : Int32.ofInt x - Int32.ofInt x / Int32.ofInt y * Int32.ofInt y = Int32.ofInt (x % y) := by
  obtain ⟨a, rfl⟩ := Int.eq_ofNat_of_zero_le h0
  obtain ⟨d, rfl⟩ := Int.eq_ofNat_of_zero_le (Int.le_of_lt h1)
  have hx2 := hx.2
  have hy2 := hy.2
  rw [mm_nI, mm_nI, pk_rem (by omega) (by omega) (by omega), show ((a : Int) % (d : Int)) = ((a % d : Nat) : Int) from rfl, mm_nI]
theorem mm_sk : ∀ k : Nat, k < 31 → ((nI k &&& 31).toBitVec.smod 32).toNat = k := by decide +kernel
theorem mm_shl {x y : Int} (hx : mm_rng x) (h0 : 0 ≤ x) (h1 : 0 ≤ y) (h2 : y < 31) (hr : mm_rng (x * 2 ^ y.toNat)) : Int32.ofInt x <<< (Int32.ofInt y &&& 31) = Int32.ofInt (x * 2 ^ y.toNat) := by
  obtain ⟨a, rfl⟩ := Int.eq_ofNat_of_zero_le h0
  obtain ⟨d, rfl⟩ := Int.eq_ofNat_of_zero_le h1
  have e : ((a : Int) * 2 ^ (d : Int).toNat) = ((a * 2 ^ d : Nat) : Int) := by simp
  rw [e] at hr ⊢
  have hr2 := hr.2
  rw [mm_nI, mm_nI, mm_nI, pk_shlN _ d (mm_sk d (by omega)) (by omega)]
theorem mm_shr {x y : Int} (hx : mm_rng x) (h0 : 0 ≤ x) (h1 : 0 ≤ y) (h2 : y < 31) : Int32.ofInt x >>> (Int32.ofInt y &&& 31) = Int32.ofInt (x / 2 ^ y.toNat) := by
  obtain ⟨a, rfl⟩ := Int.eq_ofNat_of_zero_le h0
  obtain ⟨d, rfl⟩ := Int.eq_ofNat_of_zero_le h1
  have hx2 := hx.2
  have e : ((a : Int) / 2 ^ (d : Int).toNat) = ((a / 2 ^ d : Nat) : Int) := by simp
  rw [e, mm_nI, mm_nI, mm_nI, pk_shrN (by omega) _ d (mm_sk d (by omega))]
theorem mm_i64 {x : Int} (h : mm_rng x) : (Int32.ofInt x).toInt64 = Int64.ofInt x := Int32.toInt64_ofInt (by rw [Int32.toInt_minValue]; have := h.1; omega) (by rw [Int32.toInt_maxValue]; have := h.2; omega)
theorem mm_tL {z : Int} (h : mm_rng z) : (Int64.ofInt z).toInt = z := Int64.toInt_ofInt_of_le (by have := h.1; omega) (by have := h.2; omega)
/-! what a state of MM says of the machine's -/
def mm_ad (b b0 : Nat) (r : Nat) : Nat := if r = 999 then b else b0 + r
def mm_up (b b0 : Nat) : mm_V → Value
  | .inl z => .int (Int32.ofInt z)
  | .inr (.inl z) => .long (Int64.ofInt z)
  | .inr (.inr none) => .null
  | .inr (.inr (some r)) => .ref (mm_ad b b0 r)
def mm_ok : mm_V → Prop
  | .inl z => mm_rng z
  | .inr (.inl z) => mm_rng z
  | _ => True
def mm_gI (o : Option mm_V) : Int32 := match o with
  | some (.inl z) => Int32.ofInt z
  | _ => 0
def mm_gL (o : Option mm_V) : Int64 := match o with
  | some (.inr (.inl z)) => Int64.ofInt z
  | _ => 0
def mm_gR (b b0 : Nat) (o : Option mm_V) : Option Nat := match o with
  | some (.inr (.inr (some r))) => some (mm_ad b b0 r)
  | _ => none
/-- constants of a run: the script's cell, the first new cell, the classes of int[], long[], Word[] -/
abbrev mm_G : Type := Nat × (Nat × (ClassId × (ClassId × ClassId)))
def mm_ent (g : mm_G) (c : Nat × List mm_V) : va_E := match c.1 with
  | 0 => .inl (g.2.2.1, (c.2.length, .inl (fun j => mm_gI c.2[j]?)))
  | 1 => .inl (g.2.2.2.1, (c.2.length, .inr (.inl (fun j => mm_gL c.2[j]?))))
  | 2 => .inl (g.2.2.2.2, (c.2.length, .inr (.inr (.inr (.inr (fun j => mm_gR g.1 g.2.1 c.2[j]?))))))
  | k => .inr (k - 10, c.2.map (mm_up g.1 g.2.1))
def mm_ws (g : mm_G) (cs : List (Nat × List mm_V)) : va_W := cs.mapIdx fun i c => (g.2.1 + i, mm_ent g c)
abbrev vwCl : List vw_C := [(RX0, TX0, 7), (RX1, TX1, 3), (RX2, TX2, 3), (RX3, TX3, 2), (RX4, TX4, 6)]
def mm_tys (g : mm_G) : List (ClassId × FieldType) := [(g.2.2.1, .int), (g.2.2.2.1, .int), (g.2.2.2.2, .object RX3)]
abbrev mm_A (g : mm_G) : Nat → Prop := fun q => g.2.1 ≤ q
def mm_Rl (g : mm_G) (D : va_G) (h : mm_H) (H : Heap) : Prop := va_P D vwCl (mm_ws g h.1) H ∧ h.1.length ≤ 900 ∧ (∀ c ∈ h.1, ∀ v ∈ c.2, mm_ok v) ∧ (∀ z ∈ h.2.2.2, mm_rng z)
theorem mm_ws_len (g : mm_G) (cs : List (Nat × List mm_V)) : (mm_ws g cs).length = cs.length := List.length_mapIdx
theorem mm_ws_at (g : mm_G) {cs : List (Nat × List mm_V)} {r : Nat} {c : Nat × List mm_V} (h : cs[r]? = some c) : (mm_ws g cs)[r]? = some (g.2.1 + r, mm_ent g c) := by
  unfold mm_ws
  rw [List.getElem?_mapIdx, h]
  rfl
theorem mm_ws_set (g : mm_G) (cs : List (Nat × List mm_V)) (r : Nat) (c : Nat × List mm_V) : (mm_ws g cs).set r (g.2.1 + r, mm_ent g c) = mm_ws g (cs.set r c) := by
  apply List.ext_getElem?
  intro i
  unfold mm_ws
  rw [List.getElem?_set, List.getElem?_mapIdx, List.getElem?_mapIdx, List.getElem?_set, List.length_mapIdx]
  by_cases h : r = i
  · subst h
    by_cases h2 : r < cs.length
    · simp [h2]
    · simp [h2]
  · simp [h]
theorem mm_ws_push (g : mm_G) (cs : List (Nat × List mm_V)) (c : Nat × List mm_V) : mm_ws g cs ++ [(g.2.1 + cs.length, mm_ent g c)] = mm_ws g (cs ++ [c]) := by
  unfold mm_ws
  rw [List.mapIdx_append]
  simp
theorem mm_ws_D (g : mm_G) (cs : List (Nat × List mm_V)) : va_D (mm_A g) (mm_ws g cs) := by
  have key : ∀ (k : Nat) (q : Nat × va_E), (mm_ws g cs)[k]? = some q → q.1 = g.2.1 + k := by
    intro k q hk
    unfold mm_ws at hk
    rw [List.getElem?_mapIdx] at hk
    cases hc : cs[k]? with
    | none => rw [hc] at hk; cases hk
    | some c => rw [hc] at hk; cases hk; rfl
  refine ⟨fun i j p q hi hj hpq => ?_, fun k q hk => ?_⟩
  · have h1 := key i p hi
    have h2 := key j q hj
    omega
  · have h1 := key k q hk
    show g.2.1 ≤ q.1
    omega
/-- the locals -/
def mm_LR (g : mm_G) (nL : Nat) (ls : mm_F) (rls : Array Slot) : Prop := ls.length = nL ∧ rls.size = nL ∧ lv_wf rls ∧ ∀ (i : Nat) (v : mm_V), ls[i]? = some (some v) → rls[i]? = some (.val (mm_up g.1 g.2.1 v)) ∧ mm_no2 v = true ∧ mm_ok v
def mm_lv (g : mm_G) (ls : mm_F) : List (Nat × Value) := (List.range ls.length).filterMap fun i => match ls[i]? with
  | some (some v) => some (i, mm_up g.1 g.2.1 v)
  | _ => none
theorem mm_lv_in {g : mm_G} {ls : mm_F} {q : Nat × Value} : q ∈ mm_lv g ls ↔ ∃ v : mm_V, ls[q.1]? = some (some v) ∧ q.2 = mm_up g.1 g.2.1 v := by
  unfold mm_lv
  rw [List.mem_filterMap]
  constructor
  · rintro ⟨i, -, h⟩
    split at h
    · rename_i v hv
      cases h
      exact ⟨v, hv, rfl⟩
    · cases h
  · rintro ⟨v, hv, e⟩
    refine ⟨q.1, List.mem_range.mpr (List.getElem?_eq_some_iff.mp hv).1, ?_⟩
    rw [hv]
    obtain ⟨q1, q2⟩ := q
    dsimp only at e ⊢
    rw [e]
theorem mm_LR.has {g : mm_G} {nL : Nat} {ls : mm_F} {rls : Array Slot} (h : mm_LR g nL ls rls) : lv_has rls nL (mm_lv g ls) := by
  refine ⟨h.2.1, h.2.2.1, fun q hq => ?_⟩
  obtain ⟨v, hv, e⟩ := mm_lv_in.mp hq
  rw [e]
  exact (h.2.2.2 q.1 v hv).1
theorem mm_cat {b b0 : Nat} {v : mm_V} (h : mm_no2 v = true) : (mm_up b b0 v).category = 1 := by
  match v, h with
  | .inl z, _ => rfl
  | .inr (.inl z), h => cases h
  | .inr (.inr none), _ => rfl
  | .inr (.inr (some r)), _ => rfl
theorem mm_LR.set {g : mm_G} {nL : Nat} {ls : mm_F} {rls rls' : Array Slot} (h : mm_LR g nL ls rls) {i : Nat} {v : mm_V} (hv : mm_no2 v = true) (hk : mm_ok v)
    (h' : lv_has rls' nL ((i, mm_up g.1 g.2.1 v) :: (mm_lv g ls).filter (fun q => !(q.1 == i) && !(q.1 + 1 == i && q.2.category == 2)))) : mm_LR g nL (ls.set i (some v)) rls' := by
  obtain ⟨h1, h2, h3, h4⟩ := h
  refine ⟨by rw [List.length_set]; exact h1, h'.1, h'.2.1, fun j w hj => ?_⟩
  rw [List.getElem?_set] at hj
  by_cases e : i = j
  · subst e
    by_cases hl : i < ls.length
    · rw [if_pos rfl, if_pos hl] at hj
      cases hj
      exact ⟨h'.2.2 (i, _) List.mem_cons_self, hv, hk⟩
    · rw [if_pos rfl, if_neg hl] at hj
      cases hj
  · rw [if_neg e] at hj
    obtain ⟨a1, a2, a3⟩ := h4 j w hj
    refine ⟨?_, a2, a3⟩
    refine h'.2.2 (j, mm_up g.1 g.2.1 w) (List.mem_cons_of_mem _ (List.mem_filter.mpr ⟨mm_lv_in.mpr ⟨w, hj, rfl⟩, ?_⟩))
    have hc : (mm_up g.1 g.2.1 w).category = 1 := mm_cat a2
    simp [hc, Ne.symm e]
