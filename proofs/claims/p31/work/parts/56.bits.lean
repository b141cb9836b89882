/-! masks of letters and of texts -/
theorem i32_bv (x : Nat) : (Int32.ofInt (x : Int)).toBitVec = BitVec.ofNat 32 x := by rw [Int32.toBitVec_ofInt, BitVec.ofInt_natCast]
theorem mm_or_n {x y : Nat} (hx : x < 2 ^ 31) (hy : y < 2 ^ 31) : mm_or (x : Int) (y : Int) = ((x ||| y : Nat) : Int) := by
  unfold mm_or
  show (Int32.ofInt (x : Int) ||| Int32.ofInt (y : Int)).toBitVec.toInt = _
  rw [Int32.toBitVec_or, i32_bv, i32_bv]
  have e : (BitVec.ofNat 32 x ||| BitVec.ofNat 32 y).toNat = x ||| y := by rw [BitVec.toNat_or, BitVec.toNat_ofNat, BitVec.toNat_ofNat, Nat.mod_eq_of_lt (by omega), Nat.mod_eq_of_lt (by omega)]
  have lt := Nat.or_lt_two_pow (n := 31) hx hy
  rw [BitVec.toInt_eq_toNat_of_lt (by rw [e]; omega), e]
theorem mm_and_n {x y : Nat} (hx : x < 2 ^ 31) (hy : y < 2 ^ 31) : mm_and (x : Int) (y : Int) = ((x &&& y : Nat) : Int) := by
  unfold mm_and
  show (Int32.ofInt (x : Int) &&& Int32.ofInt (y : Int)).toBitVec.toInt = _
  rw [Int32.toBitVec_and, i32_bv, i32_bv]
  have e : (BitVec.ofNat 32 x &&& BitVec.ofNat 32 y).toNat = x &&& y := by rw [BitVec.toNat_and, BitVec.toNat_ofNat, BitVec.toNat_ofNat, Nat.mod_eq_of_lt (by omega), Nat.mod_eq_of_lt (by omega)]
  have lt := Nat.and_lt_two_pow (n := 31) x hy
  rw [BitVec.toInt_eq_toNat_of_lt (by rw [e]; omega), e]
/-- z has just the bits of S, below 26 -/
def bm (z : Int) (S : Int → Prop) : Prop := (0 ≤ z ∧ z < 2 ^ 26) ∧ ∀ a : Nat, a < 26 → (z.toNat.testBit a = true ↔ S (a : Int))
theorem bm_hi {z : Int} {S : Int → Prop} (h : bm z S) {a : Nat} (ha : 26 ≤ a) : z.toNat.testBit a = false := by
  have h1 : z.toNat < 2 ^ 26 := by have := h.1; omega
  exact Nat.testBit_lt_two_pow (Nat.lt_of_lt_of_le h1 (Nat.pow_le_pow_right (by decide) ha))
theorem bm_uniq {z z' : Int} {S S' : Int → Prop} (h : bm z S) (h' : bm z' S') (e : ∀ a : Nat, a < 26 → (S (a : Int) ↔ S' (a : Int))) : z = z' := by
  have h0 : z.toNat = z'.toNat := by
    apply Nat.eq_of_testBit_eq
    intro i
    by_cases hi : i < 26
    · have h1 := h.2 i hi
      have h2 := h'.2 i hi
      have h3 := e i hi
      cases q : z.toNat.testBit i <;> cases q' : z'.toNat.testBit i <;> simp_all
    · rw [bm_hi h (by omega), bm_hi h' (by omega)]
  have := h.1
  have := h'.1
  omega
theorem bm_0 {S : Int → Prop} (h : ∀ a : Nat, a < 26 → ¬ S (a : Int)) : bm 0 S := ⟨by decide, fun a ha => by
  have : (0 : Int).toNat.testBit a = false := Nat.zero_testBit a
  rw [this]
  exact ⟨fun q => (by cases q), fun q => absurd q (h a ha)⟩⟩
theorem bm_c {z : Int} {S S' : Int → Prop} (h : bm z S) (e : ∀ a : Nat, a < 26 → (S (a : Int) ↔ S' (a : Int))) : bm z S' := ⟨h.1, fun a ha => (h.2 a ha).trans (e a ha)⟩
theorem two_nat (a : Nat) : ((1 : Int) * 2 ^ a) = ((2 ^ a : Nat) : Int) := by
  rw [Int.one_mul, Int.natCast_pow]
  rfl
theorem two_lt {a : Nat} (h : a < 26) : 2 ^ a < 2 ^ 26 := Nat.pow_lt_pow_right (by decide) h
theorem two_rng {a : Nat} (h : a < 26) : mm_rng ((1 : Int) * 2 ^ a) := by
  rw [two_nat]
  have := two_lt h
  generalize 2 ^ a = y at *
  constructor <;> omega
theorem bm_or {z : Int} {S : Int → Prop} {a : Nat} (h : bm z S) (ha : a < 26) : bm (mm_or z ((1 : Int) * 2 ^ a)) (fun b => S b ∨ b = (a : Int)) := by
  have hz : ((z.toNat : Nat) : Int) = z := Int.toNat_of_nonneg h.1.1
  have h1 : z.toNat < 2 ^ 26 := by have := h.1; omega
  have h2 := two_lt ha
  rw [two_nat, ← hz, mm_or_n (by omega) (by omega)]
  have h3 := Nat.or_lt_two_pow (n := 26) h1 h2
  refine ⟨⟨by omega, by omega⟩, fun b hb => ?_⟩
  show (z.toNat ||| 2 ^ a).testBit b = true ↔ _
  rw [Nat.testBit_or, Bool.or_eq_true, h.2 b hb, Nat.testBit_two_pow, decide_eq_true_iff]
  constructor
  · rintro (q | q)
    · exact Or.inl q
    · exact Or.inr (by omega)
  · rintro (q | q)
    · exact Or.inl q
    · exact Or.inr (by omega)
theorem bm_or0 {z : Int} {S : Int → Prop} (h : bm z S) : mm_or z 0 = z := by
  have hz : ((z.toNat : Nat) : Int) = z := Int.toNat_of_nonneg h.1.1
  have h1 : z.toNat < 2 ^ 26 := by have := h.1; omega
  have e : mm_or ((z.toNat : Nat) : Int) ((0 : Nat) : Int) = ((z.toNat ||| 0 : Nat) : Int) := mm_or_n (by omega) (by omega)
  rw [Nat.or_zero, hz] at e
  exact e
theorem div_pred {N K : Nat} (hK : 0 < K) (h : 0 < N % K) : N / K = (N - 1) / K := by
  have d1 := Nat.div_add_mod N K
  have d2 := Nat.mod_lt N hK
  generalize N / K = q at *
  generalize N % K = r at *
  have e6 : N - 1 = (r - 1) + K * q := by
    generalize K * q = y at *
    omega
  have e7 : r - 1 < K := by omega
  rw [e6, Nat.add_mul_div_left _ _ hK, Nat.div_eq_of_lt e7, Nat.zero_add]
/-- z & z - 1 -/
theorem bm_two {z : Int} {S : Int → Prop} (h : bm z S) : mm_and z (z - 1) = 0 ↔ ¬ ∃ a b : Nat, a < b ∧ b < 26 ∧ S (a : Int) ∧ S (b : Int) := by
  have hz : ((z.toNat : Nat) : Int) = z := Int.toNat_of_nonneg h.1.1
  have h1 : z.toNat < 2 ^ 26 := by have := h.1; omega
  by_cases z0 : z.toNat = 0
  · have : z = 0 := by omega
    rw [this]
    refine ⟨fun _ => ?_, fun _ => by decide⟩
    rintro ⟨a, b, q1, q2, q3, q4⟩
    have := (h.2 a (by omega)).mpr q3
    rw [z0, Nat.zero_testBit] at this
    cases this
  · have hz1 : z - 1 = ((z.toNat - 1 : Nat) : Int) := by omega
    rw [hz1, ← hz, mm_and_n (by omega) (by omega)]
    show ((z.toNat &&& (z.toNat - 1) : Nat) : Int) = 0 ↔ _
    generalize hN : z.toNat = N at *
    constructor
    · rintro q ⟨a, b, q1, q2, q3, q4⟩
      have ba := (h.2 a (by omega)).mpr q3
      have bb := (h.2 b q2).mpr q4
      rw [hN] at ba bb
      have q0 : N &&& (N - 1) = 0 := by omega
      have q5 : (N &&& (N - 1)).testBit b = true := by
        rw [Nat.testBit_and, bb, Bool.true_and]
        have e1 : N / 2 ^ (a + 1) = (N - 1) / 2 ^ (a + 1) := by
          have p1 : 2 ^ (a + 1) = 2 ^ a * 2 := Nat.pow_succ 2 a
          have pp : 0 < 2 ^ a := Nat.two_pow_pos a
          have d1 := Nat.div_add_mod N (2 ^ (a + 1))
          have r1 : 0 < N % 2 ^ (a + 1) := by
            apply Nat.pos_of_ne_zero
            intro e0
            have e3 : N / 2 ^ a % 2 = 1 := by
              rw [Nat.testBit_eq_decide_div_mod_eq, decide_eq_true_iff] at ba
              exact ba
            have e4 : N = 2 ^ a * (2 * (N / 2 ^ (a + 1))) := by
              rw [← Nat.mul_assoc, ← p1]
              omega
            have e5 : N / 2 ^ a = 2 * (N / 2 ^ (a + 1)) := by
              have := Nat.mul_div_cancel_left (2 * (N / 2 ^ (a + 1))) pp
              rw [← e4] at this
              exact this
            omega
          exact div_pred (Nat.two_pow_pos (a + 1)) r1
        have e2 : b = (b - (a + 1)) + (a + 1) := by omega
        rw [e2, ← Nat.testBit_div_two_pow, ← e1, Nat.testBit_div_two_pow, ← e2]
        exact bb
      rw [q0, Nat.zero_testBit] at q5
      cases q5
    · intro q
      have : N &&& (N - 1) = 0 := by
        apply Nat.eq_of_testBit_eq
        intro i
        rw [Nat.zero_testBit, Nat.testBit_and]
        cases bi : N.testBit i with
        | false => rfl
        | true =>
          rw [Bool.true_and]
          have hi : i < 26 := by
            by_cases hi : i < 26
            · exact hi
            · have hh := bm_hi h (a := i) (by omega)
              rw [hN, bi] at hh
              cases hh
          have e0 : N = 2 ^ i := by
            apply Nat.eq_of_testBit_eq
            intro j
            rw [Nat.testBit_two_pow]
            by_cases ij : i = j
            · rw [← ij, bi]
              exact (decide_eq_true rfl).symm
            · rw [decide_eq_false ij]
              cases bj : N.testBit j with
              | false => rfl
              | true =>
                exfalso
                have hj : j < 26 := by
                  by_cases hj : j < 26
                  · exact hj
                  · have hh := bm_hi h (a := j) (by omega)
                    rw [hN, bj] at hh
                    cases hh
                have si := (h.2 i hi).mp (by rw [hN]; exact bi)
                have sj := (h.2 j hj).mp (by rw [hN]; exact bj)
                by_cases lt : i < j
                · exact q ⟨i, j, lt, hj, si, sj⟩
                · exact q ⟨j, i, by omega, hi, sj, si⟩
          rw [e0]
          exact Nat.testBit_lt_two_pow (by have := Nat.two_pow_pos i; omega)
      omega
/-- a set of texts -/
theorem bt_bit {s : Int} (hs : 0 ≤ s ∧ s < 2 ^ 26) (t : Nat) : mm_and (s / 2 ^ t) 1 = 1 ↔ s.toNat.testBit t = true := by
  have e1 : s / 2 ^ t = ((s.toNat / 2 ^ t : Nat) : Int) := by
    rw [Int.natCast_ediv, Int.natCast_pow, Int.toNat_of_nonneg hs.1]
    rfl
  have h1 : s.toNat / 2 ^ t < 2 ^ 31 := Nat.lt_of_le_of_lt (Nat.div_le_self _ _) (by omega)
  have e2 : mm_and ((s.toNat / 2 ^ t : Nat) : Int) ((1 : Nat) : Int) = ((s.toNat / 2 ^ t &&& 1 : Nat) : Int) := mm_and_n h1 (by decide)
  rw [e1]
  show mm_and ((s.toNat / 2 ^ t : Nat) : Int) ((1 : Nat) : Int) = 1 ↔ _
  rw [e2, Nat.and_one_is_mod, Nat.testBit_eq_decide_div_mod_eq, decide_eq_true_iff]
  omega
theorem bt_sub {z s : Int} {S : Int → Prop} (h : bm z S) (hs : 0 ≤ s ∧ s < 2 ^ 26) : mm_and z s = s ↔ ∀ t : Nat, t < 26 → s.toNat.testBit t = true → S (t : Int) := by
  have hz : ((z.toNat : Nat) : Int) = z := Int.toNat_of_nonneg h.1.1
  have hs1 : ((s.toNat : Nat) : Int) = s := Int.toNat_of_nonneg hs.1
  have h1 : z.toNat < 2 ^ 26 := by have := h.1; omega
  have e2 : mm_and z s = ((z.toNat &&& s.toNat : Nat) : Int) := by
    have := mm_and_n (x := z.toNat) (y := s.toNat) (by omega) (by omega)
    rwa [hz, hs1] at this
  rw [e2]
  constructor
  · intro q t ht hb
    have q1 : z.toNat &&& s.toNat = s.toNat := by omega
    rw [← q1, Nat.testBit_and, Bool.and_eq_true] at hb
    exact (h.2 t ht).mp hb.1
  · intro q
    have : z.toNat &&& s.toNat = s.toNat := by
      apply Nat.eq_of_testBit_eq
      intro i
      rw [Nat.testBit_and]
      cases bi : s.toNat.testBit i with
      | false => rw [Bool.and_false]
      | true =>
        by_cases hi : i < 26
        · rw [(h.2 i hi).mpr (q i hi bi)]
          rfl
        · have := Nat.testBit_lt_two_pow (x := s.toNat) (i := i) (Nat.lt_of_lt_of_le (show s.toNat < 2 ^ 26 by omega) (Nat.pow_le_pow_right (by decide) (by omega)))
          rw [bi] at this
          cases this
    omega
