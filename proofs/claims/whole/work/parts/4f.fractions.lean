/-! ===== products that fit ===== -/
def fit (x y : Int64) : Bool := decide (-9223372036854775808 ≤ x.toInt * y.toInt ∧ x.toInt * y.toInt ≤ 9223372036854775807)
theorem fit_iff {x y : Int64} : fit x y = true ↔ (-9223372036854775808 ≤ x.toInt * y.toInt ∧ x.toInt * y.toInt ≤ 9223372036854775807) := by
  unfold fit
  exact decide_eq_true_iff
theorem fit_comm (x y : Int64) : fit x y = fit y x := by
  unfold fit
  rw [Int.mul_comm]
theorem bm_ex (z : Int) : ∃ k : Int, z.bmod (2 ^ 64) = z + 18446744073709551616 * k := by
  have e : z.bmod (2 ^ 64) = if z % 18446744073709551616 < 9223372036854775808 then z % 18446744073709551616 else z % 18446744073709551616 - 18446744073709551616 := rfl
  rw [e]
  by_cases c : z % 18446744073709551616 < 9223372036854775808
  · exact ⟨-(z / 18446744073709551616), by rw [if_pos c]; omega⟩
  · exact ⟨-(z / 18446744073709551616) - 1, by rw [if_neg c]; omega⟩
theorem div_fit {x y : Int64} (h0 : ¬ y = 0) (h1 : ¬ y = -1) : x * y / y = x ↔ fit x y = true := by
  have n0 : y.toInt ≠ 0 := fun e => h0 (eq64.mpr e)
  have n1 : y.toInt ≠ -1 := fun e => h1 (eq64.mpr e)
  have rx := r64 x
  have ry := r64 y
  rw [fit_iff]
  constructor
  · intro e
    have rp := r64 (x * y)
    have ee := congrArg Int64.toInt e
    rw [Int64.toInt_div] at ee
    obtain ⟨k, hk⟩ := bm_ex (x.toInt * y.toInt)
    have ep : (x * y).toInt = x.toInt * y.toInt + 18446744073709551616 * k := by rw [Int64.toInt_mul, hk]
    revert rp ee ep
    generalize (x * y).toInt = p
    intro rp ee ep
    have q1 := Int.natAbs_tdiv_le_natAbs p y.toInt
    have q2 : p.tdiv y.toInt ≠ 9223372036854775808 := by
      intro c
      have pm := Int.mul_tdiv_add_tmod p y.toInt
      rw [c] at pm
      by_cases y1 : y.toInt = 1
      · rw [y1, Int.tdiv_one] at c
        omega
      · have a := Int.natAbs_tdiv p y.toInt
        rw [c] at a
        have b1 : y.toInt.natAbs ≥ 2 := by omega
        have b2 : p.natAbs ≤ 9223372036854775808 := by omega
        have b3 : p.natAbs.div y.toInt.natAbs ≤ p.natAbs / 2 := Nat.div_le_div_left b1 (by decide)
        rw [show (9223372036854775808 : Int).natAbs = 9223372036854775808 from rfl] at a
        rw [← a] at b3
        have b4 : p.natAbs / 2 ≤ 4611686018427387904 := by omega
        have b5 := Nat.le_trans b3 b4
        exact absurd b5 (by decide)
    rw [bm64 (by omega) (by omega)] at ee
    have pm := Int.mul_tdiv_add_tmod p y.toInt
    rw [ee] at pm
    have tm : (p.tmod y.toInt).natAbs < y.toInt.natAbs := by
      rw [Int.natAbs_tmod]
      exact Nat.mod_lt _ (by omega)
    have c1 := Int.mul_comm x.toInt y.toInt
    rw [c1] at ep
    rw [c1]
    revert pm ep
    generalize y.toInt * x.toInt = z
    intro pm ep
    omega
  · intro f
    rw [eq64, Int64.toInt_div, mul64 f.1 f.2, Int.mul_tdiv_cancel _ n0, bm64 rx.1 rx.2]
theorem fit_m1 (x : Int64) : fit x (-1) = decide (¬ x = -9223372036854775808) := by
  have e : (-1 : Int64).toInt = -1 := rfl
  have m : (-9223372036854775808 : Int64).toInt = -9223372036854775808 := rfl
  have rx := r64 x
  unfold fit
  rw [e]
  by_cases c : x = -9223372036854775808
  · subst c
    rw [m]
    decide
  · have c' : ¬ x.toInt = -9223372036854775808 := fun h => c (eq64.mpr (h.trans m.symm))
    rw [decide_eq_true (by omega), decide_eq_true c]
theorem fit_0 (x : Int64) : fit x 0 = true := by
  have e : (0 : Int64).toInt = 0 := rfl
  rw [fit_iff, e, Int.mul_zero]
  decide
theorem pfits (x y : Int64) : e_X9_productFits x y = some (bi (fit x y)) := by
  unfold e_X9_productFits
  by_cases c0 : y = 0
  · subst c0
    rw [if_pos rfl, fit_0]
    rfl
  · rw [if_neg c0]
    by_cases c1 : y = -1
    · subst c1
      rw [if_pos rfl, fit_m1]
      by_cases c : x = -9223372036854775808
      · rw [if_pos c, decide_eq_false (fun h => h c)]
        rfl
      · rw [if_neg c, decide_eq_true c]
        rfl
    · rw [if_neg c1, if_neg c0]
      by_cases c : x * y / y = x
      · rw [if_pos c, (div_fit c0 c1).mp c]
        rfl
      · rw [if_neg c]
        have : fit x y = false := by
          rw [Bool.eq_false_iff]
          exact fun h => c ((div_fit c0 c1).mpr h)
        rw [this]
        rfl
theorem prod_eq (x y : Int64) (σ : ES) (b : Bool) (h : eI σ 69 15 = bi b) : e_X10_product x y σ = some (x * y, uI σ 69 15 (bi (b && fit x y))) := by
  unfold e_X10_product
  rw [h]
  cases b with
  | false =>
    rw [if_pos bi_f]
    rfl
  | true =>
    rw [if_neg (by decide)]
    by_cases c0 : x = 0
    · subst c0
      rw [if_pos rfl, fit_comm, fit_0]
      rfl
    · rw [if_neg c0, if_neg c0]
      by_cases c1 : x = -1
      · subst c1
        have dv : (-1) * y / (-1) = y := by
          have m : (-9223372036854775808 : Int64).toInt = -9223372036854775808 := rfl
          have e : (-1 : Int64).toInt = -1 := rfl
          by_cases c : y = -9223372036854775808
          · subst c
            decide
          · have f : fit (-1) y = true := by rw [fit_comm, fit_m1, decide_eq_true c]
            have f' := fit_iff.mp f
            have ry := r64 y
            rw [eq64, Int64.toInt_div, mul64 f'.1 f'.2, e, Int.mul_tdiv_cancel_left _ (by decide), bm64 ry.1 ry.2]
        rw [if_pos dv, if_pos rfl, fit_comm, fit_m1]
        by_cases c : y = -9223372036854775808
        · rw [if_pos c, decide_eq_false (fun h => h c)]
          rfl
        · rw [if_neg c, decide_eq_true c]
          rfl
      · have key : x * y / x = y ↔ fit x y = true := by
          have := div_fit (x := y) (y := x) c0 c1
          rw [Int64.mul_comm, fit_comm]
          exact this
        by_cases c : x * y / x = y
        · rw [if_pos c, if_neg c1, key.mp c]
          rfl
        · rw [if_neg c]
          have : fit x y = false := by
            rw [Bool.eq_false_iff]
            exact fun h => c (key.mpr h)
          rw [this]
          rfl
/-! ===== faults of fractions; compare ===== -/
def ff (σ : ES) (a b c : Int32) : Int32 := if ir 0 3 a = true then (if eI σ 75 a.toNatClampNeg = 0 then 5 else if ir 0 (eI σ 76 a.toNatClampNeg - 2).toInt b = true then (if ir 0 (eI σ 76 a.toNatClampNeg - 2).toInt c = true then (if eL σ 77 (40 * a.toNatClampNeg + b.toNatClampNeg + 1) = 0 then 7 else if eL σ 77 (40 * a.toNatClampNeg + c.toNatClampNeg + 1) = 0 then 7 else -1) else 0) else 0) else 0
theorem pr2 {n : Nat} (h : n ≤ 40) : (nI n - 2).toInt = (n : Int) - 2 := subn (w := 2) (by omega) (by omega)
theorem ir_2 {n : Nat} {v : Int32} (hn : n ≤ 40) (h : ir 0 (nI n - 2).toInt v = true) : ∃ i, i + 1 < n ∧ v = nI i := by
  rw [pr2 hn, ir_iff] at h
  obtain ⟨i, e, hi, rfl⟩ := nI_ex h.1
  exact ⟨i, by omega, rfl⟩
theorem wrong_eq' {σ : ES} (h : ∀ s, s < 4 → ∃ n, n ≤ 40 ∧ eI σ 76 s = nI n) (a b c : Int32) : e_X10_wrong σ a b c = some (ff σ a b c) := by
  simp only [e_X10_wrong, isSheet_eq, ob, bi_0, ff]
  by_cases q : ir 0 3 a = true
  · obtain ⟨s, hs, rfl⟩ := ir03 q
    obtain ⟨n, hn, e76⟩ := h s hs
    have z0 : (0 : Int64).toInt = 0 := rfl
    simp only [q, Bool.true_eq_false, if_false, if_true, mib_nI (show s < 4 by omega) (by decide), nIc (show s < 2147483648 by omega), e76, min_eq, t64, z0]
    by_cases q1 : eI σ 75 s = 0
    · rw [if_pos q1, if_pos q1]
    · rw [if_neg q1, if_neg q1]
      by_cases q2 : ir 0 (nI n - 2).toInt b = true
      · rw [if_pos q2]
        simp only [q2, ob, bi_0, Bool.true_eq_false, if_false]
        by_cases q3 : ir 0 (nI n - 2).toInt c = true
        · rw [if_pos q3]
          simp only [q3, bi_0, Bool.true_eq_false, if_false]
          obtain ⟨i, hi, rfl⟩ := ir_2 hn q2
          obtain ⟨j, hj, rfl⟩ := ir_2 hn q3
          rw [forty hs (by omega), forty hs (by omega), nI_1, nI_1, if_pos (mib_nI (by omega) (by decide)), if_pos (mib_nI (by omega) (by decide)), nIc (by omega), nIc (by omega), nIc (by omega), nIc (by omega)]
          by_cases c1 : eL σ 77 (40 * s + i + 1) = 0
          · rw [if_pos c1, if_pos c1]
          · rw [if_neg c1, if_neg c1]
            by_cases c2 : eL σ 77 (40 * s + j + 1) = 0
            · rw [if_pos c2, if_pos c2]
            · rw [if_neg c2, if_neg c2]
        · rw [if_neg q3]
          have q3 : ir 0 (nI n - 2).toInt c = false := by simpa only [Bool.not_eq_true] using q3
          simp only [q3, bi_0, if_true]
      · rw [if_neg q2]
        have q2 : ir 0 (nI n - 2).toInt b = false := by simpa only [Bool.not_eq_true] using q2
        simp only [q2, ob, bi_0, if_true]
  · rw [if_neg q]
    have q : ir 0 3 a = false := by simpa only [Bool.not_eq_true] using q
    rw [if_pos q]
theorem szs {σ : ES} (h : RSh σ) : ∀ s, s < 4 → ∃ n, n ≤ 40 ∧ eI σ 76 s = nI n := by
  intro s hs
  obtain ⟨s1, s2, s3, ⟨n, hn, en⟩, s5⟩ := h s hs
  exact ⟨n, hn, s2.trans en⟩
theorem wrong_eq {σ : ES} (h : RSh σ) (a b c : Int32) : e_X10_wrong σ a b c = some (ff σ a b c) := wrong_eq' (szs h) a b c
theorem hasf_eq {σ : ES} {s n : Nat} (hs : s < 4) (en : eI σ (61 + 2 * s) 1 = nI n) (b : Int32) : e_X5_hasFraction σ (61 + 2 * s) b = some (bi (ir 0 (nI n - 2).toInt b)) := by
  simp only [e_X5_hasFraction, msh_s hs, if_true, en, within_eq, ob, bi_or]
  rfl
theorem ffault_eq {σ : ES} (h : RSh σ) (a b c : Int32) : e_X9_fractionFault σ a b c = some (ff σ a b c) := by
  simp only [e_X9_fractionFault, sfault_eq h, ob, ff]
  by_cases q : ir 0 3 a = true
  · obtain ⟨s, hs, rfl⟩ := ir03 q
    obtain ⟨s1, s2, s3, ⟨n, hn, en⟩, s5⟩ := h s hs
    have e76 : eI σ 76 s = nI n := by rw [s2, en]
    simp only [q, if_true, mib_nI (show s < 4 by omega) (by decide), nIc (show s < 2147483648 by omega), e76, hasf_eq hs en, ob]
    by_cases q1 : eI σ 75 s = 0
    · rw [if_pos q1, if_pos q1, if_neg (by decide)]
    · rw [if_neg q1, if_neg q1, if_pos rfl]
      by_cases q2 : ir 0 (nI n - 2).toInt b = true
      · rw [if_pos q2]
        simp only [q2, bi_0, Bool.true_eq_false, if_false]
        by_cases q3 : ir 0 (nI n - 2).toInt c = true
        · rw [if_pos q3]
          simp only [q3, bi_0, Bool.true_eq_false, if_false]
          obtain ⟨i, hi, rfl⟩ := ir_2 hn q2
          obtain ⟨j, hj, rfl⟩ := ir_2 hn q3
          rw [nI_1, nI_1, if_pos (mib_nI (by omega) (by decide)), if_pos (mib_nI (by omega) (by decide)), nIc (by omega), nIc (by omega), nIc (by omega), nIc (by omega), cell1, Nat.add_assoc, Nat.add_assoc, s5 _ (by omega), s5 _ (by omega)]
          by_cases c1 : eL σ (62 + 2 * s) (i + 1) = 0
          · rw [if_pos c1, if_pos c1]
          · rw [if_neg c1, if_neg c1]
            by_cases c2 : eL σ (62 + 2 * s) (j + 1) = 0
            · rw [if_pos c2, if_pos c2]
            · rw [if_neg c2, if_neg c2]
        · rw [if_neg q3]
          have q3 : ir 0 (nI n - 2).toInt c = false := by simpa only [Bool.not_eq_true] using q3
          simp only [q3, bi_0, if_true]
      · rw [if_neg q2]
        have q2 : ir 0 (nI n - 2).toInt b = false := by simpa only [Bool.not_eq_true] using q2
        simp only [q2, bi_0, if_true]
  · rw [if_neg q, if_neg q, if_neg (by decide)]
theorem ff_cases (σ : ES) (a b c : Int32) : ff σ a b c = -1 ∨ ff σ a b c = 0 ∨ ff σ a b c = 5 ∨ ff σ a b c = 7 := by
  unfold ff
  repeat' split
  all_goals simp
theorem ff_ok {σ : ES} (h : RSh σ) {a b c : Int32} (q : ff σ a b c = -1) : ∃ s i j, s < 4 ∧ i < 39 ∧ j < 39 ∧ a = nI s ∧ b = nI i ∧ c = nI j ∧ ¬ eL σ (62 + 2 * s) (i + 1) = 0 ∧ ¬ eL σ (62 + 2 * s) (j + 1) = 0 := by
  unfold ff at q
  by_cases c0 : ir 0 3 a = true
  · obtain ⟨s, hs, rfl⟩ := ir03 c0
    obtain ⟨s1, s2, s3, ⟨n, hn, en⟩, s5⟩ := h s hs
    rw [if_pos c0, nIc (by omega), s2, en] at q
    by_cases c1 : eI σ 75 s = 0
    · rw [if_pos c1] at q
      exact absurd q (by decide)
    · rw [if_neg c1] at q
      by_cases c2 : ir 0 (nI n - 2).toInt b = true
      · rw [if_pos c2] at q
        by_cases c3 : ir 0 (nI n - 2).toInt c = true
        · rw [if_pos c3] at q
          obtain ⟨i, hi, rfl⟩ := ir_2 hn c2
          obtain ⟨j, hj, rfl⟩ := ir_2 hn c3
          rw [nIc (by omega), nIc (by omega), Nat.add_assoc, Nat.add_assoc, s5 _ (by omega), s5 _ (by omega)] at q
          by_cases c4 : eL σ (62 + 2 * s) (i + 1) = 0
          · rw [if_pos c4] at q
            exact absurd q (by decide)
          · rw [if_neg c4] at q
            by_cases c5 : eL σ (62 + 2 * s) (j + 1) = 0
            · rw [if_pos c5] at q
              exact absurd q (by decide)
            · exact ⟨s, i, j, hs, by omega, by omega, rfl, rfl, rfl, c4, c5⟩
        · rw [if_neg c3] at q
          exact absurd q (by decide)
      · rw [if_neg c2] at q
        exact absurd q (by decide)
  · rw [if_neg c0] at q
    exact absurd q (by decide)
