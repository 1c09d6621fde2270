/-! ===== pure rows: numbers, memory ===== -/
def bi (b : Bool) : Int32 := if b then 1 else 0
theorem bi_t : bi true = 1 := rfl
theorem bi_f : bi false = 0 := rfl
theorem bi_0 (b : Bool) : (bi b = 0) = (b = false) := by cases b <;> simp [bi]
theorem bi_1 (b : Bool) : (bi b = 1) = (b = true) := by cases b <;> simp [bi]
theorem bi_or (b : Bool) : (bi b = 0 ∨ bi b = 1) = True := by cases b <;> simp [bi]
def ir (lo hi : Int) (v : Int32) : Bool := decide (lo ≤ v.toInt) && decide (v.toInt ≤ hi)
def il (lo hi : Int) (v : Int64) : Bool := decide (lo ≤ v.toInt) && decide (v.toInt ≤ hi)
theorem ir_iff {lo hi : Int} {v : Int32} : ir lo hi v = true ↔ lo ≤ v.toInt ∧ v.toInt ≤ hi := by simp [ir]
theorem il_iff {lo hi : Int} {v : Int64} : il lo hi v = true ↔ lo ≤ v.toInt ∧ v.toInt ≤ hi := by simp [il]
theorem il_i (lo hi : Int) (v : Int32) : il lo hi v.toInt64 = ir lo hi v := by simp [il, ir]
theorem lt32 {x y : Int32} : x < y ↔ x.toInt < y.toInt := Int32.lt_iff_toInt_lt
theorem le32 {x y : Int32} : x ≤ y ↔ x.toInt ≤ y.toInt := Int32.le_iff_toInt_le
theorem lt64 {x y : Int64} : x < y ↔ x.toInt < y.toInt := Int64.lt_iff_toInt_lt
theorem le64 {x y : Int64} : x ≤ y ↔ x.toInt ≤ y.toInt := Int64.le_iff_toInt_le
theorem eq32 {x y : Int32} : x = y ↔ x.toInt = y.toInt := Int32.toInt_inj.symm
theorem eq64 {x y : Int64} : x = y ↔ x.toInt = y.toInt := Int64.toInt_inj.symm
theorem bm32 {z : Int} (h1 : -2147483648 ≤ z) (h2 : z ≤ 2147483647) : z.bmod (2 ^ 32) = z := by
  apply Int.bmod_eq_of_le <;> omega
theorem bm64 {z : Int} (h1 : -9223372036854775808 ≤ z) (h2 : z ≤ 9223372036854775807) : z.bmod (2 ^ 64) = z := by
  apply Int.bmod_eq_of_le <;> omega
theorem add32 {x y : Int32} (h1 : -2147483648 ≤ x.toInt + y.toInt) (h2 : x.toInt + y.toInt ≤ 2147483647) : (x + y).toInt = x.toInt + y.toInt := by rw [Int32.toInt_add, bm32 h1 h2]
theorem sub32 {x y : Int32} (h1 : -2147483648 ≤ x.toInt - y.toInt) (h2 : x.toInt - y.toInt ≤ 2147483647) : (x - y).toInt = x.toInt - y.toInt := by rw [Int32.toInt_sub, bm32 h1 h2]
theorem mul32 {x y : Int32} (h1 : -2147483648 ≤ x.toInt * y.toInt) (h2 : x.toInt * y.toInt ≤ 2147483647) : (x * y).toInt = x.toInt * y.toInt := by rw [Int32.toInt_mul, bm32 h1 h2]
theorem neg32 {x : Int32} (h1 : -2147483647 ≤ x.toInt) : (-x).toInt = -x.toInt := by
  have := x.toInt_lt
  rw [Int32.toInt_neg, bm32 (by omega) (by omega)]
theorem add64 {x y : Int64} (h1 : -9223372036854775808 ≤ x.toInt + y.toInt) (h2 : x.toInt + y.toInt ≤ 9223372036854775807) : (x + y).toInt = x.toInt + y.toInt := by rw [Int64.toInt_add, bm64 h1 h2]
theorem sub64 {x y : Int64} (h1 : -9223372036854775808 ≤ x.toInt - y.toInt) (h2 : x.toInt - y.toInt ≤ 9223372036854775807) : (x - y).toInt = x.toInt - y.toInt := by rw [Int64.toInt_sub, bm64 h1 h2]
theorem mul64 {x y : Int64} (h1 : -9223372036854775808 ≤ x.toInt * y.toInt) (h2 : x.toInt * y.toInt ≤ 9223372036854775807) : (x * y).toInt = x.toInt * y.toInt := by rw [Int64.toInt_mul, bm64 h1 h2]
theorem neg64 {x : Int64} (h1 : -9223372036854775807 ≤ x.toInt) : (-x).toInt = -x.toInt := by
  have := x.toInt_lt
  rw [Int64.toInt_neg, bm64 (by omega) (by omega)]
theorem t64 (x : Int32) : x.toInt64.toInt = x.toInt := Int32.toInt_toInt64 x
theorem r32 (x : Int32) : -2147483648 ≤ x.toInt ∧ x.toInt ≤ 2147483647 := ⟨by have := x.le_toInt; omega, by have := x.toInt_lt; omega⟩
theorem r64 (x : Int64) : -9223372036854775808 ≤ x.toInt ∧ x.toInt ≤ 9223372036854775807 := ⟨by have := x.le_toInt; omega, by have := x.toInt_lt; omega⟩
theorem nIt {n : Nat} (h : n < 2147483648) : (nI n).toInt = (n : Int) := nI_toInt h
theorem nIc {n : Nat} (h : n < 2147483648) : (nI n).toNatClampNeg = n := nI_clamp h
theorem nI_lit0 : nI 0 = 0 := rfl
/-- an int that isn't below 0 is a natural -/
theorem nI_ex {v : Int32} (h : 0 ≤ v.toInt) : ∃ k : Nat, (k : Int) = v.toInt ∧ k < 2147483648 ∧ v = nI k := by
  have := r32 v
  refine ⟨v.toInt.toNat, by omega, by omega, ?_⟩
  rw [eq32, nIt (by omega)]
  omega
theorem nI_ir {N : Nat} {v : Int32} (h : ir 0 ((N : Int) - 1) v = true) : ∃ k : Nat, k < N ∧ k < 2147483648 ∧ v = nI k := by
  obtain ⟨h1, h2⟩ := ir_iff.mp h
  obtain ⟨k, e, hk, rfl⟩ := nI_ex h1
  exact ⟨k, by omega, hk, rfl⟩
theorem nI_inj {a b : Nat} (ha : a < 2147483648) (hb : b < 2147483648) : (nI a = nI b) = (a = b) := by
  rw [eq32, nIt ha, nIt hb]
  exact propext (by omega)
theorem mib_nI {i N : Nat} (h : i < N) (hN : N < 2147483648) : mib (nI i) N = true := by
  simp only [mib, Bool.and_eq_true, Bool.not_eq_true', decide_eq_false_iff_not, decide_eq_true_eq]
  rw [nIc (by omega)]
  exact ⟨nI_pos (by omega), h⟩
theorem mib_toInt {v : Int32} {N : Nat} (h1 : 0 ≤ v.toInt) (h2 : v.toInt < N) : mib v N = true := by
  obtain ⟨k, e, hk, rfl⟩ := nI_ex h1
  simp only [mib, Bool.and_eq_true, Bool.not_eq_true', decide_eq_false_iff_not, decide_eq_true_eq]
  rw [nIc hk]
  exact ⟨nI_pos (by omega), by omega⟩
theorem within_eq (a b c : Int32) : e_X9_within a b c = some (bi (ir b.toInt c.toInt a)) := by
  unfold e_X9_within ir
  by_cases h1 : a < b
  · rw [if_pos h1]
    rw [lt32] at h1
    simp [bi, show ¬ b.toInt ≤ a.toInt by omega]
  · rw [if_neg h1]
    by_cases h2 : c < a
    · rw [if_pos h2]
      rw [lt32] at h2
      simp [bi, show ¬ a.toInt ≤ c.toInt by omega]
    · rw [if_neg h2]
      rw [lt32] at h1 h2
      simp [bi, show b.toInt ≤ a.toInt by omega, show a.toInt ≤ c.toInt by omega]
theorem in_eq (a b c : Int64) : e_X10_in a b c = some (bi (il b.toInt c.toInt a)) := by
  unfold e_X10_in il
  by_cases h1 : a < b
  · rw [if_pos h1]
    rw [lt64] at h1
    simp [bi, show ¬ b.toInt ≤ a.toInt by omega]
  · rw [if_neg h1]
    by_cases h2 : c < a
    · rw [if_pos h2]
      rw [lt64] at h2
      simp [bi, show ¬ a.toInt ≤ c.toInt by omega]
    · rw [if_neg h2]
      rw [lt64] at h1 h2
      simp [bi, show b.toInt ≤ a.toInt by omega, show a.toInt ≤ c.toInt by omega]
theorem eI_uI (σ : ES) (k j : Nat) (v : Int32) (a b : Nat) : eI (uI σ k j v) a b = if a = k ∧ b = j then v else eI σ a b := rfl
theorem eL_uI (σ : ES) (k j : Nat) (v : Int32) (a b : Nat) : eL (uI σ k j v) a b = eL σ a b := rfl
theorem eT_uI (σ : ES) (k j : Nat) (v : Int32) (a : Nat) : eT (uI σ k j v) a = eT σ a := rfl
theorem eI_uL (σ : ES) (k j : Nat) (v : Int64) (a b : Nat) : eI (uL σ k j v) a b = eI σ a b := rfl
theorem eL_uL (σ : ES) (k j : Nat) (v : Int64) (a b : Nat) : eL (uL σ k j v) a b = if a = k ∧ b = j then v else eL σ a b := rfl
theorem eT_uL (σ : ES) (k j : Nat) (v : Int64) (a : Nat) : eT (uL σ k j v) a = eT σ a := rfl
theorem eI_uT (σ : ES) (i : Nat) (v : Option Nat) (a b : Nat) : eI (uT σ i v) a b = eI σ a b := rfl
theorem eL_uT (σ : ES) (i : Nat) (v : Option Nat) (a b : Nat) : eL (uT σ i v) a b = eL σ a b := rfl
theorem eT_uT (σ : ES) (i : Nat) (v : Option Nat) (a : Nat) : eT (uT σ i v) a = if a = i then v else eT σ a := rfl
theorem eI_cI (σ : ES) (k0 sp k1 dp n a b : Nat) : eI (ecI σ k0 sp k1 dp n) a b = if a = k1 then (if dp ≤ b ∧ b < dp + n then eI σ k0 (sp + (b - dp)) else eI σ k1 b) else eI σ a b := rfl
theorem eL_cI (σ : ES) (k0 sp k1 dp n a b : Nat) : eL (ecI σ k0 sp k1 dp n) a b = eL σ a b := rfl
theorem eT_cI (σ : ES) (k0 sp k1 dp n a : Nat) : eT (ecI σ k0 sp k1 dp n) a = eT σ a := rfl
theorem eL_cL (σ : ES) (k0 sp k1 dp n a b : Nat) : eL (ecL σ k0 sp k1 dp n) a b = if a = k1 then (if dp ≤ b ∧ b < dp + n then eL σ k0 (sp + (b - dp)) else eL σ k1 b) else eL σ a b := rfl
theorem eI_cL (σ : ES) (k0 sp k1 dp n a b : Nat) : eI (ecL σ k0 sp k1 dp n) a b = eI σ a b := rfl
theorem eT_cL (σ : ES) (k0 sp k1 dp n a : Nat) : eT (ecL σ k0 sp k1 dp n) a = eT σ a := rfl
/-- a finding told: the class's count, the reference's -/
def fx (k : Nat) (σ : ES) : ES := uI σ 60 k (eI σ 60 k + 1)
def gx (k : Nat) (σ : ES) : ES := uI σ 70 k (eI σ 70 k + 1)
theorem find_eq {k : Nat} (h : k < 9) (σ : ES) : e_X9_finding (nI k) σ = some (-2000000001 - nI k, fx k σ) := by
  unfold e_X9_finding fx
  rw [if_pos (mib_nI h (by decide)), nIc (by omega)]
theorem lfind_eq {k : Nat} (h : k < 9) (σ : ES) : e_X9_longFinding (nI k) σ = some (-4000000000000000001 - (nI k).toInt64, fx k σ) := by
  unfold e_X9_longFinding fx
  rw [if_pos (mib_nI h (by decide)), nIc (by omega)]
theorem finds_eq {k : Nat} (h : k < 9) (σ : ES) : e_X10_finds (nI k) σ = some (-2000000001 - nI k, gx k σ) := by
  unfold e_X10_finds gx
  rw [if_pos (mib_nI h (by decide)), nIc (by omega)]
theorem lfinds_eq {k : Nat} (h : k < 9) (σ : ES) : e_X10_farFinds (nI k) σ = some (-4000000000000000001 - (nI k).toInt64, gx k σ) := by
  unfold e_X10_farFinds gx
  rw [if_pos (mib_nI h (by decide)), nIc (by omega)]
