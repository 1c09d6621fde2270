/-! ===== the greatest shared part: both loops ===== -/
theorem bm_u {w z c : Int} (h : w = z + 18446744073709551616 * c) (h1 : -9223372036854775808 ≤ z) (h2 : z ≤ 9223372036854775807) : w.bmod (2 ^ 64) = z := by
  have e : w.bmod (2 ^ 64) = if w % 18446744073709551616 < 9223372036854775808 then w % 18446744073709551616 else w % 18446744073709551616 - 18446744073709551616 := rfl
  rw [e]
  by_cases c : w % 18446744073709551616 < 9223372036854775808
  · rw [if_pos c]
    omega
  · rw [if_neg c]
    omega
theorem tmod_lt {a b : Int} (h : b ≠ 0) : (a.tmod b).natAbs < b.natAbs := by
  rw [Int.natAbs_tmod]
  exact Nat.mod_lt _ (by omega)
theorem mod64 {a b : Int64} (hb : ¬ b = 0) : (a - a / b * b).toInt = a.toInt.tmod b.toInt := by
  have n0 : b.toInt ≠ 0 := fun e => hb (eq64.mpr e)
  have rb := r64 b
  have tm := tmod_lt (a := a.toInt) n0
  obtain ⟨k1, h1⟩ := bm_ex (a.toInt.tdiv b.toInt)
  obtain ⟨k2, h2⟩ := bm_ex ((a.toInt.tdiv b.toInt).bmod (2 ^ 64) * b.toInt)
  have pm := Int.mul_tdiv_add_tmod a.toInt b.toInt
  rw [Int64.toInt_sub, Int64.toInt_mul, Int64.toInt_div, h2, h1]
  refine bm_u (c := -(k1 * b.toInt) - k2) ?_ (by omega) (by omega)
  rw [Int.add_mul, Int.mul_assoc, Int.mul_comm (a.toInt.tdiv b.toInt)]
  revert pm
  generalize b.toInt * a.toInt.tdiv b.toInt = u
  generalize k1 * b.toInt = v
  intro pm
  omega
/-- a step of Euclid, then a second one: the rest is less than half -/
theorem half {a b : Int} (hb : b ≠ 0) (hr : a.tmod b ≠ 0) : 2 * (b.tmod (a.tmod b)).natAbs < b.natAbs := by
  have t1 := tmod_lt (a := a) hb
  have t2 := tmod_lt (a := b) hr
  rw [Int.natAbs_tmod b] at t2 ⊢
  have t3 : b.natAbs % (a.tmod b).natAbs ≤ b.natAbs - (a.tmod b).natAbs := by
    have e := Nat.mod_eq_sub_mod (Nat.le_of_lt t1)
    rw [e]
    exact Nat.mod_le _ _
  omega
theorem tmod_neg {a b : Int} (h : a ≤ 0) : a.tmod b ≤ 0 := by
  have := Int.tmod_nonneg b (a := -a) (by omega)
  rw [Int.neg_tmod] at this
  omega
theorem gcd_L (A1 A2 : Int64) (a1 a2 x4 : Int32) (X XD : Int64) (σ : ES) : ∀ k (a b : Int64) c n m, b.toInt.natAbs < 2 ^ k → a.toInt ≤ 0 → b.toInt ≤ 0 → c + 2 * k < 200 → 2 * k < n → 2 * k < m → ∃ g, e_X9_sharedBelowZero_L31 A1 A2 n a b (nI c) = some g ∧ e_X10_reduce_L80 a1 a2 m x4 X XD a b σ = e_X10_reduce_L80 a1 a2 1 x4 X XD g 0 σ ∧ g.toInt ≤ 0 ∧ (b = 0 → g = a) ∧ (¬ b = 0 → g.toInt ≠ 0 ∧ g.toInt.natAbs ≤ b.toInt.natAbs) := by
  have step1 : ∀ (a b : Int64) c n, ¬ b = 0 → c < 200 → e_X9_sharedBelowZero_L31 A1 A2 (n + 1) a b (nI c) = e_X9_sharedBelowZero_L31 A1 A2 n b (a - a / b * b) (nI (c + 1)) := by
    intro a b c n h1 h2
    have le : (200 : Int32) ≤ nI c ↔ 200 ≤ c := nLe (a := 200) (by omega) (by omega)
    simp only [e_X9_sharedBelowZero_L31]
    rw [if_neg (fun x => by have := le.mp x; omega), if_neg h1, if_neg h1, nI_1]
  have step2 : ∀ (a b : Int64) m, ¬ b = 0 → e_X10_reduce_L80 a1 a2 (m + 1) x4 X XD a b σ = e_X10_reduce_L80 a1 a2 m x4 X XD b (a - a / b * b) σ := by
    intro a b m h1
    simp only [e_X10_reduce_L80]
    rw [if_neg h1, if_neg h1]
  have stop1 : ∀ (a : Int64) c n, c < 200 → e_X9_sharedBelowZero_L31 A1 A2 (n + 1) a 0 (nI c) = some a := by
    intro a c n h2
    have le : (200 : Int32) ≤ nI c ↔ 200 ≤ c := nLe (a := 200) (by omega) (by omega)
    simp only [e_X9_sharedBelowZero_L31]
    rw [if_neg (fun x => by have := le.mp x; omega), if_pos trivial]
  have stop2 : ∀ (a : Int64) m, e_X10_reduce_L80 a1 a2 (m + 1) x4 X XD a 0 σ = e_X10_reduce_L80 a1 a2 1 x4 X XD a 0 σ := by
    intro a m
    simp only [e_X10_reduce_L80]
    rw [if_pos trivial, if_pos trivial]
  intro k
  induction k with
  | zero =>
    intro a b c n m h1 h2 h3 h4 h5 h6
    have b0 : b = 0 := eq64.mpr (by show b.toInt = 0; simp at h1; omega)
    subst b0
    obtain ⟨n, rfl⟩ : ∃ n', n = n' + 1 := ⟨n - 1, by omega⟩
    obtain ⟨m, rfl⟩ : ∃ m', m = m' + 1 := ⟨m - 1, by omega⟩
    exact ⟨a, stop1 a c n (by omega), stop2 a m, h2, fun _ => rfl, fun x => absurd rfl x⟩
  | succ k ih =>
    intro a b c n m h1 h2 h3 h4 h5 h6
    obtain ⟨n, rfl⟩ : ∃ n', n = n' + 2 := ⟨n - 2, by omega⟩
    obtain ⟨m, rfl⟩ : ∃ m', m = m' + 2 := ⟨m - 2, by omega⟩
    by_cases b0 : b = 0
    · subst b0
      exact ⟨a, stop1 a c (n + 1) (by omega), stop2 a (m + 1), h2, fun _ => rfl, fun x => absurd rfl x⟩
    · have n0 : b.toInt ≠ 0 := fun e => b0 (eq64.mpr e)
      rw [step1 a b c (n + 1) b0 (by omega), step2 a b (m + 1) b0]
      have e1 := mod64 (a := a) b0
      revert e1
      generalize a - a / b * b = r
      intro e1
      by_cases r0 : r = 0
      · subst r0
        exact ⟨b, stop1 b (c + 1) n (by omega), stop2 b m, h3, fun x => absurd x b0, fun _ => ⟨n0, Nat.le_refl _⟩⟩
      · have m0 : r.toInt ≠ 0 := fun e => r0 (eq64.mpr e)
        have rr : r.toInt ≤ 0 := by rw [e1]; exact tmod_neg h2
        have lt1 : r.toInt.natAbs < b.toInt.natAbs := by rw [e1]; exact tmod_lt n0
        rw [step1 b r (c + 1) n r0 (by omega), step2 b r m r0]
        have e2 := mod64 (a := b) r0
        have hf := half (a := a.toInt) n0 (by rw [← e1]; exact m0)
        rw [← e1, ← e2] at hf
        have q0 : (b - b / r * r).toInt ≤ 0 := by rw [e2]; exact tmod_neg h3
        have lt2 : (b - b / r * r).toInt.natAbs < r.toInt.natAbs := by rw [e2]; exact tmod_lt m0
        revert hf q0 lt2
        generalize b - b / r * r = q
        intro hf q0 lt2
        have pw : 2 ^ (k + 1) = 2 * 2 ^ k := by rw [Nat.pow_succ, Nat.mul_comm]
        obtain ⟨g, g1, g2, g3, g4, g5⟩ := ih r q (c + 1 + 1) n m (by omega) rr q0 (by omega) (by omega) (by omega)
        refine ⟨g, g1, g2, g3, fun x => absurd x b0, fun _ => ?_⟩
        by_cases qz : q = 0
        · rw [g4 qz]
          exact ⟨m0, by omega⟩
        · have := g5 qz
          exact ⟨this.1, by omega⟩
