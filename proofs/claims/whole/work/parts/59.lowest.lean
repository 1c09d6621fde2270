/-! ===== lowest terms ===== -/
theorem negmod {a b : Int64} (ha : 0 ≤ a.toInt) (hb : 0 < b.toInt) : (-a) - (-a) / (-b) * (-b) = -(a - a / b * b) := by
  have n0 : ¬ b = 0 := fun e => by
    have := eq64.mp e
    have z : (0 : Int64).toInt = 0 := rfl
    omega
  have n1 : ¬ -b = 0 := fun e => by
    have := eq64.mp e
    rw [neg64 (by omega)] at this
    have z : (0 : Int64).toInt = 0 := rfl
    omega
  have m1 := mod64 (a := a) n0
  have m2 := mod64 (a := -a) n1
  have tm := Int.tmod_nonneg b.toInt ha
  rw [eq64, m2, neg64 (x := a) (by omega), neg64 (x := b) (by omega), neg64 (x := a - a / b * b) (by rw [m1]; omega), m1, Int.neg_tmod, Int.tmod_neg]
theorem gcd_B (A1 A2 : Int64) : ∀ k (a b : Int64) c n m, b.toInt < 2 ^ k → 0 ≤ a.toInt → 0 ≤ b.toInt → c + 2 * k < 200 → 2 * k < n → 2 * k < m → ∃ g : Int64, e_X9_sharedBelowZero_L31 A1 A2 n (-a) (-b) (nI c) = some (-g) ∧ e_X10_common_L17 A1 A2 m a b = some g ∧ 0 ≤ g.toInt ∧ (¬ b = 0 → 1 ≤ g.toInt) ∧ g.toInt ∣ a.toInt ∧ g.toInt ∣ b.toInt := by
  have z : (0 : Int64).toInt = 0 := rfl
  have step1 : ∀ (a b : Int64) c n, 0 ≤ a.toInt → 0 < b.toInt → c < 200 → e_X9_sharedBelowZero_L31 A1 A2 (n + 1) (-a) (-b) (nI c) = e_X9_sharedBelowZero_L31 A1 A2 n (-b) (-(a - a / b * b)) (nI (c + 1)) := by
    intro a b c n h0 h1 h2
    have le : (200 : Int32) ≤ nI c ↔ 200 ≤ c := nLe (a := 200) (by omega) (by omega)
    have n1 : ¬ -b = 0 := fun e => by
      have := eq64.mp e
      rw [neg64 (by omega)] at this
      omega
    simp only [e_X9_sharedBelowZero_L31]
    rw [if_neg (fun x => by have := le.mp x; omega), if_neg n1, if_neg n1, nI_1, negmod h0 h1]
  have step2 : ∀ (a b : Int64) m, 0 < b.toInt → e_X10_common_L17 A1 A2 (m + 1) a b = e_X10_common_L17 A1 A2 m b (a - a / b * b) := by
    intro a b m h1
    have n0 : ¬ b = 0 := fun e => by
      have := eq64.mp e
      omega
    simp only [e_X10_common_L17]
    rw [if_neg n0, if_neg n0]
  have nz : -(0 : Int64) = 0 := rfl
  have stop1 : ∀ (a : Int64) c n, c < 200 → e_X9_sharedBelowZero_L31 A1 A2 (n + 1) (-a) (-0) (nI c) = some (-a) := by
    intro a c n h2
    have le : (200 : Int32) ≤ nI c ↔ 200 ≤ c := nLe (a := 200) (by omega) (by omega)
    simp only [e_X9_sharedBelowZero_L31]
    rw [if_neg (fun x => by have := le.mp x; omega), nz, if_pos rfl]
  have stop2 : ∀ (a : Int64) m, e_X10_common_L17 A1 A2 (m + 1) a 0 = some a := by
    intro a m
    simp only [e_X10_common_L17]
    rw [if_pos trivial]
  intro k
  induction k with
  | zero =>
    intro a b c n m h1 h2 h3 h4 h5 h6
    have b0 : b = 0 := eq64.mpr (by rw [z]; simp at h1; omega)
    subst b0
    obtain ⟨n, rfl⟩ : ∃ n', n = n' + 1 := ⟨n - 1, by omega⟩
    obtain ⟨m, rfl⟩ : ∃ m', m = m' + 1 := ⟨m - 1, by omega⟩
    exact ⟨a, stop1 a c n (by omega), stop2 a m, h2, fun x => absurd rfl x, Int.dvd_refl _, ⟨0, by rw [z]; omega⟩⟩
  | succ k ih =>
    intro a b c n m h1 h2 h3 h4 h5 h6
    obtain ⟨n, rfl⟩ : ∃ n', n = n' + 2 := ⟨n - 2, by omega⟩
    obtain ⟨m, rfl⟩ : ∃ m', m = m' + 2 := ⟨m - 2, by omega⟩
    by_cases b0 : b = 0
    · subst b0
      exact ⟨a, stop1 a c (n + 1) (by omega), stop2 a (m + 1), h2, fun x => absurd rfl x, Int.dvd_refl _, ⟨0, by rw [z]; omega⟩⟩
    · have n0 : b.toInt ≠ 0 := fun e => b0 (eq64.mpr e)
      rw [step1 a b c (n + 1) h2 (by omega) (by omega), step2 a b (m + 1) (by omega)]
      have e1 := mod64 (a := a) b0
      revert e1
      generalize a - a / b * b = r
      intro e1
      have pm := Int.mul_tdiv_add_tmod a.toInt b.toInt
      rw [← e1] at pm
      have tm := Int.tmod_nonneg b.toInt h2
      rw [← e1] at tm
      have up : ∀ g : Int, g ∣ b.toInt → g ∣ r.toInt → g ∣ a.toInt := by
        intro g g1 g2
        rw [← pm]
        exact Int.dvd_add (Int.dvd_trans g1 (Int.dvd_mul_right _ _)) g2
      by_cases r0 : r = 0
      · subst r0
        exact ⟨b, stop1 b (c + 1) n (by omega), stop2 b m, h3, fun _ => by omega, up _ (Int.dvd_refl _) ⟨0, by rw [z]; omega⟩, Int.dvd_refl _⟩
      · have m0 : r.toInt ≠ 0 := fun e => r0 (eq64.mpr e)
        have lt1 : r.toInt.natAbs < b.toInt.natAbs := by rw [e1]; exact tmod_lt n0
        rw [step1 b r (c + 1) n h3 (by omega) (by omega), step2 b r m (by omega)]
        have e2 := mod64 (a := b) r0
        have hf := half (a := a.toInt) n0 (by rw [← e1]; exact m0)
        rw [← e1, ← e2] at hf
        have pm2 := Int.mul_tdiv_add_tmod b.toInt r.toInt
        rw [← e2] at pm2
        have tm2 := Int.tmod_nonneg r.toInt h3
        rw [← e2] at tm2
        revert hf tm2 pm2
        generalize b - b / r * r = q
        intro hf pm2 tm2
        have pw : (2 : Int) ^ (k + 1) = 2 * 2 ^ k := by rw [Int.pow_succ, Int.mul_comm]
        obtain ⟨g, g1, g2, g3, g4, g5, g6⟩ := ih r q (c + 1 + 1) n m (by omega) (by omega) tm2 (by omega) (by omega) (by omega)
        have gb : g.toInt ∣ b.toInt := by
          rw [← pm2]
          exact Int.dvd_add (Int.dvd_trans g5 (Int.dvd_mul_right _ _)) g6
        refine ⟨g, g1, g2, g3, fun _ => ?_, up _ gb g5, gb⟩
        by_cases c0 : g.toInt = 0
        · rw [c0] at gb
          have := Int.zero_dvd.mp gb
          omega
        · omega
/-- the fraction in lowest terms is the same on both sides -/
theorem low_eq {A B : Int64} (h1 : -9000000000000000000 ≤ A.toInt) (h2 : A.toInt ≤ 9000000000000000000) (h3 : 1 ≤ B.toInt) (h4 : B.toInt ≤ 1000000000) : ∃ x y : Int64, e_X9_lowest A B 0 = some x ∧ e_X10_lowest A B 0 = some x ∧ (∀ v, ¬ v = 0 → e_X9_lowest A B v = some y ∧ e_X10_lowest A B v = some y) ∧ ∃ g : Int, 1 ≤ g ∧ A.toInt = x.toInt * g ∧ B.toInt = y.toInt * g := by
  have z : (0 : Int64).toInt = 0 := rfl
  have o1 : (1 : Int64).toInt = 1 := rfl
  have b0 : ¬ B = 0 := fun e => by
    have := eq64.mp e
    omega
  have nB : ¬ B ≤ 0 := by rw [le64, z]; omega

  obtain ⟨a, ea, ha, hs, hm⟩ : ∃ a : Int64, (a.toInt = A.toInt ∨ a.toInt = -A.toInt) ∧ 0 ≤ a.toInt ∧ e_X9_sharedBelowZero A B = e_X9_sharedBelowZero_L31 A B mN (-a) (-B) (nI 0) ∧ e_X10_common A B = e_X10_common_L17 A B mN a B := by
    by_cases c : 0 ≤ A.toInt
    · by_cases c' : A.toInt = 0
      · have : A = 0 := eq64.mpr c'
        subst this
        refine ⟨0, Or.inl rfl, c, ?_, ?_⟩
        · unfold e_X9_sharedBelowZero e_X9_sharedBelowZero_J12
          rw [if_pos (by decide), if_neg nB]
          rfl
        · unfold e_X10_common
          rw [if_pos (by decide)]
      · refine ⟨A, Or.inl rfl, c, ?_, ?_⟩
        · unfold e_X9_sharedBelowZero e_X9_sharedBelowZero_J12
          rw [if_neg (by rw [le64, z]; omega), if_neg nB]
          rfl
        · unfold e_X10_common
          rw [if_pos (by rw [le64, z]; omega)]
    · have nn : (-A).toInt = -A.toInt := neg64 (by omega)
      have n2 : -(-A) = A := by rw [eq64, neg64 (by omega), nn]; omega
      refine ⟨-A, Or.inr nn, by omega, ?_, ?_⟩
      · unfold e_X9_sharedBelowZero e_X9_sharedBelowZero_J12
        rw [if_pos (by rw [le64, z]; omega), if_neg nB, n2]
        rfl
      · unfold e_X10_common
        rw [if_neg (by rw [le64, z]; omega)]
  obtain ⟨g, g1, g2, g3, g4, g5, g6⟩ := gcd_B A B 30 a B 0 mN mN (by have : (2 : Int) ^ 30 = 1073741824 := rfl; omega) ha (by omega) (by omega) (mN_big (by omega)) (mN_big (by omega))
  have gp := g4 b0
  have nn : -(-g) = g := by
    have := r64 g
    rw [eq64, neg64 (by rw [neg64 (by omega)]; omega), neg64 (by omega)]
    omega
  have gn : ¬ g = 0 := fun e => by
    have := eq64.mp e
    omega
  have gA : g.toInt ∣ A.toInt := by
    rcases ea with e | e
    · rw [← e]
      exact g5
    · rw [e] at g5
      exact Int.dvd_neg.mp g5
  have dv : ∀ X : Int64, -9000000000000000000 ≤ X.toInt → X.toInt ≤ 9000000000000000000 → g.toInt ∣ X.toInt → X.toInt = (X / g).toInt * g.toInt := by
    intro X x1 x2 x3
    have q := Int.natAbs_tdiv_le_natAbs X.toInt g.toInt
    rw [Int64.toInt_div, bm64 (by omega) (by omega)]
    exact (Int.tdiv_mul_cancel x3).symm
  refine ⟨A / g, B / g, ?_, ?_, fun v hv => ⟨?_, ?_⟩, g.toInt, gp, dv A h1 h2 gA, dv B (by omega) (by omega) g6⟩
  · unfold e_X9_lowest
    rw [hs, g1, ob, nn, if_pos (by rw [le64, o1]; omega), if_pos rfl, if_neg gn]
  · unfold e_X10_lowest
    rw [hm, g2, ob, if_pos rfl, if_neg gn]
  · unfold e_X9_lowest
    rw [hs, g1, ob, nn, if_pos (by rw [le64, o1]; omega), if_neg hv, if_neg gn]
  · unfold e_X10_lowest
    rw [hm, g2, ob, if_neg hv, if_neg gn]
