/-! ===== reduce ===== -/
theorem Rel_put2 {σ : ES} (hR : Rel σ) {s i : Nat} (hs : s < 4) (hi : i < 39) (V1 V2 : Int64) : Rel (uL (uL (uL (uL σ (62 + 2 * s) i V1) (62 + 2 * s) (i + 1) V2) 77 (40 * s + i) V1) 77 (40 * s + i + 1) V2) := by
  refine Rel_S hR (fun _ _ _ => rfl) (RSh_put2 (s := s) (i := i) (v1 := V1) (v2 := V2) hR.2.2.2.1 (fun _ _ _ => rfl) (fun s' j' _ hj' => ?_) (fun s' j' _ hj' => ?_))
  · rw [eL_uL, if_neg (by omega), eL_uL, if_neg (by omega), eL_uL, eL_uL]
    by_cases c1 : s' = s ∧ j' = i + 1
    · rw [if_pos c1, if_pos (by omega)]
    · rw [if_neg c1, if_neg (by omega)]
      by_cases c2 : s' = s ∧ j' = i
      · rw [if_pos c2, if_pos (by omega)]
      · rw [if_neg c2, if_neg (by omega)]
  · rw [eL_uL, eL_uL]
    by_cases c1 : s' = s ∧ j' = i + 1
    · rw [if_pos c1, if_pos (by omega)]
    · rw [if_neg c1, if_neg (by omega)]
      by_cases c2 : s' = s ∧ j' = i
      · rw [if_pos c2, if_pos (by omega)]
      · rw [if_neg c2, if_neg (by omega), eL_uL, if_neg (by omega), eL_uL, if_neg (by omega)]
def bz (x : Int64) : Int64 := if x ≤ 0 then x else -x
theorem bz_p (x : Int64) : (bz x).toInt ≤ 0 ∧ (bz x).toInt.natAbs = x.toInt.natAbs := by
  have z : (0 : Int64).toInt = 0 := rfl
  unfold bz
  by_cases c : x ≤ 0
  · rw [if_pos c]
    rw [le64, z] at c
    exact ⟨c, rfl⟩
  · rw [if_neg c]
    rw [le64, z] at c
    rw [neg64 (by omega)]
    omega
theorem sign_q {x g : Int64} (hg : g.toInt < 0) (hm : ¬ g = -9223372036854775808) (hl : g.toInt.natAbs ≤ x.toInt.natAbs) : 0 ≤ x / -g ↔ 0 ≤ x := by
  have z : (0 : Int64).toInt = 0 := rfl
  have mm : (-9223372036854775808 : Int64).toInt = -9223372036854775808 := rfl
  have rg := r64 g
  have rx := r64 x
  have hm' : ¬ g.toInt = -9223372036854775808 := fun h => hm (eq64.mpr (h.trans mm.symm))
  rw [le64, le64, z, Int64.toInt_div, neg64 (by omega)]
  have q1 := Int.natAbs_tdiv_le_natAbs x.toInt (-g.toInt)
  have q2 : (x.toInt.tdiv (-g.toInt)).natAbs = x.toInt.natAbs / (-g.toInt).natAbs := Int.natAbs_tdiv _ _
  have q3 : 0 < x.toInt.natAbs / (-g.toInt).natAbs := Nat.div_pos (by omega) (by omega)
  by_cases c : 0 ≤ x.toInt
  · have := Int.tdiv_nonneg (a := x.toInt) (b := -g.toInt) c (by omega)
    rw [bm64 (by omega) (by omega)]
    omega
  · have := Int.tdiv_nonneg (a := -x.toInt) (b := -g.toInt) (by omega) (by omega)
    rw [Int.neg_tdiv] at this
    rw [bm64 (by omega) (by omega)]
    omega
