/-! ===== ratio: sets that are no choice, sums ===== -/
theorem bits_any (a : Int32) : ∃ y, e_X10_bits a = some y := by
  have key : ∀ n (x z : Int32), z.toBitVec.toNat < n → ∃ y, e_X10_bits_L4 a n x z = some y := by
    intro n
    induction n with
    | zero => intro x z h; omega
    | succ n ih =>
      intro x z h
      unfold e_X10_bits_L4
      by_cases c : z = 0
      · rw [if_pos c]
        exact ⟨x, rfl⟩
      · rw [if_neg c]
        refine ih _ _ ?_
        have nz : z.toBitVec.toNat ≠ 0 := by
          intro e
          apply c
          apply Int32.toBitVec_inj.mp
          apply BitVec.eq_of_toNat_eq
          rw [e]
          rfl
        have e1 : (z &&& (z - 1)).toBitVec = z.toBitVec &&& (z.toBitVec - 1#32) := rfl
        rw [e1, BitVec.toNat_and]
        have le : z.toBitVec.toNat &&& (z.toBitVec - 1#32).toNat ≤ (z.toBitVec - 1#32).toNat := Nat.and_le_right
        have lt := z.toBitVec.isLt
        have e2 : (z.toBitVec - 1#32).toNat = z.toBitVec.toNat - 1 := by
          rw [BitVec.toNat_sub]
          show (2 ^ 32 - 1 + z.toBitVec.toNat) % 2 ^ 32 = _
          omega
        omega
  exact key mN 0 a (mN_big (by have := a.toBitVec.isLt; omega))
section
variable {d : CD} {σ : ES}
theorem openSet_L (ok : okD d) (hc : cls σ 1 d) {S : Nat} (hS : S < 16384) : ∀ f k, k ≤ dN d → dN d - k < f → e_X1_isOpenSet_1_L18 σ (nI S) f (nI k) = some (bi (decide (∀ i, i < dN d → k ≤ i → S.testBit i = true → opw d i = true))) := by
  have h14 := ok.2.2.1
  intro f
  induction f with
  | zero => intro k h1 h2; omega
  | succ f ih =>
    intro k h1 h2
    have le : nI (dN d) ≤ nI k ↔ dN d ≤ k := nLe (by omega) (by omega)
    simp only [e_X1_isOpenSet_1_L18, hc.2.2.1]
    by_cases q : dN d ≤ k
    · rw [if_pos (le.mpr q), decide_eq_true (fun i i1 i2 => by omega)]
      rfl
    · have hk : k < dN d := by omega
      have e7 : eI σ 7 k = dw d k 5 := hc.2.2.2.2.1 k hk 5 (by decide)
      rw [if_neg (fun y => q (le.mp y)), nI_1]
      have nxt : (S.testBit k = true → opw d k = true) → (decide (∀ i, i < dN d → k + 1 ≤ i → S.testBit i = true → opw d i = true)) = decide (∀ i, i < dN d → k ≤ i → S.testBit i = true → opw d i = true) := by
        intro e
        apply decide_eq_decide.mpr
        constructor
        · intro h i i1 i2 i3
          by_cases c : i = k
          · subst c
            exact e i3
          · exact h i i1 (by omega) i3
        · intro h i i1 i2 i3
          exact h i i1 (by omega) i3
      by_cases b : S.testBit k = true
      · rw [if_neg (fun y => by rw [(and_bit (by omega) (by omega)).mp y] at b; cases b), if_pos (mib_nI (by omega) (by decide)), nIc (by omega), e7]
        by_cases c : dw d k 5 = 0
        · rw [if_pos c, ih (k + 1) (by omega) (by omega), nxt (fun _ => decide_eq_true c)]
        · rw [if_neg c, decide_eq_false (fun h => c (of_decide_eq_true (h k hk (Nat.le_refl _) b)))]
          rfl
      · have b' : S.testBit k = false := by simpa using b
        rw [if_pos ((and_bit (by omega) (by omega)).mpr b'), ih (k + 1) (by omega) (by omega), nxt (fun x => absurd x b)]
theorem openSet_eq (ok : okD d) (hc : cls σ 1 d) {S : Nat} (s1 : 1 ≤ S) (hS : S < 2 ^ dN d) : e_X1_isOpenSet_1 σ (nI S) = some (bi (decide (∀ i, i < dN d → S.testBit i = true → opw d i = true))) := by
  have h14 := ok.2.2.1
  have pw : 2 ^ dN d ≤ 16384 := Nat.pow_le_pow_right (n := 2) (by decide) h14
  have sh : (1 : Int32) <<< (nI (dN d) &&& 31) = nI (2 ^ dN d) := by
    by_cases c : dN d < 14
    · exact shl_nI (dN d) c
    · have : dN d = 14 := by omega
      rw [this]
      rfl
  unfold e_X1_isOpenSet_1
  rw [if_neg (show ¬ nI S ≤ 0 from fun y => by have := (nLe (b := 0) (by omega) (by omega)).mp y; omega), hc.2.2.1, sh, if_pos ((nLt (by omega) (by omega)).mpr hS)]
  have := openSet_L ok hc (S := S) (by omega) mN 0 (Nat.zero_le _) (mN_big (by omega))
  have e : decide (∀ i, i < dN d → 0 ≤ i → S.testBit i = true → opw d i = true) = decide (∀ i, i < dN d → S.testBit i = true → opw d i = true) := decide_eq_decide.mpr ⟨fun h i i1 => h i i1 (Nat.zero_le _), fun h i i1 _ => h i i1⟩
  rw [e] at this
  exact this
theorem openSet_no (ok : okD d) (hc : cls σ 1 d) {a : Int32} (h : ir 1 ((2 ^ dN d : Nat) - 1 : Int) a = false) : e_X1_isOpenSet_1 σ a = some 0 := by
  have h14 := ok.2.2.1
  have pw : 2 ^ dN d ≤ 16384 := Nat.pow_le_pow_right (n := 2) (by decide) h14
  have sh : (1 : Int32) <<< (nI (dN d) &&& 31) = nI (2 ^ dN d) := by
    by_cases c : dN d < 14
    · exact shl_nI (dN d) c
    · have : dN d = 14 := by omega
      rw [this]
      rfl
  have h' : ¬ (1 ≤ a.toInt ∧ a.toInt ≤ ((2 ^ dN d : Nat) : Int) - 1) := fun x => by
    rw [ir_iff.mpr x] at h
    cases h
  unfold e_X1_isOpenSet_1
  by_cases c : a ≤ 0
  · rw [if_pos c]
  · rw [if_neg c, hc.2.2.1, sh]
    rw [le32, show (0 : Int32).toInt = 0 from rfl] at c
    rw [if_neg (fun y => by rw [lt32, nIt (by omega)] at y; omega)]
theorem bring_eq (ok : okD d) (hc : cls σ 1 d) {S : Nat} (hS : S < 2 ^ dN d) (f : Nat → Bool) : e_X1_bringTogether_1 σ (nI S) = some (cX (cWy d f) S) ∧ e_X1_lastTogether_1 σ (nI S) = some (cY (cWy d f) S) := by
  have h14 := ok.2.2.1
  have pw : 2 ^ dN d ≤ 16384 := Nat.pow_le_pow_right (n := 2) (by decide) h14
  have k1 : ∀ n i x, i ≤ dN d → dN d - i < n → x.toInt = sgm (fun i => (bR d i).toInt) S i → e_X1_bringTogether_1_L5 σ (nI S) n x (nI i) = some (cX (cWy d f) S) := by
    intro n
    induction n with
    | zero => intro i x h1 h2; omega
    | succ n ih =>
      intro i x h1 h2 hx
      have le : nI (dN d) ≤ nI i ↔ dN d ≤ i := nLe (by omega) (by omega)
      simp only [e_X1_bringTogether_1_L5, hc.2.2.1]
      by_cases q : dN d ≤ i
      · rw [if_pos (le.mpr q)]
        have e : i = dN d := by omega
        rw [e] at hx
        rw [to64 hx]
        show some (Int64.ofInt (sgm (fun i => (bR d i).toInt) S (dN d))) = some (Int64.ofInt (0 + sgm (fun i => (bR d i).toInt) S (dN d)))
        rw [Int.zero_add]
      · have hi : i < dN d := by omega
        rw [if_neg (fun y => q (le.mp y)), nI_1]
        by_cases b : S.testBit i = true
        · rw [if_neg (fun y => by rw [(and_bit (by omega) (by omega)).mp y] at b; cases b), c_brings ok hc hi, ob, show (brv (dw d i 0) (dw d i 3) (nI (dW d))).toInt64 = bR d i from rfl]
          have bb := sgm_b (g := fun i => (bR d i).toInt) (lo := -1100000000) (hi := 1100000000) (by omega) (by omega) S i (fun j hj => bR_b ok (by omega))
          have w := bR_b ok hi
          refine ih (i + 1) _ (by omega) (by omega) ?_
          rw [sgm_s, if_pos b, add64, hx]
          · rw [hx]
            omega
          · rw [hx]
            omega
        · have b' : S.testBit i = false := by simpa using b
          rw [if_pos ((and_bit (by omega) (by omega)).mpr b')]
          refine ih (i + 1) x (by omega) (by omega) ?_
          rw [sgm_s, if_neg b, hx, Int.add_zero]
  have k2 : ∀ n i x, i ≤ dN d → dN d - i < n → x.toInt = sgm (fun i => (lR d i).toInt) S i → e_X1_lastTogether_1_L5 σ (nI S) n x (nI i) = some (cY (cWy d f) S) := by
    intro n
    induction n with
    | zero => intro i x h1 h2; omega
    | succ n ih =>
      intro i x h1 h2 hx
      have le : nI (dN d) ≤ nI i ↔ dN d ≤ i := nLe (by omega) (by omega)
      simp only [e_X1_lastTogether_1_L5, hc.2.2.1]
      by_cases q : dN d ≤ i
      · rw [if_pos (le.mpr q)]
        have e : i = dN d := by omega
        rw [e] at hx
        rw [to64 hx]
        show some (Int64.ofInt (sgm (fun i => (lR d i).toInt) S (dN d))) = some (Int64.ofInt (0 + sgm (fun i => (lR d i).toInt) S (dN d)))
        rw [Int.zero_add]
      · have hi : i < dN d := by omega
        rw [if_neg (fun y => q (le.mp y)), nI_1]
        by_cases b : S.testBit i = true
        · rw [if_neg (fun y => by rw [(and_bit (by omega) (by omega)).mp y] at b; cases b), c_lasts ok hc hi, ob, show (lsv (dw d i 0) (dw d i 4) (nI (dW d))).toInt64 = lR d i from rfl]
          have bb := sgm_b (g := fun i => (lR d i).toInt) (lo := 0) (hi := 2100000) (by omega) (by omega) S i (fun j hj => by have := lR_b ok (w := j) (by omega); exact ⟨by show 0 ≤ (lR d j).toInt; omega, this.2⟩)
          have w := lR_b ok hi
          refine ih (i + 1) _ (by omega) (by omega) ?_
          rw [sgm_s, if_pos b, add64, hx]
          · rw [hx]
            omega
          · rw [hx]
            omega
        · have b' : S.testBit i = false := by simpa using b
          rw [if_pos ((and_bit (by omega) (by omega)).mpr b')]
          refine ih (i + 1) x (by omega) (by omega) ?_
          rw [sgm_s, if_neg b, hx, Int.add_zero]
  exact ⟨k1 mN 0 0 (Nat.zero_le _) (mN_big (by omega)) rfl, k2 mN 0 0 (Nat.zero_le _) (mN_big (by omega)) rfl⟩
theorem gain_eq (ok : okD d) (hc : cls σ 1 d) {S : Nat} (hS : S < 2 ^ dT d) (k : Nat) : e_X1_gainTogether_1 σ (nI S) = some (cX (cL d k) S) ∧ e_X1_timeTogether_1 σ (nI S) = some (cY (cL d k) S) := by
  have t12 := ok.2.2.2.1
  have okc := cL_ok ok k
  have pw : 2 ^ dT d ≤ 16384 := Nat.pow_le_pow_right (n := 2) (by decide) (show dT d ≤ 14 by omega)
  have o := okc.2.2.1
  have o1 : (cL d k).2.1.1 = (dt d 0 0).toInt := rfl
  have o2 : (cL d k).2.1.2 = (dt d 0 1).toInt := rfl
  have k1 : ∀ n i x, i ≤ dT d → dT d - i < n → x.toInt = (dt d 0 0).toInt + sgm (cG (cL d k)) S i → e_X1_sumWithBase_1_8_L8 σ (nI S) n x (nI i) = some (cX (cL d k) S) := by
    intro n
    induction n with
    | zero => intro i x h1 h2; omega
    | succ n ih =>
      intro i x h1 h2 hx
      have le : nI (dT d) ≤ nI i ↔ dT d ≤ i := nLe (by omega) (by omega)
      simp only [e_X1_sumWithBase_1_8_L8, hc.2.2.2.1]
      by_cases q : dT d ≤ i
      · rw [if_pos (le.mpr q)]
        have e : i = dT d := by omega
        rw [e] at hx
        rw [to64 hx]
        rfl
      · have hi : i < dT d := by omega
        have v : eI σ 8 (i + 1) = dt d (i + 1) 0 := hc.2.2.2.2.2 (i + 1) (by omega) 0 (by decide)
        rw [if_neg (fun y => q (le.mp y)), nI_1]
        by_cases b : S.testBit i = true
        · rw [if_neg (fun y => by rw [(and_bit (by omega) (by omega)).mp y] at b; cases b), if_pos (mib_nI (by omega) (by decide)), nIc (by omega), v]
          have bb := sgm_b (g := cG (cL d k)) (lo := -1100000000) (hi := 1100000000) (by omega) (by omega) S i (fun j hj => ⟨(okc.2.1 j (by show j < dT d; omega)).1, (okc.2.1 j (by show j < dT d; omega)).2.1⟩)
          have w := okc.2.1 i hi
          have wv : cG (cL d k) i = (dt d (i + 1) 0).toInt := rfl
          refine ih (i + 1) _ (by omega) (by omega) ?_
          rw [sgm_s, if_pos b, add64, hx, t64, wv]
          · omega
          · rw [hx, t64]
            omega
          · rw [hx, t64]
            omega
        · have b' : S.testBit i = false := by simpa using b
          rw [if_pos ((and_bit (by omega) (by omega)).mpr b')]
          refine ih (i + 1) x (by omega) (by omega) ?_
          rw [sgm_s, if_neg b, hx, Int.add_zero]
  have k2 : ∀ n i x, i ≤ dT d → dT d - i < n → x.toInt = (dt d 0 1).toInt + sgm (cT (cL d k)) S i → e_X1_sumWithBase_1_9_L8 σ (nI S) n x (nI i) = some (cY (cL d k) S) := by
    intro n
    induction n with
    | zero => intro i x h1 h2; omega
    | succ n ih =>
      intro i x h1 h2 hx
      have le : nI (dT d) ≤ nI i ↔ dT d ≤ i := nLe (by omega) (by omega)
      simp only [e_X1_sumWithBase_1_9_L8, hc.2.2.2.1]
      by_cases q : dT d ≤ i
      · rw [if_pos (le.mpr q)]
        have e : i = dT d := by omega
        rw [e] at hx
        rw [to64 hx]
        rfl
      · have hi : i < dT d := by omega
        have v : eI σ 9 (i + 1) = dt d (i + 1) 1 := hc.2.2.2.2.2 (i + 1) (by omega) 1 (by decide)
        rw [if_neg (fun y => q (le.mp y)), nI_1]
        by_cases b : S.testBit i = true
        · rw [if_neg (fun y => by rw [(and_bit (by omega) (by omega)).mp y] at b; cases b), if_pos (mib_nI (by omega) (by decide)), nIc (by omega), v]
          have bb := sgm_b (g := cT (cL d k)) (lo := 0) (hi := 2100000) (by omega) (by omega) S i (fun j hj => ⟨(okc.2.1 j (by show j < dT d; omega)).2.2.1, (okc.2.1 j (by show j < dT d; omega)).2.2.2⟩)
          have w := okc.2.1 i hi
          have wv : cT (cL d k) i = (dt d (i + 1) 1).toInt := rfl
          refine ih (i + 1) _ (by omega) (by omega) ?_
          rw [sgm_s, if_pos b, add64, hx, t64, wv]
          · omega
          · rw [hx, t64]
            omega
          · rw [hx, t64]
            omega
        · have b' : S.testBit i = false := by simpa using b
          rw [if_pos ((and_bit (by omega) (by omega)).mpr b')]
          refine ih (i + 1) x (by omega) (by omega) ?_
          rw [sgm_s, if_neg b, hx, Int.add_zero]
  have e8 : eI σ 8 0 = dt d 0 0 := hc.2.2.2.2.2 0 (by omega) 0 (by decide)
  have e9 : eI σ 9 0 = dt d 0 1 := hc.2.2.2.2.2 0 (by omega) 1 (by decide)
  constructor
  · unfold e_X1_gainTogether_1 e_X1_sumWithBase_1_8
    rw [if_pos (by decide), show (0 : Int32).toNatClampNeg = 0 from rfl, e8]
    have := k1 mN 0 (dt d 0 0).toInt64 (Nat.zero_le _) (mN_big (by omega)) (by rw [t64]; show _ = _ + 0; omega)
    have this' : e_X1_sumWithBase_1_8_L8 σ (nI S) mN (dt d 0 0).toInt64 0 = some (cX (cL d k) S) := this
    rw [this', ob]
  · unfold e_X1_timeTogether_1 e_X1_sumWithBase_1_9
    rw [if_pos (by decide), show (0 : Int32).toNatClampNeg = 0 from rfl, e9]
    have := k2 mN 0 (dt d 0 1).toInt64 (Nat.zero_le _) (mN_big (by omega)) (by rw [t64]; show _ = _ + 0; omega)
    have this' : e_X1_sumWithBase_1_9_L8 σ (nI S) mN (dt d 0 1).toInt64 0 = some (cY (cL d k) S) := this
    rw [this', ob]
end
