/-! ===== single bits of sets ===== -/
theorem and31 : ∀ w : Nat, w < 32 → nI w &&& 31 = nI w := by decide
theorem smod32 : ∀ w : Nat, w < 32 → ((BitVec.ofNat 32 w).smod 32).toNat = w := by decide
theorem shr_nI {M w : Nat} (hM : M < 2147483648) (hw : w < 32) : nI M >>> (nI w &&& 31) = nI (M >>> w) := by
  rw [and31 w hw]
  have le : M >>> w ≤ M := by
    rw [Nat.shiftRight_eq_div_pow]
    exact Nat.div_le_self _ _
  rw [eq32, nIt (by omega)]
  show ((nI M >>> nI w).toBitVec).toInt = _
  rw [Int32.toBitVec_shiftRight]
  show (BitVec.sshiftRight (nI M).toBitVec ((BitVec.ofNat 32 w).smod 32).toNat).toInt = _
  rw [smod32 w hw, BitVec.toInt_sshiftRight]
  have e : (nI M).toBitVec.toInt = (M : Int) := nIt hM
  rw [e]
  rfl
theorem bit1 {M w : Nat} (hM : M < 2147483648) (hw : w < 32) : ((nI M >>> (nI w &&& 31)) &&& 1) = nI (if M.testBit w = true then 1 else 0) := by
  rw [shr_nI hM hw]
  have le : M >>> w ≤ M := by
    rw [Nat.shiftRight_eq_div_pow]
    exact Nat.div_le_self _ _
  have o : (1 : Int32) = nI 1 := rfl
  rw [o, and_nI (by omega) (by omega), Nat.and_one_is_mod]
  congr 1
  have t : M.testBit w = decide ((M >>> w) % 2 = 1) := by
    rw [Nat.testBit_eq_decide_div_mod_eq, Nat.shiftRight_eq_div_pow]
  rw [t]
  by_cases c : (M >>> w) % 2 = 1
  · rw [c]
    rfl
  · rw [decide_eq_false c]
    have := Nat.mod_two_eq_zero_or_one (M >>> w)
    show (M >>> w) % 2 = 0
    omega
theorem bit_1 {M w : Nat} (hM : M < 2147483648) (hw : w < 32) : ((nI M >>> (nI w &&& 31)) &&& 1) = 1 ↔ M.testBit w = true := by
  rw [bit1 hM hw]
  by_cases c : M.testBit w = true
  · rw [if_pos c]
    exact ⟨fun _ => c, fun _ => rfl⟩
  · rw [if_neg c]
    exact ⟨fun x => absurd x (by decide), fun x => absurd x c⟩
theorem bit_0 {M w : Nat} (hM : M < 2147483648) (hw : w < 32) : ((nI M >>> (nI w &&& 31)) &&& 1) = 0 ↔ M.testBit w = false := by
  rw [bit1 hM hw]
  by_cases c : M.testBit w = true
  · rw [if_pos c, c]
    exact ⟨fun x => absurd x (by decide), fun x => absurd x (by decide)⟩
  · rw [if_neg c]
    exact ⟨fun _ => by simpa using c, fun _ => rfl⟩
theorem and_bit {M w : Nat} (hM : M < 2147483648) (hw : w < 14) : (nI M &&& ((1 : Int32) <<< (nI w &&& 31))) = 0 ↔ M.testBit w = false := by
  have p : (2 : Nat) ^ w < 2 ^ 14 := Nat.pow_lt_pow_right (by decide) hw
  have p' : (2 : Nat) ^ 14 = 16384 := rfl
  have le : M &&& 2 ^ w ≤ 2 ^ w := Nat.and_le_right
  rw [shl_nI w hw, and_nI (by omega) (by omega), ← nI_lit0, nI_inj (by omega) (by omega)]
  constructor
  · intro h
    have := congrArg (fun x => Nat.testBit x w) h
    simpa [Nat.testBit_and, Nat.testBit_two_pow] using this
  · intro h
    apply Nat.eq_of_testBit_eq
    intro i
    rw [Nat.testBit_and, Nat.testBit_two_pow, Nat.zero_testBit]
    by_cases c : w = i
    · subst c
      rw [h]
      rfl
    · simp [c]
