/-! ===== rings as a list; the reference's search ===== -/
theorem sub_nI {m k : Nat} (hm : m < 16384) (hk : k < 16384) : (nI m &&& (nI k ^^^ (-1))) = 0 ↔ m &&& k = m := by
  have e : (nI m &&& (nI k ^^^ (-1))).toBitVec = BitVec.ofNat 32 m &&& ~~~ (BitVec.ofNat 32 k) := by
    show BitVec.ofNat 32 m &&& (BitVec.ofNat 32 k ^^^ BitVec.allOnes 32) = _
    rw [BitVec.xor_allOnes]
  rw [← Int32.toBitVec_inj, e]
  have bit : ∀ i, i < 32 → (BitVec.ofNat 32 m &&& ~~~ (BitVec.ofNat 32 k)).getLsbD i = (m.testBit i && !k.testBit i) := by
    intro i hi
    simp only [BitVec.getLsbD_and, BitVec.getLsbD_not, BitVec.getLsbD_ofNat, hi, decide_true, Bool.true_and]
  constructor
  · intro h
    have h' : BitVec.ofNat 32 m &&& ~~~ (BitVec.ofNat 32 k) = 0#32 := h
    apply Nat.eq_of_testBit_eq
    intro i
    rw [Nat.testBit_and]
    by_cases c : i < 32
    · have b := bit i c
      rw [h', BitVec.getLsbD_zero] at b
      revert b
      cases m.testBit i <;> cases k.testBit i <;> decide
    · have : m < 2 ^ i := Nat.lt_of_lt_of_le hm (by have := Nat.pow_le_pow_right (n := 2) (by decide) (show 14 ≤ i by omega); exact this)
      rw [Nat.testBit_lt_two_pow this]
      rfl
  · intro h
    show BitVec.ofNat 32 m &&& ~~~ (BitVec.ofNat 32 k) = 0#32
    apply BitVec.eq_of_getLsbD_eq
    intro i hi
    rw [bit i hi, BitVec.getLsbD_zero]
    have := congrArg (fun x => Nat.testBit x i) h
    simp only [Nat.testBit_and] at this
    revert this
    cases m.testBit i <;> cases k.testBit i <;> decide
abbrev Rg : Type := Nat × Int64 × Int64
abbrev Acc : Type := Bool × Nat × Int64 × Int64
def wf (d : CD) (w : Nat) : Nat := (dw d w 1).toNatClampNeg
def wt (d : CD) (w : Nat) : Nat := (dw d w 2).toNatClampNeg
def bR (d : CD) (w : Nat) : Int64 := (brv (dw d w 0) (dw d w 3) (nI (dW d))).toInt64
def lR (d : CD) (w : Nat) : Int64 := (lsv (dw d w 0) (dw d w 4) (nI (dW d))).toInt64
theorem wf_eq {d : CD} (ok : okD d) {w : Nat} (hw : w < dN d) : dw d w 1 = nI (wf d w) ∧ wf d w < dP d := by
  have o := (ok.2.2.2.2.1 w hw).2.1
  obtain ⟨k, e, hk, hh⟩ := nI_ex o.1
  unfold wf
  rw [hh, nIc hk]
  exact ⟨rfl, by omega⟩
theorem wt_eq {d : CD} (ok : okD d) {w : Nat} (hw : w < dN d) : dw d w 2 = nI (wt d w) ∧ wt d w < dP d := by
  have o := (ok.2.2.2.2.1 w hw).2.2.1
  obtain ⟨k, e, hk, hh⟩ := nI_ex o.1
  unfold wt
  rw [hh, nIc hk]
  exact ⟨rfl, by omega⟩
/-- the rings through s and places above it, from the place a on -/
def rl (d : CD) (op : Nat → Bool) : Nat → Nat → Nat → Nat → Nat → Int64 → Int64 → List Rg
  | 0, _, _, _, _, _, _ => []
  | n + 1, s, a, p, k, A, B => (List.range (dN d)).flatMap fun w => if op w = true ∧ wf d w = a then (if wt d w = s then [(k ||| 2 ^ w, A + bR d w, B + lR d w)] else if wt d w < s then [] else if p.testBit (wt d w) = true then [] else rl d op n s (wt d w) (p ||| 2 ^ wt d w) (k ||| 2 ^ w) (A + bR d w) (B + lR d w)) else []
def acs (m : Nat) (c : Acc) (r : Rg) : Acc := if m &&& r.1 = m then (if c.1 = false then (true, r.1, r.2.1, r.2.2) else if r.2.1 * c.2.2.2 - c.2.2.1 * r.2.2 ≤ 0 then (if r.2.1 * c.2.2.2 - c.2.2.1 * r.2.2 < 0 then c else (true, c.2.1 ||| r.1, c.2.2.1, c.2.2.2)) else (true, r.1, r.2.1, r.2.2)) else c
def aq (σ : ES) (c : Acc) : Prop := eI σ 69 10 = bi c.1 ∧ eI σ 69 13 = nI c.2.1 ∧ c.2.1 < 16384 ∧ (c.1 = true → eL σ 69 11 = c.2.2.1 ∧ eL σ 69 12 = c.2.2.2)
def mf (σ σ' : ES) : Prop := (∀ a b, ¬ (a = 69 ∧ (b = 10 ∨ b = 13)) → eI σ' a b = eI σ a b) ∧ ∀ a b, ¬ (a = 69 ∧ (b = 11 ∨ b = 12)) → eL σ' a b = eL σ a b
theorem mf.refl (σ : ES) : mf σ σ := ⟨fun _ _ _ => rfl, fun _ _ _ => rfl⟩
theorem mf.trans {σ τ υ : ES} (h : mf σ τ) (g : mf τ υ) : mf σ υ := ⟨fun a b q => (g.1 a b q).trans (h.1 a b q), fun a b q => (g.2 a b q).trans (h.2 a b q)⟩
theorem closes_m {σ : ES} {m : Nat} {c : Acc} (hm : m < 16384) (em : eI σ 69 9 = nI m) (hq : aq σ c) {k : Nat} (hk : k < 16384) (A B : Int64) : ∃ σ', e_X10_closes (nI k) A B σ = some σ' ∧ mf σ σ' ∧ aq σ' (acs m c (k, A, B)) := by
  obtain ⟨q1, q2, q3, q4⟩ := hq
  have ork : ∀ x, x < 16384 → nI x ||| nI k = nI (x ||| k) := fun x hx => or_nI (by omega) (by omega)
  have orl : ∀ x, x < 16384 → x ||| k < 16384 := fun x hx => Nat.or_lt_two_pow (n := 14) hx hk
  have big : ∃ σ', (some (uI (uI (uL (uL (uI σ 69 13 0) 69 11 A) 69 12 B) 69 10 1) 69 13 (nI k)) : Option ES) = some σ' ∧ mf σ σ' ∧ aq σ' (true, k, A, B) := by
    refine ⟨_, rfl, ⟨fun a b q => ?_, fun a b q => ?_⟩, rfl, rfl, hk, fun _ => ⟨rfl, rfl⟩⟩
    · simp only [eI_uI, eI_uL]
      rw [if_neg (by omega), if_neg (by omega), if_neg (by omega)]
    · simp only [eL_uI, eL_uL]
      rw [if_neg (by omega), if_neg (by omega)]
  have z0 : (0 : Int32) ||| nI k = nI k := by
    rw [← nI_lit0, ork 0 (by omega), Nat.zero_or]
  unfold e_X10_closes acs
  rw [em]
  by_cases c1 : m &&& k = m
  · rw [if_pos ((sub_nI hm hk).mpr c1), if_pos c1, q1]
    by_cases c2 : c.1 = false
    · rw [if_pos c2, c2, if_pos bi_f]
      have e : e_X10_closes_J37 (nI k) A B 1 σ = some (uI (uI (uL (uL (uI σ 69 13 0) 69 11 A) 69 12 B) 69 10 1) 69 13 (nI k)) := by
        unfold e_X10_closes_J37 e_X10_closes_J67
        rw [if_neg (by decide), if_neg (by decide)]
        have : eI (uI (uL (uL (uI σ 69 13 0) 69 11 A) 69 12 B) 69 10 1) 69 13 = 0 := rfl
        rw [this, z0]
      rw [e]
      exact big
    · have c2' : c.1 = true := by simpa using c2
      obtain ⟨q5, q6⟩ := q4 c2'
      rw [if_neg c2, c2', if_neg (by decide), q5, q6]
      show ∃ σ', e_X10_closes_J37 (nI k) A B (A * c.2.2.2 - c.2.2.1 * B) σ = some σ' ∧ _
      unfold e_X10_closes_J37 e_X10_closes_J67
      by_cases c3 : A * c.2.2.2 - c.2.2.1 * B ≤ 0
      · rw [if_pos c3, if_pos c3]
        by_cases c4 : A * c.2.2.2 - c.2.2.1 * B < 0
        · rw [if_pos c4, if_pos c4]
          have zz : nI c.2.1 ||| 0 = nI c.2.1 := by rw [← nI_lit0, or_nI (by omega) (by omega), Nat.or_zero]
          refine ⟨_, rfl, ⟨fun a b q => ?_, fun a b q => rfl⟩, ?_, ?_, q3, q4⟩
          · rw [eI_uI, if_neg (by omega)]
          · exact q1
          · rw [q2, zz]
            rfl
        · rw [if_neg c4, if_neg c4]
          refine ⟨_, rfl, ⟨fun a b q => ?_, fun a b q => rfl⟩, ?_, ?_, orl _ q3, fun _ => ⟨q5, q6⟩⟩
          · rw [eI_uI, if_neg (by omega)]
          · rw [c2'] at q1
            exact q1
          · rw [q2, ork _ q3]
            rfl
      · rw [if_neg c3, if_neg c3, if_neg (fun x => c3 (by rw [le64]; rw [lt64] at x; omega))]
        have e : (some (uI (uI (uL (uL (uI σ 69 13 0) 69 11 A) 69 12 B) 69 10 1) 69 13 (eI (uI (uL (uL (uI σ 69 13 0) 69 11 A) 69 12 B) 69 10 1) 69 13 ||| nI k)) : Option ES) = some (uI (uI (uL (uL (uI σ 69 13 0) 69 11 A) 69 12 B) 69 10 1) 69 13 (nI k)) := by
          have : eI (uI (uL (uL (uI σ 69 13 0) 69 11 A) 69 12 B) 69 10 1) 69 13 = 0 := rfl
          rw [this, z0]
        rw [e]
        exact big
  · rw [if_neg (fun x => c1 ((sub_nI hm hk).mp x)), if_neg c1]
    exact ⟨σ, rfl, mf.refl σ, q1, q2, q3, q4⟩
