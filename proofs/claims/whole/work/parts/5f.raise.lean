/-! ===== raise: rings when a way brings more ===== -/
theorem brv_c {k z : Int32} (k1 : 0 ≤ k.toInt) (k2 : k.toInt ≤ 5) (z1 : 0 ≤ z.toInt) (z2 : z.toInt ≤ 5) : ∃ c : Int, ∀ g : Int32, -999999999 ≤ g.toInt → g.toInt ≤ 999999999 → (brv k g z).toInt = g.toInt + c := by
  have c5 : (5 : Int32).toInt = 5 := rfl
  have c3 : (3 : Int32).toInt = 3 := rfl
  have c7 : (7 : Int32).toInt = 7 := rfl
  have c9 : (9 : Int32).toInt = 9 := rfl
  have c11 : (11 : Int32).toInt = 11 := rfl
  have m5 : (5 * z).toInt = 5 * z.toInt := by rw [mul32, c5] <;> rw [c5] <;> omega
  have m3 : (3 * z).toInt = 3 * z.toInt := by rw [mul32, c3] <;> rw [c3] <;> omega
  have s7 : ∀ g : Int32, -999999999 ≤ g.toInt → g.toInt ≤ 999999999 → (g - 7).toInt = g.toInt - 7 := by
    intro g g1 g2
    rw [sub32, c7] <;> rw [c7] <;> omega
  have s5 : ∀ g : Int32, -999999999 ≤ g.toInt → g.toInt ≤ 999999999 → (g - 5 * z).toInt = g.toInt - 5 * z.toInt := by
    intro g g1 g2
    rw [sub32, m5] <;> rw [m5] <;> omega
  rcases k6 k1 k2 with e | e | e | e | e | e <;> subst e
  · refine ⟨0, fun g g1 g2 => ?_⟩
    have : brv 0 g z = g := rfl
    rw [this]
    omega
  · refine ⟨-7, fun g g1 g2 => ?_⟩
    have : brv 1 g z = g - 7 := rfl
    rw [this, s7 g g1 g2]
    omega
  · refine ⟨-(5 * z.toInt), fun g g1 g2 => ?_⟩
    have : brv 2 g z = g - 5 * z := rfl
    rw [this, s5 g g1 g2]
    omega
  · refine ⟨-7 + 3 * z.toInt, fun g g1 g2 => ?_⟩
    have : brv 3 g z = g - 7 + 3 * z := rfl
    have h7 := s7 g g1 g2
    rw [this, add32, h7, m3] <;> (try rw [h7, m3]) <;> omega
  · refine ⟨-(5 * z.toInt) - 11, fun g g1 g2 => ?_⟩
    have : brv 4 g z = g - 5 * z - 11 := rfl
    have h5 := s5 g g1 g2
    rw [this, sub32, h5, c11] <;> (try rw [h5, c11]) <;> omega
  · by_cases c : z - z / 2 * 2 = 0
    · refine ⟨9, fun g g1 g2 => ?_⟩
      have : brv 5 g z = g + 9 := if_pos c
      rw [this, add32, c9] <;> (try rw [c9]) <;> omega
    · refine ⟨0, fun g g1 g2 => ?_⟩
      have : brv 5 g z = g := if_neg c
      rw [this]
      omega
def shf (w : Nat) (δ : Int64) (r : Rg) : Rg := (r.1, if r.1.testBit w = true then r.2.1 + δ else r.2.1, r.2.2)
theorem fm_map {f : Nat → List Rg} {h : Rg → Rg} {l : List Nat} : (l.flatMap f).map h = l.flatMap (fun w => (f w).map h) := by
  induction l with
  | nil => rfl
  | cons w l ih => rw [List.flatMap_cons, List.flatMap_cons, List.map_append, ih]
theorem rl_shift {d d' : CD} {op : Nat → Bool} {w : Nat} {δ : Int64} (hN : dN d' = dN d) (h : ∀ u, u < dN d → wf d' u = wf d u ∧ wt d' u = wt d u ∧ lR d' u = lR d u) (h1 : ∀ u, u < dN d → u ≠ w → bR d' u = bR d u) (h2 : bR d' w = bR d w + δ) : ∀ n s a p k A B, p.testBit a = true → (k.testBit w = true → p.testBit (wf d w) = true ∧ a ≠ wf d w) → rl d' op n s a p k (if k.testBit w = true then A + δ else A) B = (rl d op n s a p k A B).map (shf w δ) := by
  intro n
  induction n with
  | zero =>
    intro s a p k A B _ _
    rfl
  | succ n ih =>
    intro s a p k A B hp hk
    rw [rl_succ, rl_succ, fm_map, hN]
    refine fm_congr (fun u hu => ?_)
    have hu := List.mem_range.mp hu
    obtain ⟨e1, e2, e3⟩ := h u hu
    unfold rc
    rw [e1, e2, e3]
    by_cases c : op u = true ∧ wf d u = a
    · rw [if_pos c, if_pos c]
      have key : (if k.testBit w = true then A + δ else A) + bR d' u = if (k ||| 2 ^ u).testBit w = true then (A + bR d u) + δ else A + bR d u := by
        by_cases cu : u = w
        · have kf : k.testBit w = false := by
            by_cases x : k.testBit w = true
            · have := (hk x).2
              rw [← cu] at this
              exact absurd c.2.symm this
            · simpa using x
          rw [kf, if_neg (by decide), cu, h2, if_pos bit_self, Int64.add_assoc]
        · rw [bit_ne cu, h1 u hu cu]
          by_cases x : k.testBit w = true
          · rw [if_pos x, if_pos x, Int64.add_assoc, Int64.add_comm δ, ← Int64.add_assoc]
          · rw [if_neg x, if_neg x]
      rw [key]
      by_cases c1 : wt d u = s
      · rw [if_pos c1, if_pos c1]
        rfl
      · rw [if_neg c1, if_neg c1]
        by_cases c2 : wt d u < s
        · rw [if_pos c2, if_pos c2]
          rfl
        · rw [if_neg c2, if_neg c2]
          by_cases c3 : p.testBit (wt d u) = true
          · rw [if_pos c3, if_pos c3]
            rfl
          · rw [if_neg c3, if_neg c3]
            refine ih s (wt d u) (p ||| 2 ^ wt d u) (k ||| 2 ^ u) (A + bR d u) (B + lR d u) bit_self (fun x => ?_)
            have pw : p.testBit (wf d w) = true := by
              by_cases cu : u = w
              · rw [← cu, c.2]
                exact hp
              · rw [bit_ne cu] at x
                exact (hk x).1
            refine ⟨bit_or2 pw, fun y => c3 ?_⟩
            rw [y]
            exact pw
    · rw [if_neg c, if_neg c]
      rfl
theorem al_shift {d d' : CD} {op : Nat → Bool} {w : Nat} {δ : Int64} (hP : dP d' = dP d) (hN : dN d' = dN d) (h : ∀ u, u < dN d → wf d' u = wf d u ∧ wt d' u = wt d u ∧ lR d' u = lR d u) (h1 : ∀ u, u < dN d → u ≠ w → bR d' u = bR d u) (h2 : bR d' w = bR d w + δ) : al d' op = (al d op).map (shf w δ) := by
  unfold al
  rw [fm_map, hP]
  refine fm_congr (fun s _ => ?_)
  have := rl_shift (op := op) hN h h1 h2 8 s s (2 ^ s) 0 0 0 (by rw [Nat.testBit_two_pow]; exact decide_eq_true rfl) (fun x => by rw [Nat.zero_testBit] at x; cases x)
  rw [Nat.zero_testBit, if_neg (by decide)] at this
  exact this
theorem al_gain {d : CD} (ok : okD d) {w : Nat} (hw : w < dN d) {g : Int32} (g1 : -999999999 ≤ g.toInt) (g2 : g.toInt ≤ 999999999) (op : Nat → Bool) : al (setW d w 3 g) op = (al d op).map (shf w (g.toInt64 - (dw d w 3).toInt64)) := by
  have e : ∀ u j, ¬ (u = w ∧ j = 3) → dw (setW d w 3 g) u j = dw d u j := fun u j hj => if_neg hj
  have e3 : dw (setW d w 3 g) w 3 = g := if_pos ⟨rfl, rfl⟩
  have o := ok.2.2.2.2.1 w hw
  have z := ok.2.1
  refine al_shift rfl rfl (fun u hu => ?_) (fun u hu cu => ?_) ?_
  · unfold wf wt lR
    rw [e u 1 (by omega), e u 2 (by omega), e u 0 (by omega), e u 4 (by omega)]
    exact ⟨rfl, rfl, rfl⟩
  · unfold bR
    rw [e u 0 (by omega), e u 3 (by omega)]
    rfl
  · obtain ⟨c, hc⟩ := brv_c (k := dw d w 0) (z := nI (dW d)) o.1.1 o.1.2 (by rw [nIt (by omega)]; omega) (by rw [nIt (by omega)]; omega)
    have b1 := bR_b ok hw
    have q1 := hc g g1 g2
    have q2 := hc (dw d w 3) o.2.2.2.2.1.1 o.2.2.2.2.1.2
    have o3 := o.2.2.2.2.1
    unfold bR at b1 ⊢
    rw [e w 0 (by omega), e3]
    have eW : dW (setW d w 3 g) = dW d := rfl
    rw [eW, eq64, t64, q1]
    rw [t64, q2] at b1
    have s1 : (g.toInt64 - (dw d w 3).toInt64).toInt = g.toInt - (dw d w 3).toInt := by
      rw [sub64, t64, t64] <;> rw [t64, t64] <;> omega
    rw [add64, t64, q2, s1]
    · omega
    · rw [t64, q2, s1]
      omega
    · rw [t64, q2, s1]
      omega
/-- floor of a quotient -/
theorem floor_eq {x y : Int64} (hy : 0 < y.toInt) (hx : -9000000000000000000 ≤ x.toInt) : ∃ q : Int64, e_J9_floorDiv_f86c9 x y = some q ∧ q.toInt = x.toInt / y.toInt := by
  have z : (0 : Int64).toInt = 0 := rfl
  have o : (1 : Int64).toInt = 1 := rfl
  have rx := r64 x
  have y0 : ¬ y = 0 := fun e => by
    have := eq64.mp e
    omega
  have yn : ¬ y < 0 := by rw [lt64, z]; omega
  have qa := Int.natAbs_tdiv_le_natAbs x.toInt y.toInt
  have dq : (x / y).toInt = x.toInt.tdiv y.toInt := by
    rw [Int64.toInt_div, bm64 (by omega) (by omega)]
  have pm := Int.mul_tdiv_add_tmod x.toInt y.toInt
  have tl : (x.toInt.tmod y.toInt).natAbs < y.toInt.natAbs := tmod_lt (by omega)
  have em := Int.mul_ediv_add_emod x.toInt y.toInt
  have e1 := Int.emod_nonneg x.toInt (show y.toInt ≠ 0 by omega)
  have e2 := Int.emod_lt_of_pos x.toInt hy
  have uniq : ∀ q r : Int, y.toInt * q + r = x.toInt → 0 ≤ r → r < y.toInt → q = x.toInt / y.toInt := by
    intro q r h1 h2 h3
    rw [← h1, Int.add_comm, Int.add_mul_ediv_left _ _ (show y.toInt ≠ 0 by omega), Int.ediv_eq_zero_of_lt h2 h3, Int.zero_add]
  unfold e_J9_floorDiv_f86c9
  rw [if_neg y0]
  by_cases c : 0 ≤ x.toInt
  · have xn : ¬ x < 0 := by rw [lt64, z]; omega
    have c1 : (0 : Int64) ≤ x ^^^ y := by
      have := mt (xor_neg x y).mp (by simp [xn, yn])
      rw [lt64, z] at this
      rw [le64, z]
      omega
    refine ⟨x / y, if_pos c1, ?_⟩
    rw [dq]
    exact uniq _ _ pm (Int.tmod_nonneg _ c) (by omega)
  · have xn : x < 0 := by rw [lt64, z]; omega
    have c1 : ¬ (0 : Int64) ≤ x ^^^ y := by
      have := (xor_neg x y).mpr (by simp [xn, yn])
      rw [lt64, z] at this
      rw [le64, z]
      omega
    rw [if_neg c1]
    have tn : x.toInt.tmod y.toInt ≤ 0 := tmod_neg (by omega)
    have tx : (x.toInt.tmod y.toInt).natAbs ≤ x.toInt.natAbs := by
      rw [Int.natAbs_tmod]
      exact Nat.mod_le _ _
    have mq : ((x / y) * y).toInt = y.toInt * x.toInt.tdiv y.toInt := by
      rw [mul64, dq, Int.mul_comm] <;> rw [dq, Int.mul_comm] <;> omega
    by_cases c2 : (x / y) * y = x
    · refine ⟨x / y, if_pos c2, ?_⟩
      have := eq64.mp c2
      rw [mq] at this
      rw [dq]
      exact uniq _ 0 (by omega) (by omega) hy
    · refine ⟨x / y - 1, if_neg c2, ?_⟩
      have ne : ¬ y.toInt * x.toInt.tdiv y.toInt = x.toInt := fun e => c2 (eq64.mpr (by rw [mq]; exact e))
      rw [sub64, dq, o]
      · refine uniq _ (x.toInt.tmod y.toInt + y.toInt) ?_ (by omega) (by omega)
        rw [Int.mul_sub, Int.mul_one]
        omega
      · rw [dq, o]
        have : x.toInt.tdiv y.toInt ≤ 0 := by
          have := Int.tdiv_nonneg (a := -x.toInt) (b := y.toInt) (by omega) (by omega)
          rw [Int.neg_tdiv] at this
          omega
        omega
      · rw [dq, o]
        omega
