/-! ===== add ===== -/
theorem neg_msb (x : Int64) : x < 0 ↔ x.toBitVec.msb = true := by
  rw [lt64, BitVec.msb_eq_toInt, decide_eq_true_iff]
  rfl
theorem xor_neg (x y : Int64) : (x ^^^ y) < 0 ↔ ¬ (x < 0 ↔ y < 0) := by
  rw [neg_msb, neg_msb, neg_msb, show (x ^^^ y).toBitVec = x.toBitVec ^^^ y.toBitVec from rfl, BitVec.msb_xor]
  cases x.toBitVec.msb <;> cases y.toBitVec.msb <;> simp
theorem and_neg (x y : Int64) : (x &&& y) < 0 ↔ (x < 0 ∧ y < 0) := by
  rw [neg_msb, neg_msb, neg_msb, show (x &&& y).toBitVec = x.toBitVec &&& y.toBitVec from rfl, BitVec.msb_and]
  cases x.toBitVec.msb <;> cases y.toBitVec.msb <;> simp
/-- does a sum fit -/
def sf (p q : Int64) : Bool := !(decide (((p ^^^ (p + q)) &&& (q ^^^ (p + q))) < 0))
theorem sf_eq (p q : Int64) : e_X9_sumFits p q = some (bi (sf p q)) := by
  unfold e_X9_sumFits sf
  by_cases c : ((p ^^^ (p + q)) &&& (q ^^^ (p + q))) < 0
  · rw [if_pos c, decide_eq_true c]
    rfl
  · rw [if_neg c, decide_eq_false c]
    rfl
theorem sf_b (p q : Int64) : sf p q = !((!(decide (p < 0) == decide (p + q < 0))) && !(decide (q < 0) == decide (p + q < 0))) := by
  unfold sf
  by_cases a : p < 0 <;> by_cases b : q < 0 <;> by_cases c : p + q < 0 <;> simp [and_neg, xor_neg, a, b, c]
theorem sum_eq (p q : Int64) (σ : ES) (b : Bool) (h : eI σ 69 15 = bi b) : e_X10_sum p q σ = some (p + q, uI σ 69 15 (bi (b && sf p q))) := by
  unfold e_X10_sum
  rw [h, sf_b]
  cases b with
  | false =>
    rw [if_pos bi_f]
    rfl
  | true =>
    rw [if_neg (by decide)]
    simp only [e_X10_sum_J24, e_X10_sum_J35, e_X10_sum_J50, e_X10_sum_J61]
    by_cases c1 : p < 0 <;> by_cases c2 : q < 0 <;> by_cases c3 : p + q < 0 <;> simp [c1, c2, c3, bi]
def hr5 (τ : ES) (b1 b2 b3 b4 : Bool) : ES := uI (uI (uI (uI (uI τ 69 15 1) 69 15 (bi b1)) 69 15 (bi b2)) 69 15 (bi b3)) 69 15 (bi b4)
theorem hr5_kp (τ : ES) (b1 b2 b3 b4 : Bool) : kp τ (hr5 τ b1 b2 b3 b4) := (kp_u (k := 69) (j := 15) rfl).trans ((kp_u (k := 69) (j := 15) rfl).trans ((kp_u (k := 69) (j := 15) rfl).trans ((kp_u (k := 69) (j := 15) rfl).trans (kp_u (k := 69) (j := 15) rfl))))
def aok (X XD Y YD : Int64) : Bool := ((fit X YD && fit Y XD) && sf (X * YD) (Y * XD)) && fit XD YD
def hra (τ : ES) (X XD Y YD : Int64) : ES := hr5 τ (fit X YD) (fit X YD && fit Y XD) ((fit X YD && fit Y XD) && sf (X * YD) (Y * XD)) (aok X XD Y YD)
theorem add_m {τ : ES} (hτ : ∀ s, s < 4 → ∃ n, n ≤ 40 ∧ eI τ 76 s = nI n) {s i j : Nat} (hs : s < 4) (hi : i < 39) (hj : j < 39) (q : ff τ (nI s) (nI i) (nI j) = -1) {X XD Y YD : Int64} (v1 : eL τ 77 (40 * s + i) = X) (v2 : eL τ 77 (40 * s + i + 1) = XD) (v3 : eL τ 77 (40 * s + j) = Y) (v4 : eL τ 77 (40 * s + j + 1) = YD) : e_X10_add (nI s) (nI i) (nI j) τ = if aok X XD Y YD = true then some (1, uL (uL (hra τ X XD Y YD) 77 (40 * s + i) (nar (eI τ 75 s) (X * YD + Y * XD))) 77 (40 * s + i + 1) (nar (eI τ 75 s) (XD * YD))) else some (-2000000001 - nI 8, gx 8 (hra τ X XD Y YD)) := by
  have a1 : (40 : Int32) * nI s + nI i = nI (40 * s + i) := forty hs (by omega)
  have a2 : (40 : Int32) * nI s + nI j = nI (40 * s + j) := forty hs (by omega)
  have m0 : mib (nI s) 4 = true := mib_nI (by omega) (by decide)
  have m1 : mib (nI (40 * s + i)) 160 = true := mib_nI (by omega) (by decide)
  have m2 : mib (nI (40 * s + j)) 160 = true := mib_nI (by omega) (by decide)
  have m3 : mib (nI (40 * s + i + 1)) 160 = true := mib_nI (by omega) (by decide)
  have m4 : mib (nI (40 * s + j + 1)) 160 = true := mib_nI (by omega) (by decide)
  have n0 : (nI s).toNatClampNeg = s := nIc (by omega)
  have n1 : (nI (40 * s + i)).toNatClampNeg = 40 * s + i := nIc (by omega)
  have n2 : (nI (40 * s + j)).toNatClampNeg = 40 * s + j := nIc (by omega)
  have n3 : (nI (40 * s + i + 1)).toNatClampNeg = 40 * s + i + 1 := nIc (by omega)
  have n4 : (nI (40 * s + j + 1)).toNatClampNeg = 40 * s + j + 1 := nIc (by omega)
  have lz : (-1 : Int32) < 0 := by decide
  have p1 : e_X10_product X YD (uI τ 69 15 1) = some (X * YD, uI (uI τ 69 15 1) 69 15 (bi (fit X YD))) := prod_eq X YD _ true rfl
  have p2 : e_X10_product Y XD (uI (uI τ 69 15 1) 69 15 (bi (fit X YD))) = some (Y * XD, uI (uI (uI τ 69 15 1) 69 15 (bi (fit X YD))) 69 15 (bi (fit X YD && fit Y XD))) := prod_eq Y XD _ (fit X YD) rfl
  have p3 : e_X10_sum (X * YD) (Y * XD) (uI (uI (uI τ 69 15 1) 69 15 (bi (fit X YD))) 69 15 (bi (fit X YD && fit Y XD))) = some (X * YD + Y * XD, uI (uI (uI (uI τ 69 15 1) 69 15 (bi (fit X YD))) 69 15 (bi (fit X YD && fit Y XD))) 69 15 (bi ((fit X YD && fit Y XD) && sf (X * YD) (Y * XD)))) := sum_eq _ _ _ (fit X YD && fit Y XD) rfl
  have p4 : e_X10_product XD YD (uI (uI (uI (uI τ 69 15 1) 69 15 (bi (fit X YD))) 69 15 (bi (fit X YD && fit Y XD))) 69 15 (bi ((fit X YD && fit Y XD) && sf (X * YD) (Y * XD)))) = some (XD * YD, hra τ X XD Y YD) := prod_eq XD YD _ ((fit X YD && fit Y XD) && sf (X * YD) (Y * XD)) rfl
  have hr : eI (hra τ X XD Y YD) 69 15 = bi (aok X XD Y YD) := rfl
  have h75 : eI (hra τ X XD Y YD) 75 s = eI τ 75 s := rfl
  simp only [e_X10_add, wrong_eq' hτ, ob, q, lz, if_true, a1, a2, nI_1, m0, m1, m2, m3, m4, n0, n1, n2, n3, n4, eL_uI, v1, v2, v3, v4, p1, p2, p3, p4, hr, bi_0, narrow_eq, eI_uL, h75, g8]
  cases aok X XD Y YD with
  | false => simp only [if_true, Bool.false_eq_true, if_false]
  | true => simp only [if_true, Bool.true_eq_false, if_false]
theorem add_c {σ : ES} (h : RSh σ) {s i j : Nat} (hs : s < 4) (hi : i < 39) (hj : j < 39) (q : ff σ (nI s) (nI i) (nI j) = -1) {X XD Y YD : Int64} (v1 : eL σ (62 + 2 * s) i = X) (v2 : eL σ (62 + 2 * s) (i + 1) = XD) (v3 : eL σ (62 + 2 * s) j = Y) (v4 : eL σ (62 + 2 * s) (j + 1) = YD) : e_X9_add (nI s) (nI i) (nI j) σ = if aok X XD Y YD = true then some (1, uL (uL σ (62 + 2 * s) i (nar (eI σ (61 + 2 * s) 0) (X * YD + Y * XD))) (62 + 2 * s) (i + 1) (nar (eI σ (61 + 2 * s) 0) (XD * YD))) else some (-2000000001 - nI 8, fx 8 σ) := by
  have m0 : mib (nI s) 4 = true := mib_nI (by omega) (by decide)
  have m1 : mib (nI i) 40 = true := mib_nI (by omega) (by decide)
  have m2 : mib (nI j) 40 = true := mib_nI (by omega) (by decide)
  have m3 : mib (nI (i + 1)) 40 = true := mib_nI (by omega) (by decide)
  have m4 : mib (nI (j + 1)) 40 = true := mib_nI (by omega) (by decide)
  have n0 : (nI s).toNatClampNeg = s := nIc (by omega)
  have n1 : (nI i).toNatClampNeg = i := nIc (by omega)
  have n2 : (nI j).toNatClampNeg = j := nIc (by omega)
  have n3 : (nI (i + 1)).toNatClampNeg = i + 1 := nIc (by omega)
  have n4 : (nI (j + 1)).toNatClampNeg = j + 1 := nIc (by omega)
  simp only [e_X9_add, ffault_eq h, ob, q, if_true, nI_1, m0, m1, m2, m3, m4, n0, n1, n2, n3, n4, cell1, v1, v2, v3, v4, pfits, sf_eq, bi_0, f8, put_eq hs (show i < 40 by omega), put_eq hs (show i + 1 < 40 by omega), eI_uL]
  by_cases g : aok X XD Y YD = true
  · rw [if_pos g]
    simp only [aok, Bool.and_eq_true] at g
    obtain ⟨⟨⟨h1, h2⟩, h3⟩, h4⟩ := g
    simp only [h1, h2, h3, h4, Bool.true_eq_false, if_false]
  · rw [if_neg g]
    by_cases h1 : fit X YD = false
    · rw [if_pos h1]
    · rw [if_neg h1]
      by_cases h2 : fit Y XD = false
      · rw [if_pos h2]
      · rw [if_neg h2]
        by_cases h3 : fit XD YD = false
        · rw [if_pos h3]
        · rw [if_neg h3]
          by_cases h4 : sf (X * YD) (Y * XD) = false
          · rw [if_pos h4]
          · exfalso
            apply g
            simp only [Bool.not_eq_false] at h1 h2 h3 h4
            simp only [aok, h1, h2, h3, h4, Bool.and_self]
theorem RSh_put2 {σ τ : ES} (h : RSh σ) {s i : Nat} {v1 v2 : Int64} (e : ∀ a b, qS a = true → eI τ a b = eI σ a b) (E1 : ∀ s' j', s' < 4 → j' < 40 → eL τ (62 + 2 * s') j' = if s' = s ∧ j' = i + 1 then v2 else if s' = s ∧ j' = i then v1 else eL σ (62 + 2 * s') j') (E2 : ∀ s' j', s' < 4 → j' < 40 → eL τ 77 (40 * s' + j') = if s' = s ∧ j' = i + 1 then v2 else if s' = s ∧ j' = i then v1 else eL σ 77 (40 * s' + j')) : RSh τ := by
  intro s' hs'
  obtain ⟨s1, s2, s3, s4, s5⟩ := h s' hs'
  have a1 : ∀ j, eI τ (61 + 2 * s') j = eI σ (61 + 2 * s') j := fun j => e _ _ (by simp only [qS, Bool.or_eq_true, Bool.and_eq_true, decide_eq_true_eq]; omega)
  simp only [a1, e 75 s' rfl, e 76 s' rfl]
  refine ⟨s1, s2, s3, s4, fun j hj => ?_⟩
  rw [E1 s' j hs' hj, E2 s' j hs' hj, s5 j hj]
theorem sim_add : Sim_add Rel := by
  intro σ h a b c
  have hR := h
  have h4 := hR.2.2.2.1
  have hz : ¬ (0 : Int32) < 0 := by decide
  have h5' : ¬ (5 : Int32) < 0 := by decide
  have h7' : ¬ (7 : Int32) < 0 := by decide
  have k0 : ¬ (0 : Int32) = -1 := by decide
  have k5 : ¬ (5 : Int32) = -1 := by decide
  have k7 : ¬ (7 : Int32) = -1 := by decide
  rcases ff_cases σ a b c with e | e | e | e
  · obtain ⟨s, i, j, hs, hi, hj, rfl, rfl, rfl, d1, d2⟩ := ff_ok h4 e
    obtain ⟨s1, s2, s3, s4, L⟩ := h4 s hs
    have C := add_c h4 hs hi hj e rfl rfl rfl rfl
    by_cases f : aok (eL σ (62 + 2 * s) i) (eL σ (62 + 2 * s) (i + 1)) (eL σ (62 + 2 * s) j) (eL σ (62 + 2 * s) (j + 1)) = true
    · rw [if_pos f] at C
      revert C f
      generalize hX : eL σ (62 + 2 * s) i = X
      generalize hXD : eL σ (62 + 2 * s) (i + 1) = XD
      generalize hY : eL σ (62 + 2 * s) j = Y
      generalize hYD : eL σ (62 + 2 * s) (j + 1) = YD
      generalize hV1 : nar (eI σ (61 + 2 * s) 0) (X * YD + Y * XD) = V1
      generalize hV2 : nar (eI σ (61 + 2 * s) 0) (XD * YD) = V2
      intro C f
      have n77 : ∀ x, eL (uL (uL σ (62 + 2 * s) i V1) (62 + 2 * s) (i + 1) V2) 77 x = eL σ 77 x := by
        intro x
        rw [eL_uL, if_neg (by omega), eL_uL, if_neg (by omega)]
      have eff : ff (uL (uL σ (62 + 2 * s) i V1) (62 + 2 * s) (i + 1) V2) (nI s) (nI i) (nI j) = -1 := by
        unfold ff at e ⊢
        simp only [n77, eI_uL]
        exact e
      have M := add_m (τ := uL (uL σ (62 + 2 * s) i V1) (62 + 2 * s) (i + 1) V2) (fun s' hs' => szs h4 s' hs') hs hi hj eff ((n77 _).trans ((L i (by omega)).trans hX)) ((n77 _).trans ((L (i + 1) (by omega)).trans hXD)) ((n77 _).trans ((L j (by omega)).trans hY)) ((n77 _).trans ((L (j + 1) (by omega)).trans hYD))
      rw [if_pos f] at M
      simp only [eI_uL, s1, hV1, hV2] at M
      refine ⟨_, _, _, C, M, ?_⟩
      have K := hr5_kp (uL (uL σ (62 + 2 * s) i V1) (62 + 2 * s) (i + 1) V2) (fit X YD) (fit X YD && fit Y XD) ((fit X YD && fit Y XD) && sf (X * YD) (Y * XD)) (aok X XD Y YD)
      obtain ⟨⟨d, g1⟩, g2, g3, g4, g5, g6⟩ := hR
      have KI : ∀ k j, (qK k j || qI k j || qT k j || qS k || qF k || k == 80) = true → eI (uL (uL (hra (uL (uL σ (62 + 2 * s) i V1) (62 + 2 * s) (i + 1) V2) X XD Y YD) 77 (40 * s + i) V1) 77 (40 * s + i + 1) V2) k j = eI σ k j := fun k j q => K.1 k j q
      refine ⟨⟨d, RK_c g1 (fun k j q => KI k j (by simp [q]))⟩, RI_c g2 (fun k j q => KI k j (by simp [q])), RTp_c g3 (fun k j q => KI k j (by simp [q])), RSh_put2 (s := s) (i := i) (v1 := V1) (v2 := V2) h4 (fun k j q => KI k j (by simp [q])) (fun s' j' _ hj' => ?_) (fun s' j' _ hj' => ?_), RF_c g5 (fun k j q => KI k j (by simp [q])), RWd_c g6 (fun j => KI 80 j (by simp)) (fun k j q => by have := qB_k q; rw [eL_uL, if_neg (by omega), eL_uL, if_neg (by omega)]; refine (K.2 k j (by simp [q])).trans ?_; rw [eL_uL, if_neg (by omega), eL_uL, if_neg (by omega)])⟩
      · rw [eL_uL, if_neg (by omega), eL_uL, if_neg (by omega)]
        show eL (uL (uL σ (62 + 2 * s) i V1) (62 + 2 * s) (i + 1) V2) (62 + 2 * s') j' = _
        rw [eL_uL, eL_uL]
        by_cases c1 : s' = s ∧ j' = i + 1
        · rw [if_pos c1, if_pos (by omega)]
        · rw [if_neg c1, if_neg (by omega)]
          by_cases c2 : s' = s ∧ j' = i
          · rw [if_pos c2, if_pos (by omega)]
          · rw [if_neg c2, if_neg (by omega)]
      · rw [eL_uL, eL_uL]
        by_cases c1 : s' = s ∧ j' = i + 1
        · rw [if_pos c1, if_pos (by omega)]
        · rw [if_neg c1, if_neg (by omega)]
          by_cases c2 : s' = s ∧ j' = i
          · rw [if_pos c2, if_pos (by omega)]
          · rw [if_neg c2, if_neg (by omega)]
            exact n77 _
    · rw [if_neg f] at C
      have M := add_m (τ := fx 8 σ) (szs (RSh_fx 8 h4)) hs hi hj e (L i (by omega)) (L (i + 1) (by omega)) (L j (by omega)) (L (j + 1) (by omega))
      rw [if_neg f] at M
      exact ⟨_, _, _, C, M, Rel_kp (Rel_find 8 hR) (gx_kp (hr5_kp _ _ _ _ _))⟩
  · refine ⟨-2000000001 - nI 0, fx 0 σ, gx 0 (fx 0 σ), ?_, ?_, Rel_find 0 hR⟩
    · simp only [e_X9_add, ffault_eq h4, ob, e, k0, if_false, f0]
    · simp only [e_X10_add, wrong_eq (RSh_fx 0 h4), ff_fx, ob, e, hz, if_false, g0]
  · refine ⟨-2000000001 - nI 5, fx 5 σ, gx 5 (fx 5 σ), ?_, ?_, Rel_find 5 hR⟩
    · simp only [e_X9_add, ffault_eq h4, ob, e, k5, if_false, f5]
    · simp only [e_X10_add, wrong_eq (RSh_fx 5 h4), ff_fx, ob, e, h5', if_false, g5]
  · refine ⟨-2000000001 - nI 7, fx 7 σ, gx 7 (fx 7 σ), ?_, ?_, Rel_find 7 hR⟩
    · simp only [e_X9_add, ffault_eq h4, ob, e, k7, if_false, f7]
    · simp only [e_X10_add, wrong_eq (RSh_fx 7 h4), ff_fx, ob, e, h7', if_false, g7]
