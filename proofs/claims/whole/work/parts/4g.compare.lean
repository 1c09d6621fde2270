/-! ===== compare ===== -/
theorem kp_u {σ : ES} {k j : Nat} {v : Int32} (q : (qK k j || qI k j || qT k j || qS k || qF k || k == 80) = false) : kp σ (uI σ k j v) := ⟨eI_off (fun k j => qK k j || qI k j || qT k j || qS k || qF k || k == 80) q, fun _ _ _ => rfl⟩
theorem gx_kp {σ τ : ES} {k : Nat} (h : kp σ τ) : kp (gx k σ) (gx k τ) := by
  refine ⟨fun a b q => ?_, fun a b q => h.2 a b q⟩
  simp only [gx, eI_uI]
  rw [h.1 70 k (by simp [qF]), h.1 a b q]
def hr3 (τ : ES) (b1 b2 : Bool) : ES := uI (uI (uI τ 69 15 1) 69 15 (bi b1)) 69 15 (bi b2)
theorem hr3_kp (τ : ES) (b1 b2 : Bool) : kp τ (hr3 τ b1 b2) := (kp_u (k := 69) (j := 15) rfl).trans ((kp_u (k := 69) (j := 15) rfl).trans (kp_u (k := 69) (j := 15) rfl))
def cmpv (p q : Int64) : Int32 := if q ≤ p then (if p = q then 0 else 1) else -1
def sgn (x y : Int64) (r : Int32) : Int32 := if 0 ≤ x then (if 0 ≤ y then r else -r) else (if 0 ≤ y then -r else r)
theorem compare_m {τ : ES} (hτ : RSh τ) {s i j : Nat} (hs : s < 4) (hi : i < 39) (hj : j < 39) (q : ff τ (nI s) (nI i) (nI j) = -1) {X XD Y YD : Int64} (v1 : eL τ 77 (40 * s + i) = X) (v2 : eL τ 77 (40 * s + i + 1) = XD) (v3 : eL τ 77 (40 * s + j) = Y) (v4 : eL τ 77 (40 * s + j + 1) = YD) : e_X10_compare (nI s) (nI i) (nI j) τ = if (fit X YD && fit Y XD) = true then some (sgn XD YD (cmpv (X * YD) (Y * XD)), hr3 τ (fit X YD) (fit X YD && fit Y XD)) else some (-2000000001 - nI 8, gx 8 (hr3 τ (fit X YD) (fit X YD && fit Y XD))) := by
  have a1 : (40 : Int32) * nI s + nI i = nI (40 * s + i) := forty hs (by omega)
  have a2 : (40 : Int32) * nI s + nI j = nI (40 * s + j) := forty hs (by omega)
  have m1 : mib (nI (40 * s + i)) 160 = true := mib_nI (by omega) (by decide)
  have m2 : mib (nI (40 * s + j)) 160 = true := mib_nI (by omega) (by decide)
  have m3 : mib (nI (40 * s + i + 1)) 160 = true := mib_nI (by omega) (by decide)
  have m4 : mib (nI (40 * s + j + 1)) 160 = true := mib_nI (by omega) (by decide)
  have n1 : (nI (40 * s + i)).toNatClampNeg = 40 * s + i := nIc (by omega)
  have n2 : (nI (40 * s + j)).toNatClampNeg = 40 * s + j := nIc (by omega)
  have n3 : (nI (40 * s + i + 1)).toNatClampNeg = 40 * s + i + 1 := nIc (by omega)
  have n4 : (nI (40 * s + j + 1)).toNatClampNeg = 40 * s + j + 1 := nIc (by omega)
  have lz : (-1 : Int32) < 0 := by decide
  have p1 : e_X10_product X YD (uI τ 69 15 1) = some (X * YD, uI (uI τ 69 15 1) 69 15 (bi (fit X YD))) := prod_eq X YD _ true rfl
  have p2 : e_X10_product Y XD (uI (uI τ 69 15 1) 69 15 (bi (fit X YD))) = some (Y * XD, hr3 τ (fit X YD) (fit X YD && fit Y XD)) := prod_eq Y XD _ (fit X YD) rfl
  have hr : eI (hr3 τ (fit X YD) (fit X YD && fit Y XD)) 69 15 = bi (fit X YD && fit Y XD) := rfl
  simp only [e_X10_compare, wrong_eq hτ, ob, q, lz, if_true, a1, a2, nI_1, m1, m2, m3, m4, n1, n2, n3, n4, eL_uI, v1, v2, v3, v4, p1, p2, hr, bi_0]
  cases hf : (fit X YD && fit Y XD) with
  | false =>
    simp only [if_true, Bool.false_eq_true, if_false, g8, ob]
  | true =>
    simp only [Bool.true_eq_false, if_false, if_true]
    have w2 : eL (hr3 τ (fit X YD) true) 77 (40 * s + i + 1) = XD := v2
    have w4 : eL (hr3 τ (fit X YD) true) 77 (40 * s + j + 1) = YD := v4
    have J : ∀ r, e_X10_compare_J125 (nI s) (nI i) (nI j) (nI (40 * s + i)) (nI (40 * s + j)) r (hr3 τ (fit X YD) true) = some (sgn XD YD r, hr3 τ (fit X YD) true) := by
      intro r
      simp only [e_X10_compare_J125, e_X10_compare_J146, nI_1, m3, m4, n3, n4, if_true, w2, w4, sgn]
      by_cases c1 : 0 ≤ XD
      · rw [if_pos c1, if_pos c1]
        by_cases c2 : 0 ≤ YD
        · rw [if_pos c2, if_pos c2]
        · rw [if_neg c2, if_neg c2, if_neg (by decide)]
      · rw [if_neg c1, if_neg c1]
        by_cases c2 : 0 ≤ YD
        · rw [if_pos c2, if_pos c2, if_neg (by decide)]
        · rw [if_neg c2, if_neg c2]
    simp only [J, cmpv]
    by_cases c1 : Y * XD ≤ X * YD
    · rw [if_pos c1, if_pos c1]
      by_cases c2 : X * YD = Y * XD
      · rw [if_pos c2, if_pos (by rw [c2]; exact Int64.le_refl _)]
      · rw [if_neg c2, if_neg]
        intro c3
        rw [le64] at c1 c3
        exact c2 (eq64.mpr (by omega))
    · rw [if_neg c1, if_neg c1]
theorem compare_c {σ : ES} (h : RSh σ) {s i j : Nat} (hs : s < 4) (hi : i < 39) (hj : j < 39) (q : ff σ (nI s) (nI i) (nI j) = -1) {X XD Y YD : Int64} (v1 : eL σ (62 + 2 * s) i = X) (v2 : eL σ (62 + 2 * s) (i + 1) = XD) (v3 : eL σ (62 + 2 * s) j = Y) (v4 : eL σ (62 + 2 * s) (j + 1) = YD) : e_X9_compare (nI s) (nI i) (nI j) σ = if (fit X YD && fit Y XD) = true then some (sgn XD YD (cmpv (X * YD) (Y * XD)), σ) else some (-2000000001 - nI 8, fx 8 σ) := by
  have m0 : mib (nI s) 4 = true := mib_nI (by omega) (by decide)
  have m1 : mib (nI i) 40 = true := mib_nI (by omega) (by decide)
  have m2 : mib (nI j) 40 = true := mib_nI (by omega) (by decide)
  have m3 : mib (nI (i + 1)) 40 = true := mib_nI (by omega) (by decide)
  have m4 : mib (nI (j + 1)) 40 = true := mib_nI (by omega) (by decide)
  have n0 : (nI s).toNatClampNeg = s := nIc (by omega)
  have n1 : (nI i).toNatClampNeg = i := nIc (by omega)
  have n2 : (nI j).toNatClampNeg = j := nIc (by omega)
  have n3 : (nI (i + 1)).toNatClampNeg = i + 1 := nIc (by omega)
  have n4 : (nI (j + 1)).toNatClampNeg = j + 1 := nIc (by omega)
  simp only [e_X9_compare, ffault_eq h, ob, q, if_true, nI_1, m0, m1, m2, m3, m4, n0, n1, n2, n3, n4, cell1, v1, v2, v3, v4, pfits, bi_0, f8]
  cases h1 : fit X YD with
  | false => simp only [if_true, Bool.false_and, Bool.false_eq_true, if_false]
  | true =>
    cases h2 : fit Y XD with
    | false => simp only [if_true, Bool.and_false, Bool.false_eq_true, if_false, Bool.true_eq_false]
    | true =>
      simp only [Bool.and_self, if_true, Bool.true_eq_false, if_false]
      have : e_J13_compare_74951 (X * YD) (Y * XD) = some (cmpv (X * YD) (Y * XD)) := by
        unfold e_J13_compare_74951 cmpv
        split
        · split <;> rfl
        · rfl
      simp only [this, ob, sgn]
      split
      · split <;> rfl
      · split <;> rfl
theorem ff_fx (k : Nat) (σ : ES) (a b c : Int32) : ff (fx k σ) a b c = ff σ a b c := rfl
theorem RSh_fx {σ : ES} (k : Nat) (h : RSh σ) : RSh (fx k σ) := RSh_u h rfl
theorem sim_compare : Sim_compare Rel := by
  intro σ h a b c
  have hR := h
  have h4 := hR.2.2.2.1
  have hz : ¬ (0 : Int32) < 0 := by decide
  have h5' : ¬ (5 : Int32) < 0 := by decide
  have h7' : ¬ (7 : Int32) < 0 := by decide
  have k0 : ¬ (0 : Int32) = -1 := by decide
  have k5 : ¬ (5 : Int32) = -1 := by decide
  have k7 : ¬ (7 : Int32) = -1 := by decide
  rcases ff_cases σ a b c with e | e | e | e
  · obtain ⟨s, i, j, hs, hi, hj, rfl, rfl, rfl, d1, d2⟩ := ff_ok h4 e
    have L := (h4 s hs).2.2.2.2
    have C := compare_c h4 hs hi hj e rfl rfl rfl rfl
    by_cases f : (fit (eL σ (62 + 2 * s) i) (eL σ (62 + 2 * s) (j + 1)) && fit (eL σ (62 + 2 * s) j) (eL σ (62 + 2 * s) (i + 1))) = true
    · rw [if_pos f] at C
      have M := compare_m h4 hs hi hj e (L i (by omega)) (L (i + 1) (by omega)) (L j (by omega)) (L (j + 1) (by omega))
      rw [if_pos f] at M
      exact ⟨_, _, _, C, M, Rel_kp hR (hr3_kp _ _ _)⟩
    · rw [if_neg f] at C
      have M := compare_m (RSh_fx 8 h4) hs hi hj e (L i (by omega)) (L (i + 1) (by omega)) (L j (by omega)) (L (j + 1) (by omega))
      rw [if_neg f] at M
      exact ⟨_, _, _, C, M, Rel_kp (Rel_find 8 hR) (gx_kp (hr3_kp _ _ _))⟩
  · refine ⟨-2000000001 - nI 0, fx 0 σ, gx 0 (fx 0 σ), ?_, ?_, Rel_find 0 hR⟩
    · simp only [e_X9_compare, ffault_eq h4, ob, e, k0, if_false, f0]
    · simp only [e_X10_compare, wrong_eq (RSh_fx 0 h4), ff_fx, ob, e, hz, if_false, g0]
  · refine ⟨-2000000001 - nI 5, fx 5 σ, gx 5 (fx 5 σ), ?_, ?_, Rel_find 5 hR⟩
    · simp only [e_X9_compare, ffault_eq h4, ob, e, k5, if_false, f5]
    · simp only [e_X10_compare, wrong_eq (RSh_fx 5 h4), ff_fx, ob, e, h5', if_false, g5]
  · refine ⟨-2000000001 - nI 7, fx 7 σ, gx 7 (fx 7 σ), ?_, ?_, Rel_find 7 hR⟩
    · simp only [e_X9_compare, ffault_eq h4, ob, e, k7, if_false, f7]
    · simp only [e_X10_compare, wrong_eq (RSh_fx 7 h4), ff_fx, ob, e, h7', if_false, g7]
