/-! ===== reading and changing ways ===== -/
theorem k6 {v : Int32} (h1 : 0 ≤ v.toInt) (h2 : v.toInt ≤ 5) : v = 0 ∨ v = 1 ∨ v = 2 ∨ v = 3 ∨ v = 4 ∨ v = 5 := by
  obtain ⟨k, e, hk, rfl⟩ := nI_ex h1
  have : k = 0 ∨ k = 1 ∨ k = 2 ∨ k = 3 ∨ k = 4 ∨ k = 5 := by omega
  rcases this with e | e | e | e | e | e <;> subst e
  · exact Or.inl rfl
  · exact Or.inr (Or.inl rfl)
  · exact Or.inr (Or.inr (Or.inl rfl))
  · exact Or.inr (Or.inr (Or.inr (Or.inl rfl)))
  · exact Or.inr (Or.inr (Or.inr (Or.inr (Or.inl rfl))))
  · exact Or.inr (Or.inr (Or.inr (Or.inr (Or.inr rfl))))
theorem ir_ne {lo hi : Int} {v c : Int32} (h : ¬ ir lo hi v = true) (hc : ir lo hi c = true) : ¬ v = c := by
  rintro rfl
  exact h hc
theorem z32 (x : Int32) : x + 0 = x := by
  rw [eq32, Int32.toInt_add]
  show (x.toInt + 0).bmod _ = _
  have := r32 x
  rw [bm32 (by omega) (by omega)]
  omega
/-- what a way of kind k brings and lasts in the weather z -/
def brv (k g z : Int32) : Int32 := if k = 1 then g - 7 else if k = 2 then g - 5 * z else if k = 3 then g - 7 + 3 * z else if k = 4 then g - 5 * z - 11 else if k = 5 then (if z - z / 2 * 2 = 0 then g + 9 else g) else g
def lsv (k t z : Int32) : Int32 := if k = 1 then t + 1 else if k = 2 then t + z else if k = 3 then t + 1 else if k = 4 then 2 * (t + z) else if k = 5 then (if z ≤ 3 then t else t + 2) else t
theorem cbr {k : Int32} (h1 : 0 ≤ k.toInt) (h2 : k.toInt ≤ 5) (g z : Int32) : e_X9_brings 3 k g z = some (brv k g z) := by
  rcases k6 h1 h2 with e | e | e | e | e | e <;> subst e
  · rfl
  · rfl
  · rfl
  · rfl
  · rfl
  · by_cases c : z - z / 2 * 2 = 0
    · have : brv 5 g z = g + 9 := if_pos c
      rw [this]
      exact if_pos c
    · have : brv 5 g z = g := if_neg c
      rw [this]
      have : e_X9_brings 3 5 g z = some (g + 0) := if_neg c
      rw [this, z32]
theorem cls' {k : Int32} (h1 : 0 ≤ k.toInt) (h2 : k.toInt ≤ 5) (t z : Int32) : e_X9_lasts 3 k t z = some (lsv k t z) := by
  rcases k6 h1 h2 with e | e | e | e | e | e <;> subst e
  · rfl
  · rfl
  · rfl
  · rfl
  · rfl
  · by_cases c : z ≤ 3
    · have : lsv 5 t z = t := if_pos c
      rw [this]
      have : e_X9_lasts 3 5 t z = some (t + 0) := if_pos c
      rw [this, z32]
    · have : lsv 5 t z = t + 2 := if_neg c
      rw [this]
      exact if_neg c
section Br
variable {σ : ES} {d : CD}
theorem c_brings (ok : okD d) (h : cls σ 1 d) {w : Nat} (hw : w < dN d) : e_X1_bringsOf_1 σ (nI w) = some (brv (dw d w 0) (dw d w 3) (nI (dW d))) := by
  have h14 := ok.2.2.1
  have hk := (ok.2.2.2.2.1 w hw).1
  have e1 : eI σ 2 w = dw d w 0 := c_at h hw 0 (by decide)
  have e2 : eI σ 5 w = dw d w 3 := c_at h hw 3 (by decide)
  simp only [e_X1_bringsOf_1, mib_nI (show w < 14 by omega) (by decide), if_true, nIc (show w < 2147483648 by omega), e1, e2, h.2.1, cbr hk.1 hk.2, ob]
theorem c_lasts (ok : okD d) (h : cls σ 1 d) {w : Nat} (hw : w < dN d) : e_X1_lastsOf_1 σ (nI w) = some (lsv (dw d w 0) (dw d w 4) (nI (dW d))) := by
  have h14 := ok.2.2.1
  have hk := (ok.2.2.2.2.1 w hw).1
  have e1 : eI σ 2 w = dw d w 0 := c_at h hw 0 (by decide)
  have e2 : eI σ 6 w = dw d w 4 := c_at h hw 4 (by decide)
  simp only [e_X1_lastsOf_1, mib_nI (show w < 14 by omega) (by decide), if_true, nIc (show w < 2147483648 by omega), e1, e2, h.2.1, cls' hk.1 hk.2, ob]
theorem m_brings (ok : okD d) (h : mdl σ d) {w : Nat} (hw : w < dN d) : e_X10_brings σ (nI w) = some (brv (dw d w 0) (dw d w 3) (nI (dW d))) := by
  simp only [e_X10_brings, m_at ok h hw 3 (by decide) 3 rfl, m_at ok h hw 0 (by decide) 0 rfl, ob, h.2.1, brv]
  repeat (first | rfl | split)
theorem m_lasts (ok : okD d) (h : mdl σ d) {w : Nat} (hw : w < dN d) : e_X10_lasts σ (nI w) = some (lsv (dw d w 0) (dw d w 4) (nI (dW d))) := by
  simp only [e_X10_lasts, m_at ok h hw 4 (by decide) 4 rfl, m_at ok h hw 0 (by decide) 0 rfl, ob, h.2.1, lsv]
  repeat (first | rfl | split)
end Br
theorem sim_of : Sim_of Rel := by
  intro σ h a0 a1
  have hR := h
  obtain ⟨⟨d, ok, hc, hm⟩, h2, h3, h4, h5, h6⟩ := h
  have hmf : mdl (fx 0 σ) d := (RK_u (v := eI σ 60 0 + 1) ⟨ok, hc, hm⟩ rfl).2.2
  have e7 : ir (0 : Int64).toInt (7 : Int64).toInt a1 = ir 0 7 a1 := rfl
  have fail : e_X9_of a0 a1 σ = some (-2000000001 - nI 0, fx 0 σ) → e_X10_of a0 a1 (fx 0 σ) = some (-2000000001 - nI 0, gx 0 (fx 0 σ)) → ∃ (r : Int32) (σ1 : ES) (σ2 : ES), e_X9_of a0 a1 σ = some (r, σ1) ∧ e_X10_of a0 a1 σ1 = some (r, σ2) ∧ Rel σ2 := fun q1 q2 => ⟨_, _, _, q1, q2, Rel_find 0 hR⟩
  by_cases q0 : ir 0 ((dN d : Int) - 1) a0 = true
  · obtain ⟨w, hw, hw', rfl⟩ := nI_ir q0
    have h14 := ok.2.2.1
    by_cases q1 : ir 0 7 a1 = true
    · have good : ∀ r, e_X9_of (nI w) a1 σ = some (r, σ) → e_X10_of (nI w) a1 σ = some (r, σ) → ∃ (r : Int32) (σ1 : ES) (σ2 : ES), e_X9_of (nI w) a1 σ = some (r, σ1) ∧ e_X10_of (nI w) a1 σ1 = some (r, σ2) ∧ Rel σ2 := fun r q1 q2 => ⟨r, σ, σ, q1, q2, hR⟩
      have hmi : mib (nI w) 14 = true := mib_nI (by omega) (by decide)
      have low : ∀ j, j < 6 → a1 = nI j → e_X10_of (nI w) a1 σ = some (dw d w j, σ) := by
        intro j hj e
        have : ¬ (6 : Int32) ≤ a1 := by
          rw [e, le32, nIt (by omega)]
          show ¬ (6 : Int) ≤ j
          omega
        simp only [e_X10_of, m_isWay ok hm, q0, ob, bi_0, min_eq, e7, q1, Bool.true_eq_false, if_false, this, m_at ok hm hw j hj a1 e]
      have hc' : ∀ j, j < 6 → eI σ (2 + j) w = dw d w j := fun j hj => c_at hc hw j hj
      obtain ⟨p1, p2⟩ := ir_iff.mp q1
      obtain ⟨k, e, hk, rfl⟩ := nI_ex p1
      have : k = 0 ∨ k = 1 ∨ k = 2 ∨ k = 3 ∨ k = 4 ∨ k = 5 ∨ k = 6 ∨ k = 7 := by omega
      rcases this with e | e | e | e | e | e | e | e <;> subst e
      · refine good _ ?_ (low 0 (by decide) rfl)
        simp only [e_X9_of, c_isWay ok hc, q0, ob, bi_0, Bool.true_eq_false, if_false, hmi, if_true, nIc hw']
        exact congrArg (fun x => some (x, σ)) (hc' 0 (by decide))
      · refine good _ ?_ (low 1 (by decide) rfl)
        simp only [e_X9_of, c_isWay ok hc, q0, ob, bi_0, Bool.true_eq_false, if_false, hmi, if_true, nIc hw']
        exact congrArg (fun x => some (x, σ)) (hc' 1 (by decide))
      · refine good _ ?_ (low 2 (by decide) rfl)
        simp only [e_X9_of, c_isWay ok hc, q0, ob, bi_0, Bool.true_eq_false, if_false, hmi, if_true, nIc hw']
        exact congrArg (fun x => some (x, σ)) (hc' 2 (by decide))
      · refine good _ ?_ (low 3 (by decide) rfl)
        simp only [e_X9_of, c_isWay ok hc, q0, ob, bi_0, Bool.true_eq_false, if_false, hmi, if_true, nIc hw']
        exact congrArg (fun x => some (x, σ)) (hc' 3 (by decide))
      · refine good _ ?_ (low 4 (by decide) rfl)
        simp only [e_X9_of, c_isWay ok hc, q0, ob, bi_0, Bool.true_eq_false, if_false, hmi, if_true, nIc hw']
        exact congrArg (fun x => some (x, σ)) (hc' 4 (by decide))
      · refine good _ ?_ (low 5 (by decide) rfl)
        simp only [e_X9_of, c_isWay ok hc, q0, ob, bi_0, Bool.true_eq_false, if_false, hmi, if_true, nIc hw']
        exact congrArg (fun x => some (x, σ)) (hc' 5 (by decide))
      · refine good (brv (dw d w 0) (dw d w 3) (nI (dW d))) ?_ ?_
        · simp only [e_X9_of, c_isWay ok hc, q0, ob, bi_0, Bool.true_eq_false, if_false, hmi, if_true, nIc hw', c_brings ok hc hw]
          rfl
        · simp only [e_X10_of, m_isWay ok hm, q0, ob, bi_0, min_eq, e7, q1, Bool.true_eq_false, if_false, m_brings ok hm hw]
          rfl
      · refine good (lsv (dw d w 0) (dw d w 4) (nI (dW d))) ?_ ?_
        · simp only [e_X9_of, c_isWay ok hc, q0, ob, bi_0, Bool.true_eq_false, if_false, hmi, if_true, nIc hw', c_lasts ok hc hw]
          rfl
        · simp only [e_X10_of, m_isWay ok hm, q0, ob, bi_0, min_eq, e7, q1, Bool.true_eq_false, if_false, m_lasts ok hm hw]
          rfl
    · apply fail
      · simp only [e_X9_of, c_isWay ok hc, q0, ob, bi_0, f0, Bool.true_eq_false, if_false, ir_ne q1 (c := 0) rfl, ir_ne q1 (c := 1) rfl, ir_ne q1 (c := 2) rfl, ir_ne q1 (c := 3) rfl, ir_ne q1 (c := 4) rfl, ir_ne q1 (c := 5) rfl, ir_ne q1 (c := 6) rfl, ir_ne q1 (c := 7) rfl]
      · simp only [e_X10_of, m_isWay ok hmf, q0, ob, bi_0, min_eq, e7, g0, Bool.true_eq_false, if_false]
        simp [q1]
  · apply fail
    · simp only [e_X9_of, c_isWay ok hc, ob, bi_0, f0]
      simp [q0]
    · simp only [e_X10_of, m_isWay ok hmf, ob, bi_0, g0]
      simp [q0]
theorem sim_tear : Sim_tear Rel := by
  intro σ h
  have hR := h
  obtain ⟨⟨d, hk⟩, ⟨h2, h2'⟩, h3, h4, h5, h6⟩ := h
  have e1 : eI (uI σ 0 3 0) 69 35 = eI σ 0 3 := h2
  have key : Rel (uI (uI σ 0 3 0) 69 35 0) := ⟨⟨d, RK_u (RK_u hk rfl) rfl⟩, ⟨rfl, Or.inl rfl⟩, RTp_u (RTp_u h3 rfl) rfl, RSh_u (RSh_u h4 rfl) rfl, RF_u (RF_u h5 rfl) rfl, RWd_u (RWd_u h6 rfl) rfl⟩
  by_cases q : eI σ 0 3 = 0
  · refine ⟨0, uI σ 0 3 0, _, if_pos q, ?_, key⟩
    unfold e_X10_tear
    rw [e1, if_pos q]
  · refine ⟨1, uI σ 0 3 0, _, if_neg q, ?_, key⟩
    unfold e_X10_tear
    rw [e1, if_neg q]
