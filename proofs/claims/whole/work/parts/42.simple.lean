/-! ===== the smallest methods of both sides, by the country that they share ===== -/
theorem f0 (σ : ES) : e_X9_finding 0 σ = some (-2000000001 - nI 0, fx 0 σ) := find_eq (k := 0) (by decide) σ
theorem f1 (σ : ES) : e_X9_finding 1 σ = some (-2000000001 - nI 1, fx 1 σ) := find_eq (k := 1) (by decide) σ
theorem f2 (σ : ES) : e_X9_finding 2 σ = some (-2000000001 - nI 2, fx 2 σ) := find_eq (k := 2) (by decide) σ
theorem f3 (σ : ES) : e_X9_finding 3 σ = some (-2000000001 - nI 3, fx 3 σ) := find_eq (k := 3) (by decide) σ
theorem f4 (σ : ES) : e_X9_finding 4 σ = some (-2000000001 - nI 4, fx 4 σ) := find_eq (k := 4) (by decide) σ
theorem f5 (σ : ES) : e_X9_finding 5 σ = some (-2000000001 - nI 5, fx 5 σ) := find_eq (k := 5) (by decide) σ
theorem f6 (σ : ES) : e_X9_finding 6 σ = some (-2000000001 - nI 6, fx 6 σ) := find_eq (k := 6) (by decide) σ
theorem f7 (σ : ES) : e_X9_finding 7 σ = some (-2000000001 - nI 7, fx 7 σ) := find_eq (k := 7) (by decide) σ
theorem f8 (σ : ES) : e_X9_finding 8 σ = some (-2000000001 - nI 8, fx 8 σ) := find_eq (k := 8) (by decide) σ
theorem g0 (σ : ES) : e_X10_finds 0 σ = some (-2000000001 - nI 0, gx 0 σ) := finds_eq (k := 0) (by decide) σ
theorem g1 (σ : ES) : e_X10_finds 1 σ = some (-2000000001 - nI 1, gx 1 σ) := finds_eq (k := 1) (by decide) σ
theorem g2 (σ : ES) : e_X10_finds 2 σ = some (-2000000001 - nI 2, gx 2 σ) := finds_eq (k := 2) (by decide) σ
theorem g3 (σ : ES) : e_X10_finds 3 σ = some (-2000000001 - nI 3, gx 3 σ) := finds_eq (k := 3) (by decide) σ
theorem g4 (σ : ES) : e_X10_finds 4 σ = some (-2000000001 - nI 4, gx 4 σ) := finds_eq (k := 4) (by decide) σ
theorem g5 (σ : ES) : e_X10_finds 5 σ = some (-2000000001 - nI 5, gx 5 σ) := finds_eq (k := 5) (by decide) σ
theorem g6 (σ : ES) : e_X10_finds 6 σ = some (-2000000001 - nI 6, gx 6 σ) := finds_eq (k := 6) (by decide) σ
theorem g7 (σ : ES) : e_X10_finds 7 σ = some (-2000000001 - nI 7, gx 7 σ) := finds_eq (k := 7) (by decide) σ
theorem g8 (σ : ES) : e_X10_finds 8 σ = some (-2000000001 - nI 8, gx 8 σ) := finds_eq (k := 8) (by decide) σ
theorem lf0 (σ : ES) : e_X9_longFinding 0 σ = some (-4000000000000000001 - (nI 0).toInt64, fx 0 σ) := lfind_eq (k := 0) (by decide) σ
theorem lf3 (σ : ES) : e_X9_longFinding 3 σ = some (-4000000000000000001 - (nI 3).toInt64, fx 3 σ) := lfind_eq (k := 3) (by decide) σ
theorem lf4 (σ : ES) : e_X9_longFinding 4 σ = some (-4000000000000000001 - (nI 4).toInt64, fx 4 σ) := lfind_eq (k := 4) (by decide) σ
theorem lf5 (σ : ES) : e_X9_longFinding 5 σ = some (-4000000000000000001 - (nI 5).toInt64, fx 5 σ) := lfind_eq (k := 5) (by decide) σ
theorem lf7 (σ : ES) : e_X9_longFinding 7 σ = some (-4000000000000000001 - (nI 7).toInt64, fx 7 σ) := lfind_eq (k := 7) (by decide) σ
theorem lf8 (σ : ES) : e_X9_longFinding 8 σ = some (-4000000000000000001 - (nI 8).toInt64, fx 8 σ) := lfind_eq (k := 8) (by decide) σ
theorem lg0 (σ : ES) : e_X10_farFinds 0 σ = some (-4000000000000000001 - (nI 0).toInt64, gx 0 σ) := lfinds_eq (k := 0) (by decide) σ
theorem lg3 (σ : ES) : e_X10_farFinds 3 σ = some (-4000000000000000001 - (nI 3).toInt64, gx 3 σ) := lfinds_eq (k := 3) (by decide) σ
theorem lg4 (σ : ES) : e_X10_farFinds 4 σ = some (-4000000000000000001 - (nI 4).toInt64, gx 4 σ) := lfinds_eq (k := 4) (by decide) σ
theorem lg5 (σ : ES) : e_X10_farFinds 5 σ = some (-4000000000000000001 - (nI 5).toInt64, gx 5 σ) := lfinds_eq (k := 5) (by decide) σ
theorem lg7 (σ : ES) : e_X10_farFinds 7 σ = some (-4000000000000000001 - (nI 7).toInt64, gx 7 σ) := lfinds_eq (k := 7) (by decide) σ
theorem lg8 (σ : ES) : e_X10_farFinds 8 σ = some (-4000000000000000001 - (nI 8).toInt64, gx 8 σ) := lfinds_eq (k := 8) (by decide) σ
theorem ob {α β : Type} (a : α) (f : α → Option β) : (some a).bind f = f a := rfl
theorem isKind_eq (v : Int32) : e_X9_isKind v = some (bi (ir 0 5 v)) := by
  simp only [e_X9_isKind, within_eq, ob, bi_or, if_true]
  rfl
theorem isGain_eq (v : Int32) : e_X9_isGain v = some (bi (ir (-999999999) 999999999 v)) := by
  simp only [e_X9_isGain, within_eq, ob, bi_or, if_true]
  rfl
theorem isTime_eq (v : Int32) : e_X9_isTime v = some (bi (ir 1 999999 v)) := by
  simp only [e_X9_isTime, within_eq, ob, bi_or, if_true]
  rfl
theorem misGain_eq (v : Int64) : e_X10_isGain v = some (bi (il (-999999999) 999999999 v)) := by
  simp only [e_X10_isGain, in_eq, ob, bi_or, if_true]
  rfl
theorem misTime_eq (v : Int32) : e_X10_isTime v = some (bi (ir 1 999999 v)) := by
  simp only [e_X10_isTime, in_eq, ob, bi_or, if_true, il_i]
  rfl
theorem min_eq (v : Int32) (lo hi : Int64) : e_X10_in v.toInt64 lo hi = some (bi (ir lo.toInt hi.toInt v)) := by rw [in_eq, il_i]
theorem pred_nI {n : Nat} (h : n < 2147483648) : (nI n - 1).toInt = (n : Int) - 1 := by
  have h1 : (1 : Int32).toInt = 1 := rfl
  rw [sub32, nIt h, h1] <;> rw [nIt h, h1] <;> omega
section Small
variable {σ : ES} {d : CD}
theorem c_isPlace (ok : okD d) (h : cls σ 1 d) (v : Int32) : e_X1_isPlace_1 σ v = some (bi (ir 0 ((dP d : Int) - 1) v)) := by
  simp only [e_X1_isPlace_1, within_eq, ob, bi_or, if_true, h.1]
  rw [pred_nI (by have := ok.1; omega)]
  rfl
theorem m_isPlace (ok : okD d) (h : mdl σ d) (v : Int32) : e_X10_isPlace σ v = some (bi (ir 0 ((dP d : Int) - 1) v)) := by
  simp only [e_X10_isPlace, min_eq, ob, bi_or, if_true, h.1, t64]
  rw [pred_nI (by have := ok.1; omega)]
  rfl
theorem c_isWay (ok : okD d) (h : cls σ 1 d) (v : Int32) : e_X1_isWay_1 σ v = some (bi (ir 0 ((dN d : Int) - 1) v)) := by
  simp only [e_X1_isWay_1, within_eq, ob, bi_or, if_true, h.2.2.1]
  rw [pred_nI (by have := ok.2.2.1; omega)]
  rfl
theorem m_isWay (ok : okD d) (h : mdl σ d) (v : Int32) : e_X10_isWay σ v = some (bi (ir 0 ((dN d : Int) - 1) v)) := by
  simp only [e_X10_isWay, min_eq, ob, bi_or, if_true, h.2.2.1, t64]
  rw [pred_nI (by have := ok.2.2.1; omega)]
  rfl
theorem c_isThing (ok : okD d) (h : cls σ 1 d) (v : Int32) : e_X1_isThingOrBase_1 σ v = some (bi (ir (-1) ((dT d : Int) - 1) v)) := by
  simp only [e_X1_isThingOrBase_1, within_eq, ob, bi_or, if_true, h.2.2.2.1]
  rw [pred_nI (by have := ok.2.2.2.1; omega)]
  rfl
theorem m_isThing (ok : okD d) (h : mdl σ d) (v : Int32) : e_X10_isThing σ v = some (bi (ir (-1) ((dT d : Int) - 1) v)) := by
  simp only [e_X10_isThing, min_eq, ob, bi_or, if_true, h.2.2.2.1, t64]
  rw [pred_nI (by have := ok.2.2.2.1; omega)]
  rfl
theorem six_nI {w : Nat} (j : Nat) (hw : w < 1000) (hj : j < 1000) : (6 : Int32) * nI w + nI j = nI (6 * w + j) := by
  have : (6 : Int32) = nI 6 := rfl
  rw [this, pk_mul, nI_add]
theorem m_at (ok : okD d) (h : mdl σ d) {w : Nat} (hw : w < dN d) (j : Nat) (hj : j < 6) (x : Int32) (hx : x = nI j) : e_X10_at σ (nI w) x = some (dw d w j) := by
  subst hx
  have h14 := ok.2.2.1
  unfold e_X10_at
  rw [six_nI j (by omega) (by omega), if_pos (mib_nI (by omega) (by decide)), nIc (by omega), h.2.2.2.2.1 w hw j hj]
theorem c_at (h : cls σ 1 d) {w : Nat} (hw : w < dN d) (j : Nat) (hj : j < 6) : eI σ (2 + j) w = dw d w j := by
  have := h.2.2.2.2.1 w hw j hj
  rw [show 1 + 1 + j = 2 + j by omega] at this
  exact this
end Small
theorem sim_weather : Sim_weather Rel := by
  intro σ h a
  have hR := h
  obtain ⟨⟨d, ok, hc, hm⟩, h2, h3, h4, h5, h6⟩ := h
  simp only [e_X9_weather, within_eq, ob, bi_0, f0, e_X10_weather, min_eq, g0]
  have e5 : ir (0 : Int32).toInt (5 : Int32).toInt a = ir 0 5 a := rfl
  have e6 : ir (0 : Int64).toInt (5 : Int64).toInt a = ir 0 5 a := rfl
  rw [e5, e6]
  by_cases q : ir 0 5 a = false
  · rw [if_pos q]
    refine ⟨_, _, _, rfl, ?_, Rel_find 0 hR⟩
    rw [if_pos q]
  · rw [if_neg q]
    refine ⟨_, _, uI (uI σ 1 1 a) 69 2 a, rfl, ?_, ?_⟩
    · rw [if_neg q, show eI (uI σ 1 1 a) 69 2 = eI σ 69 2 from rfl, hm.2.1, hc.2.1]
    · rw [Bool.not_eq_false, ir_iff] at q
      obtain ⟨k, ek, hk, rfl⟩ := nI_ex q.1
      refine ⟨⟨((dP d, k, dN d, dT d), d.2), ⟨ok.1, by show k ≤ 5; omega, ok.2.2⟩, ?_, ?_⟩, RI_u (RI_u h2 rfl) rfl, RTp_u (RTp_u h3 rfl) rfl, RSh_u (RSh_u h4 rfl) rfl, RF_u (RF_u h5 rfl) rfl, RWd_u (RWd_u h6 rfl) rfl⟩
      · obtain ⟨c1, c2, c3, c4, c5, c6⟩ := hc
        refine ⟨c1, rfl, c3, c4, fun w hw j hj => ?_, fun t ht j hj => ?_⟩
        · simp only [eI_uI]
          rw [if_neg (by omega), if_neg (by omega)]
          exact c5 w hw j hj
        · simp only [eI_uI]
          rw [if_neg (by omega), if_neg (by omega)]
          exact c6 t ht j hj
      · obtain ⟨c1, c2, c3, c4, c5, c6, c7⟩ := hm
        exact ⟨c1, rfl, c3, c4, c5, c6, c7⟩
