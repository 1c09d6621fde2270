/-! ===== change ===== -/
section Ch
variable {σ : ES} {d : CD}
theorem cls_setW (h : cls σ 1 d) (w j : Nat) (v : Int32) (hj : j < 6) : cls (uI σ (2 + j) w v) 1 (setW d w j v) := by
  obtain ⟨h1, h2, h3, h4, h5, h6⟩ := h
  have off : ∀ i, eI (uI σ (2 + j) w v) 1 i = eI σ 1 i := fun i => by rw [eI_uI, if_neg (by omega)]
  refine ⟨(off 0).trans h1, (off 1).trans h2, (off 2).trans h3, (off 9).trans h4, fun a ha b hb => ?_, fun t ht b hb => ?_⟩
  · have ha : a < dN d := ha
    show _ = if a = w ∧ b = j then v else dw d a b
    rw [eI_uI]
    by_cases e : a = w ∧ b = j
    · rw [if_pos e, if_pos (by omega)]
    · rw [if_neg e, if_neg (by omega)]
      exact h5 a ha b hb
  · rw [eI_uI, if_neg (by omega)]
    exact h6 t ht b hb
theorem mdl_setW (h : mdl σ d) (w j : Nat) (v : Int32) (hj : j < 6) : mdl (uI σ 71 (6 * w + j) v) (setW d w j v) := by
  obtain ⟨h1, h2, h3, h4, h5, h6, h7⟩ := h
  refine ⟨h1, h2, h3, h4, fun a ha b hb => ?_, h6, h7⟩
  have ha : a < dN d := ha
  show _ = if a = w ∧ b = j then v else dw d a b
  rw [eI_uI]
  by_cases e : a = w ∧ b = j
  · rw [if_pos e, if_pos (by omega)]
  · rw [if_neg e, if_neg (by omega)]
    exact h5 a ha b hb
theorem ok_setW {w j : Nat} {v : Int32} (ok : okD d) (hf : okW (dP d) (fun a => if a = j then v else dw d w a)) : okD (setW d w j v) := by
  refine ⟨ok.1, ok.2.1, ok.2.2.1, ok.2.2.2.1, fun a ha => ?_, ok.2.2.2.2.2⟩
  have ha : a < dN d := ha
  show okW (dP d) (fun b => if a = w ∧ b = j then v else dw d a b)
  by_cases e : a = w
  · subst e
    simpa using hf
  · simp only [e, false_and, if_false]
    exact ok.2.2.2.2.1 a ha
end Ch
theorem chg {σ : ES} {d : CD} (hR : Rel σ) (hk : RK σ d) {w : Nat} (hw : w < dN d) (v : Int32) (j : Nat) (hj : j < 6) (b : Bool) (hcan : e_X9_canBecome σ (nI w) (nI j) v = some (bi b)) (hmay : ∀ τ, mdl τ d → e_X10_mayBe τ (nI w) (nI j) v = some (bi b)) (hok : b = true → okW (dP d) (fun a => if a = j then v else dw d w a)) (hput : b = true → e_X9_change (nI w) (nI j) v σ = some (eI σ (2 + j) w, uI σ (2 + j) w v)) : ∃ (r : Int32) (σ1 : ES) (σ2 : ES), e_X9_change (nI w) (nI j) v σ = some (r, σ1) ∧ e_X10_change (nI w) (nI j) v σ1 = some (r, σ2) ∧ Rel σ2 := by
  obtain ⟨⟨d', _⟩, h2, h3, h4, h5, h6⟩ := id hR
  obtain ⟨ok, hc, hm⟩ := hk
  have h14 := ok.2.2.1
  have q0 : ir 0 ((dN d : Int) - 1) (nI w) = true := by
    rw [ir_iff, nIt (by omega)]
    omega
  cases b with
  | false =>
    have hmf : mdl (fx 0 σ) d := (RK_u (v := eI σ 60 0 + 1) ⟨ok, hc, hm⟩ rfl).2.2
    refine ⟨-2000000001 - nI 0, fx 0 σ, gx 0 (fx 0 σ), ?_, ?_, Rel_find 0 hR⟩
    · simp only [e_X9_change, c_isWay ok hc, q0, ob, bi_0, Bool.true_eq_false, if_false, hcan, f0, if_true]
    · simp only [e_X10_change, m_isWay ok hmf, q0, ob, bi_0, Bool.true_eq_false, if_false, hmay _ hmf, g0, if_true]
  | true =>
    have hm' : mdl (uI σ (2 + j) w v) d := mdl_c hm (fun i hi => by rw [eI_uI, if_neg (by omega)]) (fun i => by rw [eI_uI, if_neg (by omega)]) (fun i => by rw [eI_uI, if_neg (by omega)]) (fun i => by rw [eI_uI, if_neg (by omega)])
    refine ⟨_, _, uI (uI σ (2 + j) w v) 71 (6 * w + j) v, hput rfl, ?_, ?_⟩
    · simp only [e_X10_change, m_isWay ok hm', q0, ob, bi_0, Bool.true_eq_false, if_false, hmay _ hm', m_at ok hm' hw j hj _ rfl, six_nI (w := w) j (by omega) (by omega), mib_nI (show 6 * w + j < 84 by omega) (by decide), if_true, nIc (show 6 * w + j < 2147483648 by omega), c_at hc hw j hj]
    · have a1 : ∀ q : Nat → Nat → Bool, (∀ k i, 2 ≤ k → k ≤ 7 → q k i = false) → q (2 + j) w = false := fun q hq => hq _ _ (by omega) (by omega)
      refine ⟨⟨setW d w j v, ok_setW ok (hok rfl), ?_, mdl_setW hm' w j v hj⟩, RI_u (RI_u h2 ?_) rfl, RTp_u (RTp_u h3 ?_) rfl, RSh_u (RSh_u h4 ?_) rfl, RF_u (RF_u h5 ?_) rfl, RWd_u (RWd_u h6 ?_) rfl⟩
      · refine cls_c (cls_setW hc w j v hj) (fun k i k1 k2 => ?_)
        rw [eI_uI, if_neg (by omega)]
      all_goals
        have : j = 0 ∨ j = 1 ∨ j = 2 ∨ j = 3 ∨ j = 4 ∨ j = 5 := by omega
        rcases this with e | e | e | e | e | e <;> subst e <;> rfl
theorem sim_change : Sim_change Rel := by
  intro σ h a0 a1 v
  have hR := h
  obtain ⟨⟨d, ok, hc, hm⟩, h2, h3, h4, h5, h6⟩ := h
  have hmf : mdl (fx 0 σ) d := (RK_u (v := eI σ 60 0 + 1) ⟨ok, hc, hm⟩ rfl).2.2
  have fail : e_X9_change a0 a1 v σ = some (-2000000001 - nI 0, fx 0 σ) → e_X10_change a0 a1 v (fx 0 σ) = some (-2000000001 - nI 0, gx 0 (fx 0 σ)) → ∃ (r : Int32) (σ1 : ES) (σ2 : ES), e_X9_change a0 a1 v σ = some (r, σ1) ∧ e_X10_change a0 a1 v σ1 = some (r, σ2) ∧ Rel σ2 := fun q1 q2 => ⟨_, _, _, q1, q2, Rel_find 0 hR⟩
  by_cases q0 : ir 0 ((dN d : Int) - 1) a0 = true
  · obtain ⟨w, hw, hw', rfl⟩ := nI_ir q0
    have h14 := ok.2.2.1
    have hmi : mib (nI w) 14 = true := mib_nI (by omega) (by decide)
    obtain ⟨o0, o1, o2, o3, o4, o5, o6⟩ := ok.2.2.2.2.1 w hw
    have e3 : eI σ 3 w = dw d w 1 := c_at hc hw 1 (by decide)
    have e4 : eI σ 4 w = dw d w 2 := c_at hc hw 2 (by decide)
    by_cases q1 : ir 0 5 a1 = true
    · obtain ⟨p1, p2⟩ := ir_iff.mp q1
      obtain ⟨k, e, hk, rfl⟩ := nI_ex p1
      have : k = 0 ∨ k = 1 ∨ k = 2 ∨ k = 3 ∨ k = 4 ∨ k = 5 := by omega
      rcases this with e | e | e | e | e | e <;> subst e
      · have can : e_X9_canBecome σ (nI w) (nI 0) v = some (bi (ir 0 5 v)) := by
          show (e_X9_isKind v).bind _ = _
          simp only [isKind_eq, ob, bi_or, if_true]
        refine chg hR ⟨ok, hc, hm⟩ hw v 0 (by decide) (ir 0 5 v) can (fun τ hτ => ?_) (fun b => ?_) (fun b => ?_)
        · show (e_X10_in v.toInt64 0 5).bind _ = _
          simp only [min_eq, ob, bi_or, if_true]
          rfl
        · rw [ir_iff] at b
          exact ⟨b, o1, o2, o3, o4, o5, o6⟩
        · simp only [e_X9_change, c_isWay ok hc, q0, can, b, ob, bi_0, Bool.true_eq_false, if_false]
          show (e_X9_put_2 (nI w) v σ).bind _ = _
          simp only [e_X9_put_2, hmi, if_true, ob, nIc hw']
      · have can : e_X9_canBecome σ (nI w) (nI 1) v = some (bi (ir 0 ((dP d : Int) - 1) v && !(v == dw d w 2))) := by
          show (e_X1_isPlace_1 σ v).bind _ = _
          simp only [c_isPlace ok hc, ob, bi_0, hmi, if_true, nIc hw', e4]
          by_cases c1 : ir 0 ((dP d : Int) - 1) v = true
          · by_cases c2 : v = dw d w 2 <;> simp [c1, c2, bi]
          · simp [c1, bi]
        refine chg hR ⟨ok, hc, hm⟩ hw v 1 (by decide) _ can (fun τ hτ => ?_) (fun b => ?_) (fun b => ?_)
        · show (e_X10_isPlace τ v).bind _ = _
          simp only [m_isPlace ok hτ, ob, bi_0, m_at ok hτ hw 2 (by decide) 2 rfl]
          by_cases c1 : ir 0 ((dP d : Int) - 1) v = true
          · by_cases c2 : v = dw d w 2 <;> simp [c1, c2, bi]
          · simp [c1, bi]
        · simp only [Bool.and_eq_true, ir_iff, Bool.not_eq_true', beq_eq_false_iff_ne] at b
          exact ⟨o0, ⟨b.1.1, by show v.toInt < _; omega⟩, o2, b.2, o4, o5, o6⟩
        · simp only [e_X9_change, c_isWay ok hc, q0, can, b, ob, bi_0, Bool.true_eq_false, if_false]
          show (e_X9_put_3 (nI w) v σ).bind _ = _
          simp only [e_X9_put_3, hmi, if_true, ob, nIc hw']
      · have can : e_X9_canBecome σ (nI w) (nI 2) v = some (bi (ir 0 ((dP d : Int) - 1) v && !(v == dw d w 1))) := by
          show (e_X1_isPlace_1 σ v).bind _ = _
          simp only [c_isPlace ok hc, ob, bi_0, hmi, if_true, nIc hw', e3]
          by_cases c1 : ir 0 ((dP d : Int) - 1) v = true
          · by_cases c2 : v = dw d w 1 <;> simp [c1, c2, bi]
          · simp [c1, bi]
        refine chg hR ⟨ok, hc, hm⟩ hw v 2 (by decide) _ can (fun τ hτ => ?_) (fun b => ?_) (fun b => ?_)
        · show (e_X10_isPlace τ v).bind _ = _
          simp only [m_isPlace ok hτ, ob, bi_0, m_at ok hτ hw 1 (by decide) 1 rfl]
          by_cases c1 : ir 0 ((dP d : Int) - 1) v = true
          · by_cases c2 : v = dw d w 1 <;> simp [c1, c2, bi]
          · simp [c1, bi]
        · simp only [Bool.and_eq_true, ir_iff, Bool.not_eq_true', beq_eq_false_iff_ne] at b
          exact ⟨o0, o1, ⟨b.1.1, by show v.toInt < _; omega⟩, fun e => b.2 e.symm, o4, o5, o6⟩
        · simp only [e_X9_change, c_isWay ok hc, q0, can, b, ob, bi_0, Bool.true_eq_false, if_false]
          show (e_X9_put_4 (nI w) v σ).bind _ = _
          simp only [e_X9_put_4, hmi, if_true, ob, nIc hw']
      · have can : e_X9_canBecome σ (nI w) (nI 3) v = some (bi (ir (-999999999) 999999999 v)) := by
          show (e_X9_isGain v).bind _ = _
          simp only [isGain_eq, ob, bi_or, if_true]
        refine chg hR ⟨ok, hc, hm⟩ hw v 3 (by decide) _ can (fun τ hτ => ?_) (fun b => ?_) (fun b => ?_)
        · show (e_X10_isGain v.toInt64).bind _ = _
          simp only [misGain_eq, il_i, ob, bi_or, if_true]
        · rw [ir_iff] at b
          exact ⟨o0, o1, o2, o3, b, o5, o6⟩
        · simp only [e_X9_change, c_isWay ok hc, q0, can, b, ob, bi_0, Bool.true_eq_false, if_false]
          show (e_X9_put_5 (nI w) v σ).bind _ = _
          simp only [e_X9_put_5, hmi, if_true, ob, nIc hw']
      · have can : e_X9_canBecome σ (nI w) (nI 4) v = some (bi (ir 1 999999 v)) := by
          show (e_X9_isTime v).bind _ = _
          simp only [isTime_eq, ob, bi_or, if_true]
        refine chg hR ⟨ok, hc, hm⟩ hw v 4 (by decide) _ can (fun τ hτ => ?_) (fun b => ?_) (fun b => ?_)
        · show (e_X10_isTime v).bind _ = _
          simp only [misTime_eq, ob, bi_or, if_true]
        · rw [ir_iff] at b
          exact ⟨o0, o1, o2, o3, o4, b, o6⟩
        · simp only [e_X9_change, c_isWay ok hc, q0, can, b, ob, bi_0, Bool.true_eq_false, if_false]
          show (e_X9_put_6 (nI w) v σ).bind _ = _
          simp only [e_X9_put_6, hmi, if_true, ob, nIc hw']
      · have can : e_X9_canBecome σ (nI w) (nI 5) v = some (bi (ir 0 1 v)) := by
          show (e_X9_within v 0 1).bind _ = _
          simp only [within_eq, ob, bi_or, if_true]
          rfl
        refine chg hR ⟨ok, hc, hm⟩ hw v 5 (by decide) _ can (fun τ hτ => ?_) (fun b => ?_) (fun b => ?_)
        · show (e_X10_in v.toInt64 0 1).bind _ = _
          simp only [min_eq, ob, bi_or, if_true]
          rfl
        · rw [ir_iff] at b
          obtain ⟨k, ek, hk, rfl⟩ := nI_ex b.1
          have : k = 0 ∨ k = 1 := by omega
          refine ⟨o0, o1, o2, o3, o4, o5, ?_⟩
          rcases this with e | e <;> subst e
          · exact Or.inl rfl
          · exact Or.inr rfl
        · simp only [e_X9_change, c_isWay ok hc, q0, can, b, ob, bi_0, Bool.true_eq_false, if_false]
          show (e_X9_put_7 (nI w) v σ).bind _ = _
          simp only [e_X9_put_7, hmi, if_true, ob, nIc hw']
    · apply fail
      · simp only [e_X9_change, c_isWay ok hc, q0, ob, bi_0, f0, Bool.true_eq_false, if_false, e_X9_canBecome, ir_ne q1 (c := 0) rfl, ir_ne q1 (c := 1) rfl, ir_ne q1 (c := 2) rfl, ir_ne q1 (c := 3) rfl, ir_ne q1 (c := 4) rfl, ir_ne q1 (c := 5) rfl]
        rfl
      · simp only [e_X10_change, m_isWay ok hmf, q0, ob, bi_0, g0, Bool.true_eq_false, if_false, e_X10_mayBe, ir_ne q1 (c := 0) rfl, ir_ne q1 (c := 1) rfl, ir_ne q1 (c := 2) rfl, ir_ne q1 (c := 3) rfl, ir_ne q1 (c := 4) rfl, ir_ne q1 (c := 5) rfl]
        rfl
  · apply fail
    · simp only [e_X9_change, c_isWay ok hc, ob, bi_0, f0]
      simp [q0]
    · simp only [e_X10_change, m_isWay ok hmf, ob, bi_0, g0]
      simp [q0]
