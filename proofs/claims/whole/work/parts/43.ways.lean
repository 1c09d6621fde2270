/-! ===== new ways and things, on both sides ===== -/
theorem j6 {p : Nat → Prop} (h0 : p 0) (h1 : p 1) (h2 : p 2) (h3 : p 3) (h4 : p 4) (h5 : p 5) : ∀ j, j < 6 → p j := by
  intro j hj
  rcases j with _ | _ | _ | _ | _ | _ | j
  · exact h0
  · exact h1
  · exact h2
  · exact h3
  · exact h4
  · exact h5
  · omega
theorem j2 {p : Nat → Prop} (h0 : p 0) (h1 : p 1) : ∀ j, j < 2 → p j := by
  intro j hj
  rcases j with _ | _ | j
  · exact h0
  · exact h1
  · omega
def addW (d : CD) (f : Nat → Int32) : CD := ((dP d, dW d, dN d + 1, dT d), fun w j => if w = dN d then f j else dw d w j, d.2.2)
def addT (d : CD) (f : Nat → Int32) : CD := ((dP d, dW d, dN d, dT d + 1), d.2.1, fun t j => if t = dT d + 1 then f j else dt d t j)
def setW (d : CD) (w j : Nat) (v : Int32) : CD := (d.1, fun a b => if a = w ∧ b = j then v else dw d a b, d.2.2)
def setT (d : CD) (t j : Nat) (v : Int32) : CD := (d.1, d.2.1, fun a b => if a = t ∧ b = j then v else dt d a b)
def fW (a1 a2 a3 a4 a5 a6 : Int32) (j : Nat) : Int32 := match j with
  | 0 => a1
  | 1 => a2
  | 2 => a3
  | 3 => a4
  | 4 => a5
  | _ => a6
theorem ok_addW {d : CD} {f : Nat → Int32} (ok : okD d) (hN : dN d < 14) (hf : okW (dP d) f) : okD (addW d f) := by
  refine ⟨ok.1, ok.2.1, by show dN d + 1 ≤ 14; omega, ok.2.2.2.1, fun w hw => ?_, ok.2.2.2.2.2⟩
  have hw : w < dN d + 1 := hw
  show okW (dP d) (fun j => if w = dN d then f j else dw d w j)
  by_cases e : w = dN d
  · simp only [e, if_true]
    exact hf
  · simp only [e, if_false]
    exact ok.2.2.2.2.1 w (by omega)
theorem ok_addT {d : CD} {f : Nat → Int32} (ok : okD d) (hT : dT d < 12) (hf : okT f) : okD (addT d f) := by
  refine ⟨ok.1, ok.2.1, ok.2.2.1, by show dT d + 1 ≤ 12; omega, ok.2.2.2.2.1, fun t ht => ?_⟩
  have ht : t ≤ dT d + 1 := ht
  show okT (fun j => if t = dT d + 1 then f j else dt d t j)
  by_cases e : t = dT d + 1
  · simp only [e, if_true]
    exact hf
  · simp only [e, if_false]
    exact ok.2.2.2.2.2 t (by omega)
/-- the class's country at o with one more way -/
def nW (o : Nat) (σ : ES) (N : Nat) (a1 a2 a3 a4 a5 : Int32) : ES := uI (uI (uI (uI (uI (uI (uI σ (o + 1) N a1) (o + 2) N a2) (o + 3) N a3) (o + 4) N a4) (o + 5) N a5) (o + 6) N 0) o 2 (nI (N + 1))
def mW (σ : ES) (N : Nat) (a1 a2 a3 a4 a5 : Int32) : ES := uI (uI (uI (uI (uI (uI (uI σ 71 (6 * N) a1) 71 (6 * N + 1) a2) 71 (6 * N + 2) a3) 71 (6 * N + 3) a4) 71 (6 * N + 4) a5) 71 (6 * N + 5) 0) 69 3 (nI (N + 1))
theorem cls_nW {σ : ES} {o : Nat} {d : CD} (h : cls σ o d) (a1 a2 a3 a4 a5 : Int32) : cls (nW o σ (dN d) a1 a2 a3 a4 a5) o (addW d (fW a1 a2 a3 a4 a5 0)) := by
  obtain ⟨h1, h2, h3, h4, h5, h6⟩ := h
  have off : ∀ j, j ≠ 2 → eI (nW o σ (dN d) a1 a2 a3 a4 a5) o j = eI σ o j := by
    intro j hj
    simp only [nW, eI_uI]
    simp [hj]
  refine ⟨(off 0 (by decide)).trans h1, (off 1 (by decide)).trans h2, ?_, (off 9 (by decide)).trans h4, fun w hw => ?_, fun t ht => ?_⟩
  · simp [nW, eI_uI, addW, dN]
  · have hw : w < dN d + 1 := hw
    by_cases e : w = dN d
    · subst e
      refine j6 ?_ ?_ ?_ ?_ ?_ ?_ <;> simp [nW, eI_uI, addW, dw, fW, Nat.add_assoc]
    · have h5w := h5 w (by omega)
      refine j6 ?_ ?_ ?_ ?_ ?_ ?_ <;> simp only [nW, eI_uI, addW, dw] <;> simp [e, Nat.add_assoc]
      · exact h5w 0 (by decide)
      · exact h5w 1 (by decide)
      · exact h5w 2 (by decide)
      · exact h5w 3 (by decide)
      · exact h5w 4 (by decide)
      · exact h5w 5 (by decide)
  · have h6t := h6 t ht
    refine j2 ?_ ?_ <;> simp only [nW, eI_uI] <;> simp [Nat.add_assoc]
    · exact h6t 0 (by decide)
    · exact h6t 1 (by decide)
theorem mdl_mW {σ : ES} {d : CD} (h : mdl σ d) (a1 a2 a3 a4 a5 : Int32) : mdl (mW σ (dN d) a1 a2 a3 a4 a5) (addW d (fW a1 a2 a3 a4 a5 0)) := by
  obtain ⟨h1, h2, h3, h4, h5, h6, h7⟩ := h
  refine ⟨h1, h2, rfl, h4, fun w hw => ?_, h6, h7⟩
  have hw : w < dN d + 1 := hw
  by_cases e : w = dN d
  · subst e
    refine j6 ?_ ?_ ?_ ?_ ?_ ?_ <;> simp [mW, eI_uI, addW, dw, fW]
  · have h5w := h5 w (by omega)
    have key : ∀ j, j < 6 → eI (mW σ (dN d) a1 a2 a3 a4 a5) 71 (6 * w + j) = eI σ 71 (6 * w + j) := by
      intro j hj
      simp only [mW, eI_uI]
      rw [if_neg (by omega), if_neg (by omega), if_neg (by omega), if_neg (by omega), if_neg (by omega), if_neg (by omega), if_neg (by omega)]
    intro j hj
    rw [key j hj, h5w j hj]
    show _ = (if w = dN d then _ else _)
    rw [if_neg e]
theorem newWay_eq {σ : ES} {d : CD} (ok : okD d) (h : cls σ 1 d) (hN : dN d < 14) (a1 a2 a3 a4 a5 : Int32) : e_X1_newWay_1 a1 a2 a3 a4 a5 σ = some (nI (dN d), nW 1 σ (dN d) a1 a2 a3 a4 a5) := by
  unfold e_X1_newWay_1
  rw [h.2.2.1, if_pos (mib_nI hN (by decide)), nIc (by omega)]
  have : ∀ (τ : ES), eI (uI (uI (uI (uI (uI (uI τ 2 (dN d) a1) 3 (dN d) a2) 4 (dN d) a3) 5 (dN d) a4) 6 (dN d) a5) 7 (dN d) 0) 1 2 = eI τ 1 2 := fun τ => rfl
  rw [this, h.2.2.1, nI_1]
  rfl
theorem newWay19_eq {σ : ES} {d : CD} (ok : okD d) (h : cls σ 19 d) (hN : dN d < 14) (a1 a2 a3 a4 a5 : Int32) : e_X1_newWay_19 a1 a2 a3 a4 a5 σ = some (nI (dN d), nW 19 σ (dN d) a1 a2 a3 a4 a5) := by
  unfold e_X1_newWay_19
  rw [h.2.2.1, if_pos (mib_nI hN (by decide)), nIc (by omega)]
  have : ∀ (τ : ES), eI (uI (uI (uI (uI (uI (uI τ 20 (dN d) a1) 21 (dN d) a2) 22 (dN d) a3) 23 (dN d) a4) 24 (dN d) a5) 25 (dN d) 0) 19 2 = eI τ 19 2 := fun τ => rfl
  rw [this, h.2.2.1, nI_1]
  rfl
theorem addWay_eq {σ : ES} {d : CD} (ok : okD d) (h : mdl σ d) (hN : dN d < 14) (a1 a2 a3 a4 a5 : Int32) : e_X10_addWay a1 a2 a3 a4 a5 σ = some (mW σ (dN d) a1 a2 a3 a4 a5) := by
  unfold e_X10_addWay
  have z : (6 : Int32) * nI (dN d) = nI (6 * dN d) := by
    have := six_nI (w := dN d) 0 (by omega) (by omega)
    rw [show nI 0 = 0 from rfl] at this
    simpa using this
  have s1 : nI (6 * dN d) + 1 = nI (6 * dN d + 1) := nI_add _ 1
  have s2 : nI (6 * dN d) + 2 = nI (6 * dN d + 2) := nI_add _ 2
  have s3 : nI (6 * dN d) + 3 = nI (6 * dN d + 3) := nI_add _ 3
  have s4 : nI (6 * dN d) + 4 = nI (6 * dN d + 4) := nI_add _ 4
  have s5 : nI (6 * dN d) + 5 = nI (6 * dN d + 5) := nI_add _ 5
  rw [h.2.2.1, z, s1, s2, s3, s4, s5, if_pos (mib_nI (by omega) (by decide)), if_pos (mib_nI (by omega) (by decide)), if_pos (mib_nI (by omega) (by decide)), if_pos (mib_nI (by omega) (by decide)), if_pos (mib_nI (by omega) (by decide)), if_pos (mib_nI (by omega) (by decide))]
  rw [nIc (by omega), nIc (by omega), nIc (by omega), nIc (by omega), nIc (by omega), nIc (by omega)]
  have : ∀ (τ : ES) (x1 x2 x3 x4 x5 x6 : Nat), eI (uI (uI (uI (uI (uI (uI τ 71 x1 a1) 71 x2 a2) 71 x3 a3) 71 x4 a4) 71 x5 a5) 71 x6 0) 69 3 = eI τ 69 3 := fun τ _ _ _ _ _ _ => rfl
  rw [this, h.2.2.1, nI_1]
  rfl
theorem frW {σ : ES} {N N' : Nat} {a1 a2 a3 a4 a5 b1 b2 b3 b4 b5 : Int32} (h2 : RI σ) (h3 : RTp σ) (h4 : RSh σ) (h5 : RF σ) (h6 : RWd σ) : let τ := mW (nW 1 σ N a1 a2 a3 a4 a5) N' b1 b2 b3 b4 b5; RI τ ∧ RTp τ ∧ RSh τ ∧ RF τ ∧ RWd τ := by
  refine ⟨?_, ?_, ?_, ?_, ?_⟩
  · exact RI_u (RI_u (RI_u (RI_u (RI_u (RI_u (RI_u (RI_u (RI_u (RI_u (RI_u (RI_u (RI_u (RI_u h2 rfl) rfl) rfl) rfl) rfl) rfl) rfl) rfl) rfl) rfl) rfl) rfl) rfl) rfl
  · exact RTp_u (RTp_u (RTp_u (RTp_u (RTp_u (RTp_u (RTp_u (RTp_u (RTp_u (RTp_u (RTp_u (RTp_u (RTp_u (RTp_u h3 rfl) rfl) rfl) rfl) rfl) rfl) rfl) rfl) rfl) rfl) rfl) rfl) rfl) rfl
  · exact RSh_u (RSh_u (RSh_u (RSh_u (RSh_u (RSh_u (RSh_u (RSh_u (RSh_u (RSh_u (RSh_u (RSh_u (RSh_u (RSh_u h4 rfl) rfl) rfl) rfl) rfl) rfl) rfl) rfl) rfl) rfl) rfl) rfl) rfl) rfl
  · exact RF_u (RF_u (RF_u (RF_u (RF_u (RF_u (RF_u (RF_u (RF_u (RF_u (RF_u (RF_u (RF_u (RF_u h5 rfl) rfl) rfl) rfl) rfl) rfl) rfl) rfl) rfl) rfl) rfl) rfl) rfl) rfl
  · exact RWd_u (RWd_u (RWd_u (RWd_u (RWd_u (RWd_u (RWd_u (RWd_u (RWd_u (RWd_u (RWd_u (RWd_u (RWd_u (RWd_u h6 rfl) rfl) rfl) rfl) rfl) rfl) rfl) rfl) rfl) rfl) rfl) rfl) rfl) rfl
theorem sim_way : Sim_way Rel := by
  intro σ h a0 a1 a2 a3 a4
  have hR := h
  obtain ⟨⟨d, ok, hc, hm⟩, h2, h3, h4, h5, h6⟩ := h
  have e0 : ir (0 : Int64).toInt (5 : Int64).toInt a0 = ir 0 5 a0 := rfl
  have fail : e_X9_way a0 a1 a2 a3 a4 σ = some (-2000000001 - nI 0, fx 0 σ) → e_X10_way a0 a1 a2 a3 a4 (fx 0 σ) = some (-2000000001 - nI 0, gx 0 (fx 0 σ)) → ∃ (r : Int32) (σ1 : ES) (σ2 : ES), e_X9_way a0 a1 a2 a3 a4 σ = some (r, σ1) ∧ e_X10_way a0 a1 a2 a3 a4 σ1 = some (r, σ2) ∧ Rel σ2 := fun q1 q2 => ⟨_, _, _, q1, q2, Rel_find 0 hR⟩
  have hmf : ∀ k, mdl (fx k σ) d := fun k => (RK_u (v := eI σ 60 k + 1) ⟨ok, hc, hm⟩ rfl).2.2
  simp only [e_X9_way, e_X9_way_J31, e_X9_way_J32, c_isPlace ok hc, isKind_eq, isGain_eq, isTime_eq, ob, bi_0, f0, f1] at fail ⊢
  by_cases q0 : ir 0 5 a0 = true
  · by_cases q1 : ir 0 ((dP d : Int) - 1) a1 = true
    · by_cases q2 : ir 0 ((dP d : Int) - 1) a2 = true
      · by_cases q3 : a1 = a2
        · apply fail
          · simp [q0, q1, q2, q3]
          · simp only [e_X10_way, min_eq, e0, m_isPlace ok (hmf 0), ob, bi_0, g0]
            simp [q0, q1, q2, q3]
        · by_cases q4 : ir (-999999999) 999999999 a3 = true
          · by_cases q5 : ir 1 999999 a4 = true
            · by_cases q6 : dN d < 14
              · refine ⟨nI (dN d), nW 1 σ (dN d) a0 a1 a2 a3 a4, mW (nW 1 σ (dN d) a0 a1 a2 a3 a4) (dN d) a0 a1 a2 a3 a4, ?_, ?_, ?_⟩
                · have : eI σ 1 2 < 14 := by
                    rw [hc.2.2.1, lt32, nIt (by omega)]
                    show (dN d : Int) < 14
                    omega
                  simp [q0, q1, q2, q3, q4, q5, this, newWay_eq ok hc q6]
                · have hm' : mdl (nW 1 σ (dN d) a0 a1 a2 a3 a4) d := mdl_c hm (fun j hj => by rcases hj with e | e | e | e <;> subst e <;> rfl) (fun _ => rfl) (fun _ => rfl) (fun _ => rfl)
                  simp only [e_X10_way, min_eq, e0, m_isPlace ok hm', misGain_eq, misTime_eq, il_i, ob, bi_0]
                  have : ¬ eI (nW 1 σ (dN d) a0 a1 a2 a3 a4) 69 3 = 14 := by
                    rw [hm'.2.2.1, eq32, nIt (by omega)]
                    show ¬ (dN d : Int) = 14
                    omega
                  simp only [q0, q1, q2, q3, q4, q5, this, addWay_eq ok hm' q6, Bool.true_eq_false, if_false, ob]
                  have e3 : eI (mW (nW 1 σ (dN d) a0 a1 a2 a3 a4) (dN d) a0 a1 a2 a3 a4) 69 3 = nI (dN d + 1) := rfl
                  rw [e3, nI_pred]
                · obtain ⟨r1, r2, r3, r4, r5⟩ := frW (N := dN d) (N' := dN d) (a1 := a0) (a2 := a1) (a3 := a2) (a4 := a3) (a5 := a4) (b1 := a0) (b2 := a1) (b3 := a2) (b4 := a3) (b5 := a4) h2 h3 h4 h5 h6
                  refine ⟨⟨addW d (fW a0 a1 a2 a3 a4 0), ok_addW ok q6 ?_, ?_, ?_⟩, r1, r2, r3, r4, r5⟩
                  · rw [ir_iff] at q0 q1 q2 q4 q5
                    refine ⟨q0, ⟨q1.1, ?_⟩, ⟨q2.1, ?_⟩, q3, q4, q5, Or.inl rfl⟩
                    · show a1.toInt < _
                      omega
                    · show a2.toInt < _
                      omega
                  · refine cls_c (cls_nW hc a0 a1 a2 a3 a4) (fun k j k1 k2 => ?_)
                    simp only [mW, eI_uI]
                    rw [if_neg (by omega), if_neg (by omega), if_neg (by omega), if_neg (by omega), if_neg (by omega), if_neg (by omega), if_neg (by omega)]
                  · exact mdl_mW (mdl_c hm (fun j hj => by rcases hj with e | e | e | e <;> subst e <;> rfl) (fun _ => rfl) (fun _ => rfl) (fun _ => rfl)) a0 a1 a2 a3 a4
              · have e14 : dN d = 14 := by have := ok.2.2.1; omega
                refine ⟨-2000000001 - nI 1, fx 1 σ, gx 1 (fx 1 σ), ?_, ?_, Rel_find 1 hR⟩
                · have : ¬ eI σ 1 2 < 14 := by
                    rw [hc.2.2.1, e14]
                    decide
                  simp [q0, q1, q2, q3, q4, q5, this]
                · simp only [e_X10_way, min_eq, e0, m_isPlace ok (hmf 1), misGain_eq, misTime_eq, il_i, ob, bi_0, g1]
                  have : eI (fx 1 σ) 69 3 = 14 := by
                    rw [(hmf 1).2.2.1, e14]
                    decide
                  simp [q0, q1, q2, q3, q4, q5, this]
            · apply fail
              · simp [q0, q1, q2, q3, q4, q5]
              · simp only [e_X10_way, min_eq, e0, m_isPlace ok (hmf 0), misGain_eq, misTime_eq, il_i, ob, bi_0, g0]
                simp [q0, q1, q2, q3, q4, q5]
          · apply fail
            · simp [q0, q1, q2, q3, q4]
            · simp only [e_X10_way, min_eq, e0, m_isPlace ok (hmf 0), misGain_eq, misTime_eq, il_i, ob, bi_0, g0]
              simp [q0, q1, q2, q3, q4]
      · apply fail
        · simp [q0, q1, q2]
        · simp only [e_X10_way, min_eq, e0, m_isPlace ok (hmf 0), ob, bi_0, g0]
          simp [q0, q1, q2]
    · apply fail
      · simp [q0, q1]
      · simp only [e_X10_way, min_eq, e0, m_isPlace ok (hmf 0), ob, bi_0, g0]
        simp [q0, q1]
  · apply fail
    · simp [q0]
    · simp only [e_X10_way, min_eq, e0, m_isPlace ok (hmf 0), ob, bi_0, g0]
      simp [q0]
