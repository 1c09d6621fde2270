/-! ===== as, thing, alter, its ===== -/
def und (k v : Int32) : Bool := v == 0 || v == k || (v == 1 && k == 3) || (v == 2 && k == 4)
theorem und_eq (σ : ES) {k v : Int32} (k1 : 0 ≤ k.toInt) (k2 : k.toInt ≤ 5) (v1 : 0 ≤ v.toInt) (v2 : v.toInt ≤ 5) : e_X9_isUnder σ k v = some (bi (und k v)) := by
  have e : mN = 340282366920938463463374607431768211448 + 8 := rfl
  unfold e_X9_isUnder
  rw [e]
  generalize 340282366920938463463374607431768211448 = m
  rcases k6 k1 k2 with e | e | e | e | e | e <;> subst e <;> rcases k6 v1 v2 with e | e | e | e | e | e <;> subst e <;> rfl
theorem und_if {α : Type} (A B : α) (k v : Int32) : (if v = 0 then A else if v = k then A else if v = 1 then (if k = 3 then A else if v = 2 then (if k = 4 then A else B) else B) else if v = 2 then (if k = 4 then A else B) else B) = if und k v = false then B else A := by
  unfold und
  by_cases c0 : v = 0
  · simp [c0]
  · by_cases c1 : v = k
    · simp [c1]
    · by_cases c2 : v = 1
      · by_cases c3 : k = 3
        · simp [c2, c3]
        · subst c2
          simp [c1, c3]
      · by_cases c4 : v = 2
        · by_cases c5 : k = 4
          · simp [c4, c5]
          · subst c4
            simp [c1, c5]
        · simp [c0, c1, c2, c4]
theorem sim_as : Sim_as Rel := by
  intro σ h a0 v
  have hR := h
  obtain ⟨⟨d, ok, hc, hm⟩, h2, h3, h4, h5, h6⟩ := h
  have hmf : ∀ k, mdl (fx k σ) d := fun k => (RK_u (v := eI σ 60 k + 1) ⟨ok, hc, hm⟩ rfl).2.2
  have e5 : ir (0 : Int64).toInt (5 : Int64).toInt v = ir 0 5 v := rfl
  have fail : ∀ k, e_X9_as a0 v σ = some (-2000000001 - nI k, fx k σ) → e_X10_as a0 v (fx k σ) = some (-2000000001 - nI k, gx k (fx k σ)) → ∃ (r : Int32) (σ1 : ES) (σ2 : ES), e_X9_as a0 v σ = some (r, σ1) ∧ e_X10_as a0 v σ1 = some (r, σ2) ∧ Rel σ2 := fun k q1 q2 => ⟨_, _, _, q1, q2, Rel_find k hR⟩
  by_cases q0 : ir 0 ((dN d : Int) - 1) a0 = true
  · obtain ⟨w, hw, hw', rfl⟩ := nI_ir q0
    have h14 := ok.2.2.1
    have hmi : mib (nI w) 14 = true := mib_nI (by omega) (by decide)
    obtain ⟨o0, o1, o2, o3, o4, o5, o6⟩ := ok.2.2.2.2.1 w hw
    have e2 : eI σ 2 w = dw d w 0 := c_at hc hw 0 (by decide)
    have e5' : eI σ 5 w = dw d w 3 := c_at hc hw 3 (by decide)
    by_cases q1 : ir 0 5 v = true
    · obtain ⟨p1, p2⟩ := ir_iff.mp q1
      have C : e_X9_as (nI w) v σ = if und (dw d w 0) v = false then some (-2000000001 - nI 2, fx 2 σ) else some (dw d w 3, σ) := by
        simp only [e_X9_as, c_isWay ok hc, q0, ob, bi_0, Bool.true_eq_false, if_false, isKind_eq, q1, hmi, if_true, nIc hw', e2, e5', und_eq σ o0.1 o0.2 p1 p2, f2]
      have M : ∀ τ, mdl τ d → e_X10_as (nI w) v τ = if und (dw d w 0) v = false then some (-2000000001 - nI 2, gx 2 τ) else some (dw d w 3, τ) := by
        intro τ hτ
        have J1 : e_X10_as_J62 (nI w) v τ = some (dw d w 3, τ) := by
          show (e_X10_at τ (nI w) 3).bind _ = _
          simp only [m_at ok hτ hw 3 (by decide) 3 rfl, ob]
        have J0 : e_X10_as_J66 (nI w) v τ = some (-2000000001 - nI 2, gx 2 τ) := by
          show (e_X10_finds 2 τ).bind _ = _
          simp only [g2, ob]
        simp only [e_X10_as, m_isWay ok hτ, q0, ob, bi_0, Bool.true_eq_false, if_false, min_eq, e5, q1, m_at ok hτ hw 0 (by decide) 0 rfl, e_X10_as_J52, J1, J0]
        generalize (some (dw d w 3, τ) : Option (Int32 × ES)) = A
        generalize (some (-2000000001 - nI 2, gx 2 τ) : Option (Int32 × ES)) = B
        exact und_if A B (dw d w 0) v
      by_cases hu : und (dw d w 0) v = false
      · exact fail 2 (C.trans (if_pos hu)) ((M _ (hmf 2)).trans (if_pos hu))
      · exact ⟨dw d w 3, σ, σ, C.trans (if_neg hu), (M _ hm).trans (if_neg hu), hR⟩
    · apply fail 0
      · simp only [e_X9_as, c_isWay ok hc, q0, ob, bi_0, Bool.true_eq_false, if_false, isKind_eq, f0]
        simp [q1]
      · simp only [e_X10_as, m_isWay ok (hmf 0), q0, ob, bi_0, Bool.true_eq_false, if_false, min_eq, e5, g0]
        simp [q1]
  · apply fail 0
    · simp only [e_X9_as, c_isWay ok hc, ob, bi_0, f0]
      simp [q0]
    · simp only [e_X10_as, m_isWay ok (hmf 0), ob, bi_0, g0]
      simp [q0]
def fT (a b : Int32) (j : Nat) : Int32 := if j = 0 then a else b
def nT (o : Nat) (σ : ES) (T : Nat) (a b : Int32) : ES := uI (uI (uI σ o 9 (nI (T + 1))) (o + 7) (T + 1) a) (o + 8) (T + 1) b
def mT (σ : ES) (T : Nat) (a b : Int32) : ES := uI (uI (uI σ 72 (2 * T) a) 72 (2 * T + 1) b) 69 5 (nI (T + 1))
theorem cls_nT {σ : ES} {o : Nat} {d : CD} (h : cls σ o d) (a b : Int32) : cls (nT o σ (dT d) a b) o (addT d (fT a b)) := by
  obtain ⟨h1, h2, h3, h4, h5, h6⟩ := h
  have off : ∀ j, j ≠ 9 → eI (nT o σ (dT d) a b) o j = eI σ o j := by
    intro j hj
    simp only [nT, eI_uI]
    simp [hj]
  refine ⟨(off 0 (by decide)).trans h1, (off 1 (by decide)).trans h2, (off 2 (by decide)).trans h3, ?_, fun w hw j hj => ?_, fun t ht => ?_⟩
  · simp [nT, eI_uI, addT, dT]
  · simp only [nT, eI_uI]
    rw [if_neg (by omega), if_neg (by omega), if_neg (by omega)]
    exact h5 w hw j hj
  · have ht : t ≤ dT d + 1 := ht
    by_cases e : t = dT d + 1
    · subst e
      refine j2 ?_ ?_ <;> simp [nT, eI_uI, addT, dt, fT, Nat.add_assoc]
    · have h6t := h6 t (by omega)
      refine j2 ?_ ?_ <;> simp only [nT, eI_uI, addT, dt] <;> simp [e, Nat.add_assoc]
      · exact h6t 0 (by decide)
      · exact h6t 1 (by decide)
theorem mdl_mT {σ : ES} {d : CD} (h : mdl σ d) (a b : Int32) : mdl (mT σ (dT d) a b) (addT d (fT a b)) := by
  obtain ⟨h1, h2, h3, h4, h5, h6, h7⟩ := h
  refine ⟨h1, h2, h3, rfl, h5, fun j hj => ?_, fun t ht => ?_⟩
  · show eI σ 73 j = if 0 = dT d + 1 then fT a b j else dt d 0 j
    rw [if_neg (by omega)]
    exact h6 j hj
  · have ht : t < dT d + 1 := ht
    by_cases e : t = dT d
    · subst e
      refine j2 ?_ ?_ <;> simp [mT, eI_uI, addT, dt, fT]
    · intro j hj
      show _ = if t + 1 = dT d + 1 then _ else _
      rw [if_neg (by omega)]
      simp only [mT, eI_uI]
      rw [if_neg (by omega), if_neg (by omega), if_neg (by omega)]
      exact h7 t (by omega) j hj
theorem newThing_eq {σ : ES} {d : CD} (ok : okD d) (h : cls σ 1 d) (hT : dT d < 12) (a b : Int32) : e_X1_newThing_1 a b σ = some (nI (dT d), nT 1 σ (dT d) a b) := by
  unfold e_X1_newThing_1
  have e1 : ∀ v, eI (uI σ 1 9 v) 1 9 = v := fun _ => rfl
  have e2 : ∀ v i x, eI (uI (uI σ 1 9 v) 8 i x) 1 9 = v := fun _ _ _ => rfl
  have e3 : ∀ v i x i' y, eI (uI (uI (uI σ 1 9 v) 8 i x) 9 i' y) 1 9 = v := fun _ _ _ _ _ => rfl
  rw [e1, e2, e3, h.2.2.2.1, nI_1, if_pos (mib_nI (by omega) (by decide)), if_pos (mib_nI (by omega) (by decide)), nIc (by omega), nI_pred]
  rfl
theorem newThing19_eq {σ : ES} {d : CD} (ok : okD d) (h : cls σ 19 d) (hT : dT d < 12) (a b : Int32) : e_X1_newThing_19 a b σ = some (nI (dT d), nT 19 σ (dT d) a b) := by
  unfold e_X1_newThing_19
  have e1 : ∀ v, eI (uI σ 19 9 v) 19 9 = v := fun _ => rfl
  have e2 : ∀ v i x, eI (uI (uI σ 19 9 v) 26 i x) 19 9 = v := fun _ _ _ => rfl
  have e3 : ∀ v i x i' y, eI (uI (uI (uI σ 19 9 v) 26 i x) 27 i' y) 19 9 = v := fun _ _ _ _ _ => rfl
  rw [e1, e2, e3, h.2.2.2.1, nI_1, if_pos (mib_nI (by omega) (by decide)), if_pos (mib_nI (by omega) (by decide)), nIc (by omega), nI_pred]
  rfl
theorem two_nI (t j : Nat) : (2 : Int32) * nI t + nI j = nI (2 * t + j) := by
  have : (2 : Int32) = nI 2 := rfl
  rw [this, pk_mul, nI_add]
theorem two_nI0 (t : Nat) : (2 : Int32) * nI t = nI (2 * t) := by
  have : (2 : Int32) = nI 2 := rfl
  rw [this, pk_mul]
theorem sim_thing : Sim_thing Rel := by
  intro σ h a b
  have hR := h
  obtain ⟨⟨d, ok, hc, hm⟩, h2, h3, h4, h5, h6⟩ := h
  have hmf : ∀ k, mdl (fx k σ) d := fun k => (RK_u (v := eI σ 60 k + 1) ⟨ok, hc, hm⟩ rfl).2.2
  have h12 := ok.2.2.2.1
  have fail : ∀ k, e_X9_thing a b σ = some (-2000000001 - nI k, fx k σ) → e_X10_thing a b (fx k σ) = some (-2000000001 - nI k, gx k (fx k σ)) → ∃ (r : Int32) (σ1 : ES) (σ2 : ES), e_X9_thing a b σ = some (r, σ1) ∧ e_X10_thing a b σ1 = some (r, σ2) ∧ Rel σ2 := fun k q1 q2 => ⟨_, _, _, q1, q2, Rel_find k hR⟩
  by_cases q0 : ir (-999999999) 999999999 a = true
  · by_cases q1 : ir 1 999999 b = true
    · by_cases q2 : dT d < 12
      · have hm' : mdl (nT 1 σ (dT d) a b) d := mdl_c hm (fun j hj => by rcases hj with e | e | e | e <;> subst e <;> rfl) (fun _ => rfl) (fun _ => rfl) (fun _ => rfl)
        refine ⟨nI (dT d), nT 1 σ (dT d) a b, mT (nT 1 σ (dT d) a b) (dT d) a b, ?_, ?_, ?_⟩
        · have : eI σ 1 9 < 12 := by
            rw [hc.2.2.2.1, lt32, nIt (by omega)]
            show (dT d : Int) < 12
            omega
          simp only [e_X9_thing, isGain_eq, isTime_eq, q0, q1, ob, bi_0, Bool.true_eq_false, if_false, this, if_true, newThing_eq ok hc q2]
        · have : ¬ eI (nT 1 σ (dT d) a b) 69 5 = 12 := by
            rw [hm'.2.2.2.1, eq32, nIt (by omega)]
            show ¬ (dT d : Int) = 12
            omega
          have s1 : nI (2 * dT d) + 1 = nI (2 * dT d + 1) := nI_add _ 1
          have u1 : ∀ (τ : ES) i x, eI (uI τ 72 i x) 69 5 = eI τ 69 5 := fun _ _ _ => rfl
          have u2 : ∀ (τ : ES) x, eI (uI τ 69 5 x) 69 5 = x := fun _ _ => rfl
          simp only [e_X10_thing, misGain_eq, misTime_eq, il_i, q0, q1, ob, bi_0, Bool.true_eq_false, if_false, this, u1, u2]
          rw [hm'.2.2.2.1, two_nI0, s1, if_pos (mib_nI (by omega) (by decide)), if_pos (mib_nI (by omega) (by decide)), nI_1, nI_pred, nIc (by omega), nIc (by omega)]
          rfl
        · refine ⟨⟨addT d (fT a b), ok_addT ok q2 ?_, ?_, mdl_mT hm' a b⟩, RI_u (RI_u (RI_u (RI_u (RI_u (RI_u h2 rfl) rfl) rfl) rfl) rfl) rfl, RTp_u (RTp_u (RTp_u (RTp_u (RTp_u (RTp_u h3 rfl) rfl) rfl) rfl) rfl) rfl, RSh_u (RSh_u (RSh_u (RSh_u (RSh_u (RSh_u h4 rfl) rfl) rfl) rfl) rfl) rfl, RF_u (RF_u (RF_u (RF_u (RF_u (RF_u h5 rfl) rfl) rfl) rfl) rfl) rfl, RWd_u (RWd_u (RWd_u (RWd_u (RWd_u (RWd_u h6 rfl) rfl) rfl) rfl) rfl) rfl⟩
          · rw [ir_iff] at q0 q1
            exact ⟨q0, q1⟩
          · refine cls_c (cls_nT hc a b) (fun k j k1 k2 => ?_)
            simp only [mT, eI_uI]
            rw [if_neg (by omega), if_neg (by omega), if_neg (by omega)]
      · have e12 : dT d = 12 := by omega
        apply fail 1
        · have : ¬ eI σ 1 9 < 12 := by
            rw [hc.2.2.2.1, e12]
            decide
          simp only [e_X9_thing, isGain_eq, isTime_eq, q0, q1, ob, bi_0, Bool.true_eq_false, if_false, this, f1]
        · have : eI (fx 1 σ) 69 5 = 12 := by
            rw [(hmf 1).2.2.2.1, e12]
            decide
          simp only [e_X10_thing, misGain_eq, misTime_eq, il_i, q0, q1, ob, bi_0, Bool.true_eq_false, if_false, this, if_true, g1]
    · apply fail 0
      · simp only [e_X9_thing, isGain_eq, isTime_eq, q0, ob, bi_0, f0]
        simp [q1]
      · simp only [e_X10_thing, misGain_eq, misTime_eq, il_i, q0, ob, bi_0, g0]
        simp [q1]
  · apply fail 0
    · simp only [e_X9_thing, isGain_eq, ob, bi_0, f0]
      simp [q0]
    · simp only [e_X10_thing, misGain_eq, il_i, ob, bi_0, g0]
      simp [q0]
section Al
variable {σ : ES} {d : CD}
theorem cls_setT (h : cls σ 1 d) (t j : Nat) (v : Int32) (hj : j < 2) : cls (uI σ (8 + j) t v) 1 (setT d t j v) := by
  obtain ⟨h1, h2, h3, h4, h5, h6⟩ := h
  have off : ∀ i, eI (uI σ (8 + j) t v) 1 i = eI σ 1 i := fun i => by rw [eI_uI, if_neg (by omega)]
  refine ⟨(off 0).trans h1, (off 1).trans h2, (off 2).trans h3, (off 9).trans h4, fun a ha b hb => ?_, fun a ha b hb => ?_⟩
  · rw [eI_uI, if_neg (by omega)]
    exact h5 a ha b hb
  · have ha : a ≤ dT d := ha
    show _ = if a = t ∧ b = j then v else dt d a b
    rw [eI_uI]
    by_cases e : a = t ∧ b = j
    · rw [if_pos e, if_pos (by omega)]
    · rw [if_neg e, if_neg (by omega)]
      exact h6 a ha b hb
def mSetT (σ : ES) (t j : Nat) (v : Int32) : ES := if t = 0 then uI σ 73 j v else uI σ 72 (2 * (t - 1) + j) v
theorem mdl_setT (h : mdl σ d) (t j : Nat) (v : Int32) (hj : j < 2) : mdl (mSetT σ t j v) (setT d t j v) := by
  obtain ⟨h1, h2, h3, h4, h5, h6, h7⟩ := h
  unfold mSetT
  by_cases e0 : t = 0
  · subst e0
    rw [if_pos rfl]
    refine ⟨h1, h2, h3, h4, h5, fun b hb => ?_, fun a ha b hb => ?_⟩
    · show _ = if 0 = 0 ∧ b = j then v else dt d 0 b
      rw [eI_uI]
      by_cases e : b = j
      · rw [if_pos (by omega), if_pos (by omega)]
      · rw [if_neg (by omega), if_neg (by omega)]
        exact h6 b hb
    · show _ = if a + 1 = 0 ∧ b = j then v else dt d (a + 1) b
      rw [if_neg (by omega)]
      exact h7 a ha b hb
  · rw [if_neg e0]
    refine ⟨h1, h2, h3, h4, h5, fun b hb => ?_, fun a ha b hb => ?_⟩
    · show _ = if 0 = t ∧ b = j then v else dt d 0 b
      rw [if_neg (by omega)]
      exact h6 b hb
    · show _ = if a + 1 = t ∧ b = j then v else dt d (a + 1) b
      rw [eI_uI]
      by_cases e : a + 1 = t ∧ b = j
      · rw [if_pos (by omega), if_pos e]
      · rw [if_neg (by omega), if_neg e]
        exact h7 a ha b hb
theorem ok_setT {t j : Nat} {v : Int32} (ok : okD d) (hf : okT (fun a => if a = j then v else dt d t a)) : okD (setT d t j v) := by
  refine ⟨ok.1, ok.2.1, ok.2.2.1, ok.2.2.2.1, ok.2.2.2.2.1, fun a ha => ?_⟩
  have ha : a ≤ dT d := ha
  show okT (fun b => if a = t ∧ b = j then v else dt d a b)
  by_cases e : a = t
  · subst e
    simpa using hf
  · simp only [e, false_and, if_false]
    exact ok.2.2.2.2.2 a ha
end Al
theorem thing_ix {T : Nat} {a : Int32} (hT : T ≤ 12) (h : ir (-1) ((T : Int) - 1) a = true) : ∃ t : Nat, t ≤ T ∧ a + 1 = nI t ∧ (t = 0 ∧ a = -1 ∨ ∃ s, t = s + 1 ∧ a = nI s) := by
  obtain ⟨h1, h2⟩ := ir_iff.mp h
  have one : (1 : Int32).toInt = 1 := rfl
  have e : (a + 1).toInt = a.toInt + 1 := by rw [add32] <;> rw [one] <;> omega
  by_cases c : a.toInt = -1
  · have : a = -1 := by
      rw [eq32, c]
      rfl
    exact ⟨0, by omega, by rw [this]; rfl, Or.inl ⟨rfl, this⟩⟩
  · obtain ⟨s, es, hs, rfl⟩ := nI_ex (show 0 ≤ a.toInt by omega)
    exact ⟨s + 1, by omega, nI_1 s, Or.inr ⟨s, rfl, rfl⟩⟩
theorem sim_its : Sim_its Rel := by
  intro σ h a v
  have hR := h
  obtain ⟨⟨d, ok, hc, hm⟩, h2, h3, h4, h5, h6⟩ := h
  have hmf : ∀ k, mdl (fx k σ) d := fun k => (RK_u (v := eI σ 60 k + 1) ⟨ok, hc, hm⟩ rfl).2.2
  have h12 := ok.2.2.2.1
  have fail : ∀ k, e_X9_its a v σ = some (-2000000001 - nI k, fx k σ) → e_X10_its a v (fx k σ) = some (-2000000001 - nI k, gx k (fx k σ)) → ∃ (r : Int32) (σ1 : ES) (σ2 : ES), e_X9_its a v σ = some (r, σ1) ∧ e_X10_its a v σ1 = some (r, σ2) ∧ Rel σ2 := fun k q1 q2 => ⟨_, _, _, q1, q2, Rel_find k hR⟩
  have e1 : ir (0 : Int32).toInt (1 : Int32).toInt v = ir 0 1 v := rfl
  have e2 : ir (0 : Int64).toInt (1 : Int64).toInt v = ir 0 1 v := rfl
  by_cases q0 : ir (-1) ((dT d : Int) - 1) a = true
  · by_cases q1 : ir 0 1 v = true
    · obtain ⟨t, ht, et, hs⟩ := thing_ix h12 q0
      obtain ⟨p1, p2⟩ := ir_iff.mp q1
      obtain ⟨j, ej, hj, rfl⟩ := nI_ex p1
      have ej : j < 2 := by omega
      refine ⟨dt d t j, σ, σ, ?_, ?_, hR⟩
      · simp only [e_X9_its, c_isThing ok hc, q0, ob, bi_0, Bool.true_eq_false, if_false, within_eq, e1, q1, et, mib_nI (show t < 13 by omega) (by decide), if_true, nIc (show t < 2147483648 by omega)]
        have c8 : eI σ 8 t = dt d t 0 := hc.2.2.2.2.2 t ht 0 (by decide)
        have c9 : eI σ 9 t = dt d t 1 := hc.2.2.2.2.2 t ht 1 (by decide)
        rw [c8, c9]
        have : j = 0 ∨ j = 1 := by omega
        rcases this with e | e <;> subst e <;> rfl
      · simp only [e_X10_its, m_isThing ok hm, q0, ob, bi_0, Bool.true_eq_false, if_false, min_eq, e2, q1]
        rcases hs with ⟨rfl, rfl⟩ | ⟨s, rfl, rfl⟩
        · rw [if_neg (by decide), if_pos (mib_nI ej (by decide)), nIc (by omega), hm.2.2.2.2.2.1 j ej]
        · have : (0 : Int32) ≤ nI s := by
            rw [le32, nIt (by omega)]
            show (0 : Int) ≤ s
            omega
          rw [if_pos this, two_nI, if_pos (mib_nI (by omega) (by decide)), nIc (by omega), hm.2.2.2.2.2.2 s (by omega) j ej]
    · apply fail 0
      · simp only [e_X9_its, c_isThing ok hc, q0, ob, bi_0, Bool.true_eq_false, if_false, within_eq, e1, f0]
        simp [q1]
      · simp only [e_X10_its, m_isThing ok (hmf 0), q0, ob, bi_0, Bool.true_eq_false, if_false, min_eq, e2, g0]
        simp [q1]
  · apply fail 0
    · simp only [e_X9_its, c_isThing ok hc, ob, bi_0, f0]
      simp [q0]
    · simp only [e_X10_its, m_isThing ok (hmf 0), ob, bi_0, g0]
      simp [q0]
theorem alt {σ : ES} {d : CD} (hR : Rel σ) (hk : RK σ d) {a : Int32} (v : Int32) {t : Nat} (ht : t ≤ dT d) (et : a + 1 = nI t) (hs : t = 0 ∧ a = -1 ∨ ∃ s, t = s + 1 ∧ a = nI s) (j : Nat) (hj : j < 2) (hok : okT (fun a => if a = j then v else dt d t a)) (hC : e_X9_alter a (nI j) v σ = some (eI σ (8 + j) t, uI σ (8 + j) t v)) (hM : ∀ τ, mdl τ d → e_X10_alter a (nI j) v τ = e_X10_alter_J46 a (nI j) v τ) : ∃ (r : Int32) (σ1 : ES) (σ2 : ES), e_X9_alter a (nI j) v σ = some (r, σ1) ∧ e_X10_alter a (nI j) v σ1 = some (r, σ2) ∧ Rel σ2 := by
  obtain ⟨⟨d', _⟩, h2, h3, h4, h5, h6⟩ := id hR
  obtain ⟨ok, hc, hm⟩ := hk
  have h12 := ok.2.2.2.1
  have hm' : mdl (uI σ (8 + j) t v) d := mdl_c hm (fun i hi => by rw [eI_uI, if_neg (by omega)]) (fun i => by rw [eI_uI, if_neg (by omega)]) (fun i => by rw [eI_uI, if_neg (by omega)]) (fun i => by rw [eI_uI, if_neg (by omega)])
  have c8 : eI σ (8 + j) t = dt d t j := by
    have := hc.2.2.2.2.2 t ht j hj
    rw [show 1 + 7 + j = 8 + j by omega] at this
    exact this
  refine ⟨dt d t j, uI σ (8 + j) t v, mSetT (uI σ (8 + j) t v) t j v, by rw [hC, c8], ?_, ?_⟩
  · rw [hM _ hm']
    unfold e_X10_alter_J46 e_X10_alter_J69 mSetT
    rcases hs with ⟨rfl, rfl⟩ | ⟨s, rfl, rfl⟩
    · rw [if_neg (by decide), if_pos (mib_nI hj (by decide)), if_neg (by decide), if_pos (mib_nI hj (by decide)), nIc (by omega), if_pos rfl, hm'.2.2.2.2.2.1 j hj]
    · have : (0 : Int32) ≤ nI s := by
        rw [le32, nIt (by omega)]
        show (0 : Int) ≤ s
        omega
      rw [if_pos this, two_nI, if_pos (mib_nI (by omega) (by decide)), if_pos this, if_pos (mib_nI (by omega) (by decide)), nIc (by omega), if_neg (by omega), hm'.2.2.2.2.2.2 s (by omega) j hj]
      rfl
  · have key : ∃ k i, mSetT (uI σ (8 + j) t v) t j v = uI (uI σ (8 + j) t v) k i v ∧ (k = 72 ∨ k = 73) := by
      unfold mSetT
      by_cases e : t = 0
      · rw [if_pos e]
        exact ⟨_, _, rfl, Or.inr rfl⟩
      · rw [if_neg e]
        exact ⟨_, _, rfl, Or.inl rfl⟩
    have hmm := mdl_setT hm' t j v hj
    obtain ⟨k, i, e, hki⟩ := key
    rw [e] at hmm ⊢
    have : j = 0 ∨ j = 1 := by omega
    refine ⟨⟨setT d t j v, ok_setT ok hok, ?_, hmm⟩, RI_u (RI_u h2 ?_) ?_, RTp_u (RTp_u h3 ?_) ?_, RSh_u (RSh_u h4 ?_) ?_, RF_u (RF_u h5 ?_) ?_, RWd_u (RWd_u h6 ?_) ?_⟩
    · refine cls_c (cls_setT hc t j v hj) (fun k' i k1 k2 => ?_)
      rw [eI_uI, if_neg (by omega)]
    all_goals
      rcases this with e | e <;> subst e <;> rcases hki with e | e <;> subst e <;> rfl
theorem sim_alter : Sim_alter Rel := by
  intro σ h a b v
  have hR := h
  obtain ⟨⟨d, ok, hc, hm⟩, h2, h3, h4, h5, h6⟩ := h
  have hmf : ∀ k, mdl (fx k σ) d := fun k => (RK_u (v := eI σ 60 k + 1) ⟨ok, hc, hm⟩ rfl).2.2
  have h12 := ok.2.2.2.1
  have fail : ∀ k, e_X9_alter a b v σ = some (-2000000001 - nI k, fx k σ) → e_X10_alter a b v (fx k σ) = some (-2000000001 - nI k, gx k (fx k σ)) → ∃ (r : Int32) (σ1 : ES) (σ2 : ES), e_X9_alter a b v σ = some (r, σ1) ∧ e_X10_alter a b v σ1 = some (r, σ2) ∧ Rel σ2 := fun k q1 q2 => ⟨_, _, _, q1, q2, Rel_find k hR⟩
  have e2 : ir (0 : Int64).toInt (1 : Int64).toInt b = ir 0 1 b := rfl
  by_cases q0 : ir (-1) ((dT d : Int) - 1) a = true
  · by_cases q1 : ir 0 1 b = true
    · obtain ⟨t, ht, et, hs⟩ := thing_ix h12 q0
      have hmi : mib (nI t) 13 = true := mib_nI (by omega) (by decide)
      have hnc : (nI t).toNatClampNeg = t := nIc (by omega)
      obtain ⟨p1, p2⟩ := ir_iff.mp q1
      obtain ⟨j, ej, hj, rfl⟩ := nI_ex p1
      have oT := ok.2.2.2.2.2 t ht
      have : j = 0 ∨ j = 1 := by omega
      rcases this with e | e <;> subst e
      · by_cases q2 : ir (-999999999) 999999999 v = true
        · refine alt hR ⟨ok, hc, hm⟩ v ht et hs 0 (by decide) ⟨ir_iff.mp q2, oT.2⟩ ?_ (fun τ hτ => ?_)
          · simp only [e_X9_alter, c_isThing ok hc, q0, ob, bi_0, Bool.true_eq_false, if_false, nI_lit0, if_true, isGain_eq, q2, et, e_X9_put_8, hmi, hnc]
          · simp only [e_X10_alter, m_isThing ok hτ, q0, ob, bi_0, Bool.true_eq_false, if_false, nI_lit0, if_true, misGain_eq, il_i, q2, min_eq]
            rfl
        · apply fail 0
          · simp only [e_X9_alter, c_isThing ok hc, q0, ob, bi_0, Bool.true_eq_false, if_false, nI_lit0, if_true, isGain_eq, q2]
            simp only [e_X9_alter_J43, f0, ob]
            simp [q2]
            rfl
          · simp only [e_X10_alter, m_isThing ok (hmf 0), q0, ob, bi_0, Bool.true_eq_false, if_false, nI_lit0, if_true, misGain_eq, il_i, min_eq, g0]
            simp [q2]
      · by_cases q2 : ir 1 999999 v = true
        · refine alt hR ⟨ok, hc, hm⟩ v ht et hs 1 (by decide) ⟨oT.1, ir_iff.mp q2⟩ ?_ (fun τ hτ => ?_)
          · have : e_X9_alter_J43 a (nI 1) v σ = some (eI σ 9 t, uI σ 9 t v) := by
              show (e_X9_isTime v).bind _ = _
              simp only [isTime_eq, q2, ob, bi_0, Bool.true_eq_false, if_false, et, e_X9_put_9, hmi, hnc, if_true]
            simp only [e_X9_alter, c_isThing ok hc, q0, ob, bi_0, Bool.true_eq_false, if_false, this]
            rfl
          · simp only [e_X10_alter, m_isThing ok hτ, q0, ob, bi_0, Bool.true_eq_false, if_false, misTime_eq, q2, min_eq]
            rfl
        · have q2 : ir 1 999999 v = false := by simpa using q2
          apply fail 0
          · have : e_X9_alter_J43 a (nI 1) v σ = some (-2000000001 - nI 0, fx 0 σ) := by
              show (e_X9_isTime v).bind _ = _
              simp only [isTime_eq, q2, ob, bi_0, if_true, f0]
            simp only [e_X9_alter, c_isThing ok hc, q0, ob, bi_0, Bool.true_eq_false, if_false, this]
            rfl
          · simp only [e_X10_alter, m_isThing ok (hmf 0), q0, ob, bi_0, Bool.true_eq_false, if_false, misTime_eq, q2, if_true, min_eq, g0]
            rfl
    · have n1 : ¬ b = 0 := ir_ne q1 rfl
      have n2 : ¬ b = 1 := ir_ne q1 rfl
      apply fail 0
      · simp only [e_X9_alter, c_isThing ok hc, q0, ob, bi_0, Bool.true_eq_false, if_false, n1, n2, e_X9_alter_J43, f0]
      · simp only [e_X10_alter, m_isThing ok (hmf 0), q0, ob, bi_0, Bool.true_eq_false, if_false, min_eq, e2, g0]
        simp [q1]
  · apply fail 0
    · simp only [e_X9_alter, c_isThing ok hc, ob, bi_0, f0]
      simp [q0]
    · simp only [e_X10_alter, m_isThing ok (hmf 0), ob, bi_0, g0]
      simp [q0]
