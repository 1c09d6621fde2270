/-! ===== kind, season: both sides ===== -/
def Fam (D : Nat → CD) (k : Nat) : Rg := (bst (rn (D k))).getD (0, 0, 0)
theorem Fam_ok {d : CD} (ok : okD d) {D : Nat → CD} (h : ∀ k, k < 6 → okD (D k) ∧ (rn (D k)).length = (rn d).length) {b : Rg} (hb : bst (rn d) = some b) : ∀ k, k < 6 → okD (D k) ∧ bst (rn (D k)) = some (Fam D k) ∧ okR (Fam D k) := by
  intro k hk
  obtain ⟨h1, h2⟩ := h k hk
  obtain ⟨b', e1, e2⟩ := bst_some ok h1 h2 hb
  have : Fam D k = b' := by
    unfold Fam
    rw [e1]
    rfl
  rw [this]
  exact ⟨h1, e1, e2⟩
theorem kind_fam {d : CD} (ok : okD d) {w : Nat} (hw : w < dN d) : ∀ k, k < 6 → okD (setW d w 0 (nI k)) ∧ (rn (setW d w 0 (nI k))).length = (rn d).length := by
  intro k hk
  have o := ok.2.2.2.2.1 w hw
  refine ⟨ok_setW ok ⟨?_, o.2⟩, rn_leq rfl rfl (fun u hu => ?_)⟩
  · show 0 ≤ (nI k).toInt ∧ (nI k).toInt ≤ 5
    rw [nIt (by omega)]
    omega
  · have e : ∀ j, j ≠ 0 → dw (setW d w 0 (nI k)) u j = dw d u j := fun j hj => if_neg (fun x => hj x.2)
    unfold wf wt opw
    rw [e 1 (by decide), e 2 (by decide), e 5 (by decide)]
    exact ⟨rfl, rfl, rfl⟩
theorem season_fam {d : CD} (ok : okD d) : ∀ k, k < 6 → okD (setZ d k) ∧ (rn (setZ d k)).length = (rn d).length := by
  intro k hk
  exact ⟨ok_setZ ok (by omega), rn_leq rfl rfl (fun u hu => ⟨rfl, rfl, rfl⟩)⟩
theorem fgt (τ : ES) : e_X4_forget τ = some (uL τ 28 12 0) := rfl
theorem df_bec {σ : ES} : df σ (bec 19 1 σ) := ⟨fun a b q => bec_off (by omega), fun _ _ _ => rfl⟩
theorem sim_kind : Sim_kind Rel := by
  intro σ h a
  have hR := h
  obtain ⟨⟨d, ok, hc, hm⟩, h2, h3, h4, h5, h6⟩ := h
  have h14 := ok.2.2.1
  by_cases q0 : ir 0 ((dN d : Int) - 1) a = true
  · obtain ⟨w, hw, hw', rfl⟩ := nI_ir q0
    obtain ⟨x, σ1, y1, y2, y3, y4, y5⟩ := both ok hc hm
    have R1 : Rel σ1 := Rel_kp hR (kp_gf y2)
    have c1 : cls σ1 1 d := cls_gf (by decide) hc y2
    have m1 : mdl σ1 d := mdl_gf hm y2
    rcases y5 with ⟨x0, b0⟩ | ⟨j, b, x0, hj, gj, b0, okb, s1, s2⟩
    · obtain ⟨σ', n1, n2, n3⟩ := ringsNow_m ok (mdl_fx 3 m1)
      refine ⟨-2000000001 - nI 3, fx 3 σ1, gx 3 σ', ?_, ?_, Rel_kp (Rel_find 3 R1) (kp_gx (kp_mrf n2))⟩
      · simp only [e_X9_kind, c_isWay ok hc, q0, ob, bi_0, Bool.true_eq_false, if_false, y1]
        rw [if_pos x0, f3, ob]
      · simp only [e_X10_kind, m_isWay ok (mdl_fx 3 m1), q0, ob, bi_0, Bool.true_eq_false, if_false, n1]
        rw [b0]
        show (if Option.isSome none = false then _ else _) = _
        rw [if_pos (show Option.isSome (none : Option Rg) = false from rfl), g3, ob]
    · have hF := Fam_ok ok (kind_fam ok hw) b0
      have kc := kindC hw h14 hF mN 0 (uL (bec 19 1 σ1) 28 12 0) 0 (by omega) (mN_big (by omega)) ⟨dw d w 0, by rw [setW_self]; exact cls_c (cls_bec (t := 19) (f := 1) (σ := σ1) (by omega) ok c1) (fun _ _ _ _ => rfl)⟩ (Or.inl ⟨rfl, rfl, rfl⟩)
      obtain ⟨y, σ2, k1, k2, k3⟩ := kc
      have d2 : df σ1 σ2 := (df_bec.trans (df_uL (by omega))).trans k2
      have m2 : mdl σ2 d := mdl_df m1 d2
      have R2 : Rel σ2 := Rel_kp R1 (kp_df d2)
      obtain ⟨σ3, n1, n2, n3⟩ := ringsNow_m ok m2
      have m3 : mdl σ3 d := mdl_mrf m2 n2
      obtain ⟨y', A', B', σ4, l1, l2, ⟨v, l3⟩, l4⟩ := kindM hw h14 hF (dw d w 0) mN 0 σ3 (-1) 0 1 (by omega) (mN_big (by omega)) ⟨dw d w 0, by rw [setW_self]; exact m3⟩ (Or.inl ⟨rfl, rfl⟩)
      have m4 := mdl_setW l3 w 0 (dw d w 0) (by decide)
      rw [setW_ww, setW_self] at m4
      have ey : y' = y := by
        obtain ⟨c, hcs⟩ := ps_some (Fam fun k => setW d w 0 (nI k)) 5
        rcases k3 with ⟨p, _⟩ | ⟨i, b, p1, p2, p3, p4, _⟩
        · rw [hcs] at p
          cases p
        · rcases l4 with ⟨p, _⟩ | ⟨i', b', p1', p2', p3', p4', _⟩
          · rw [hcs] at p
            cases p
          · rw [p1] at p1'
            have := Option.some.inj p1'
            rw [p4, p4', (Prod.mk.inj this).1]
      refine ⟨y, σ2, _, ?_, ?_, Rel_rf R2 ok (cls_df (by decide) c1 d2) (((rf_mrf n2).trans l2).trans rf_71) m4⟩
      · simp only [e_X9_kind, c_isWay ok hc, q0, ob, bi_0, Bool.true_eq_false, if_false, y1]
        rw [x0, if_neg (nI_m1 (by omega)), bec_19_1, ob, fgt, ob]
        exact k1
      · simp only [e_X10_kind, m_isWay ok m2, q0, ob, bi_0, Bool.true_eq_false, if_false, n1]
        rw [b0]
        show (if Option.isSome (some b) = false then _ else _) = _
        rw [if_neg (show ¬ Option.isSome (some b) = false from fun x => Bool.noConfusion x), m_at ok m3 hw 0 (by decide) 0 rfl, ob, ← ey]
        exact l1
  · have q0 : ir 0 ((dN d : Int) - 1) a = false := by simpa using q0
    refine ⟨-2000000001 - nI 0, fx 0 σ, gx 0 (fx 0 σ), ?_, ?_, Rel_find 0 hR⟩
    · simp only [e_X9_kind, c_isWay ok hc, q0, ob, bi_0, f0, if_true]
    · simp only [e_X10_kind, m_isWay ok (mdl_fx 0 hm), q0, ob, bi_0, g0, if_true]
theorem sim_season : Sim_season Rel := by
  intro σ h
  have hR := h
  obtain ⟨⟨d, ok, hc, hm⟩, h2, h3, h4, h5, h6⟩ := h
  have h14 := ok.2.2.1
  obtain ⟨x, σ1, y1, y2, y3, y4, y5⟩ := both ok hc hm
  have R1 : Rel σ1 := Rel_kp hR (kp_gf y2)
  have c1 : cls σ1 1 d := cls_gf (by decide) hc y2
  have m1 : mdl σ1 d := mdl_gf hm y2
  rcases y5 with ⟨x0, b0⟩ | ⟨j, b, x0, hj, gj, b0, okb, s1, s2⟩
  · obtain ⟨σ', n1, n2, n3⟩ := ringsNow_m ok (mdl_fx 3 m1)
    refine ⟨-2000000001 - nI 3, fx 3 σ1, gx 3 σ', ?_, ?_, Rel_kp (Rel_find 3 R1) (kp_gx (kp_mrf n2))⟩
    · unfold e_X9_season
      rw [y1, ob, if_pos x0, f3, ob]
    · unfold e_X10_season
      rw [n1, ob, b0]
      show (if bi false = 0 then _ else _) = _
      rw [if_pos bi_f, g3, ob]
  · have hF := Fam_ok ok (season_fam ok) b0
    have kc := seasonC hF mN 0 (uL (bec 19 1 σ1) 28 12 0) 0 (by omega) (mN_big (by omega)) ⟨dW d, by rw [setZ_self]; exact cls_c (cls_bec (t := 19) (f := 1) (σ := σ1) (by omega) ok c1) (fun _ _ _ _ => rfl)⟩ (Or.inl ⟨rfl, rfl, rfl⟩)
    obtain ⟨y, σ2, k1, k2, k3⟩ := kc
    have d2 : df σ1 σ2 := (df_bec.trans (df_uL (by omega))).trans k2
    have m2 : mdl σ2 d := mdl_df m1 d2
    have R2 : Rel σ2 := Rel_kp R1 (kp_df d2)
    obtain ⟨σ3, n1, n2, n3⟩ := ringsNow_m ok m2
    have m3 : mdl σ3 d := mdl_mrf m2 n2
    obtain ⟨y', A', B', σ4, l1, l2, ⟨v, l3⟩, l4⟩ := seasonM hF (nI (dW d)) mN 0 σ3 (-1) 0 1 (by omega) (mN_big (by omega)) ⟨dW d, by rw [setZ_self]; exact m3⟩ (Or.inl ⟨rfl, rfl⟩)
    have m4 := mdl_setZ l3 (dW d)
    rw [setZ_zz, setZ_self] at m4
    have ey : y' = y := by
      obtain ⟨c, hcs⟩ := ps_some (Fam fun k => setZ d k) 5
      rcases k3 with ⟨p, _⟩ | ⟨i, b, p1, p2, p3, p4, _⟩
      · rw [hcs] at p
        cases p
      · rcases l4 with ⟨p, _⟩ | ⟨i', b', p1', p2', p3', p4', _⟩
        · rw [hcs] at p
          cases p
        · rw [p1] at p1'
          have := Option.some.inj p1'
          rw [p4, p4', (Prod.mk.inj this).1]
    refine ⟨y, σ2, _, ?_, ?_, Rel_rf R2 ok (cls_df (by decide) c1 d2) (((rf_mrf n2).trans l2).trans rf_2) m4⟩
    · unfold e_X9_season
      rw [y1, ob, x0, if_neg (nI_m1 (by omega)), bec_19_1, ob, fgt, ob]
      exact k1
    · unfold e_X10_season
      rw [n1, ob, b0]
      show (if bi true = 0 then _ else _) = _
      rw [if_neg (by decide), m3.2.1, ← ey]
      exact l1
