/-! ===== walk: both sides ===== -/
theorem wk_nz {d : CD} {s e : Nat} : ∀ S, S < 2 ^ dN d → isWk d s e S = true → S ≠ 0 := by
  intro S _ h
  unfold isWk at h
  rw [Bool.and_eq_true, decide_eq_true_iff] at h
  exact h.1
theorem walk_c {d : CD} (ok : okD d) {σ : ES} (hc : cls σ 1 d) (hB : RB σ) {s e : Nat} (hs : s < e) (he : e < 6) : ∃ σ', hfr σ σ' ∧ ((noC (cWy d (isWk d s e)) ∧ e_X8_climbs_1 (nI s) (nI e) σ = some (0, σ')) ∨ ∃ S r, ends (cWy d (isWk d s e)) S r ∧ e_X8_climbs_1 (nI s) (nI e) σ = some (1, σ') ∧ eI σ' 45 0 = nI r.2.2 ∧ eI σ' 45 1 = nI r.2.1 ∧ eL σ' 45 2 = cX (cWy d (isWk d s e)) r.1 ∧ eL σ' 45 3 = cY (cWy d (isWk d s e)) r.1) := by
  have h14 := ok.2.2.1
  have okc := cWy_ok ok (f := isWk d s e) wk_nz
  obtain ⟨σ1, hσ1⟩ : ∃ σ1, σ1 = uI (uI (uT σ 1 (some 1)) 45 13 (nI s)) 45 14 (nI e) := ⟨_, rfl⟩
  have I1 : ∀ a b, ¬ (a = 45 ∧ (b = 13 ∨ b = 14)) → eI σ1 a b = eI σ a b := by
    intro a b q
    rw [hσ1, eI_uI, if_neg (by omega), eI_uI, if_neg (by omega), eI_uT]
  have L1 : ∀ a b, eL σ1 a b = eL σ a b := by
    intro a b
    rw [hσ1]
    rfl
  have c1 : cls σ1 1 d := cls_c hc (fun p q h1 h2 => I1 p q (by omega))
  obtain ⟨σ2, t1, t2, t3, t4, t5, t6⟩ := take45 ok c1
  have z5 : eL σ2 45 5 = 0 := by
    rw [t3 45 5 (by omega) (by omega), L1]
    exact hB 45 5 rfl
  have z6 : eL σ2 45 6 = 0 := by
    rw [t3 45 6 (by omega) (by omega), L1]
    exact hB 45 6 rfl
  have cm : CM45 σ2 (cWy d (isWk d s e)) := by
    refine ⟨t5, fun i hi => ?_, ?_, ?_⟩
    · obtain ⟨a, b⟩ := t6 i hi
      rw [a, b]
      exact ⟨rfl, rfl⟩
    · rw [z5]
      rfl
    · rw [z6]
      rfl
  have a13 : eI σ2 45 13 = nI s := by
    rw [t2 45 13 (by omega), hσ1]
    rfl
  have a14 : eI σ2 45 14 = nI e := by
    rw [t2 45 14 (by omega), hσ1]
    rfl
  have aT : eT σ2 1 = some 1 := by
    rw [t4, hσ1]
    rfl
  have c2 : cls σ2 1 d := cls_c c1 (fun p q h1 h2 => t2 p q (by omega))
  have hr2 : hfr σ σ2 := by
    refine ⟨fun a b q => ?_, fun a b q => ?_⟩
    · rw [t2 a b (by omega), I1 a b (by omega)]
    · have : a < 39 ∨ 57 ≤ a ∨ ((a = 39 ∨ a = 45) ∧ (b = 5 ∨ b = 6)) := by
        rcases q with q | q | q
        · exact Or.inl q
        · exact Or.inr (Or.inl q)
        · exact Or.inr (Or.inr (qB_k q))
      rw [t3 a b (by omega) (by omega), L1]
  obtain ⟨σ3, q1, q2⟩ := run45 okc (PI := fun τ => cls τ 1 d ∧ eT τ 1 = some 1 ∧ eI τ 45 13 = nI s ∧ eI τ 45 14 = nI e) (fun τ τ' g h => ⟨cls_c h.1 (fun k j h1 h2 => g.1 k j (by omega) (by omega) (by omega)), (g.2.2 1).trans h.2.1, (g.1 45 13 (by omega) (by omega) (by omega)).trans h.2.2.1, (g.1 45 14 (by omega) (by omega) (by omega)).trans h.2.2.2⟩) (fun τ W h h4 hW hb => walk_pick ok hb hs he ⟨h.1, h.2.1, h4, hW⟩ h.2.2.1 h.2.2.2) ⟨c2, aT, a13, a14⟩ cm
  refine ⟨σ3, hr2.trans (hfr_45 q1), ?_⟩
  unfold e_X8_climbs_1
  rw [← hσ1, t1, ob]
  rcases q2 with ⟨n1, n2⟩ | ⟨S, r, n1, n2, n3⟩
  · left
    refine ⟨n1, ?_⟩
    rw [n2, ob, if_pos (show (0 : Int32) = 0 ∨ (0 : Int32) = 1 from Or.inl rfl)]
  · right
    refine ⟨S, r, n1, ?_, n3⟩
    rw [n2, ob, if_pos (show (1 : Int32) = 0 ∨ (1 : Int32) = 1 from Or.inr rfl)]
theorem sim_walk : Sim_walk Rel := by
  intro σ h x1 x2 x3
  have hR := h
  obtain ⟨⟨d, ok, hc, hm⟩, h2, h3, h4, h5, h6⟩ := h
  have P6 := ok.1
  have e1 : ir (0 : Int32).toInt (3 : Int32).toInt x3 = ir 0 3 x3 := rfl
  have e2 : ir (0 : Int64).toInt (3 : Int64).toInt x3 = ir 0 3 x3 := rfl
  have mf0 := mdl_fx 0 hm
  have bey : e_X9_walk x1 x2 x3 σ = some (-4000000000000000001 - (nI 0).toInt64, fx 0 σ) → e_X10_walk x1 x2 x3 (fx 0 σ) = some (-4000000000000000001 - (nI 0).toInt64, gx 0 (fx 0 σ)) → ∃ (r : Int64) (σ1 : ES) (σ2 : ES), e_X9_walk x1 x2 x3 σ = some (r, σ1) ∧ e_X10_walk x1 x2 x3 σ1 = some (r, σ2) ∧ Rel σ2 := fun q1 q2 => ⟨_, _, _, q1, q2, Rel_find 0 hR⟩
  have J0 : e_X9_walk_J32 x1 x2 x3 0 σ = some (-4000000000000000001 - (nI 0).toInt64, fx 0 σ) := by
    unfold e_X9_walk_J32
    rw [within_eq, ob, lf0, ob, if_pos (show (0 : Int32) = 0 from rfl)]
    split <;> rfl
  have J1 : e_X9_walk_J31 x1 x2 x3 σ = some (-4000000000000000001 - (nI 0).toInt64, fx 0 σ) := J0
  by_cases q3 : ir 0 3 x3 = true
  · by_cases q1 : ir 0 ((dP d : Int) - 1) x1 = true
    · by_cases q2 : ir 0 ((dP d : Int) - 1) x2 = true
      · obtain ⟨s, hs, hs', rfl⟩ := nI_ir q1
        obtain ⟨e, he, he', rfl⟩ := nI_ir q2
        by_cases q4 : s < e
        · obtain ⟨σ1, f1, f2⟩ := walk_c ok hc h6.2 q4 (show e < 6 by omega)
          have R1 : Rel σ1 := Rel_kp hR (kp_hfr f1)
          have m1 := mdl_hfr hm f1
          have okc := cWy_ok ok (f := isWk d s e) wk_nz
          have C : e_X9_walk (nI s) (nI e) x3 σ = (e_X8_climbs_1 (nI s) (nI e) σ).bind (fun r5 => (e_X9_told_45 r5.1 x3 r5.2).bind (fun r7 => some (r7.1, r7.2))) := by
            simp only [e_X9_walk, c_isPlace ok hc, q1, q2, ob, bi_0, Bool.true_eq_false, if_false]
            rw [if_neg (fun y => by have := (nLe (by omega) (by omega)).mp y; omega)]
            unfold e_X9_walk_J32
            rw [within_eq, ob, e1, q3, if_neg (by decide), if_neg (by decide)]
          have M : ∀ τ, mdl τ d → e_X10_walk (nI s) (nI e) x3 τ = (e_X10_told x3 (uI (uI (uI τ 69 16 3) 69 17 (nI s)) 69 18 (nI e))).bind (fun r13 => some (r13.1, r13.2)) := by
            intro τ ht
            simp only [e_X10_walk, min_eq, e2, q3, ob, bi_0, Bool.true_eq_false, if_false, m_isPlace ok ht, q1, q2]
            rw [if_pos ((nLt (by omega) (by omega)).mpr q4)]
          have rm : ∀ τ, mdl τ d → RM (uI (uI (uI τ 69 16 3) 69 17 (nI s)) 69 18 (nI e)) (cWy d (isWk d s e)) := fun τ ht => RM_walk (τ := uI (uI (uI τ 69 16 3) 69 17 (nI s)) 69 18 (nI e)) ok (mdl_c ht (fun j hj => by rcases hj with e | e | e | e <;> subst e <;> rfl) (fun _ => rfl) (fun _ => rfl) (fun _ => rfl)) rfl q4 (by omega) rfl rfl
          have kk : ∀ τ, kp τ (uI (uI (uI τ 69 16 3) 69 17 (nI s)) 69 18 (nI e)) := fun τ => ((kp_u rfl).trans (kp_u rfl)).trans (kp_u rfl)
          rcases f2 with ⟨n1, n2⟩ | ⟨S, r, n1, n2, n3, n4, n5, n6⟩
          · refine ⟨-4000000000000000001 - (nI 3).toInt64, fx 3 σ1, gx 3 (uI (uI (uI (fx 3 σ1) 69 16 3) 69 17 (nI s)) 69 18 (nI e)), ?_, ?_, Rel_kp (Rel_find 3 R1) (kp_gx (kk _))⟩
            · rw [C, n2, ob]
              simp only [e_X9_told_45, if_true, lf3, ob]
            · rw [M _ (mdl_fx 3 m1)]
              rcases told_m okc (rm _ (mdl_fx 3 m1)) x3 with ⟨_, t⟩ | ⟨S, r, t, _⟩
              · rw [t, ob]
              · have := n1 S t.1.1
                rw [t.1.2.1] at this
                cases this
          · rcases told_m okc (rm _ m1) x3 with ⟨t, _⟩ | ⟨S', r', t1, t2⟩
            · have := t S n1.1.1
              rw [n1.1.2.1] at this
              cases this
            · have eS : S' = S := isL_u t1.1 n1.1
              subst eS
              have er : r' = r := Option.some.inj (t1.2.1.symm.trans n1.2.1)
              subst er
              obtain ⟨v, v1, v2⟩ := told45 okc n1.2.2.2.2.1 n1.2.2.2.2.2.1 n3 n4 n5 n6 q3
              refine ⟨v, σ1, _, ?_, ?_, Rel_kp R1 (kk σ1)⟩
              · rw [C, n2, ob]
                simp only [v1, ob]
              · rw [M _ m1, t2, v2, ob, ob]
        · apply bey
          · simp only [e_X9_walk, c_isPlace ok hc, q1, q2, ob, bi_0, Bool.true_eq_false, if_false]
            rw [if_pos ((nLe (by omega) (by omega)).mpr (by omega))]
            exact J1
          · simp only [e_X10_walk, min_eq, e2, q3, ob, bi_0, Bool.true_eq_false, if_false, m_isPlace ok mf0, q1, q2, lg0]
            rw [if_neg (fun y => q4 ((nLt (by omega) (by omega)).mp y))]
      · have q2 : ir 0 ((dP d : Int) - 1) x2 = false := by simpa using q2
        apply bey
        · simp only [e_X9_walk, c_isPlace ok hc, q1, q2, ob, bi_0, Bool.true_eq_false, if_false, if_true, J1]
        · simp only [e_X10_walk, min_eq, e2, q3, ob, bi_0, Bool.true_eq_false, if_false, m_isPlace ok mf0, q1, q2, lg0, if_true]
    · have q1 : ir 0 ((dP d : Int) - 1) x1 = false := by simpa using q1
      apply bey
      · simp only [e_X9_walk, c_isPlace ok hc, q1, ob, bi_0, if_true, J1]
      · simp only [e_X10_walk, min_eq, e2, q3, ob, bi_0, Bool.true_eq_false, if_false, m_isPlace ok mf0, q1, lg0, if_true]
  · have q3 : ir 0 3 x3 = false := by simpa using q3
    have J2 : e_X9_walk_J32 x1 x2 x3 1 σ = some (-4000000000000000001 - (nI 0).toInt64, fx 0 σ) := by
      unfold e_X9_walk_J32
      rw [within_eq, ob, e1, q3, if_pos bi_f, lf0, ob]
    apply bey
    · simp only [e_X9_walk, c_isPlace ok hc, ob, J1, J2]
      repeat (first | rfl | split)
    · simp only [e_X10_walk, min_eq, e2, q3, ob, bi_0, lg0, if_true]
