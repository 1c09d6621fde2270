/-! ===== text ===== -/
theorem neg_le0 : ∀ m : Nat, m < 121 → (-1 - nI m : Int32) ≤ 0 := by decide +kernel
theorem pos_le0 : ∀ m : Nat, m < 122 → 1 ≤ m → ¬ (nI m : Int32) ≤ 0 := by decide +kernel
theorem Rel_tx {σ σ2 : ES} {d : CD} (h : Rel σ) (O : ∀ a e, ¬ (1 ≤ a ∧ a ≤ 9) → ¬ (19 ≤ a ∧ a ≤ 27) → a ≠ 57 → a ≠ 71 → a ≠ 72 → ¬ (a = 69 ∧ e ≠ 35) → eI σ2 a e = eI σ a e) (OL : ∀ a e, eL σ2 a e = eL σ a e) (t1 : eI σ2 57 0 = 0) (t2 : eI σ2 69 25 = 0) (hk : RK σ2 d) : Rel σ2 := by
  obtain ⟨_, h2, h3, h4, h5, h6⟩ := h
  refine ⟨⟨d, hk⟩, RI_c h2 (fun k j q => ?_), ⟨0, by omega, t1, t2, fun k hk => absurd hk (Nat.not_lt_zero k)⟩, RSh_c h4 (fun k j q => ?_) (fun k j _ => OL k j), RF_c h5 (fun k j q => ?_), RWd_c h6 (fun j => O 80 j (by omega) (by omega) (by omega) (by omega) (by omega) (by omega)) (fun k j _ => OL k j)⟩
  · simp only [qI, Bool.or_eq_true, Bool.and_eq_true, decide_eq_true_eq, beq_iff_eq] at q
    exact O k j (by omega) (by omega) (by omega) (by omega) (by omega) (by omega)
  · simp only [qS, Bool.or_eq_true, Bool.and_eq_true, decide_eq_true_eq, beq_iff_eq] at q
    exact O k j (by omega) (by omega) (by omega) (by omega) (by omega) (by omega)
  · simp only [qF, Bool.or_eq_true, beq_iff_eq] at q
    exact O k j (by omega) (by omega) (by omega) (by omega) (by omega) (by omega)
theorem nhM {a e : Nat} (h1 : a ≠ 71) (h2 : a ≠ 72) (h3 : a ≠ 69 ∨ e = 35 ∨ e = 25) : ¬ hM a e := by
  rintro (h | h | h) <;> omega
theorem sim_text : Sim_text Rel := by
  intro σ h
  have hR := h
  obtain ⟨⟨d, ok, hc, hm⟩, h2, ⟨n, n1, n2, n3, n4⟩, h4, h5, h6⟩ := h
  obtain ⟨b, hb⟩ : ∃ b : Nat → Int32, b = fun i => eI σ 58 i := ⟨_, rfl⟩
  obtain ⟨S, hS⟩ : ∃ S, S = uI (uT (bec 19 1 σ) 2 (some 19)) 57 5 0 := ⟨_, rfl⟩
  have S1 : ∀ a e, ¬ (19 ≤ a ∧ a ≤ 27) → ¬ (a = 57 ∧ e = 5) → eI S a e = eI σ a e := by
    intro a e q1 q2
    rw [hS, eI_uI, if_neg q2, eI_uT, bec_off (by omega)]
  have S2 : ∀ a e, eL S a e = eL σ a e := by
    intro a e
    rw [hS]
    rfl
  have S3 : eT S 2 = some 19 := by
    rw [hS]
    rfl
  have S4 : cls S 19 d := by
    refine cls_c (cls_bec (t := 19) (f := 1) (by omega) ok hc) (fun k j q1 q2 => ?_)
    rw [hS, eI_uI, if_neg (by omega), eI_uT]
  have S5 : tpC S b n := by
    refine ⟨n1, (S1 57 0 (by omega) (by omega)).trans n2, fun i hi => ?_⟩
    rw [S1 58 i (by omega) (by omega), hb]
    exact ⟨rfl, (n4 i hi).2⟩
  have S6 : eI S 57 5 = nI 0 := by
    rw [hS, eI_uI, if_pos ⟨rfl, rfl⟩]
    rfl
  obtain ⟨σb, s1, s2, s3⟩ := next_c (Nat.zero_le n) S5 S6
  have run : ∀ τ, tpM τ b n → mdl τ d → ∃ τb, e_X10_next (uI τ 69 26 0) = some τb ∧ fM τ τb ∧ outc b n σb τb d (eI τ 69 1) (eI τ 69 2) (eI τ 69 3) (eI τ 69 5) (e_X6_tellTo_19_L16 mN 1 σb) ((e_X10_readsItem τb).bind fun r3 => e_X10_text_L39 mN (eI τ 69 1) (eI τ 69 2) (eI τ 69 3) (eI τ 69 5) 1 r3.1 r3.2) := by
    intro τ ht hmt
    have f1 : fM τ (uI τ 69 26 0) := fM_u (by omega)
    obtain ⟨τb, r1, r2, r3⟩ := next_m' (Nat.zero_le n) (tpM_f ht f1) (show eI (uI τ 69 26 0) 69 26 = nI 0 by rw [eI_uI, if_pos ⟨rfl, rfl⟩]; rfl)
    have f2 := f1.trans (fM_n r2)
    have i0 : itm b n σb τb (tkn b n 0) d := ⟨⟨tpC_nf S5 s2, tpM_f ht f2, s3, r3, 0, Nat.zero_le n, rfl⟩, (s2.2.2 2).trans S3, cls_f S4 (fC_n s2), mdl_f hmt f2, ok⟩
    have e1 : nI 1 = 1 := rfl
    have T := text_L (x1 := eI τ 69 1) (x2 := eI τ 69 2) (x3 := eI τ 69 3) (x4 := eI τ 69 5) mN mN 1 σb τb _ d i0 (ext.refl d) (by omega) (by omega) (mN_big (by omega)) (mN_big (by omega))
    rw [e1] at T
    exact ⟨τb, r1, f2, T⟩
  have tM : ∀ τ, (∀ e, eI τ 69 e = eI σ 69 e) → (∀ e, eI τ 79 e = eI σ 79 e) → (∀ e, eI τ 80 e = eI σ 80 e) → tpM τ b n := by
    intro τ e1 e2 e3
    refine ⟨n1, (e1 25).trans n3, fun i hi => ?_, fun k hk => (e3 k).trans (h6.1 k hk)⟩
    rw [e2 i, hb]
    exact n4 i hi
  obtain ⟨_, _, _, r, σ', _, _, _, _, k1, _, _, _, k5, _, _⟩ := run σ (tM σ (fun _ => rfl) (fun _ => rfl) (fun _ => rfl)) hm
  have tell : e_X6_tellTo_19 (bec 19 1 σ) = some (r, σ') := by
    unfold e_X6_tellTo_19
    rw [← hS, s1, ob]
    exact k1
  have o1 : ∀ a e, ¬ (19 ≤ a ∧ a ≤ 27) → ¬ (a = 57 ∧ (3 ≤ e ∧ e ≤ 8)) → eI σ' a e = eI σ a e := by
    intro a e q1 q2
    rw [k5.1 a e q1 q2, s2.1 a e (by omega), S1 a e q1 (by omega)]
  have o2 : ∀ a e, eL σ' a e = eL σ a e := fun a e => (k5.2.1 a e).trans ((s2.2.1 a e).trans (S2 a e))
  by_cases hr : r ≤ 0
  · obtain ⟨σ1, hσ1⟩ : ∃ σ1, σ1 = uI σ' 57 0 0 := ⟨_, rfl⟩
    have C : e_X9_text σ = some (r, σ1) := by
      unfold e_X9_text
      rw [bec_19_1, ob, tell, ob, hσ1]
      exact if_pos hr
    have p1 : ∀ a e, ¬ (19 ≤ a ∧ a ≤ 27) → a ≠ 57 → eI σ1 a e = eI σ a e := by
      intro a e q1 q2
      rw [hσ1, eI_uI, if_neg (by omega), o1 a e q1 (by omega)]
    have m1 : mdl σ1 d := mdl_c hm (fun j _ => p1 69 j (by omega) (by omega)) (fun j => p1 71 j (by omega) (by omega)) (fun j => p1 72 j (by omega) (by omega)) (fun j => p1 73 j (by omega) (by omega))
    obtain ⟨τb, u1, u2, r', σ'', τ', t', d', τ'', v1, v2, v3, v4, v5, v6, v7⟩ := run σ1 (tM σ1 (fun e => p1 69 e (by omega) (by omega)) (fun e => p1 79 e (by omega) (by omega)) (fun e => p1 80 e (by omega) (by omega))) m1
    have eq := Option.some.inj (v1.symm.trans k1)
    have er : r' = r := congrArg Prod.fst eq
    subst er
    have M : e_X10_text σ1 = some (r', τ') := by
      unfold e_X10_text
      rw [u1, ob]
      exact v2
    refine ⟨r', σ1, τ', C, M, ?_⟩
    have G : gM σ1 τ'' := (gM_f u2).trans v6
    rcases v7 with ⟨m, w1, w2, w3, w4⟩ | ⟨m, w1, w2, w4⟩
    · exact absurd hr (by rw [w3]; exact pos_le0 m (by omega) w1)
    · rw [w4]
      have y1 : ∀ a e, a ≠ 69 → eI (rstR τ'' (eI σ1 69 1) (eI σ1 69 2) (eI σ1 69 3) (eI σ1 69 5)) a e = eI τ'' a e := by
        intro a e q
        simp only [rstR, eI_uI]
        rw [if_neg (by omega), if_neg (by omega), if_neg (by omega), if_neg (by omega), if_neg (by omega)]
      refine Rel_tx (d := d) hR (fun a e q1 q2 q3 q4 q5 q6 => ?_) (fun a e => ?_) ?_ rfl ⟨ok, ?_, ?_⟩
      · have : eI (rstR τ'' (eI σ1 69 1) (eI σ1 69 2) (eI σ1 69 3) (eI σ1 69 5)) a e = eI τ'' a e := by
          simp only [rstR, eI_uI]
          rw [if_neg (by omega), if_neg (by omega), if_neg (by omega), if_neg (by omega), if_neg (by omega)]
        rw [this, G.1 a e (nhM q4 q5 (by omega)), p1 a e q2 q3]
      · show eL τ'' a e = _
        rw [G.2.1 a e, hσ1]
        exact o2 a e
      · rw [y1 57 0 (by omega), G.1 57 0 (nhM (by omega) (by omega) (by omega)), hσ1]
        rfl
      · refine cls_c hc (fun k j q1 q2 => ?_)
        rw [y1 k j (by omega), G.1 k j (nhM (by omega) (by omega) (by omega)), p1 k j (by omega) (by omega)]
      · obtain ⟨z1, z2, z3, z4, z5, z6, z7⟩ := v3.2.2.2.1
        refine ⟨m1.1, m1.2.1, m1.2.2.1, m1.2.2.2.1, fun w hw j hj => ?_, fun j hj => ?_, fun w hw j hj => ?_⟩
        · rw [y1 71 _ (by omega), z5 w (Nat.lt_of_lt_of_le hw v4.1) j hj]
          exact v4.2.2.1 w hw j
        · rw [y1 73 _ (by omega), z6 j hj]
          exact v4.2.2.2 0 (Nat.zero_le _) j
        · rw [y1 72 _ (by omega), z7 w (Nat.lt_of_lt_of_le hw v4.2.1) j hj]
          exact v4.2.2.2 (w + 1) hw j
  · obtain ⟨σ1, hσ1⟩ : ∃ σ1, σ1 = uI (bec 1 19 σ') 57 0 0 := ⟨_, rfl⟩
    have C : e_X9_text σ = some (r, σ1) := by
      unfold e_X9_text
      rw [bec_19_1, ob, tell, ob]
      refine (if_neg hr).trans ?_
      rw [bec_1_19, ob, hσ1]
    have p1 : ∀ a e, ¬ (1 ≤ a ∧ a ≤ 9) → ¬ (19 ≤ a ∧ a ≤ 27) → a ≠ 57 → eI σ1 a e = eI σ a e := by
      intro a e q0 q1 q2
      rw [hσ1, eI_uI, if_neg (by omega), bec_off (by omega), o1 a e q1 (by omega)]
    have m1 : mdl σ1 d := mdl_c hm (fun j _ => p1 69 j (by omega) (by omega) (by omega)) (fun j => p1 71 j (by omega) (by omega) (by omega)) (fun j => p1 72 j (by omega) (by omega) (by omega)) (fun j => p1 73 j (by omega) (by omega) (by omega))
    obtain ⟨τb, u1, u2, r', σ'', τ', t', d', τ'', v1, v2, v3, v4, v5, v6, v7⟩ := run σ1 (tM σ1 (fun e => p1 69 e (by omega) (by omega) (by omega)) (fun e => p1 79 e (by omega) (by omega) (by omega)) (fun e => p1 80 e (by omega) (by omega) (by omega))) m1
    have eq := Option.some.inj (v1.symm.trans k1)
    have er : r' = r := congrArg Prod.fst eq
    have es : σ'' = σ' := congrArg Prod.snd eq
    subst er
    have M : e_X10_text σ1 = some (r', τ') := by
      unfold e_X10_text
      rw [u1, ob]
      exact v2
    refine ⟨r', σ1, τ', C, M, ?_⟩
    have G : gM σ1 τ'' := (gM_f u2).trans v6
    rcases v7 with ⟨m, w1, w2, w3, w4⟩ | ⟨m, w1, w2, w4⟩
    · rw [w4]
      have y1 : ∀ a e, ¬ (a = 69 ∧ e = 25) → eI (uI τ'' 69 25 0) a e = eI τ'' a e := by
        intro a e q
        rw [eI_uI, if_neg q]
      refine Rel_tx (d := d') hR (fun a e q1 q2 q3 q4 q5 q6 => ?_) (fun a e => ?_) ?_ rfl ⟨v3.2.2.2.2, ?_, ?_⟩
      · rw [y1 a e (by omega), G.1 a e (nhM q4 q5 (by omega)), p1 a e q1 q2 q3]
      · show eL τ'' a e = _
        rw [G.2.1 a e, hσ1]
        exact o2 a e
      · rw [y1 57 0 (by omega), G.1 57 0 (nhM (by omega) (by omega) (by omega)), hσ1]
        rfl
      · have c19 : cls σ' 19 d' := by
          rw [← es]
          exact v3.2.2.1
        refine cls_c (cls_bec (t := 1) (f := 19) (by omega) v3.2.2.2.2 c19) (fun k j q1 q2 => ?_)
        rw [y1 k j (by omega), G.1 k j (nhM (by omega) (by omega) (by omega)), hσ1, eI_uI, if_neg (by omega)]
      · exact mdl_c v3.2.2.2.1 (fun j hj => y1 69 j (by omega)) (fun j => y1 71 j (by omega)) (fun j => y1 72 j (by omega)) (fun j => y1 73 j (by omega))
    · exact absurd (by rw [w2]; exact neg_le0 m (by omega)) hr
