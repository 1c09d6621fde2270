/-! ===== image, undo ===== -/
def bec (t f : Nat) (σ : ES) : ES := ecI (ecI (ecI (ecI (ecI (ecI (ecI (ecI (uI (uI (uI (uI σ t 0 (eI σ f 0)) t 1 (eI σ f 1)) t 2 (eI σ f 2)) t 9 (eI σ f 9)) (f + 1) 0 (t + 1) 0 14) (f + 2) 0 (t + 2) 0 14) (f + 3) 0 (t + 3) 0 14) (f + 4) 0 (t + 4) 0 14) (f + 5) 0 (t + 5) 0 14) (f + 6) 0 (t + 6) 0 14) (f + 7) 0 (t + 7) 0 13) (f + 8) 0 (t + 8) 0 13
theorem bec_10_1 (σ : ES) : e_X1_become_10_1 σ = some (bec 10 1 σ) := rfl
theorem bec_1_10 (σ : ES) : e_X1_become_1_10 σ = some (bec 1 10 σ) := rfl
theorem bec_19_1 (σ : ES) : e_X1_become_19_1 σ = some (bec 19 1 σ) := rfl
theorem bec_1_19 (σ : ES) : e_X1_become_1_19 σ = some (bec 1 19 σ) := rfl
theorem bec_off {t f a b : Nat} {σ : ES} (h : ¬ (t ≤ a ∧ a ≤ t + 8)) : eI (bec t f σ) a b = eI σ a b := by
  simp only [bec, eI_cI, eI_uI]
  rw [if_neg (by omega), if_neg (by omega), if_neg (by omega), if_neg (by omega), if_neg (by omega), if_neg (by omega), if_neg (by omega), if_neg (by omega), if_neg (by omega), if_neg (by omega), if_neg (by omega), if_neg (by omega)]
theorem bec_s {t f : Nat} {σ : ES} : eI (bec t f σ) t 0 = eI σ f 0 ∧ eI (bec t f σ) t 1 = eI σ f 1 ∧ eI (bec t f σ) t 2 = eI σ f 2 ∧ eI (bec t f σ) t 9 = eI σ f 9 := by
  refine ⟨?_, ?_, ?_, ?_⟩ <;> simp [bec, eI_cI, eI_uI]
theorem cI_off {τ : ES} {k0 k1 n a b : Nat} (h : a ≠ k1) : eI (ecI τ k0 0 k1 0 n) a b = eI τ a b := by
  rw [eI_cI, if_neg h]
theorem cI_on {τ : ES} {k0 k1 n a b : Nat} (h : a = k1 ∧ b < n) : eI (ecI τ k0 0 k1 0 n) a b = eI τ k0 b := by
  rw [eI_cI, if_pos h.1, if_pos (by omega), show 0 + (b - 0) = b by omega]
theorem uI_off {τ : ES} {k j a b : Nat} {v : Int32} (h : a ≠ k) : eI (uI τ k j v) a b = eI τ a b := by
  rw [eI_uI, if_neg (fun x => h x.1)]
theorem bec_a {t f : Nat} {σ : ES} (h : f + 9 ≤ t ∨ t + 9 ≤ f) (j : Nat) (hj : j < 6) (w : Nat) (hw : w < 14) : eI (bec t f σ) (t + 1 + j) w = eI σ (f + 1 + j) w := by
  revert j
  refine j6 ?_ ?_ ?_ ?_ ?_ ?_
  all_goals
    unfold bec
    repeat (first | rw [cI_off (by omega)] | rw [cI_on (by omega)] | rw [uI_off (by omega)])
theorem bec_t {t f : Nat} {σ : ES} (h : f + 9 ≤ t ∨ t + 9 ≤ f) (j : Nat) (hj : j < 2) (w : Nat) (hw : w < 13) : eI (bec t f σ) (t + 7 + j) w = eI σ (f + 7 + j) w := by
  revert j
  refine j2 ?_ ?_
  all_goals
    unfold bec
    repeat (first | rw [cI_off (by omega)] | rw [cI_on (by omega)] | rw [uI_off (by omega)])
theorem cls_bec {t f : Nat} {σ : ES} {d : CD} (h : f + 9 ≤ t ∨ t + 9 ≤ f) (ok : okD d) (hc : cls σ f d) : cls (bec t f σ) t d := by
  obtain ⟨c1, c2, c3, c4, c5, c6⟩ := hc
  obtain ⟨b1, b2, b3, b4⟩ := bec_s (t := t) (f := f) (σ := σ)
  have h14 := ok.2.2.1
  have h12 := ok.2.2.2.1
  refine ⟨b1.trans c1, b2.trans c2, b3.trans c3, b4.trans c4, fun w hw j hj => ?_, fun w hw j hj => ?_⟩
  · rw [bec_a h j hj w (by omega)]
    exact c5 w hw j hj
  · rw [bec_t h j hj w (by omega)]
    exact c6 w hw j hj
theorem imB : ∀ n k (σ : ES), k ≤ 24 → 24 - k < n → ∃ σ', e_X10_image_L98 n (nI k) σ = some (1, uI σ' 69 35 1) ∧ (∀ a b, eL σ' a b = eL σ a b) ∧ ∀ a b, eI σ' a b = if a = 81 ∧ 90 + k ≤ b ∧ b < 114 then eI σ 72 (b - 90) else eI σ a b := by
  intro n
  induction n with
  | zero => intro k σ h1 h2; omega
  | succ n ih =>
    intro k σ h1 h2
    have le : Int32.ofNat 24 ≤ nI k ↔ 24 ≤ k := nLe (a := 24) (by omega) (by omega)
    have s1 : (90 : Int32) + nI k = nI (90 + k) := nI_add 90 k
    simp only [e_X10_image_L98]
    by_cases c : 24 ≤ k
    · refine ⟨σ, if_pos (le.mpr c), fun _ _ => rfl, fun a b => ?_⟩
      rw [if_neg (by omega)]
    · rw [if_neg (fun x => c (le.mp x)), if_pos (mib_nI (by omega) (by decide)), s1, if_pos (mib_nI (by omega) (by decide)), nIc (by omega), nIc (by omega), nI_1]
      obtain ⟨σ', e, e1, e2⟩ := ih (k + 1) (uI σ 81 (90 + k) (eI σ 72 k)) (by omega) (by omega)
      refine ⟨σ', e, e1, fun a b => ?_⟩
      rw [e2, eI_uI, eI_uI, if_neg (show ¬ (72 = 81 ∧ b - 90 = 90 + k) by omega)]
      by_cases c1 : a = 81 ∧ 90 + k ≤ b ∧ b < 114
      · rw [if_pos c1]
        by_cases c2 : a = 81 ∧ 90 + (k + 1) ≤ b ∧ b < 114
        · rw [if_pos c2]
        · have : b = 90 + k := by omega
          subst this
          rw [if_neg c2, if_pos (by omega)]
          congr 1
          omega
      · rw [if_neg c1, if_neg (by omega), if_neg (by omega)]
theorem imA : ∀ n k (σ : ES), k ≤ 84 → 84 - k < n → ∃ σ', e_X10_image_L66 n (nI k) σ = e_X10_image_L98 mN 0 σ' ∧ (∀ a b, eL σ' a b = eL σ a b) ∧ ∀ a b, eI σ' a b = if a = 81 ∧ 6 + k ≤ b ∧ b < 90 then eI σ 71 (b - 6) else eI σ a b := by
  intro n
  induction n with
  | zero => intro k σ h1 h2; omega
  | succ n ih =>
    intro k σ h1 h2
    have le : Int32.ofNat 84 ≤ nI k ↔ 84 ≤ k := nLe (a := 84) (by omega) (by omega)
    have s1 : (6 : Int32) + nI k = nI (6 + k) := nI_add 6 k
    simp only [e_X10_image_L66]
    by_cases c : 84 ≤ k
    · refine ⟨σ, if_pos (le.mpr c), fun _ _ => rfl, fun a b => ?_⟩
      rw [if_neg (by omega)]
    · rw [if_neg (fun x => c (le.mp x)), if_pos (mib_nI (by omega) (by decide)), s1, if_pos (mib_nI (by omega) (by decide)), nIc (by omega), nIc (by omega), nI_1]
      obtain ⟨σ', e, e1, e2⟩ := ih (k + 1) (uI σ 81 (6 + k) (eI σ 71 k)) (by omega) (by omega)
      refine ⟨σ', e, e1, fun a b => ?_⟩
      rw [e2, eI_uI, eI_uI, if_neg (show ¬ (71 = 81 ∧ b - 6 = 6 + k) by omega)]
      by_cases c1 : a = 81 ∧ 6 + k ≤ b ∧ b < 90
      · rw [if_pos c1]
        by_cases c2 : a = 81 ∧ 6 + (k + 1) ≤ b ∧ b < 90
        · rw [if_pos c2]
        · have : b = 6 + k := by omega
          subst this
          rw [if_neg c2, if_pos (by omega)]
          congr 1
          omega
      · rw [if_neg c1, if_neg (by omega), if_neg (by omega)]
def im0 (σ : ES) : ES := uI (uI (uI (uI (uI (uI σ 81 0 (eI σ 69 1)) 81 1 (eI σ 69 2)) 81 2 (eI σ 69 3)) 81 3 (eI σ 69 5)) 81 4 (eI σ 73 0)) 81 5 (eI σ 73 1)
theorem image_eq (σ : ES) : e_X10_image σ = e_X10_image_L66 mN (nI 0) (im0 σ) := by
  unfold e_X10_image
  rw [if_pos (by decide), if_pos (by decide), if_pos (by decide), if_pos (by decide), if_pos (by decide), if_pos (by decide), if_pos (by decide), if_pos (by decide)]
  exact congrArg (e_X10_image_L66 mN 0) rfl
theorem sim_image : Sim_image Rel := by
  intro σ h
  have hR := h
  obtain ⟨⟨d, ok, hc, hm⟩, h2, h3, h4, h5, h6⟩ := h
  have h14 := ok.2.2.1
  have h12 := ok.2.2.2.1
  obtain ⟨σ1, hσ⟩ : ∃ σ1, σ1 = uI (bec 10 1 σ) 0 3 1 := ⟨_, rfl⟩
  have o1 : ∀ a b, ¬ (10 ≤ a ∧ a ≤ 18) → ¬ (a = 0 ∧ b = 3) → eI σ1 a b = eI σ a b := by
    intro a b n1 n2
    rw [hσ, eI_uI, if_neg n2, bec_off (by omega)]
  have L1 : ∀ a b, eL σ1 a b = eL σ a b := by
    intro a b
    rw [hσ]
    rfl
  obtain ⟨σ2, e, e1, e2⟩ := imA mN 0 (im0 σ1) (by omega) (mN_big (by omega))
  obtain ⟨σ3, g, g1, g2⟩ := imB mN 0 σ2 (by omega) (mN_big (by omega))
  rw [nI_lit0] at g
  have off : ∀ a b, a ≠ 81 → ¬ (a = 69 ∧ b = 35) → eI (uI σ3 69 35 1) a b = eI σ1 a b := by
    intro a b n1 n2
    rw [eI_uI, if_neg n2, g2, if_neg (by omega), e2, if_neg (by omega)]
    simp only [im0, eI_uI]
    rw [if_neg (by omega), if_neg (by omega), if_neg (by omega), if_neg (by omega), if_neg (by omega), if_neg (by omega)]
  have LL : ∀ a b, eL (uI σ3 69 35 1) a b = eL σ a b := by
    intro a b
    rw [eL_uI, g1, e1]
    exact L1 a b
  have far : ∀ a b, ¬ (10 ≤ a ∧ a ≤ 18) → ¬ (a = 0 ∧ b = 3) → a ≠ 81 → ¬ (a = 69 ∧ b = 35) → eI (uI σ3 69 35 1) a b = eI σ a b := fun a b n1 n2 n3 n4 => (off a b n3 n4).trans (o1 a b n1 n2)
  have K : ∀ b, b < 114 → eI (uI σ3 69 35 1) 81 b = if 90 ≤ b then eI σ 72 (b - 90) else if 6 ≤ b then eI σ 71 (b - 6) else eI (im0 σ1) 81 b := by
    intro b hb
    rw [eI_uI, if_neg (by omega), g2]
    by_cases c : 90 ≤ b
    · rw [if_pos (by omega), if_pos c, e2, if_neg (by omega)]
      show eI σ1 72 (b - 90) = _
      exact o1 _ _ (by omega) (by omega)
    · rw [if_neg (by omega), if_neg c, e2]
      by_cases c1 : 6 ≤ b
      · rw [if_pos (by omega), if_pos c1]
        show eI σ1 71 (b - 6) = _
        exact o1 _ _ (by omega) (by omega)
      · rw [if_neg (by omega), if_neg c1]
  have far' : ∀ a b, (qK a b || qT a b || qS a || qF a || a == 80) = true → eI (uI σ3 69 35 1) a b = eI σ a b := by
    intro x y q
    refine far x y ?_ ?_ ?_ ?_
    · rintro ⟨c1, c2⟩
      simp only [qK, qT, qS, qF, Bool.or_eq_true, Bool.and_eq_true, beq_iff_eq, decide_eq_true_eq] at q
      omega
    · rintro ⟨rfl, rfl⟩
      simp [qK, qT, qS, qF] at q
    · rintro rfl
      simp [qK, qT, qS, qF] at q
    · rintro ⟨rfl, rfl⟩
      simp [qK, qT, qS, qF] at q
  refine ⟨1, σ1, uI σ3 69 35 1, ?_, ?_, ⟨d, RK_c ⟨ok, hc, hm⟩ (fun x y q => far' x y (by simp [q]))⟩, ⟨?_, Or.inr ⟨?_, d, ok, ?_, ?_⟩⟩, RTp_c h3 (fun x y q => far' x y (by simp [q])), RSh_c h4 (fun x y q => far' x y (by simp [q])) (fun x y _ => LL x y), RF_c h5 (fun x y q => far' x y (by simp [q])), RWd_c h6 (fun y => far' 80 y (by simp)) (fun x y _ => LL x y)⟩
  · simp only [e_X9_image, bec_10_1, ob, hσ]
  · rw [image_eq, e, g]
  · rw [off 0 3 (by decide) (by decide), hσ]
    rfl
  · rw [off 0 3 (by decide) (by decide), hσ]
    rfl
  · refine cls_c (cls_bec (t := 10) (f := 1) (σ := σ) (by omega) ok hc) (fun k j k1 k2 => ?_)
    rw [off k j (by omega) (by omega), hσ, eI_uI, if_neg (by omega)]
  · have im : ∀ b v, eI (im0 σ1) 81 b = v → b < 6 → eI (uI σ3 69 35 1) 81 b = v := by
      intro b v hv hb
      rw [K b (by omega), if_neg (by omega), if_neg (by omega), hv]
    obtain ⟨m1, m2, m3, m4, m5, m6, m7⟩ := hm
    refine ⟨im 0 _ ((show eI (im0 σ1) 81 0 = eI σ1 69 1 from rfl).trans ((o1 69 1 (by omega) (by omega)).trans m1)) (by omega), im 1 _ ((show eI (im0 σ1) 81 1 = eI σ1 69 2 from rfl).trans ((o1 69 2 (by omega) (by omega)).trans m2)) (by omega), im 2 _ ((show eI (im0 σ1) 81 2 = eI σ1 69 3 from rfl).trans ((o1 69 3 (by omega) (by omega)).trans m3)) (by omega), im 3 _ ((show eI (im0 σ1) 81 3 = eI σ1 69 5 from rfl).trans ((o1 69 5 (by omega) (by omega)).trans m4)) (by omega), fun w hw j hj => ?_, j2 ?_ ?_, fun t ht j hj => ?_⟩
    · rw [K _ (by omega), if_neg (by omega), if_pos (by omega), show 6 + (6 * w + j) - 6 = 6 * w + j by omega]
      exact m5 w hw j hj
    · exact im 4 _ ((show eI (im0 σ1) 81 4 = eI σ1 73 0 from rfl).trans ((o1 73 0 (by omega) (by omega)).trans (m6 0 (by decide)))) (by omega)
    · exact im 5 _ ((show eI (im0 σ1) 81 5 = eI σ1 73 1 from rfl).trans ((o1 73 1 (by omega) (by omega)).trans (m6 1 (by decide)))) (by omega)
    · rw [K _ (by omega), if_pos (by omega), show 90 + (2 * t + j) - 90 = 2 * t + j by omega]
      exact m7 t ht j hj
