/-! ===== the ways taken up for a climb ===== -/
theorem hfr_39 {σ σ' : ES} (h : kf39 σ σ') : hfr σ σ' := ⟨fun a b q => h.1 a b (by omega) (by omega) (by omega), fun a b q => by
  have : a < 39 ∨ 57 ≤ a ∨ ((a = 39 ∨ a = 45) ∧ (b = 5 ∨ b = 6)) := by
    rcases q with q | q | q
    · exact Or.inl q
    · exact Or.inr (Or.inl q)
    · exact Or.inr (Or.inr (qB_k q))
  exact h.2.1 a b (by omega) (by omega) (by omega)⟩
theorem take39 {d : CD} (ok : okD d) {σ : ES} (hc : cls σ 1 d) : ∃ σ', e_X0_takeWays_39_1 σ = some σ' ∧ (∀ a b, ¬ (a = 39 ∧ b = 4) → eI σ' a b = eI σ a b) ∧ (∀ a b, a ≠ 40 → a ≠ 41 → eL σ' a b = eL σ a b) ∧ (∀ a, eT σ' a = eT σ a) ∧ eI σ' 39 4 = nI (dN d) ∧ ∀ i, i < dN d → eL σ' 40 i = bR d i ∧ eL σ' 41 i = lR d i := by
  have h14 := ok.2.2.1
  have key : ∀ f k σ, k ≤ dN d → dN d - k < f → cls σ 1 d → eI σ 39 4 = nI (dN d) → (∀ i, i < k → eL σ 40 i = bR d i ∧ eL σ 41 i = lR d i) → ∃ σ', e_X0_takeWays_39_1_L10 f (nI k) σ = some σ' ∧ (∀ a b, eI σ' a b = eI σ a b) ∧ (∀ a b, a ≠ 40 → a ≠ 41 → eL σ' a b = eL σ a b) ∧ (∀ a, eT σ' a = eT σ a) ∧ ∀ i, i < dN d → eL σ' 40 i = bR d i ∧ eL σ' 41 i = lR d i := by
    intro f
    induction f with
    | zero => intro k σ h1 h2; omega
    | succ f ih =>
      intro k σ h1 h2 hc h4 hv
      have le : nI (dN d) ≤ nI k ↔ dN d ≤ k := nLe (by omega) (by omega)
      simp only [e_X0_takeWays_39_1_L10, h4]
      by_cases q : dN d ≤ k
      · rw [if_pos (le.mpr q)]
        exact ⟨σ, rfl, fun _ _ => rfl, fun _ _ _ _ => rfl, fun _ => rfl, fun i hi => hv i (by omega)⟩
      · have hk : k < dN d := by omega
        have hc2 : ∀ v, cls (uL σ 40 k v) 1 d := fun v => cls_c hc (fun _ _ _ _ => rfl)
        rw [if_neg (fun y => q (le.mp y)), c_brings ok hc hk, ob, if_pos (mib_nI (by omega) (by decide)), nIc (by omega), c_lasts ok (hc2 _) hk, ob, nI_1, show (brv (dw d k 0) (dw d k 3) (nI (dW d))).toInt64 = bR d k from rfl, show (lsv (dw d k 0) (dw d k 4) (nI (dW d))).toInt64 = lR d k from rfl]
        obtain ⟨σ', r1, r2, r3, r4, r5⟩ := ih (k + 1) (uL (uL σ 40 k (bR d k)) 41 k (lR d k)) (by omega) (by omega) (cls_c hc (fun _ _ _ _ => rfl)) h4 (fun i hi => by
          rw [eL_uL, if_neg (show ¬ (40 = 41 ∧ i = k) by omega), eL_uL, eL_uL, eL_uL, if_neg (show ¬ (41 = 40 ∧ i = k) by omega)]
          by_cases e : i = k
          · rw [if_pos (show 40 = 40 ∧ i = k from ⟨rfl, e⟩), if_pos (show 41 = 41 ∧ i = k from ⟨rfl, e⟩), e]
            exact ⟨rfl, rfl⟩
          · rw [if_neg (show ¬ (40 = 40 ∧ i = k) from fun x => e x.2), if_neg (show ¬ (41 = 41 ∧ i = k) from fun x => e x.2)]
            exact hv i (by omega))
        refine ⟨σ', r1, r2, fun a b n1 n2 => ?_, r4, r5⟩
        rw [r3 a b n1 n2, eL_uL, if_neg (by omega), eL_uL, if_neg (by omega)]
  have c1 : cls (uI σ 39 4 (nI (dN d))) 1 d := cls_c hc (fun k j h1 h2 => by rw [eI_uI, if_neg (by omega)])
  obtain ⟨σ', r1, r2, r3, r4, r5⟩ := key mN 0 (uI σ 39 4 (nI (dN d))) (Nat.zero_le _) (mN_big (by omega)) c1 rfl (fun i hi => by omega)
  refine ⟨σ', ?_, fun a b q => ?_, r3, r4, ?_, r5⟩
  · unfold e_X0_takeWays_39_1
    rw [hc.2.2.1]
    exact r1
  · rw [r2, eI_uI, if_neg q]
  · rw [r2]
    rfl
theorem hfr_45 {σ σ' : ES} (h : kf45 σ σ') : hfr σ σ' := ⟨fun a b q => h.1 a b (by omega) (by omega) (by omega), fun a b q => by
  have : a < 39 ∨ 57 ≤ a ∨ ((a = 39 ∨ a = 45) ∧ (b = 5 ∨ b = 6)) := by
    rcases q with q | q | q
    · exact Or.inl q
    · exact Or.inr (Or.inl q)
    · exact Or.inr (Or.inr (qB_k q))
  exact h.2.1 a b (by omega) (by omega) (by omega)⟩
theorem take45 {d : CD} (ok : okD d) {σ : ES} (hc : cls σ 1 d) : ∃ σ', e_X0_takeWays_45_1 σ = some σ' ∧ (∀ a b, ¬ (a = 45 ∧ b = 4) → eI σ' a b = eI σ a b) ∧ (∀ a b, a ≠ 46 → a ≠ 47 → eL σ' a b = eL σ a b) ∧ (∀ a, eT σ' a = eT σ a) ∧ eI σ' 45 4 = nI (dN d) ∧ ∀ i, i < dN d → eL σ' 46 i = bR d i ∧ eL σ' 47 i = lR d i := by
  have h14 := ok.2.2.1
  have key : ∀ f k σ, k ≤ dN d → dN d - k < f → cls σ 1 d → eI σ 45 4 = nI (dN d) → (∀ i, i < k → eL σ 46 i = bR d i ∧ eL σ 47 i = lR d i) → ∃ σ', e_X0_takeWays_45_1_L10 f (nI k) σ = some σ' ∧ (∀ a b, eI σ' a b = eI σ a b) ∧ (∀ a b, a ≠ 46 → a ≠ 47 → eL σ' a b = eL σ a b) ∧ (∀ a, eT σ' a = eT σ a) ∧ ∀ i, i < dN d → eL σ' 46 i = bR d i ∧ eL σ' 47 i = lR d i := by
    intro f
    induction f with
    | zero => intro k σ h1 h2; omega
    | succ f ih =>
      intro k σ h1 h2 hc h4 hv
      have le : nI (dN d) ≤ nI k ↔ dN d ≤ k := nLe (by omega) (by omega)
      simp only [e_X0_takeWays_45_1_L10, h4]
      by_cases q : dN d ≤ k
      · rw [if_pos (le.mpr q)]
        exact ⟨σ, rfl, fun _ _ => rfl, fun _ _ _ _ => rfl, fun _ => rfl, fun i hi => hv i (by omega)⟩
      · have hk : k < dN d := by omega
        have hc2 : ∀ v, cls (uL σ 46 k v) 1 d := fun v => cls_c hc (fun _ _ _ _ => rfl)
        rw [if_neg (fun y => q (le.mp y)), c_brings ok hc hk, ob, if_pos (mib_nI (by omega) (by decide)), nIc (by omega), c_lasts ok (hc2 _) hk, ob, nI_1, show (brv (dw d k 0) (dw d k 3) (nI (dW d))).toInt64 = bR d k from rfl, show (lsv (dw d k 0) (dw d k 4) (nI (dW d))).toInt64 = lR d k from rfl]
        obtain ⟨σ', r1, r2, r3, r4, r5⟩ := ih (k + 1) (uL (uL σ 46 k (bR d k)) 47 k (lR d k)) (by omega) (by omega) (cls_c hc (fun _ _ _ _ => rfl)) h4 (fun i hi => by
          rw [eL_uL, if_neg (show ¬ (46 = 47 ∧ i = k) by omega), eL_uL, eL_uL, eL_uL, if_neg (show ¬ (47 = 46 ∧ i = k) by omega)]
          by_cases e : i = k
          · rw [if_pos (show 46 = 46 ∧ i = k from ⟨rfl, e⟩), if_pos (show 47 = 47 ∧ i = k from ⟨rfl, e⟩), e]
            exact ⟨rfl, rfl⟩
          · rw [if_neg (show ¬ (46 = 46 ∧ i = k) from fun x => e x.2), if_neg (show ¬ (47 = 47 ∧ i = k) from fun x => e x.2)]
            exact hv i (by omega))
        refine ⟨σ', r1, r2, fun a b n1 n2 => ?_, r4, r5⟩
        rw [r3 a b n1 n2, eL_uL, if_neg (by omega), eL_uL, if_neg (by omega)]
  have c1 : cls (uI σ 45 4 (nI (dN d))) 1 d := cls_c hc (fun k j h1 h2 => by rw [eI_uI, if_neg (by omega)])
  obtain ⟨σ', r1, r2, r3, r4, r5⟩ := key mN 0 (uI σ 45 4 (nI (dN d))) (Nat.zero_le _) (mN_big (by omega)) c1 rfl (fun i hi => by omega)
  refine ⟨σ', ?_, fun a b q => ?_, r3, r4, ?_, r5⟩
  · unfold e_X0_takeWays_45_1
    rw [hc.2.2.1]
    exact r1
  · rw [r2, eI_uI, if_neg q]
  · rw [r2]
    rfl
