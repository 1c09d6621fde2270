/-! ===== sheets: read, write, sheet ===== -/
theorem Rel_S {σ σ' : ES} (h : Rel σ) (e : ∀ a b, qS a = false → eI σ' a b = eI σ a b) (e2 : ∀ k j, qB k j = true → eL σ' k j = eL σ k j) (s : RSh σ') : Rel σ' := by
  obtain ⟨⟨d, h1⟩, h2, h3, h4, h5, h6⟩ := h
  refine ⟨⟨d, RK_c h1 (fun k j q => e k j ?_)⟩, RI_c h2 (fun k j q => e k j ?_), RTp_c h3 (fun k j q => e k j ?_), s, RF_c h5 (fun k j q => e k j ?_), RWd_c h6 (fun j => e 80 j rfl) e2⟩
  · rw [Bool.eq_false_iff]
    intro hs
    simp only [qK, qS, Bool.or_eq_true, Bool.and_eq_true, beq_iff_eq, decide_eq_true_eq] at q hs
    omega
  · rw [Bool.eq_false_iff]
    intro hs
    simp only [qI, qS, Bool.or_eq_true, Bool.and_eq_true, beq_iff_eq, decide_eq_true_eq] at q hs
    omega
  · rw [Bool.eq_false_iff]
    intro hs
    simp only [qT, qS, Bool.or_eq_true, Bool.and_eq_true, beq_iff_eq, decide_eq_true_eq] at q hs
    omega
  · rw [Bool.eq_false_iff]
    intro hs
    simp only [qF, qS, Bool.or_eq_true, Bool.and_eq_true, beq_iff_eq, decide_eq_true_eq] at q hs
    omega
theorem f5' (σ : ES) : e_X9_finding 5 σ = some (-2000000001 - nI 5, fx 5 σ) := find_eq (k := 5) (by decide) σ
theorem cell1 (s : Nat) : 61 + 2 * s + 1 = 62 + 2 * s := by omega
theorem msh_s {s : Nat} (h : s < 4) : msh (61 + 2 * s) = true := by
  have : s = 0 ∨ s = 1 ∨ s = 2 ∨ s = 3 := by omega
  rcases this with e | e | e | e <;> subst e <;> rfl
theorem isSheet_eq (a : Int32) : e_X10_isSheet a = some (bi (ir 0 3 a)) := by
  simp only [e_X10_isSheet, min_eq, ob, bi_or, if_true]
  rfl
theorem ir03 {a : Int32} (h : ir 0 3 a = true) : ∃ s, s < 4 ∧ a = nI s := by
  obtain ⟨h1, h2⟩ := ir_iff.mp h
  obtain ⟨k, e, hk, rfl⟩ := nI_ex h1
  exact ⟨k, by omega, rfl⟩
/-- the fault of a number's place: by what both sides keep -/
def nf (σ : ES) (a b : Int32) : Int32 := if ir 0 3 a = true then (if eI σ 75 a.toNatClampNeg = 0 then 5 else if ir 0 (eI σ 76 a.toNatClampNeg - 1).toInt b = true then -1 else 0) else 0
theorem lacks_eq (σ : ES) (a b : Int32) : e_X10_lacks σ a b = some (nf σ a b) := by
  simp only [e_X10_lacks, isSheet_eq, ob, bi_0, nf]
  by_cases q : ir 0 3 a = true
  · obtain ⟨s, hs, rfl⟩ := ir03 q
    simp only [q, Bool.true_eq_false, if_false, if_true, mib_nI (show s < 4 by omega) (by decide)]
    by_cases q1 : eI σ 75 (nI s).toNatClampNeg = 0
    · simp only [q1, if_true]
    · simp only [q1, if_false, min_eq, ob, bi_0, t64]
      rw [show (0 : Int64).toInt = 0 from rfl]
      by_cases q2 : ir 0 (eI σ 76 (nI s).toNatClampNeg - 1).toInt b = true
      · rw [if_pos q2, if_neg (by rw [q2]; decide)]
      · rw [if_neg q2, if_pos (by simpa only [Bool.not_eq_true] using q2)]
  · simp [q]
theorem sfault_eq {σ : ES} (h : RSh σ) (a : Int32) : e_X9_sheetFault σ a = some (if ir 0 3 a = true then (if eI σ 75 a.toNatClampNeg = 0 then 5 else -1) else 0) := by
  have e1 : ir (0 : Int32).toInt (3 : Int32).toInt a = ir 0 3 a := rfl
  simp only [e_X9_sheetFault, within_eq, e1, ob, bi_0]
  by_cases q : ir 0 3 a = true
  · obtain ⟨s, hs, rfl⟩ := ir03 q
    obtain ⟨s1, s2, s3, s4, s5⟩ := h s hs
    simp only [q, Bool.true_eq_false, if_false, if_true, mib_nI (show s < 4 by omega) (by decide), nIc (show s < 2147483648 by omega), s1]
    by_cases c : eI σ (61 + 2 * s) 0 = 0 <;> simp [c]
  · simp [q]
theorem nfault_eq {σ : ES} (h : RSh σ) (a b : Int32) : e_X9_numberFault σ a b = some (nf σ a b) := by
  simp only [e_X9_numberFault, sfault_eq h, ob, nf]
  by_cases q : ir 0 3 a = true
  · obtain ⟨s, hs, rfl⟩ := ir03 q
    obtain ⟨s1, s2, s3, s4, s5⟩ := h s hs
    simp only [q, if_true, mib_nI (show s < 4 by omega) (by decide), nIc (show s < 2147483648 by omega), s1, s2]
    by_cases c : eI σ (61 + 2 * s) 0 = 0
    · simp [c]
    · simp only [c, if_false, if_true, within_eq, ob, bi_0]
      rw [show (0 : Int32).toInt = 0 from rfl]
      by_cases q2 : ir 0 (eI σ (61 + 2 * s) 1 - 1).toInt b = true
      · rw [if_pos q2, if_neg (by rw [q2]; decide)]
      · rw [if_neg q2, if_pos (by simpa only [Bool.not_eq_true] using q2)]
  · simp [q]
/-- a number's place that is there -/
theorem nf_ok {σ : ES} (h : RSh σ) {a b : Int32} (q : nf σ a b = -1) : ∃ s i, s < 4 ∧ i < 40 ∧ a = nI s ∧ b = nI i ∧ ¬ eI σ (61 + 2 * s) 0 = 0 := by
  unfold nf at q
  by_cases c : ir 0 3 a = true
  · obtain ⟨s, hs, rfl⟩ := ir03 c
    obtain ⟨s1, s2, s3, ⟨n, hn, en⟩, s5⟩ := h s hs
    rw [if_pos c, nIc (by omega), s1, s2, en] at q
    by_cases c1 : eI σ (61 + 2 * s) 0 = 0
    · rw [if_pos c1] at q
      cases q
    · rw [if_neg c1] at q
      by_cases c2 : ir 0 (nI n - 1).toInt b = true
      · rw [pred_nI (by omega)] at c2
        obtain ⟨i, hi, _, rfl⟩ := nI_ir c2
        exact ⟨s, i, hs, by omega, rfl, rfl, c1⟩
      · rw [if_neg c2] at q
        cases q
  · rw [if_neg c] at q
    cases q
theorem nf_cases (σ : ES) (a b : Int32) : nf σ a b = -1 ∨ nf σ a b = 0 ∨ nf σ a b = 5 := by
  unfold nf
  split
  · split
    · exact Or.inr (Or.inr rfl)
    · split
      · exact Or.inl rfl
      · exact Or.inr (Or.inl rfl)
  · exact Or.inr (Or.inl rfl)
theorem nf_fx (k : Nat) (σ : ES) (a b : Int32) : nf (fx k σ) a b = nf σ a b := rfl
theorem forty {s i : Nat} (hs : s < 4) (hi : i < 1000) : (40 : Int32) * nI s + nI i = nI (40 * s + i) := by
  have : (40 : Int32) = nI 40 := rfl
  rw [this, pk_mul, nI_add]
theorem sim_read : Sim_read Rel := by
  intro σ h a b
  have hR := h
  obtain ⟨⟨d, hk⟩, h2, h3, h4, h5, h6⟩ := h
  rcases nf_cases σ a b with e | e | e
  · obtain ⟨s, i, hs, hi, rfl, rfl, c⟩ := nf_ok h4 e
    refine ⟨eL σ (62 + 2 * s) i, σ, σ, ?_, ?_, hR⟩
    · simp only [e_X9_read, nfault_eq h4, ob, e, if_true, mib_nI (show s < 4 by omega) (by decide), mib_nI (show i < 40 by omega) (by decide), nIc (show s < 2147483648 by omega), nIc (show i < 2147483648 by omega), cell1]
    · simp only [e_X10_read, lacks_eq, ob, e]
      rw [if_pos (by decide), forty hs (by omega), if_pos (mib_nI (by omega) (by decide)), nIc (by omega), (h4 s hs).2.2.2.2 i hi]
  · refine ⟨-4000000000000000001 - (nI 0).toInt64, fx 0 σ, gx 0 (fx 0 σ), ?_, ?_, Rel_find 0 hR⟩
    · simp only [e_X9_read, nfault_eq h4, ob, e, lf0]
      rfl
    · simp only [e_X10_read, lacks_eq, ob, nf_fx, e, lg0]
      rfl
  · refine ⟨-4000000000000000001 - (nI 5).toInt64, fx 5 σ, gx 5 (fx 5 σ), ?_, ?_, Rel_find 5 hR⟩
    · simp only [e_X9_read, nfault_eq h4, ob, e, lf5]
      rfl
    · simp only [e_X10_read, lacks_eq, ob, nf_fx, e, lg5]
      rfl
def nar (b : Int32) (v : Int64) : Int64 := if b = 16 then v.toInt32.toInt16.toInt32.toInt64 else if b = 32 then v.toInt32.toInt64 else v
theorem narrow_eq (b : Int32) (v : Int64) : e_X10_narrow b v = some (nar b v) := by
  unfold e_X10_narrow nar
  split
  · rfl
  · split <;> rfl
theorem put_eq {s i : Nat} (hs : s < 4) (hi : i < 40) (v : Int64) (σ : ES) : e_X5_put (61 + 2 * s) (nI i) v σ = some (uL σ (62 + 2 * s) i (nar (eI σ (61 + 2 * s) 0) v)) := by
  simp only [e_X5_put, msh_s hs, if_true, mib_nI (show i < 40 by omega) (by decide), nIc (show i < 2147483648 by omega), cell1, nar]
  split
  · rfl
  · split <;> rfl
theorem RSh_put {σ : ES} (h : RSh σ) {s i : Nat} (hs : s < 4) (hi : i < 40) (v : Int64) : RSh (uL (uL σ (62 + 2 * s) i v) 77 (40 * s + i) v) := by
  intro s' hs'
  obtain ⟨s1, s2, s3, s4, s5⟩ := h s' hs'
  refine ⟨s1, s2, s3, s4, fun j hj => ?_⟩
  simp only [eL_uL]
  by_cases e : s' = s ∧ j = i
  · obtain ⟨rfl, rfl⟩ := e
    rw [if_pos (by simp), if_neg (by omega), if_pos (by simp)]
  · rw [if_neg (by omega), if_neg (by omega), if_neg (by omega), if_neg (by omega)]
    exact s5 j hj
theorem sim_write : Sim_write Rel := by
  intro σ h a b v
  have hR := h
  obtain ⟨⟨d, hk⟩, h2, h3, h4, h5, h6⟩ := h
  rcases nf_cases σ a b with e | e | e
  · obtain ⟨s, i, hs, hi, rfl, rfl, c⟩ := nf_ok h4 e
    have hb := (h4 s hs).1
    refine ⟨1, uL σ (62 + 2 * s) i (nar (eI σ (61 + 2 * s) 0) v), uL (uL σ (62 + 2 * s) i (nar (eI σ (61 + 2 * s) 0) v)) 77 (40 * s + i) (nar (eI σ (61 + 2 * s) 0) v), ?_, ?_, ?_⟩
    · simp only [e_X9_write, nfault_eq h4, ob, e, if_true, mib_nI (show s < 4 by omega) (by decide), nIc (show s < 2147483648 by omega), put_eq hs hi]
    · have en : nf (uL σ (62 + 2 * s) i (nar (eI σ (61 + 2 * s) 0) v)) (nI s) (nI i) = -1 := e
      simp only [e_X10_write, lacks_eq, ob, en, narrow_eq, eI_uL]
      rw [if_pos (by decide), if_pos (mib_nI (by omega) (by decide)), forty hs (by omega), if_pos (mib_nI (by omega) (by decide)), nIc (by omega), nIc (by omega), hb]
    · exact Rel_S hR (fun _ _ _ => rfl) (fun k j q => by have := qB_k q; rw [eL_uL, if_neg (by omega), eL_uL, if_neg (by omega)]) (RSh_put h4 hs hi _)
  · refine ⟨-2000000001 - nI 0, fx 0 σ, gx 0 (fx 0 σ), ?_, ?_, Rel_find 0 hR⟩
    · simp only [e_X9_write, nfault_eq h4, ob, e, f0]
      rfl
    · simp only [e_X10_write, lacks_eq, ob, nf_fx, e, g0]
      rfl
  · refine ⟨-2000000001 - nI 5, fx 5 σ, gx 5 (fx 5 σ), ?_, ?_, Rel_find 5 hR⟩
    · simp only [e_X9_write, nfault_eq h4, ob, e, f5]
      rfl
    · simp only [e_X10_write, lacks_eq, ob, nf_fx, e, g5]
      rfl
theorem begin_L {s : Nat} (hs : s < 4) (x y : Int32) : ∀ n k (σ : ES), k ≤ 40 → 40 - k < n → ∃ σ', e_X5_begin_L12 (61 + 2 * s) x y n (nI k) σ = some σ' ∧ (∀ a b, eI σ' a b = eI σ a b) ∧ ∀ a b, eL σ' a b = if a = 62 + 2 * s ∧ k ≤ b ∧ b < 40 then 0 else eL σ a b := by
  intro n
  induction n with
  | zero => intro k σ h1 h2; omega
  | succ n ih =>
    intro k σ h1 h2
    have le : (40 : Int32) ≤ nI k ↔ 40 ≤ k := nLe (a := 40) (by omega) (by omega)
    simp only [e_X5_begin_L12, msh_s hs, if_true, cell1]
    by_cases c : 40 ≤ k
    · refine ⟨σ, if_pos (le.mpr c), fun _ _ => rfl, fun a b => ?_⟩
      rw [if_neg (by omega)]
    · rw [if_neg (fun x => c (le.mp x)), if_pos (mib_nI (by omega) (by decide)), nIc (by omega), nI_1]
      obtain ⟨σ', e, e1, e2⟩ := ih (k + 1) (uL σ (62 + 2 * s) k 0) (by omega) (by omega)
      refine ⟨σ', e, e1, fun a b => ?_⟩
      rw [e2, eL_uL]
      by_cases c1 : a = 62 + 2 * s ∧ k ≤ b ∧ b < 40
      · rw [if_pos c1]
        by_cases c2 : a = 62 + 2 * s ∧ k + 1 ≤ b ∧ b < 40
        · rw [if_pos c2]
        · rw [if_neg c2, if_pos (by omega)]
      · rw [if_neg c1, if_neg (by omega), if_neg (by omega)]
theorem sheet_L {s : Nat} (hs : s < 4) (x y : Int32) : ∀ n k (σ : ES), k ≤ 40 → 40 - k < n → ∃ σ', e_X10_sheet_L91 (nI s) x y n (nI k) σ = some (eI σ 76 s, σ') ∧ (∀ a b, eI σ' a b = eI σ a b) ∧ ∀ a b, eL σ' a b = if a = 77 ∧ 40 * s + k ≤ b ∧ b < 40 * s + 40 then 0 else eL σ a b := by
  intro n
  induction n with
  | zero => intro k σ h1 h2; omega
  | succ n ih =>
    intro k σ h1 h2
    have le : (40 : Int32) ≤ nI k ↔ 40 ≤ k := nLe (a := 40) (by omega) (by omega)
    simp only [e_X10_sheet_L91, mib_nI (show s < 4 by omega) (by decide), if_true, nIc (show s < 2147483648 by omega)]
    by_cases c : 40 ≤ k
    · refine ⟨σ, if_pos (le.mpr c), fun _ _ => rfl, fun a b => ?_⟩
      rw [if_neg (by omega)]
    · rw [if_neg (fun x => c (le.mp x)), forty hs (by omega), if_pos (mib_nI (by omega) (by decide)), nIc (by omega), nI_1]
      obtain ⟨σ', e, e1, e2⟩ := ih (k + 1) (uL σ 77 (40 * s + k) 0) (by omega) (by omega)
      refine ⟨σ', e, e1, fun a b => ?_⟩
      rw [e2, eL_uL]
      by_cases c1 : a = 77 ∧ 40 * s + k ≤ b ∧ b < 40 * s + 40
      · rw [if_pos c1]
        by_cases c2 : a = 77 ∧ 40 * s + (k + 1) ≤ b ∧ b < 40 * s + 40
        · rw [if_pos c2]
        · rw [if_neg c2, if_pos (by omega)]
      · rw [if_neg c1, if_neg (by omega), if_neg (by omega)]
theorem sheet_ok {σ : ES} (hR : Rel σ) {s : Nat} (hs : s < 4) (b x y : Int32) (hb : b = 0 ∨ b = 16 ∨ b = 32 ∨ b = 64) (n : Nat) (hn : n ≤ 40) : ∃ (r : Int32) (σ1 σ2 : ES), e_X9_sheet_J84 (nI s) x y (61 + 2 * s) b (nI n) σ = some (r, σ1) ∧ e_X10_sheet_L91 (nI s) x y mN 0 (uI (uI σ1 75 s b) 76 s (nI n)) = some (r, σ2) ∧ Rel σ2 := by
  have h4 := hR.2.2.2.1
  obtain ⟨σ1, e, e1, e2⟩ := begin_L hs b (nI n) mN 0 (uI (uI σ (61 + 2 * s) 0 b) (61 + 2 * s) 1 (nI n)) (by omega) (mN_big (by omega))
  obtain ⟨σ2, g, g1, g2⟩ := sheet_L hs x y mN 0 (uI (uI σ1 75 s b) 76 s (nI n)) (by omega) (mN_big (by omega))
  have a1 : eI σ1 (61 + 2 * s) 1 = nI n := by
    rw [e1, eI_uI, if_pos ⟨rfl, rfl⟩]
  have a2 : eI (uI (uI σ1 75 s b) 76 s (nI n)) 76 s = nI n := by
    rw [eI_uI, if_pos ⟨rfl, rfl⟩]
  refine ⟨nI n, σ1, σ2, ?_, ?_, ?_⟩
  · rw [nI_lit0] at e
    simp only [e_X9_sheet_J84, e_X5_begin, msh_s hs, if_true, e, ob, mib_nI (show s < 4 by omega) (by decide), nIc (show s < 2147483648 by omega), a1]
  · rw [nI_lit0, a2] at g
    exact g
  · refine Rel_S hR (fun a j hq => ?_) (fun k j q => by have := qB_k q; rw [g2, if_neg (by omega), eL_uI, eL_uI, e2, if_neg (by omega), eL_uI, eL_uI]) (fun s' hs' => ?_)
    · have n1 : a ≠ 75 := by rintro rfl; cases hq
      have n2 : a ≠ 76 := by rintro rfl; cases hq
      have n3 : a ≠ 61 + 2 * s := by
        rintro rfl
        have : s = 0 ∨ s = 1 ∨ s = 2 ∨ s = 3 := by omega
        rcases this with e | e | e | e <;> subst e <;> cases hq
      rw [g1, eI_uI, if_neg (by omega), eI_uI, if_neg (by omega), e1, eI_uI, if_neg (by omega), eI_uI, if_neg (by omega)]
    · obtain ⟨s1, s2, s3, s4, s5⟩ := h4 s' hs'
      have L : ∀ j, j < 40 → eL σ2 77 (40 * s' + j) = eL σ2 (62 + 2 * s') j := by
        intro j hj
        rw [g2, g2]
        simp only [eL_uI]
        rw [e2, e2]
        simp only [eL_uI]
        by_cases c : s' = s
        · subst c
          simp [hj]
        · repeat (first | exact s5 j hj | rw [if_neg (by omega)])
      have B : eI σ2 75 s' = if s' = s then b else eI σ 75 s' := by
        rw [g1, eI_uI, eI_uI, e1, eI_uI, eI_uI]
        by_cases c : s' = s
        · rw [if_neg (by omega), if_pos (by omega), if_pos c]
        · rw [if_neg (by omega), if_neg (by omega), if_neg (by omega), if_neg (by omega), if_neg c]
      have S : eI σ2 76 s' = if s' = s then nI n else eI σ 76 s' := by
        rw [g1, eI_uI, eI_uI, e1, eI_uI, eI_uI]
        by_cases c : s' = s
        · rw [if_pos (by omega), if_pos c]
        · rw [if_neg (by omega), if_neg (by omega), if_neg (by omega), if_neg (by omega), if_neg c]
      have C0 : eI σ2 (61 + 2 * s') 0 = if s' = s then b else eI σ (61 + 2 * s') 0 := by
        rw [g1, eI_uI, eI_uI, e1, eI_uI, eI_uI]
        by_cases c : s' = s
        · rw [if_neg (by omega), if_neg (by omega), if_neg (by omega), if_pos (by omega), if_pos c]
        · rw [if_neg (by omega), if_neg (by omega), if_neg (by omega), if_neg (by omega), if_neg c]
      have C1 : eI σ2 (61 + 2 * s') 1 = if s' = s then nI n else eI σ (61 + 2 * s') 1 := by
        rw [g1, eI_uI, eI_uI, e1, eI_uI, eI_uI]
        by_cases c : s' = s
        · rw [if_neg (by omega), if_neg (by omega), if_pos (by omega), if_pos c]
        · rw [if_neg (by omega), if_neg (by omega), if_neg (by omega), if_neg (by omega), if_neg c]
      rw [B, S, C0, C1]
      by_cases c : s' = s
      · simp only [c, if_true]
        subst c
        exact ⟨trivial, trivial, hb, ⟨n, hn, rfl⟩, L⟩
      · simp only [c, if_false]
        exact ⟨s1, s2, s3, s4, L⟩
theorem sim_sheet : Sim_sheet Rel := by
  intro σ h a b c
  have hR := h
  have e1 : ir (0 : Int32).toInt (3 : Int32).toInt a = ir 0 3 a := rfl
  have fail : ∀ k, e_X9_sheet a b c σ = some (-2000000001 - nI k, fx k σ) → e_X10_sheet a b c (fx k σ) = some (-2000000001 - nI k, gx k (fx k σ)) → ∃ (r : Int32) (σ1 : ES) (σ2 : ES), e_X9_sheet a b c σ = some (r, σ1) ∧ e_X10_sheet a b c σ1 = some (r, σ2) ∧ Rel σ2 := fun k q1 q2 => ⟨_, _, _, q1, q2, Rel_find k hR⟩
  by_cases q0 : ir 0 3 a = true
  · obtain ⟨s, hs, rfl⟩ := ir03 q0
    by_cases qb : b = 0 ∨ b = 16 ∨ b = 32 ∨ b = 64
    · have C : e_X9_sheet (nI s) b c σ = e_X9_sheet_J37 (nI s) b c σ := by
        simp only [e_X9_sheet, within_eq, e1, q0, ob, bi_0, Bool.true_eq_false, if_false]
        rcases qb with e | e | e | e <;> subst e <;> rfl
      have M : ∀ τ, e_X10_sheet (nI s) b c τ = e_X10_sheet_J35 (nI s) b c τ := by
        intro τ
        simp only [e_X10_sheet, isSheet_eq, q0, ob, bi_0, Bool.true_eq_false, if_false]
        rcases qb with e | e | e | e <;> subst e <;> rfl
      have hmi : mib (nI s) 4 = true := mib_nI (by omega) (by decide)
      have hnc : (nI s).toNatClampNeg = s := nIc (by omega)
      simp only [C, M] at fail
      simp only [C, M]
      by_cases z : b = 0
      · subst z
        obtain ⟨r, σ1, σ2, g1, g2, g3⟩ := sheet_ok hR hs 0 0 c (Or.inl rfl) 0 (by omega)
        refine ⟨r, σ1, σ2, ?_, ?_, g3⟩
        · simp only [e_X9_sheet_J37, e_X9_sheet_J52, e_X9_sheet_J68, if_true, hmi, hnc]
          exact g1
        · simp only [e_X10_sheet_J35, e_X10_sheet_J50, e_X10_sheet_J66, if_true, hmi, hnc]
          rw [nI_lit0] at g2
          exact g2
      · by_cases p1 : 0 ≤ c
        · by_cases p2 : c ≤ 40
          · have p1' := le32.mp p1
            have p2' := le32.mp p2
            rw [show (0 : Int32).toInt = 0 from rfl] at p1'
            rw [show (40 : Int32).toInt = 40 from rfl] at p2'
            obtain ⟨n, en, hn, rfl⟩ := nI_ex p1'
            obtain ⟨r, σ1, σ2, g1, g2, g3⟩ := sheet_ok hR hs b b (nI n) qb n (by omega)
            refine ⟨r, σ1, σ2, ?_, ?_, g3⟩
            · simp only [e_X9_sheet_J37, e_X9_sheet_J52, e_X9_sheet_J68, if_true, hmi, hnc, z, if_false, p1, p2]
              exact g1
            · simp only [e_X10_sheet_J35, e_X10_sheet_J50, e_X10_sheet_J66, if_true, hmi, hnc, z, if_false, p1, p2]
              exact g2
          · apply fail 0
            · simp only [e_X9_sheet_J37, e_X9_sheet_J52, z, if_false, p1, p2, if_true, f0, ob]
            · simp only [e_X10_sheet_J35, e_X10_sheet_J50, z, if_false, p1, p2, if_true, g0, ob]
        · apply fail 6
          · simp only [e_X9_sheet_J37, z, if_false, p1, f6, ob]
          · simp only [e_X10_sheet_J35, z, if_false, p1, g6, ob]
    · have n0 : ¬ b = 0 := fun e => qb (Or.inl e)
      have n1 : ¬ b = 16 := fun e => qb (Or.inr (Or.inl e))
      have n2 : ¬ b = 32 := fun e => qb (Or.inr (Or.inr (Or.inl e)))
      have n3 : ¬ b = 64 := fun e => qb (Or.inr (Or.inr (Or.inr e)))
      apply fail 0
      · simp only [e_X9_sheet, within_eq, e1, q0, ob, bi_0, Bool.true_eq_false, if_false, n0, n1, n2, n3, f0]
      · simp only [e_X10_sheet, isSheet_eq, q0, ob, bi_0, Bool.true_eq_false, if_false, n0, n1, n2, n3, g0]
  · have q0 : ir 0 3 a = false := by simpa using q0
    apply fail 0
    · simp only [e_X9_sheet, within_eq, e1, q0, ob, bi_0, if_true, f0]
    · simp only [e_X10_sheet, isSheet_eq, q0, ob, bi_0, if_true, g0]
