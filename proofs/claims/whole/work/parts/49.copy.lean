/-! ===== copy, lays ===== -/
theorem subn {n w : Nat} (h1 : n < 2147483648) (h2 : w < 2147483648) : (nI n - nI w).toInt = (n : Int) - w := by
  rw [sub32, nIt h1, nIt h2] <;> rw [nIt h1, nIt h2] <;> omega
theorem run_eq {σ : ES} {s n : Nat} (hs : s < 4) (hn : n ≤ 40) (en : eI σ (61 + 2 * s) 1 = nI n) (p z : Int32) : e_X5_hasRun σ (61 + 2 * s) p z = some (bi (decide (0 ≤ p.toInt ∧ 0 ≤ z.toInt ∧ p.toInt + z.toInt ≤ n))) := by
  have z0 : (0 : Int32).toInt = 0 := rfl
  simp only [e_X5_hasRun, msh_s hs, if_true, en, within_eq, ob, bi_0, z0, nIt (show n < 2147483648 by omega)]
  by_cases c1 : p < 0
  · rw [if_pos c1]
    rw [lt32, z0] at c1
    rw [decide_eq_false (by omega)]
    rfl
  · rw [if_neg c1]
    rw [lt32, z0] at c1
    by_cases c2 : ir 0 n z = true
    · rw [if_neg (by rw [c2]; decide)]
      obtain ⟨d1, d2⟩ := ir_iff.mp c2
      have e : (nI n - z).toInt = n - z.toInt := by
        rw [sub32, nIt (by omega)] <;> rw [nIt (by omega)] <;> omega
      by_cases c3 : nI n - z < p
      · rw [if_pos c3]
        rw [lt32, e] at c3
        rw [decide_eq_false (by omega)]
        rfl
      · rw [if_neg c3]
        rw [lt32, e] at c3
        rw [decide_eq_true (by omega)]
        rfl
    · rw [if_pos (by simpa only [Bool.not_eq_true] using c2)]
      rw [ir_iff] at c2
      rw [decide_eq_false (by omega)]
      rfl
theorem copyA {s t p q m : Nat} (hs : s < 4) (ht : t < 4) (hp : p + m ≤ 40) (hq : q + m ≤ 40) (n k : Nat) (σ : ES) (h1 : k ≤ m) (h2 : m - k < n) : ∃ σ', e_X10_copy_L115 (nI s) (nI p) (nI t) (nI q) (nI m) n (nI k) σ = e_X10_copy_L152 (nI s) (nI p) (nI t) (nI q) (nI m) mN 0 σ' ∧ (∀ a b, eI σ' a b = eI σ a b) ∧ ∀ a i, eL σ' a i = if a = 78 ∧ k ≤ i ∧ i < m then eL σ 77 (40 * s + p + i) else eL σ a i := by
  induction n generalizing k σ with
  | zero => omega
  | succ n ih =>
    have le : nI m ≤ nI k ↔ m ≤ k := nLe (by omega) (by omega)
    simp only [e_X10_copy_L115]
    by_cases c : m ≤ k
    · refine ⟨σ, if_pos (le.mpr c), fun _ _ => rfl, fun a i => ?_⟩
      rw [if_neg (by omega)]
    · rw [if_neg (fun x => c (le.mp x)), forty hs (by omega), nI_add, if_pos (mib_nI (by omega) (by decide)), if_pos (mib_nI (by omega) (by decide)), nIc (by omega), nIc (by omega), nI_1]
      obtain ⟨σ', e, e1, e2⟩ := ih (k + 1) (uL σ 78 k (eL σ 77 (40 * s + p + k))) (by omega) (by omega)
      refine ⟨σ', e, e1, fun a i => ?_⟩
      rw [e2, eL_uL, eL_uL, if_neg (show ¬ (77 = 78 ∧ 40 * s + p + i = k) by omega)]
      by_cases c1 : a = 78 ∧ k ≤ i ∧ i < m
      · rw [if_pos c1]
        by_cases c2 : a = 78 ∧ k + 1 ≤ i ∧ i < m
        · rw [if_pos c2]
        · have : i = k := by omega
          subst this
          rw [if_neg c2, if_pos (by omega)]
      · rw [if_neg c1, if_neg (by omega), if_neg (by omega)]
theorem copyB {s t p q m : Nat} (hs : s < 4) (ht : t < 4) (hp : p + m ≤ 40) (hq : q + m ≤ 40) (n k : Nat) (σ : ES) (h1 : k ≤ m) (h2 : m - k < n) : ∃ σ', e_X10_copy_L152 (nI s) (nI p) (nI t) (nI q) (nI m) n (nI k) σ = some (nI m, σ') ∧ (∀ a b, eI σ' a b = eI σ a b) ∧ ∀ a i, eL σ' a i = if a = 77 ∧ 40 * t + q + k ≤ i ∧ i < 40 * t + q + m then eL σ 78 (i - (40 * t + q)) else eL σ a i := by
  induction n generalizing k σ with
  | zero => omega
  | succ n ih =>
    have le : nI m ≤ nI k ↔ m ≤ k := nLe (by omega) (by omega)
    simp only [e_X10_copy_L152]
    by_cases c : m ≤ k
    · refine ⟨σ, if_pos (le.mpr c), fun _ _ => rfl, fun a i => ?_⟩
      rw [if_neg (by omega)]
    · rw [if_neg (fun x => c (le.mp x)), forty ht (by omega), nI_add, if_pos (mib_nI (by omega) (by decide)), if_pos (mib_nI (by omega) (by decide)), nIc (by omega), nIc (by omega), nI_1]
      obtain ⟨σ', e, e1, e2⟩ := ih (k + 1) (uL σ 77 (40 * t + q + k) (eL σ 78 k)) (by omega) (by omega)
      refine ⟨σ', e, e1, fun a i => ?_⟩
      rw [e2, eL_uL, eL_uL, if_neg (show ¬ (78 = 77 ∧ i - (40 * t + q) = 40 * t + q + k) by omega)]
      by_cases c1 : a = 77 ∧ 40 * t + q + k ≤ i ∧ i < 40 * t + q + m
      · rw [if_pos c1]
        by_cases c2 : a = 77 ∧ 40 * t + q + (k + 1) ≤ i ∧ i < 40 * t + q + m
        · rw [if_pos c2]
        · have : i = 40 * t + q + k := by omega
          subst this
          rw [if_neg c2, if_pos (by omega)]
          congr 1
          omega
      · rw [if_neg c1, if_neg (by omega), if_neg (by omega)]
theorem copy_ok {s t p q m : Nat} (hs : s < 4) (ht : t < 4) (hp : p + m ≤ 40) (hq : q + m ≤ 40) {σ : ES} (hR : Rel σ) : ∃ σ2, e_X10_copy_L115 (nI s) (nI p) (nI t) (nI q) (nI m) mN 0 (ecL σ (62 + 2 * s) p (62 + 2 * t) q m) = some (nI m, σ2) ∧ Rel σ2 := by
  have h4 := hR.2.2.2.1
  obtain ⟨σ1, e, e1, e2⟩ := copyA hs ht hp hq mN 0 (ecL σ (62 + 2 * s) p (62 + 2 * t) q m) (by omega) (mN_big (by omega))
  obtain ⟨σ2, g, g1, g2⟩ := copyB hs ht hp hq mN 0 σ1 (by omega) (mN_big (by omega))
  rw [nI_lit0] at e g
  refine ⟨σ2, e.trans g, Rel_S hR (fun a b _ => by rw [g1, e1]; rfl) (fun k j q => by have := qB_k q; rw [g2, if_neg (by omega), e2, if_neg (by omega), eL_cL, if_neg (by omega)]) (fun s' hs' => ?_)⟩
  obtain ⟨s1, s2, s3, s4, s5⟩ := h4 s' hs'
  have E : ∀ a b, eI σ2 a b = eI σ a b := fun a b => by rw [g1, e1]; rfl
  simp only [E]
  refine ⟨s1, s2, s3, s4, fun j hj => ?_⟩
  have r1 : eL σ2 (62 + 2 * s') j = eL (ecL σ (62 + 2 * s) p (62 + 2 * t) q m) (62 + 2 * s') j := by
    rw [g2, if_neg (by omega), e2, if_neg (by omega)]
  rw [r1, g2]
  by_cases c : 40 * t + q ≤ 40 * s' + j ∧ 40 * s' + j < 40 * t + q + m
  · have est : s' = t := by omega
    subst est
    rw [if_pos (by omega), e2, if_pos (by omega), eL_cL, eL_cL, if_neg (by omega), if_pos rfl, if_pos (by omega)]
    have := (h4 s hs).2.2.2.2 (p + (j - q)) (by omega)
    rw [← this]
    congr 1
    omega
  · rw [if_neg (by omega), e2, if_neg (by omega), eL_cL, eL_cL, if_neg (by omega)]
    by_cases c2 : s' = t
    · subst c2
      rw [if_pos rfl, if_neg (by omega)]
      exact s5 j hj
    · rw [if_neg (by omega)]
      exact s5 j hj
theorem sim_copy : Sim_copy Rel := by
  intro σ h a b c e z
  have hR := h
  have h4 := hR.2.2.2.1
  have e1 : ∀ x, ir (0 : Int32).toInt (3 : Int32).toInt x = ir 0 3 x := fun _ => rfl
  have fail : ∀ k, e_X9_copy a b c e z σ = some (-2000000001 - nI k, fx k σ) → e_X10_copy a b c e z (fx k σ) = some (-2000000001 - nI k, gx k (fx k σ)) → ∃ (r : Int32) (σ1 : ES) (σ2 : ES), e_X9_copy a b c e z σ = some (r, σ1) ∧ e_X10_copy a b c e z σ1 = some (r, σ2) ∧ Rel σ2 := fun k q1 q2 => ⟨_, _, _, q1, q2, Rel_find k hR⟩
  by_cases q0 : ir 0 3 a = true
  · by_cases q1 : ir 0 3 c = true
    · obtain ⟨s, hs, rfl⟩ := ir03 q0
      obtain ⟨t, ht, rfl⟩ := ir03 q1
      have hmi : mib (nI s) 4 = true := mib_nI (by omega) (by decide)
      have hnc : (nI s).toNatClampNeg = s := nIc (by omega)
      have hmj : mib (nI t) 4 = true := mib_nI (by omega) (by decide)
      have hnd : (nI t).toNatClampNeg = t := nIc (by omega)
      obtain ⟨s1, s2, s3, ⟨n, hn, en⟩, s5⟩ := h4 s hs
      obtain ⟨t1, t2, t3, ⟨m, hm, em⟩, t5⟩ := h4 t ht
      have F : ∀ k a b, a ≠ 60 → eI (fx k σ) a b = eI σ a b := fun k a b ha => by
        unfold fx
        rw [eI_uI, if_neg (by omega)]
      by_cases q2 : eI σ (61 + 2 * s) 0 = 0
      · apply fail 5
        · simp only [e_X9_copy, within_eq, e1, q0, q1, ob, bi_0, Bool.true_eq_false, if_false, hmi, hnc, if_true, q2, f5]
        · simp only [e_X10_copy, isSheet_eq, q0, q1, ob, bi_0, Bool.true_eq_false, if_false, hmi, hnc, if_true, F 5 75 s (by decide), s1, q2, g5]
      · by_cases q3 : eI σ (61 + 2 * t) 0 = 0
        · apply fail 5
          · simp only [e_X9_copy, within_eq, e1, q0, q1, ob, bi_0, Bool.true_eq_false, if_false, hmi, hnc, hmj, hnd, if_true, q2, q3, f5]
          · simp only [e_X10_copy, isSheet_eq, q0, q1, ob, bi_0, Bool.true_eq_false, if_false, hmi, hnc, hmj, hnd, if_true, F 5 75 s (by decide), F 5 75 t (by decide), s1, t1, q2, q3, g5]
        · by_cases q4 : eI σ (61 + 2 * s) 0 = eI σ (61 + 2 * t) 0
          · by_cases q5 : (0 ≤ b.toInt ∧ 0 ≤ z.toInt ∧ b.toInt + z.toInt ≤ n) ∧ 0 ≤ e.toInt ∧ 0 ≤ z.toInt ∧ e.toInt + z.toInt ≤ m
            · obtain ⟨⟨x1, x2, x3⟩, x4, x5, x6⟩ := q5
              obtain ⟨p, ep, hp, rfl⟩ := nI_ex x1
              obtain ⟨w, ew, hw, rfl⟩ := nI_ex x2
              obtain ⟨q, eq', hq, rfl⟩ := nI_ex x4
              obtain ⟨σ2, g, g'⟩ := copy_ok hs ht (p := p) (q := q) (m := w) (by omega) (by omega) hR
              refine ⟨nI w, ecL σ (62 + 2 * s) p (62 + 2 * t) q w, σ2, ?_, ?_, g'⟩
              · have d1 : mcpl 40 40 (nI p) (nI q) (nI w) = true := by
                  simp only [mcpl, Bool.and_eq_true, Bool.not_eq_true', decide_eq_false_iff_not, decide_eq_true_eq]
                  rw [nIc hp, nIc hw, nIc hq]
                  exact ⟨⟨⟨⟨nI_pos hp, nI_pos hq⟩, nI_pos hw⟩, by omega⟩, by omega⟩
                have w1 : decide (0 ≤ (nI p).toInt ∧ 0 ≤ (nI w).toInt ∧ (nI p).toInt + (nI w).toInt ≤ (n : Int)) = true := decide_eq_true ⟨x1, x2, x3⟩
                have w2 : decide (0 ≤ (nI q).toInt ∧ 0 ≤ (nI w).toInt ∧ (nI q).toInt + (nI w).toInt ≤ (m : Int)) = true := decide_eq_true ⟨x4, x5, x6⟩
                have q3' : ¬ eI σ (61 + 2 * s) 0 = 0 := q2
                simp only [e_X9_copy, within_eq, e1, q0, q1, ob, bi_0, Bool.true_eq_false, if_false, hmi, hnc, hmj, hnd, if_true, q2, q3, q4, run_eq hs hn en, run_eq ht hm em, w1, w2, d1, cell1, nIc hp, nIc hq, nIc hw]
              · have i1 : ∀ a b, eI (ecL σ (62 + 2 * s) p (62 + 2 * t) q w) a b = eI σ a b := fun _ _ => rfl
                have v0 : ∀ k : Nat, k < 2147483648 → ¬ nI k < 0 := fun k hk => nI_pos hk
                have v1 : ¬ nI n - nI w < nI p := by
                  rw [lt32, subn (by omega) hw, nIt hp]
                  omega
                have v2 : nI q ≤ nI m - nI w := by
                  rw [le32, subn (by omega) hw, nIt hq]
                  omega
                simp only [e_X10_copy, isSheet_eq, q0, q1, ob, bi_0, Bool.true_eq_false, if_false, hmi, hnc, hmj, hnd, if_true, i1, s1, t1, s2, t2, en, em, q2, q3, q4, v0 p hp, v0 q hq, v0 w hw, v1, v2]
                exact g
            · apply fail 0
              · simp only [e_X9_copy, within_eq, e1, q0, q1, ob, bi_0, Bool.true_eq_false, if_false, hmi, hnc, hmj, hnd, if_true, q2, q3, q4, run_eq hs hn en, run_eq ht hm em, f0]
                by_cases y1 : 0 ≤ b.toInt ∧ 0 ≤ z.toInt ∧ b.toInt + z.toInt ≤ n
                · have y2 : ¬ (0 ≤ e.toInt ∧ 0 ≤ z.toInt ∧ e.toInt + z.toInt ≤ m) := fun y => q5 ⟨y1, y⟩
                  rw [decide_eq_true y1, decide_eq_false y2]
                  simp
                · rw [decide_eq_false y1]
                  simp
              · have z0 : (0 : Int32).toInt = 0 := rfl
                simp only [e_X10_copy, isSheet_eq, q0, q1, ob, bi_0, Bool.true_eq_false, if_false, hmi, hnc, hmj, hnd, if_true, F 0 75 s (by decide), F 0 75 t (by decide), F 0 76 s (by decide), F 0 76 t (by decide), s1, t1, s2, t2, en, em, q2, q3, q4, g0]
                by_cases y1 : z < 0
                · rw [if_pos y1]
                · rw [if_neg y1]
                  by_cases y2 : b < 0
                  · rw [if_pos y2]
                  · rw [if_neg y2]
                    by_cases y3 : e < 0
                    · rw [if_pos y3]
                    · rw [if_neg y3]
                      rw [lt32, z0] at y1 y2 y3
                      have rz := r32 z
                      have v1 : (nI n - z).toInt = n - z.toInt := by
                        rw [sub32, nIt (by omega)] <;> rw [nIt (by omega)] <;> omega
                      have v2 : (nI m - z).toInt = m - z.toInt := by
                        rw [sub32, nIt (by omega)] <;> rw [nIt (by omega)] <;> omega
                      by_cases y4 : nI n - z < b
                      · rw [if_pos y4]
                      · rw [if_neg y4]
                        rw [lt32, v1] at y4
                        rw [if_neg]
                        rw [le32, v2]
                        omega
          · apply fail 2
            · simp only [e_X9_copy, within_eq, e1, q0, q1, ob, bi_0, Bool.true_eq_false, if_false, hmi, hnc, hmj, hnd, if_true, q2, q3, q4, f2]
            · simp only [e_X10_copy, isSheet_eq, q0, q1, ob, bi_0, Bool.true_eq_false, if_false, hmi, hnc, hmj, hnd, if_true, F 2 75 s (by decide), F 2 75 t (by decide), s1, t1, q2, q3, q4, g2]
    · have q1 : ir 0 3 c = false := by simpa using q1
      apply fail 0
      · simp only [e_X9_copy, within_eq, e1, q0, q1, ob, bi_0, Bool.true_eq_false, if_false, if_true, f0]
      · simp only [e_X10_copy, isSheet_eq, q0, q1, ob, bi_0, Bool.true_eq_false, if_false, if_true, g0]
  · have q0 : ir 0 3 a = false := by simpa using q0
    apply fail 0
    · simp only [e_X9_copy, within_eq, e1, q0, ob, bi_0, if_true, f0]
    · simp only [e_X10_copy, isSheet_eq, q0, ob, bi_0, if_true, g0]
