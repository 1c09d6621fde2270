/-! ===== lays, feed ===== -/
theorem Rel_kk {σ σ' : ES} {d : CD} (h : Rel σ) (e : ∀ k j, (qI k j || qT k j || qS k || qF k || k == 80) = true → eI σ' k j = eI σ k j) (e2 : ∀ k j, (qL k || qB k j) = true → eL σ' k j = eL σ k j) (hd : RK σ' d) : Rel σ' := by
  obtain ⟨_, h2, h3, h4, h5, h6⟩ := h
  exact ⟨⟨d, hd⟩, RI_c h2 (fun k j q => e k j (by simp [q])), RTp_c h3 (fun k j q => e k j (by simp [q])), RSh_c h4 (fun k j q => e k j (by simp [q])) (fun k j q => e2 k j (by simp [q])), RF_c h5 (fun k j q => e k j (by simp [q])), RWd_c h6 (fun j => e 80 j (by simp)) (fun k j q => e2 k j (by simp [q]))⟩
def inr (v : Int64) : Bool := il (-999999999) 999999999 v
def cl (g : Nat → Int64) : Nat → Nat → Int32 → Int32
  | 0, _, x => x
  | r + 1, k, x => cl g r (k + 1) (if inr (g k) = true then x + 1 else x)
theorem laysC {s m : Nat} (hs : s < 4) (hm : m ≤ 14) (g : Nat → Int64) : ∀ n k (x : Int32) (σ : ES), (∀ i, i < 40 → eL σ (62 + 2 * s) i = g i) → k ≤ m → m - k < n → ∃ σ', e_X9_lays_L43 (nI s) n x (nI m) (nI k) σ = some (cl g (m - k) k x, σ') ∧ (∀ a b, eL σ' a b = eL σ a b) ∧ ∀ a b, eI σ' a b = if a = 5 ∧ k ≤ b ∧ b < m ∧ inr (g b) = true then (g b).toInt32 else eI σ a b := by
  intro n
  induction n with
  | zero => intro k x σ hg h1 h2; omega
  | succ n ih =>
    intro k x σ hg h1 h2
    have le : nI m ≤ nI k ↔ m ≤ k := nLe (by omega) (by omega)
    simp only [e_X9_lays_L43, mib_nI (show s < 4 by omega) (by decide), if_true, cell1, nIc (show s < 2147483648 by omega)]
    by_cases c : m ≤ k
    · refine ⟨σ, ?_, fun _ _ => rfl, fun a b => ?_⟩
      · rw [if_pos (le.mpr c), show m - k = 0 by omega]
        rfl
      · rw [if_neg (by omega)]
    · rw [if_neg (fun x => c (le.mp x)), if_pos (mib_nI (by omega) (by decide)), nIc (by omega), nI_1, hg k (by omega), show m - k = (m - (k + 1)) + 1 by omega]
      have r1 : (-999999999 : Int64).toInt = -999999999 := rfl
      have r2 : (999999999 : Int64).toInt = 999999999 := rfl
      by_cases q : inr (g k) = true
      · obtain ⟨q1, q2⟩ := il_iff.mp q
        rw [if_neg (by rw [lt64, r1]; omega), if_neg (by rw [lt64, r2]; omega), if_pos (mib_nI (by omega) (by decide))]
        obtain ⟨σ', e, e1, e2⟩ := ih (k + 1) (x + 1) (uI σ 5 k (g k).toInt32) hg (by omega) (by omega)
        refine ⟨σ', ?_, e1, fun a b => ?_⟩
        · rw [e, cl, if_pos q]
        · rw [e2, eI_uI]
          by_cases c1 : a = 5 ∧ b = k
          · obtain ⟨rfl, rfl⟩ := c1
            rw [if_neg (by omega), if_pos ⟨rfl, rfl⟩, if_pos ⟨rfl, by omega, by omega, q⟩]
          · rw [if_neg c1]
            by_cases c2 : a = 5 ∧ k ≤ b ∧ b < m ∧ inr (g b) = true
            · rw [if_pos c2, if_pos ⟨c2.1, by omega, c2.2.2⟩]
            · rw [if_neg c2, if_neg (fun x => c2 ⟨x.1, by omega, x.2.2⟩)]
      · obtain ⟨σ', e, e1, e2⟩ := ih (k + 1) x σ hg (by omega) (by omega)
        refine ⟨σ', ?_, e1, fun a b => ?_⟩
        · rw [cl, if_neg q, e]
          have q' : ¬ (-999999999 ≤ (g k).toInt ∧ (g k).toInt ≤ 999999999) := fun y => q (il_iff.mpr y)
          by_cases c1 : g k < -999999999
          · rw [if_pos c1]
          · rw [if_neg c1]
            rw [lt64, r1] at c1
            rw [if_pos (by rw [lt64, r2]; omega)]
        · rw [e2]
          by_cases c2 : a = 5 ∧ k ≤ b ∧ b < m ∧ inr (g b) = true
          · have : b ≠ k := by
              rintro rfl
              exact q c2.2.2.2
            rw [if_pos c2, if_pos ⟨c2.1, by omega, c2.2.2⟩]
          · rw [if_neg c2, if_neg (fun x => c2 ⟨x.1, by omega, x.2.2⟩)]
theorem laysM {s m z N : Nat} (hs : s < 4) (hz : z ≤ 40) (hN : N ≤ 14) (hm : m = if N < z then N else z) (g : Nat → Int64) : ∀ n k (x : Int32) (σ : ES), eI σ 76 s = nI z → eI σ 69 3 = nI N → (∀ i, i < 40 → eL σ 77 (40 * s + i) = g i) → k ≤ m → m - k < n → ∃ σ', e_X10_lays_L32 (nI s) n x (nI k) σ = some (cl g (m - k) k x, σ') ∧ (∀ a b, eL σ' a b = eL σ a b) ∧ (∀ a b, a ≠ 71 → eI σ' a b = eI σ a b) ∧ ∀ w j, j < 6 → eI σ' 71 (6 * w + j) = if j = 3 ∧ k ≤ w ∧ w < m ∧ inr (g w) = true then (g w).toInt32 else eI σ 71 (6 * w + j) := by
  intro n
  induction n with
  | zero => intro k x σ hz1 hN1 hg h1 h2; omega
  | succ n ih =>
    intro k x σ hz1 hN1 hg h1 h2
    have hmz : m ≤ z ∧ m ≤ N ∧ (m = z ∨ m = N) := by
      by_cases c : N < z
      · rw [if_pos c] at hm
        omega
      · rw [if_neg c] at hm
        omega
    have le1 : nI z ≤ nI k ↔ z ≤ k := nLe (by omega) (by omega)
    have le2 : nI N ≤ nI k ↔ N ≤ k := nLe (by omega) (by omega)
    simp only [e_X10_lays_L32, mib_nI (show s < 4 by omega) (by decide), if_true, nIc (show s < 2147483648 by omega), hz1, hN1]
    by_cases c : m ≤ k
    · refine ⟨σ, ?_, fun _ _ => rfl, fun _ _ _ => rfl, fun w j hj => ?_⟩
      · rw [show m - k = 0 by omega]
        by_cases c1 : z ≤ k
        · rw [if_pos (le1.mpr c1)]
          rfl
        · rw [if_neg (fun x => c1 (le1.mp x)), if_pos (le2.mpr (by omega))]
          rfl
      · rw [if_neg (by omega)]
    · rw [if_neg (fun x => by have := le1.mp x; omega), if_neg (fun x => by have := le2.mp x; omega), forty hs (by omega), if_pos (mib_nI (by omega) (by decide)), nIc (by omega), nI_1, hg k (by omega), show m - k = (m - (k + 1)) + 1 by omega, misGain_eq, ob]
      simp only [bi_0]
      have six : (6 : Int32) * nI k + 3 = nI (6 * k + 3) := six_nI (w := k) 3 (by omega) (by omega)
      by_cases q : inr (g k) = true
      · rw [if_neg (by show ¬ inr (g k) = false; rw [q]; decide), six, if_pos (mib_nI (by omega) (by decide)), nIc (by omega)]
        obtain ⟨σ', e, e1, e2, e3⟩ := ih (k + 1) (x + 1) (uI σ 71 (6 * k + 3) (g k).toInt32) hz1 hN1 hg (by omega) (by omega)
        refine ⟨σ', ?_, e1, fun a b ha => ?_, fun w j hj => ?_⟩
        · rw [e, cl, if_pos q]
        · rw [e2 a b ha, eI_uI, if_neg (by omega)]
        · rw [e3 w j hj, eI_uI]
          by_cases c1 : j = 3 ∧ w = k
          · obtain ⟨rfl, rfl⟩ := c1
            rw [if_neg (by omega), if_pos ⟨rfl, rfl⟩, if_pos ⟨rfl, by omega, by omega, q⟩]
          · rw [if_neg (show ¬ (71 = 71 ∧ 6 * w + j = 6 * k + 3) by omega)]
            by_cases c2 : j = 3 ∧ k ≤ w ∧ w < m ∧ inr (g w) = true
            · rw [if_pos c2, if_pos ⟨c2.1, by omega, c2.2.2⟩]
            · rw [if_neg c2, if_neg (fun x => c2 ⟨x.1, by omega, x.2.2⟩)]
      · obtain ⟨σ', e, e1, e2, e3⟩ := ih (k + 1) x σ hz1 hN1 hg (by omega) (by omega)
        refine ⟨σ', ?_, e1, e2, fun w j hj => ?_⟩
        · rw [cl, if_neg q, e, if_pos (by show inr (g k) = false; simpa only [Bool.not_eq_true] using q)]
        · rw [e3 w j hj]
          by_cases c2 : j = 3 ∧ k ≤ w ∧ w < m ∧ inr (g w) = true
          · have : w ≠ k := by
              rintro rfl
              exact q c2.2.2.2
            rw [if_pos c2, if_pos ⟨c2.1, by omega, c2.2.2⟩]
          · rw [if_neg c2, if_neg (fun x => c2 ⟨x.1, by omega, x.2.2⟩)]
theorem inr_to {v : Int64} (h : inr v = true) : (-999999999 ≤ v.toInt32.toInt ∧ v.toInt32.toInt ≤ 999999999) := by
  obtain ⟨h1, h2⟩ := il_iff.mp h
  rw [Int64.toInt_toInt32, bm32 (by omega) (by omega)]
  exact ⟨h1, h2⟩
theorem sim_lays : Sim_lays Rel := by
  intro σ h a
  have hR := h
  obtain ⟨⟨d, ok, hc, hm⟩, h2, h3, h4, h5, h6⟩ := h
  have h14 := ok.2.2.1
  have fail : ∀ k, e_X9_lays a σ = some (-2000000001 - nI k, fx k σ) → e_X10_lays a (fx k σ) = some (-2000000001 - nI k, gx k (fx k σ)) → ∃ (r : Int32) (σ1 : ES) (σ2 : ES), e_X9_lays a σ = some (r, σ1) ∧ e_X10_lays a σ1 = some (r, σ2) ∧ Rel σ2 := fun k q1 q2 => ⟨_, _, _, q1, q2, Rel_find k hR⟩
  by_cases q0 : ir 0 3 a = true
  · obtain ⟨s, hs, rfl⟩ := ir03 q0
    have hmi : mib (nI s) 4 = true := mib_nI (by omega) (by decide)
    have hnc : (nI s).toNatClampNeg = s := nIc (by omega)
    obtain ⟨s1, s2, s3, ⟨z, hz, ez⟩, s5⟩ := h4 s hs
    by_cases q1 : eI σ (61 + 2 * s) 0 = 0
    · apply fail 5
      · simp only [e_X9_lays, sfault_eq h4, ob, q0, if_true, hnc, s1, q1, f5]
        rfl
      · simp only [e_X10_lays, isSheet_eq, ob, q0, bi_0, Bool.true_eq_false, if_false, hmi, hnc, if_true, g5]
        rw [if_pos]
        show eI σ 75 s = 0
        rw [s1, q1]
    · obtain ⟨m, em⟩ : ∃ m, m = if dN d < z then dN d else z := ⟨_, rfl⟩
      have hm14 : m ≤ 14 ∧ m ≤ dN d := by
        by_cases c : dN d < z
        · rw [if_pos c] at em
          omega
        · rw [if_neg c] at em
          omega
      obtain ⟨σ1, e, e1, e2⟩ := laysC hs hm14.1 (eL σ (62 + 2 * s)) mN 0 0 σ (fun _ _ => rfl) (by omega) (mN_big (by omega))
      have m1 : mdl σ1 d := mdl_c hm (fun j hj => by rw [e2, if_neg (by omega)]) (fun j => by rw [e2, if_neg (by omega)]) (fun j => by rw [e2, if_neg (by omega)]) (fun j => by rw [e2, if_neg (by omega)])
      have o76 : eI σ1 76 s = nI z := by rw [e2, if_neg (by omega), s2, ez]
      have o75 : eI σ1 75 s = eI σ (61 + 2 * s) 0 := by rw [e2, if_neg (by omega), s1]
      obtain ⟨σ2, k, k1, k2, k3⟩ := laysM hs hz h14 em (eL σ (62 + 2 * s)) mN 0 0 σ1 o76 m1.2.2.1 (fun i hi => by rw [e1, s5 i hi]) (by omega) (mN_big (by omega))
      rw [nI_lit0] at e k
      refine ⟨cl (eL σ (62 + 2 * s)) (m - 0) 0 0, σ1, σ2, ?_, ?_, ?_⟩
      · have x4 : (if eI σ 1 2 < eI σ (61 + 2 * s) 1 then eI σ 1 2 else eI σ (61 + 2 * s) 1) = nI m := by
          rw [hc.2.2.1, ez]
          have lt : nI (dN d) < nI z ↔ dN d < z := nLt (by omega) (by omega)
          by_cases c : dN d < z
          · rw [if_pos (lt.mpr c), em, if_pos c]
          · rw [if_neg (fun x => c (lt.mp x)), em, if_neg c]
        simp only [e_X9_lays, sfault_eq h4, ob, q0, if_true, hnc, s1, q1, if_false, hmi, x4]
        exact e
      · simp only [e_X10_lays, isSheet_eq, ob, q0, bi_0, Bool.true_eq_false, if_false, hmi, hnc, if_true, o75, q1]
        exact k
      · have far : ∀ a b, a ≠ 5 → a ≠ 71 → eI σ2 a b = eI σ a b := fun a b n1 n2 => by rw [k2 a b n2, e2, if_neg (by omega)]
        refine Rel_kk (d := (d.1, fun w j => if j = 3 ∧ w < m ∧ inr (eL σ (62 + 2 * s) w) = true then (eL σ (62 + 2 * s) w).toInt32 else dw d w j, d.2.2)) hR (fun a b q => far a b ?_ ?_) (fun a b _ => by rw [k1, e1]) ⟨⟨ok.1, ok.2.1, ok.2.2.1, ok.2.2.2.1, fun w hw => ?_, ok.2.2.2.2.2⟩, ?_, ?_⟩
        · rintro rfl
          simp [qI, qT, qS, qF] at q
        · rintro rfl
          simp [qI, qT, qS, qF] at q
        · have hw : w < dN d := hw
          obtain ⟨o0, o1, o2, o3, o4, o5, o6⟩ := ok.2.2.2.2.1 w hw
          refine ⟨o0, o1, o2, o3, ?_, o5, o6⟩
          show -999999999 ≤ (if 3 = 3 ∧ w < m ∧ inr (eL σ (62 + 2 * s) w) = true then (eL σ (62 + 2 * s) w).toInt32 else dw d w 3).toInt ∧ (if 3 = 3 ∧ w < m ∧ inr (eL σ (62 + 2 * s) w) = true then (eL σ (62 + 2 * s) w).toInt32 else dw d w 3).toInt ≤ 999999999
          by_cases c : 3 = 3 ∧ w < m ∧ inr (eL σ (62 + 2 * s) w) = true
          · rw [if_pos c]
            exact inr_to c.2.2
          · rw [if_neg c]
            exact o4
        · obtain ⟨c1, c2, c3, c4, c5, c6⟩ := hc
          refine ⟨?_, ?_, ?_, ?_, fun w hw j hj => ?_, fun t ht j hj => ?_⟩
          · rw [far _ _ (by decide) (by decide)]
            exact c1
          · rw [far _ _ (by decide) (by decide)]
            exact c2
          · rw [far _ _ (by decide) (by decide)]
            exact c3
          · rw [far _ _ (by decide) (by decide)]
            exact c4
          · rw [k2 _ _ (by omega), e2]
            show _ = if j = 3 ∧ w < m ∧ inr (eL σ (62 + 2 * s) w) = true then (eL σ (62 + 2 * s) w).toInt32 else dw d w j
            by_cases c : j = 3 ∧ w < m ∧ inr (eL σ (62 + 2 * s) w) = true
            · rw [if_pos c, if_pos ⟨by omega, by omega, c.2⟩]
            · rw [if_neg c, if_neg (fun x => c ⟨by omega, x.2.2⟩)]
              exact c5 w hw j hj
          · rw [far _ _ (by omega) (by omega)]
            exact c6 t ht j hj
        · obtain ⟨c1, c2, c3, c4, c5, c6, c7⟩ := m1
          refine ⟨?_, ?_, ?_, ?_, fun w hw j hj => ?_, fun j hj => ?_, fun t ht j hj => ?_⟩
          · rw [k2 _ _ (by decide)]
            exact c1
          · rw [k2 _ _ (by decide)]
            exact c2
          · rw [k2 _ _ (by decide)]
            exact c3
          · rw [k2 _ _ (by decide)]
            exact c4
          · rw [k3 w j hj]
            show _ = if j = 3 ∧ w < m ∧ inr (eL σ (62 + 2 * s) w) = true then (eL σ (62 + 2 * s) w).toInt32 else dw d w j
            by_cases c : j = 3 ∧ w < m ∧ inr (eL σ (62 + 2 * s) w) = true
            · rw [if_pos c, if_pos ⟨c.1, by omega, c.2⟩]
            · rw [if_neg c, if_neg (fun x => c ⟨x.1, x.2.2⟩)]
              exact c5 w hw j hj
          · rw [k2 _ _ (by decide)]
            exact c6 j hj
          · rw [k2 _ _ (by decide)]
            exact c7 t ht j hj
  · have q0 : ir 0 3 a = false := by simpa using q0
    apply fail 0
    · simp only [e_X9_lays, sfault_eq h4, ob, q0, Bool.false_eq_true, if_false, f0]
      rfl
    · simp only [e_X10_lays, isSheet_eq, ob, q0, bi_0, if_true, g0]
