/-! ===== wipe, places, status, feed ===== -/
theorem nLe {a b : Nat} (ha : a < 2147483648) (hb : b < 2147483648) : nI a ≤ nI b ↔ a ≤ b := by
  rw [le32, nIt ha, nIt hb]
  omega
theorem nLt {a b : Nat} (ha : a < 2147483648) (hb : b < 2147483648) : nI a < nI b ↔ a < b := by
  rw [lt32, nIt ha, nIt hb]
  omega
theorem mN_big {n : Nat} (h : n < 1000000000000) : n < mN := by
  unfold mN
  omega
theorem nle32 {a b : Int32} : ¬ a ≤ b ↔ b < a := by
  rw [le32, lt32]
  omega
theorem sim_wipe : Sim_wipe Rel := by
  intro σ h
  obtain ⟨⟨d, hk⟩, h2, ⟨n, hn, t1, t2, t3⟩, h4, h5, h6⟩ := h
  refine ⟨nI n, uI σ 57 0 0, uI (uI σ 57 0 0) 69 25 0, ?_, ?_, ⟨d, RK_u (RK_u hk rfl) rfl⟩, RI_u (RI_u h2 rfl) rfl, ⟨0, by omega, rfl, rfl, fun k hk => by omega⟩, RSh_u (RSh_u h4 rfl) rfl, RF_u (RF_u h5 rfl) rfl, RWd_u (RWd_u h6 rfl) rfl⟩
  · unfold e_X9_wipe
    rw [t1]
  · unfold e_X10_wipe
    rw [show eI (uI σ 57 0 0) 69 25 = eI σ 69 25 from rfl, t2]
section Pl
variable {σ : ES} {d : CD}
theorem cp (ok : okD d) (h : cls σ 1 d) (a : Int32) : ∀ n k, k ≤ dN d → dN d - k < n → (e_X9_places_L18 a n (nI k) σ = some (eI σ 1 0, uI σ 1 0 a) ∧ ∀ w, k ≤ w → w < dN d → dw d w 1 < a ∧ dw d w 2 < a) ∨ (e_X9_places_L18 a n (nI k) σ = some (-2000000001 - nI 4, fx 4 σ) ∧ ∃ w, k ≤ w ∧ w < dN d ∧ ¬ (dw d w 1 < a ∧ dw d w 2 < a)) := by
  have h14 := ok.2.2.1
  intro n
  induction n with
  | zero => intro k h1 h2; omega
  | succ n ih =>
    intro k h1 h2
    simp only [e_X9_places_L18, h.2.2.1]
    have le : nI (dN d) ≤ nI k ↔ dN d ≤ k := nLe (by omega) (by omega)
    by_cases c : dN d ≤ k
    · left
      exact ⟨if_pos (le.mpr c), fun w w1 w2 => by omega⟩
    · rw [if_neg (fun x => c (le.mp x)), if_pos (mib_nI (by omega) (by decide)), nIc (by omega)]
      have e3 : eI σ 3 k = dw d k 1 := c_at h (by omega) 1 (by decide)
      have e4 : eI σ 4 k = dw d k 2 := c_at h (by omega) 2 (by decide)
      rw [e3, e4, nI_1, f4, ob]
      by_cases c1 : a ≤ dw d k 1
      · right
        rw [if_pos c1]
        exact ⟨rfl, k, by omega, by omega, fun x => by rw [le32] at c1; have := lt32.mp x.1; omega⟩
      · rw [if_neg c1]
        by_cases c2 : dw d k 2 < a
        · rw [if_pos c2]
          rcases ih (k + 1) (by omega) (by omega) with ⟨e, f⟩ | ⟨e, w, f1, f2, f3⟩
          · left
            refine ⟨e, fun w w1 w2 => ?_⟩
            by_cases ew : w = k
            · subst ew
              exact ⟨nle32.mp c1, c2⟩
            · exact f w (by omega) w2
          · right
            exact ⟨e, w, by omega, f2, f3⟩
        · right
          rw [if_neg c2]
          exact ⟨rfl, k, by omega, by omega, fun x => c2 x.2⟩
theorem mp (ok : okD d) (h : mdl σ d) (a : Int32) : ∀ n k, k ≤ dN d → dN d - k < n → (e_X10_places_L22 a n (nI k) σ = some (eI σ 69 1, uI σ 69 1 a) ∧ ∀ w, k ≤ w → w < dN d → dw d w 1 < a ∧ dw d w 2 < a) ∨ (e_X10_places_L22 a n (nI k) σ = some (-2000000001 - nI 4, gx 4 σ) ∧ ∃ w, k ≤ w ∧ w < dN d ∧ ¬ (dw d w 1 < a ∧ dw d w 2 < a)) := by
  have h14 := ok.2.2.1
  intro n
  induction n with
  | zero => intro k h1 h2; omega
  | succ n ih =>
    intro k h1 h2
    simp only [e_X10_places_L22, h.2.2.1]
    have le : nI (dN d) ≤ nI k ↔ dN d ≤ k := nLe (by omega) (by omega)
    by_cases c : dN d ≤ k
    · left
      exact ⟨if_pos (le.mpr c), fun w w1 w2 => by omega⟩
    · rw [if_neg (fun x => c (le.mp x)), m_at ok h (by omega) 1 (by decide) 1 rfl, m_at ok h (by omega) 2 (by decide) 2 rfl, ob, ob, nI_1, g4, ob]
      by_cases c1 : a ≤ dw d k 1
      · right
        rw [if_pos c1]
        exact ⟨rfl, k, by omega, by omega, fun x => by rw [le32] at c1; have := lt32.mp x.1; omega⟩
      · rw [if_neg c1]
        by_cases c2 : dw d k 2 < a
        · rw [if_pos c2]
          rcases ih (k + 1) (by omega) (by omega) with ⟨e, f⟩ | ⟨e, w, f1, f2, f3⟩
          · left
            refine ⟨e, fun w w1 w2 => ?_⟩
            by_cases ew : w = k
            · subst ew
              exact ⟨nle32.mp c1, c2⟩
            · exact f w (by omega) w2
          · right
            exact ⟨e, w, by omega, f2, f3⟩
        · right
          rw [if_neg c2]
          exact ⟨rfl, k, by omega, by omega, fun x => c2 x.2⟩
end Pl
theorem sim_places : Sim_places Rel := by
  intro σ h a
  have hR := h
  obtain ⟨⟨d, ok, hc, hm⟩, h2, h3, h4, h5, h6⟩ := h
  have hmf : ∀ k, mdl (fx k σ) d := fun k => (RK_u (v := eI σ 60 k + 1) ⟨ok, hc, hm⟩ rfl).2.2
  have h14 := ok.2.2.1
  have e1 : ir (2 : Int32).toInt (6 : Int32).toInt a = ir 2 6 a := rfl
  have e2 : ir (2 : Int64).toInt (6 : Int64).toInt a = ir 2 6 a := rfl
  by_cases q0 : ir 2 6 a = true
  · have C : e_X9_places a σ = e_X9_places_L18 a mN (nI 0) σ := by
      simp only [e_X9_places, within_eq, e1, q0, ob, bi_0, Bool.true_eq_false, if_false]
      rfl
    have M : ∀ τ, e_X10_places a τ = e_X10_places_L22 a mN (nI 0) τ := by
      intro τ
      simp only [e_X10_places, min_eq, e2, q0, ob, bi_0, Bool.true_eq_false, if_false]
      rfl
    simp only [C, M]
    obtain ⟨p1, p2⟩ := ir_iff.mp q0
    rcases cp ok hc a mN 0 (by omega) (mN_big (by omega)) with ⟨e, f⟩ | ⟨e, w, f1, f2, f3⟩
    · have hm' : mdl (uI σ 1 0 a) d := mdl_c hm (fun j hj => by rcases hj with e | e | e | e <;> subst e <;> rfl) (fun _ => rfl) (fun _ => rfl) (fun _ => rfl)
      rcases mp ok hm' a mN 0 (by omega) (mN_big (by omega)) with ⟨e', f'⟩ | ⟨e', w', f1', f2', f3'⟩
      · refine ⟨_, _, _, e, by rw [e', hm'.1, hc.1], ?_⟩
        obtain ⟨k, ek, hk, rfl⟩ := nI_ex (show 0 ≤ a.toInt by omega)
        refine ⟨⟨((k, dW d, dN d, dT d), d.2), ⟨by show 2 ≤ k ∧ k ≤ 6; omega, ok.2.1, ok.2.2.1, ok.2.2.2.1, fun w hw => ?_, ok.2.2.2.2.2⟩, ?_, ?_⟩, RI_u (RI_u h2 rfl) rfl, RTp_u (RTp_u h3 rfl) rfl, RSh_u (RSh_u h4 rfl) rfl, RF_u (RF_u h5 rfl) rfl, RWd_u (RWd_u h6 rfl) rfl⟩
        · have hw : w < dN d := hw
          obtain ⟨o0, o1, o2, o3⟩ := ok.2.2.2.2.1 w hw
          obtain ⟨l1, l2⟩ := f w (by omega) hw
          rw [lt32] at l1 l2
          refine ⟨o0, ⟨o1.1, ?_⟩, ⟨o2.1, ?_⟩, o3⟩
          · show (dw d w 1).toInt < (k : Int)
            omega
          · show (dw d w 2).toInt < (k : Int)
            omega
        · obtain ⟨c1, c2, c3, c4, c5, c6⟩ := hc
          refine ⟨rfl, c2, c3, c4, fun w hw j hj => ?_, fun t ht j hj => ?_⟩
          · simp only [eI_uI]
            rw [if_neg (by omega), if_neg (by omega)]
            exact c5 w hw j hj
          · simp only [eI_uI]
            rw [if_neg (by omega), if_neg (by omega)]
            exact c6 t ht j hj
        · obtain ⟨c1, c2, c3, c4, c5, c6, c7⟩ := hm
          exact ⟨rfl, c2, c3, c4, c5, c6, c7⟩
      · exact absurd (f w' f1' f2') f3'
    · rcases mp ok (hmf 4) a mN 0 (by omega) (mN_big (by omega)) with ⟨e', f'⟩ | ⟨e', w', f1', f2', f3'⟩
      · exact absurd (f' w f1 f2) f3
      · exact ⟨_, _, _, e, e', Rel_find 4 hR⟩
  · have q0 : ir 2 6 a = false := by simpa using q0
    refine ⟨-2000000001 - nI 0, fx 0 σ, gx 0 (fx 0 σ), ?_, ?_, Rel_find 0 hR⟩
    · simp only [e_X9_places, within_eq, e1, q0, ob, bi_0, f0, if_true]
    · simp only [e_X10_places, min_eq, e2, q0, ob, bi_0, g0, if_true]
theorem z32' (x : Int32) : 0 + x = x := by
  rw [Int32.add_comm, z32]
theorem sim_status : Sim_status Rel := by
  intro σ h a
  have hR := h
  obtain ⟨⟨d, ok, hc, hm⟩, h2, h3, h4, h5, h6⟩ := h
  have e1 : ir (-1 : Int32).toInt (8 : Int32).toInt a = ir (-1) 8 a := rfl
  have e2 : ir (-1 : Int64).toInt (8 : Int64).toInt a = ir (-1) 8 a := rfl
  by_cases q0 : ir (-1) 8 a = true
  · have eN : mN = 340282366920938463463374607431768211440 + 16 := rfl
    have M : ∀ τ, e_X10_status a τ = e_X10_status_L24 a mN 0 0 τ := by
      intro τ
      simp only [e_X10_status, min_eq, e2, q0, ob, bi_0, Bool.true_eq_false, if_false]
    have C : e_X9_status a σ = if a < 0 then e_X9_status_L31 a mN 0 0 σ else if mib a 9 = true then some (eI σ 60 a.toNatClampNeg, σ) else none := by
      simp only [e_X9_status, within_eq, e1, q0, ob, bi_0, Bool.true_eq_false, if_false]
    simp only [C, M]
    rw [eN]
    generalize 340282366920938463463374607431768211440 = m
    obtain ⟨p1, p2⟩ := ir_iff.mp q0
    by_cases c : a.toInt = -1
    · have ea : a = -1 := by
        rw [eq32, c]
        rfl
      subst ea
      refine ⟨0 + eI σ 60 0 + eI σ 60 1 + eI σ 60 2 + eI σ 60 3 + eI σ 60 4 + eI σ 60 5 + eI σ 60 6 + eI σ 60 7 + eI σ 60 8, σ, σ, rfl, ?_, hR⟩
      rw [← h5 0 (by decide), ← h5 1 (by decide), ← h5 2 (by decide), ← h5 3 (by decide), ← h5 4 (by decide), ← h5 5 (by decide), ← h5 6 (by decide), ← h5 7 (by decide), ← h5 8 (by decide)]
      rfl
    · obtain ⟨k, ek, hk, rfl⟩ := nI_ex (show 0 ≤ a.toInt by omega)
      have hk9 : k < 9 := by omega
      refine ⟨eI σ 60 k, σ, σ, ?_, ?_, hR⟩
      · rw [if_neg (nI_pos hk), if_pos (mib_nI hk9 (by decide)), nIc hk]
      · rw [← h5 k hk9]
        have : k = 0 ∨ k = 1 ∨ k = 2 ∨ k = 3 ∨ k = 4 ∨ k = 5 ∨ k = 6 ∨ k = 7 ∨ k = 8 := by omega
        rcases this with e | e | e | e | e | e | e | e | e <;> subst e
        · have : e_X10_status_L24 (nI 0) (m + 16) 0 0 σ = some (0 + eI σ 70 0 + 0 + 0 + 0 + 0 + 0 + 0 + 0 + 0, σ) := rfl
          rw [this]
          simp only [z32, z32']
        · have : e_X10_status_L24 (nI 1) (m + 16) 0 0 σ = some (0 + 0 + eI σ 70 1 + 0 + 0 + 0 + 0 + 0 + 0 + 0, σ) := rfl
          rw [this]
          simp only [z32, z32']
        · have : e_X10_status_L24 (nI 2) (m + 16) 0 0 σ = some (0 + 0 + 0 + eI σ 70 2 + 0 + 0 + 0 + 0 + 0 + 0, σ) := rfl
          rw [this]
          simp only [z32, z32']
        · have : e_X10_status_L24 (nI 3) (m + 16) 0 0 σ = some (0 + 0 + 0 + 0 + eI σ 70 3 + 0 + 0 + 0 + 0 + 0, σ) := rfl
          rw [this]
          simp only [z32, z32']
        · have : e_X10_status_L24 (nI 4) (m + 16) 0 0 σ = some (0 + 0 + 0 + 0 + 0 + eI σ 70 4 + 0 + 0 + 0 + 0, σ) := rfl
          rw [this]
          simp only [z32, z32']
        · have : e_X10_status_L24 (nI 5) (m + 16) 0 0 σ = some (0 + 0 + 0 + 0 + 0 + 0 + eI σ 70 5 + 0 + 0 + 0, σ) := rfl
          rw [this]
          simp only [z32, z32']
        · have : e_X10_status_L24 (nI 6) (m + 16) 0 0 σ = some (0 + 0 + 0 + 0 + 0 + 0 + 0 + eI σ 70 6 + 0 + 0, σ) := rfl
          rw [this]
          simp only [z32, z32']
        · have : e_X10_status_L24 (nI 7) (m + 16) 0 0 σ = some (0 + 0 + 0 + 0 + 0 + 0 + 0 + 0 + eI σ 70 7 + 0, σ) := rfl
          rw [this]
          simp only [z32, z32']
        · have : e_X10_status_L24 (nI 8) (m + 16) 0 0 σ = some (0 + 0 + 0 + 0 + 0 + 0 + 0 + 0 + 0 + eI σ 70 8, σ) := rfl
          rw [this]
          simp only [z32, z32']
  · have q0 : ir (-1) 8 a = false := by simpa using q0
    refine ⟨-2000000001 - nI 0, fx 0 σ, gx 0 (fx 0 σ), ?_, ?_, Rel_find 0 hR⟩
    · simp only [e_X9_status, within_eq, e1, q0, ob, bi_0, f0, if_true]
    · simp only [e_X10_status, min_eq, e2, q0, ob, bi_0, g0, if_true]
