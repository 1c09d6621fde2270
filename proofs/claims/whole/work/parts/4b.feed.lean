/-! ===== feed, image, undo ===== -/
theorem and255 (x : Int32) : 0 ≤ (x &&& 255).toInt ∧ (x &&& 255).toInt ≤ 255 := by
  have h1 : (x &&& 255).toBitVec = x.toBitVec &&& 255#32 := rfl
  have h2 : (x.toBitVec &&& 255#32).toNat ≤ 255 := by
    rw [BitVec.toNat_and]
    exact Nat.and_le_right
  have h3 : (x &&& 255).toInt = ((x.toBitVec &&& 255#32).toNat : Int) := by
    show ((x &&& 255).toBitVec).toInt = _
    rw [h1]
    exact BitVec.toInt_eq_toNat_of_lt (by omega)
  rw [h3]
  omega
def byt (a : Int32) (k : Nat) : Int32 := (a >>> (((8 : Int32) * nI k) &&& 31)) &&& 255
theorem neg1 (x : Int32) : x + -1 = x - 1 := by
  rw [Int32.sub_eq_add_neg]
theorem append_eq {σ : ES} {n : Nat} (h : eI σ 57 0 = nI n) (hn : n < 120) (v : Int32) : e_X6_append v σ = some (uI (uI σ 58 n v) 57 0 (nI (n + 1))) := by
  unfold e_X6_append
  have e1 : ∀ i x, eI (uI σ 58 i x) 57 0 = eI σ 57 0 := fun _ _ => rfl
  have le : (120 : Int32) ≤ nI n ↔ 120 ≤ n := nLe (a := 120) (by omega) (by omega)
  rw [e1, h, if_neg (fun x => by have := le.mp x; omega), if_pos (mib_nI hn (by decide)), nIc (by omega), nI_1]
theorem feedC (a1 a2 : Int32) : ∀ k n m (σ : ES), eI σ 57 0 = nI n → n + k ≤ 120 → k < m → ∃ σ', e_X9_feed_L39 a1 a2 m (nI k - 1) σ = some (nI (n + k), σ') ∧ (∀ a b, eL σ' a b = eL σ a b) ∧ ∀ a b, eI σ' a b = if a = 57 ∧ b = 0 then nI (n + k) else if a = 58 ∧ n ≤ b ∧ b < n + k then byt a1 (n + k - 1 - b) else eI σ a b := by
  intro k
  induction k with
  | zero =>
    intro n m σ h h1 h2
    obtain ⟨m, rfl⟩ : ∃ m', m = m' + 1 := ⟨m - 1, by omega⟩
    refine ⟨σ, ?_, fun _ _ => rfl, fun a b => ?_⟩
    · unfold e_X9_feed_L39
      rw [if_pos (by decide), h]
      rfl
    · by_cases c : a = 57 ∧ b = 0
      · rw [if_pos c, c.1, c.2, h]
        rfl
      · rw [if_neg c, if_neg (by omega)]
  | succ k ih =>
    intro n m σ h h1 h2
    obtain ⟨m, rfl⟩ : ∃ m', m = m' + 1 := ⟨m - 1, by omega⟩
    unfold e_X9_feed_L39
    rw [nI_pred, if_neg (nI_pos (by omega)), append_eq h (by omega), ob, neg1]
    obtain ⟨σ', e, e1, e2⟩ := ih (n + 1) m (uI (uI σ 58 n (byt a1 k)) 57 0 (nI (n + 1))) rfl (by omega) (by omega)
    refine ⟨σ', ?_, e1, fun a b => ?_⟩
    · rw [show n + (k + 1) = n + 1 + k by omega]
      exact e
    · rw [e2, eI_uI, eI_uI, show n + (k + 1) = n + 1 + k by omega]
      by_cases c : a = 57 ∧ b = 0
      · rw [if_pos c, if_pos c]
      · rw [if_neg c, if_neg c, if_neg c]
        by_cases c1 : a = 58 ∧ b = n
        · obtain ⟨rfl, rfl⟩ := c1
          rw [if_neg (by omega), if_pos ⟨rfl, rfl⟩, if_pos (by omega)]
          congr 1
          omega
        · rw [if_neg c1]
          by_cases c2 : a = 58 ∧ n ≤ b ∧ b < n + 1 + k
          · rw [if_pos (by omega), if_pos c2]
          · rw [if_neg (by omega), if_neg c2]
theorem feedM (a1 a2 : Int32) : ∀ k n m (σ : ES), eI σ 69 25 = nI n → n + k ≤ 120 → k < m → ∃ σ', e_X10_feed_L39 a1 a2 m (nI k - 1) σ = some (nI (n + k), σ') ∧ (∀ a b, eL σ' a b = eL σ a b) ∧ ∀ a b, eI σ' a b = if a = 69 ∧ b = 25 then nI (n + k) else if a = 79 ∧ n ≤ b ∧ b < n + k then byt a1 (n + k - 1 - b) else eI σ a b := by
  intro k
  induction k with
  | zero =>
    intro n m σ h h1 h2
    obtain ⟨m, rfl⟩ : ∃ m', m = m' + 1 := ⟨m - 1, by omega⟩
    refine ⟨σ, ?_, fun _ _ => rfl, fun a b => ?_⟩
    · unfold e_X10_feed_L39
      rw [if_pos (by decide), h]
      rfl
    · by_cases c : a = 69 ∧ b = 25
      · rw [if_pos c, c.1, c.2, h]
        rfl
      · rw [if_neg c, if_neg (by omega)]
  | succ k ih =>
    intro n m σ h h1 h2
    obtain ⟨m, rfl⟩ : ∃ m', m = m' + 1 := ⟨m - 1, by omega⟩
    unfold e_X10_feed_L39
    have u : ∀ i x, eI (uI σ 79 i x) 69 25 = eI σ 69 25 := fun _ _ => rfl
    rw [nI_pred, if_neg (nI_pos (by omega)), u, h, if_pos (mib_nI (by omega) (by decide)), nIc (by omega), nI_1, neg1]
    obtain ⟨σ', e, e1, e2⟩ := ih (n + 1) m (uI (uI σ 79 n (byt a1 k)) 69 25 (nI (n + 1))) rfl (by omega) (by omega)
    refine ⟨σ', ?_, e1, fun a b => ?_⟩
    · rw [show n + (k + 1) = n + 1 + k by omega]
      exact e
    · rw [e2, eI_uI, eI_uI, show n + (k + 1) = n + 1 + k by omega]
      by_cases c : a = 69 ∧ b = 25
      · rw [if_pos c, if_pos c]
      · rw [if_neg c, if_neg c, if_neg c]
        by_cases c1 : a = 79 ∧ b = n
        · obtain ⟨rfl, rfl⟩ := c1
          rw [if_neg (by omega), if_pos ⟨rfl, rfl⟩, if_pos (by omega)]
          congr 1
          omega
        · rw [if_neg c1]
          by_cases c2 : a = 79 ∧ n ≤ b ∧ b < n + 1 + k
          · rw [if_pos (by omega), if_pos c2]
          · rw [if_neg (by omega), if_neg c2]
theorem sim_feed : Sim_feed Rel := by
  intro σ h a b
  have hR := h
  obtain ⟨⟨d, hk⟩, h2, ⟨n, hn, t1, t2, t3⟩, h4, h5, h6⟩ := h
  have e1 : ir (1 : Int32).toInt (4 : Int32).toInt b = ir 1 4 b := rfl
  have e2 : ir (1 : Int64).toInt (4 : Int64).toInt b = ir 1 4 b := rfl
  by_cases q0 : ir 1 4 b = true
  · obtain ⟨p1, p2⟩ := ir_iff.mp q0
    obtain ⟨k, ek, hk4, rfl⟩ := nI_ex (show 0 ≤ b.toInt by omega)
    have hk4 : k ≤ 4 := by omega
    have le : nI (n + k) ≤ 120 ↔ n + k ≤ 120 := nLe (b := 120) (by omega) (by omega)
    by_cases q1 : n + k ≤ 120
    · obtain ⟨σ1, e, e3, e4⟩ := feedC a (nI k) k n mN σ t1 q1 (mN_big (by omega))
      obtain ⟨σ2, g, g3, g4⟩ := feedM a (nI k) k n mN σ1 (by rw [e4, if_neg (by omega), if_neg (by omega), t2]) q1 (mN_big (by omega))
      have o : eI σ1 69 25 = nI n := by rw [e4, if_neg (by omega), if_neg (by omega), t2]
      have far : ∀ a b, ¬ (a = 57 ∧ b = 0) → a ≠ 58 → ¬ (a = 69 ∧ b = 25) → a ≠ 79 → eI σ2 a b = eI σ a b := by
        intro a b n1 n2 n3 n4
        rw [g4, if_neg n3, if_neg (by omega), e4, if_neg n1, if_neg (by omega)]
      refine ⟨nI (n + k), σ1, σ2, ?_, ?_, ?_⟩
      · simp only [e_X9_feed, within_eq, e1, q0, ob, bi_0, Bool.true_eq_false, if_false, t1]
        rw [nI_add, if_pos (le.mpr q1)]
        exact e
      · simp only [e_X10_feed, min_eq, e2, q0, ob, bi_0, Bool.true_eq_false, if_false, o]
        rw [nI_add, if_pos (le.mpr q1)]
        exact g
      · have far' : ∀ a b, (qK a b || qI a b || qS a || qF a || a == 80) = true → eI σ2 a b = eI σ a b := by
          intro x y q
          refine far x y ?_ ?_ ?_ ?_
          · rintro ⟨rfl, rfl⟩
            simp [qK, qI, qS, qF] at q
          · rintro rfl
            simp [qK, qI, qS, qF] at q
          · rintro ⟨rfl, rfl⟩
            simp [qK, qI, qS, qF] at q
          · rintro rfl
            simp [qK, qI, qS, qF] at q
        refine ⟨⟨d, RK_c hk (fun x y q => far' x y (by simp [q]))⟩, RI_c h2 (fun x y q => far' x y (by simp [q])), ⟨n + k, q1, ?_, ?_, fun i hi => ?_⟩, RSh_c h4 (fun x y q => far' x y (by simp [q])) (fun x y _ => by rw [g3, e3]), RF_c h5 (fun x y q => far' x y (by simp [q])), RWd_c h6 (fun y => far' 80 y (by simp)) (fun x y _ => by rw [g3, e3])⟩
        · rw [g4, if_neg (by omega), if_neg (by omega), e4, if_pos ⟨rfl, rfl⟩]
        · rw [g4, if_pos ⟨rfl, rfl⟩]
        · have A : eI σ2 58 i = if n ≤ i then byt a (n + k - 1 - i) else eI σ 58 i := by
            rw [g4, if_neg (by omega), if_neg (by omega), e4, if_neg (by omega)]
            by_cases c : n ≤ i
            · rw [if_pos (by omega), if_pos c]
            · rw [if_neg (by omega), if_neg c]
          have B : eI σ2 79 i = if n ≤ i then byt a (n + k - 1 - i) else eI σ 79 i := by
            rw [g4, if_neg (by omega)]
            by_cases c : n ≤ i
            · rw [if_pos (by omega), if_pos c]
            · rw [if_neg (by omega), if_neg c, e4, if_neg (by omega), if_neg (by omega)]
          rw [A, B]
          by_cases c : n ≤ i
          · rw [if_pos c, if_pos c]
            exact ⟨rfl, and255 _⟩
          · rw [if_neg c, if_neg c]
            exact t3 i (by omega)
    · refine ⟨-2000000001 - nI 1, fx 1 σ, gx 1 (fx 1 σ), ?_, ?_, Rel_find 1 hR⟩
      · simp only [e_X9_feed, within_eq, e1, q0, ob, bi_0, Bool.true_eq_false, if_false, t1, f1]
        rw [nI_add, if_neg (fun x => q1 (le.mp x))]
      · have o : eI (fx 1 σ) 69 25 = nI n := t2
        simp only [e_X10_feed, min_eq, e2, q0, ob, bi_0, Bool.true_eq_false, if_false, o, g1]
        rw [nI_add, if_neg (fun x => q1 (le.mp x))]
  · have q0 : ir 1 4 b = false := by simpa using q0
    refine ⟨-2000000001 - nI 0, fx 0 σ, gx 0 (fx 0 σ), ?_, ?_, Rel_find 0 hR⟩
    · simp only [e_X9_feed, within_eq, e1, q0, ob, bi_0, if_true, f0]
    · simp only [e_X10_feed, min_eq, e2, q0, ob, bi_0, if_true, g0]
