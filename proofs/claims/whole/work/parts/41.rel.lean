/-! ===== what class and reference have in common: a country, its parts; the relation ===== -/
abbrev CD : Type := (Nat × Nat × Nat × Nat) × (Nat → Nat → Int32) × (Nat → Nat → Int32)
def dP (d : CD) : Nat := d.1.1
def dW (d : CD) : Nat := d.1.2.1
def dN (d : CD) : Nat := d.1.2.2.1
def dT (d : CD) : Nat := d.1.2.2.2
def dw (d : CD) (w j : Nat) : Int32 := d.2.1 w j
def dt (d : CD) (t j : Nat) : Int32 := d.2.2 t j
def okW (P : Nat) (f : Nat → Int32) : Prop := (0 ≤ (f 0).toInt ∧ (f 0).toInt ≤ 5) ∧ (0 ≤ (f 1).toInt ∧ (f 1).toInt < P) ∧ (0 ≤ (f 2).toInt ∧ (f 2).toInt < P) ∧ f 1 ≠ f 2 ∧ (-999999999 ≤ (f 3).toInt ∧ (f 3).toInt ≤ 999999999) ∧ (1 ≤ (f 4).toInt ∧ (f 4).toInt ≤ 999999) ∧ (f 5 = 0 ∨ f 5 = 1)
def okT (f : Nat → Int32) : Prop := (-999999999 ≤ (f 0).toInt ∧ (f 0).toInt ≤ 999999999) ∧ (1 ≤ (f 1).toInt ∧ (f 1).toInt ≤ 999999)
def okD (d : CD) : Prop := (2 ≤ dP d ∧ dP d ≤ 6) ∧ dW d ≤ 5 ∧ dN d ≤ 14 ∧ dT d ≤ 12 ∧ (∀ w, w < dN d → okW (dP d) (dw d w)) ∧ ∀ t, t ≤ dT d → okT (dt d t)
/-- a country of the class at o -/
def cls (σ : ES) (o : Nat) (d : CD) : Prop := eI σ o 0 = nI (dP d) ∧ eI σ o 1 = nI (dW d) ∧ eI σ o 2 = nI (dN d) ∧ eI σ o 9 = nI (dT d) ∧ (∀ w, w < dN d → ∀ j, j < 6 → eI σ (o + 1 + j) w = dw d w j) ∧ ∀ t, t ≤ dT d → ∀ j, j < 2 → eI σ (o + 7 + j) t = dt d t j
/-- the reference's country -/
def mdl (σ : ES) (d : CD) : Prop := eI σ 69 1 = nI (dP d) ∧ eI σ 69 2 = nI (dW d) ∧ eI σ 69 3 = nI (dN d) ∧ eI σ 69 5 = nI (dT d) ∧ (∀ w, w < dN d → ∀ j, j < 6 → eI σ 71 (6 * w + j) = dw d w j) ∧ (∀ j, j < 2 → eI σ 73 j = dt d 0 j) ∧ ∀ t, t < dT d → ∀ j, j < 2 → eI σ 72 (2 * t + j) = dt d (t + 1) j
/-- the reference's image -/
def kpt (σ : ES) (d : CD) : Prop := eI σ 81 0 = nI (dP d) ∧ eI σ 81 1 = nI (dW d) ∧ eI σ 81 2 = nI (dN d) ∧ eI σ 81 3 = nI (dT d) ∧ (∀ w, w < dN d → ∀ j, j < 6 → eI σ 81 (6 + (6 * w + j)) = dw d w j) ∧ (∀ j, j < 2 → eI σ 81 (4 + j) = dt d 0 j) ∧ ∀ t, t < dT d → ∀ j, j < 2 → eI σ 81 (90 + (2 * t + j)) = dt d (t + 1) j
def RK (σ : ES) (d : CD) : Prop := okD d ∧ cls σ 1 d ∧ mdl σ d
def RI (σ : ES) : Prop := eI σ 69 35 = eI σ 0 3 ∧ (eI σ 0 3 = 0 ∨ (eI σ 0 3 = 1 ∧ ∃ d, okD d ∧ cls σ 10 d ∧ kpt σ d))
def RTp (σ : ES) : Prop := ∃ n, n ≤ 120 ∧ eI σ 57 0 = nI n ∧ eI σ 69 25 = nI n ∧ ∀ k, k < n → eI σ 79 k = eI σ 58 k ∧ 0 ≤ (eI σ 58 k).toInt ∧ (eI σ 58 k).toInt ≤ 255
def RSh (σ : ES) : Prop := ∀ s, s < 4 → eI σ 75 s = eI σ (61 + 2 * s) 0 ∧ eI σ 76 s = eI σ (61 + 2 * s) 1 ∧ (eI σ (61 + 2 * s) 0 = 0 ∨ eI σ (61 + 2 * s) 0 = 16 ∨ eI σ (61 + 2 * s) 0 = 32 ∨ eI σ (61 + 2 * s) 0 = 64) ∧ (∃ n, n ≤ 40 ∧ eI σ (61 + 2 * s) 1 = nI n) ∧ ∀ i, i < 40 → eL σ 77 (40 * s + i) = eL σ (62 + 2 * s) i
def RF (σ : ES) : Prop := ∀ k, k < 9 → eI σ 70 k = eI σ 60 k
def mwords : List Int32 := [119, 97, 121, 32, 32, 32, 32, 32, 116, 111, 108, 108, 32, 32, 32, 32, 102, 111, 114, 100, 32, 32, 32, 32, 98, 114, 105, 100, 103, 101, 32, 32, 109, 105, 114, 101, 32, 32, 32, 32, 115, 116, 97, 105, 114, 32, 32, 32, 116, 104, 105, 110, 103, 32, 32, 32, 112, 108, 97, 99, 101, 115, 32, 32, 119, 101, 97, 116, 104, 101, 114, 32, 103, 97, 105, 110, 32, 32, 32, 32, 108, 111, 115, 115, 32, 32, 32, 32, 116, 105, 109, 101, 32, 32, 32, 32, 115, 104, 117, 116, 32, 32, 32, 32]
/-- what no climb but that of loads begins with -/
def qB (k j : Nat) : Bool := (k == 39 || k == 45) && (j == 5 || j == 6)
theorem qB_k {k j : Nat} (h : qB k j = true) : (k = 39 ∨ k = 45) ∧ (j = 5 ∨ j = 6) := by
  simpa [qB] using h
def RB (σ : ES) : Prop := ∀ k j, qB k j = true → eL σ k j = 0
def RWd (σ : ES) : Prop := (∀ k, k < 104 → eI σ 80 k = mwords.getD k 0) ∧ RB σ
def Rel (σ : ES) : Prop := (∃ d, RK σ d) ∧ RI σ ∧ RTp σ ∧ RSh σ ∧ RF σ ∧ RWd σ
/-- the places that each part speaks of -/
def qK (k j : Nat) : Bool := (decide (1 ≤ k) && decide (k ≤ 9)) || (k == 69 && (j == 1 || j == 2 || j == 3 || j == 5)) || k == 71 || k == 72 || k == 73
def qI (k j : Nat) : Bool := (k == 0 && j == 3) || (decide (10 ≤ k) && decide (k ≤ 18)) || (k == 69 && j == 35) || k == 81
def qT (k j : Nat) : Bool := (k == 57 && j == 0) || k == 58 || (k == 69 && j == 25) || k == 79
def qS (k : Nat) : Bool := (decide (61 ≤ k) && decide (k ≤ 67)) || k == 75 || k == 76
def qL (k : Nat) : Bool := (decide (62 ≤ k) && decide (k ≤ 68)) || k == 77
def qF (k : Nat) : Bool := k == 60 || k == 70
theorem cls_c {σ σ' : ES} {o : Nat} {d : CD} (h : cls σ o d) (e : ∀ k j, o ≤ k → k ≤ o + 8 → eI σ' k j = eI σ k j) : cls σ' o d := by
  obtain ⟨h1, h2, h3, h4, h5, h6⟩ := h
  refine ⟨(e _ _ (by omega) (by omega)).trans h1, (e _ _ (by omega) (by omega)).trans h2, (e _ _ (by omega) (by omega)).trans h3, (e _ _ (by omega) (by omega)).trans h4, fun w hw j hj => (e _ _ (by omega) (by omega)).trans (h5 w hw j hj), fun t ht j hj => (e _ _ (by omega) (by omega)).trans (h6 t ht j hj)⟩
theorem mdl_c {σ σ' : ES} {d : CD} (h : mdl σ d) (e : ∀ j, (j = 1 ∨ j = 2 ∨ j = 3 ∨ j = 5) → eI σ' 69 j = eI σ 69 j) (e1 : ∀ j, eI σ' 71 j = eI σ 71 j) (e2 : ∀ j, eI σ' 72 j = eI σ 72 j) (e3 : ∀ j, eI σ' 73 j = eI σ 73 j) : mdl σ' d := by
  obtain ⟨h1, h2, h3, h4, h5, h6, h7⟩ := h
  exact ⟨(e 1 (by omega)).trans h1, (e 2 (by omega)).trans h2, (e 3 (by omega)).trans h3, (e 5 (by omega)).trans h4, fun w hw j hj => (e1 _).trans (h5 w hw j hj), fun j hj => (e3 _).trans (h6 j hj), fun t ht j hj => (e2 _).trans (h7 t ht j hj)⟩
theorem kpt_c {σ σ' : ES} {d : CD} (h : kpt σ d) (e : ∀ j, eI σ' 81 j = eI σ 81 j) : kpt σ' d := by
  obtain ⟨h1, h2, h3, h4, h5, h6, h7⟩ := h
  exact ⟨(e _).trans h1, (e _).trans h2, (e _).trans h3, (e _).trans h4, fun w hw j hj => (e _).trans (h5 w hw j hj), fun j hj => (e _).trans (h6 j hj), fun t ht j hj => (e _).trans (h7 t ht j hj)⟩
theorem RK_c {σ σ' : ES} {d : CD} (h : RK σ d) (e : ∀ k j, qK k j = true → eI σ' k j = eI σ k j) : RK σ' d := by
  refine ⟨h.1, cls_c h.2.1 (fun k j h1 h2 => e k j ?_), mdl_c h.2.2 (fun j hj => e 69 j ?_) (fun j => e 71 j rfl) (fun j => e 72 j rfl) (fun j => e 73 j rfl)⟩
  · simp only [qK, Bool.or_eq_true, Bool.and_eq_true, decide_eq_true_eq]
    exact Or.inl (Or.inl (Or.inl (Or.inl ⟨h1, by omega⟩)))
  · rcases hj with e | e | e | e <;> subst e <;> rfl
theorem RI_c {σ σ' : ES} (h : RI σ) (e : ∀ k j, qI k j = true → eI σ' k j = eI σ k j) : RI σ' := by
  obtain ⟨h1, h2⟩ := h
  have e0 := e 0 3 rfl
  refine ⟨(e 69 35 rfl).trans (h1.trans e0.symm), ?_⟩
  rcases h2 with h2 | ⟨h2, d, h3, h4, h5⟩
  · exact Or.inl (e0.trans h2)
  · refine Or.inr ⟨e0.trans h2, d, h3, cls_c h4 (fun k j g1 g2 => e k j ?_), kpt_c h5 (fun j => e 81 j rfl)⟩
    simp only [qI, Bool.or_eq_true, Bool.and_eq_true, decide_eq_true_eq]
    exact Or.inl (Or.inl (Or.inr ⟨g1, by omega⟩))
theorem RTp_c {σ σ' : ES} (h : RTp σ) (e : ∀ k j, qT k j = true → eI σ' k j = eI σ k j) : RTp σ' := by
  obtain ⟨n, h1, h2, h3, h4⟩ := h
  refine ⟨n, h1, (e 57 0 rfl).trans h2, (e 69 25 rfl).trans h3, fun k hk => ?_⟩
  rw [e 79 k rfl, e 58 k rfl]
  exact h4 k hk
theorem RSh_c {σ σ' : ES} (h : RSh σ) (e : ∀ k j, qS k = true → eI σ' k j = eI σ k j) (e2 : ∀ k j, qL k = true → eL σ' k j = eL σ k j) : RSh σ' := by
  intro s hs
  have a1 : ∀ j, eI σ' (61 + 2 * s) j = eI σ (61 + 2 * s) j := fun j => e _ _ (by simp only [qS, Bool.or_eq_true, Bool.and_eq_true, decide_eq_true_eq]; omega)
  have a2 : ∀ j, eL σ' (62 + 2 * s) j = eL σ (62 + 2 * s) j := fun j => e2 _ _ (by simp only [qL, Bool.or_eq_true, Bool.and_eq_true, decide_eq_true_eq]; omega)
  simp only [a1, a2, e 75 s rfl, e 76 s rfl, fun j => e2 77 j rfl]
  exact h s hs
theorem RF_c {σ σ' : ES} (h : RF σ) (e : ∀ k j, qF k = true → eI σ' k j = eI σ k j) : RF σ' := fun k hk => (e 70 k rfl).trans ((h k hk).trans (e 60 k rfl).symm)
theorem RWd_c {σ σ' : ES} (h : RWd σ) (e : ∀ j, eI σ' 80 j = eI σ 80 j) (e2 : ∀ k j, qB k j = true → eL σ' k j = eL σ k j) : RWd σ' := ⟨fun k hk => (e k).trans (h.1 k hk), fun k j q => (e2 k j q).trans (h.2 k j q)⟩
/-- one place written -/
theorem eI_off {σ : ES} {k j : Nat} {v : Int32} (q : Nat → Nat → Bool) (h : q k j = false) : ∀ a b, q a b = true → eI (uI σ k j v) a b = eI σ a b := by
  intro a b hq
  rw [eI_uI]
  by_cases e : a = k ∧ b = j
  · obtain ⟨rfl, rfl⟩ := e
    rw [h] at hq
    cases hq
  · rw [if_neg e]
theorem RK_u {σ : ES} {d : CD} {k j : Nat} {v : Int32} (h : RK σ d) (q : qK k j = false) : RK (uI σ k j v) d := RK_c h (eI_off qK q)
theorem RI_u {σ : ES} {k j : Nat} {v : Int32} (h : RI σ) (q : qI k j = false) : RI (uI σ k j v) := RI_c h (eI_off qI q)
theorem RTp_u {σ : ES} {k j : Nat} {v : Int32} (h : RTp σ) (q : qT k j = false) : RTp (uI σ k j v) := RTp_c h (eI_off qT q)
theorem RSh_u {σ : ES} {k j : Nat} {v : Int32} (h : RSh σ) (q : qS k = false) : RSh (uI σ k j v) := RSh_c h (fun a b => eI_off (fun a _ => qS a) q a b) (fun _ _ _ => rfl)
theorem RF_u {σ : ES} {k j : Nat} {v : Int32} (h : RF σ) (q : qF k = false) : RF (uI σ k j v) := RF_c h (fun a b => eI_off (fun a _ => qF a) q a b)
theorem RWd_u {σ : ES} {k j : Nat} {v : Int32} (h : RWd σ) (q : (k == 80) = false) : RWd (uI σ k j v) := RWd_c h (fun b => eI_off (fun a _ => a == 80) q 80 b rfl) (fun _ _ _ => rfl)
theorem RK_l {σ : ES} {d : CD} {k j : Nat} {v : Int64} (h : RK σ d) : RK (uL σ k j v) d := RK_c h (fun _ _ _ => rfl)
theorem RI_l {σ : ES} {k j : Nat} {v : Int64} (h : RI σ) : RI (uL σ k j v) := RI_c h (fun _ _ _ => rfl)
theorem RTp_l {σ : ES} {k j : Nat} {v : Int64} (h : RTp σ) : RTp (uL σ k j v) := RTp_c h (fun _ _ _ => rfl)
theorem RF_l {σ : ES} {k j : Nat} {v : Int64} (h : RF σ) : RF (uL σ k j v) := RF_c h (fun _ _ _ => rfl)
theorem RSh_l {σ : ES} {k j : Nat} {v : Int64} (h : RSh σ) (q : qL k = false) : RSh (uL σ k j v) := RSh_c h (fun _ _ _ => rfl) (fun a b hq => by
  rw [eL_uL, if_neg]
  rintro ⟨rfl, rfl⟩
  rw [q] at hq
  cases hq)
/-- a finding on both sides -/
theorem RF_find {σ : ES} {k : Nat} (h : RF σ) : RF (gx k (fx k σ)) := by
  intro a ha
  simp only [gx, fx, eI_uI]
  by_cases e : a = k
  · subst e
    simp [h a ha]
  · simp [e, h a ha]
theorem Rel_find {σ : ES} (k : Nat) (h : Rel σ) : Rel (gx k (fx k σ)) := by
  obtain ⟨⟨d, h1⟩, h2, h3, h4, h5, h6⟩ := h
  exact ⟨⟨d, RK_u (RK_u h1 rfl) rfl⟩, RI_u (RI_u h2 rfl) rfl, RTp_u (RTp_u h3 rfl) rfl, RSh_u (RSh_u h4 rfl) rfl, RF_find h5, RWd_u (RWd_u h6 rfl) rfl⟩
/-- all that counts is as it was -/
def kp (σ σ' : ES) : Prop := (∀ k j, (qK k j || qI k j || qT k j || qS k || qF k || k == 80) = true → eI σ' k j = eI σ k j) ∧ ∀ k j, (qL k || qB k j) = true → eL σ' k j = eL σ k j
theorem kp.rfl' {σ : ES} : kp σ σ := ⟨fun _ _ _ => rfl, fun _ _ _ => rfl⟩
theorem kp.trans {σ σ' σ'' : ES} (h : kp σ σ') (h' : kp σ' σ'') : kp σ σ'' := ⟨fun k j q => (h'.1 k j q).trans (h.1 k j q), fun k j q => (h'.2 k j q).trans (h.2 k j q)⟩
theorem Rel_kp {σ σ' : ES} (h : Rel σ) (e : kp σ σ') : Rel σ' := by
  obtain ⟨⟨d, h1⟩, h2, h3, h4, h5, h6⟩ := h
  refine ⟨⟨d, RK_c h1 (fun k j q => e.1 k j (by simp [q]))⟩, RI_c h2 (fun k j q => e.1 k j (by simp [q])), RTp_c h3 (fun k j q => e.1 k j (by simp [q])), RSh_c h4 (fun k j q => e.1 k j (by simp [q])) (fun k j q => e.2 k j (by simp [q])), RF_c h5 (fun k j q => e.1 k j (by simp [q])), RWd_c h6 (fun j => e.1 80 j (by simp)) (fun k j q => e.2 k j (by simp [q]))⟩
