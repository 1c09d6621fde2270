/-! ===== the start is related ===== -/
def d00 : CD := ((2, 0, 0, 0), fun _ _ => 0, fun _ j => if j = 0 then 0 else 1)
theorem z_1 : eI es0 1 0 = nI 2 ∧ eI es0 1 1 = nI 0 ∧ eI es0 1 2 = nI 0 ∧ eI es0 1 9 = nI 0 ∧ eI es0 8 0 = 0 ∧ eI es0 9 0 = 1 := by decide +kernel
theorem z_2 : eI es0 69 1 = nI 2 ∧ eI es0 69 2 = nI 0 ∧ eI es0 69 3 = nI 0 ∧ eI es0 69 5 = nI 0 ∧ eI es0 73 0 = 0 ∧ eI es0 73 1 = 1 := by decide +kernel
theorem z_3 : eI es0 69 35 = eI es0 0 3 ∧ eI es0 0 3 = 0 := by decide +kernel
theorem z_4 : eI es0 57 0 = nI 0 ∧ eI es0 69 25 = nI 0 := by decide +kernel
theorem z_5 : ∀ s : Nat, s < 4 → eI es0 75 s = eI es0 (61 + 2 * s) 0 ∧ eI es0 76 s = eI es0 (61 + 2 * s) 1 ∧ eI es0 (61 + 2 * s) 0 = 0 ∧ eI es0 (61 + 2 * s) 1 = nI 0 := by decide +kernel
theorem z_6 : ∀ s : Nat, s < 4 → ∀ i : Nat, i < 40 → eL es0 77 (40 * s + i) = eL es0 (62 + 2 * s) i := by decide +kernel
theorem z_7 : ∀ k : Nat, k < 9 → eI es0 70 k = eI es0 60 k := by decide +kernel
theorem z_8 : ∀ k : Nat, k < 104 → eI es0 80 k = mwords.getD k 0 := by decide +kernel
theorem z_9' : eL es0 39 5 = 0 ∧ eL es0 39 6 = 0 ∧ eL es0 45 5 = 0 ∧ eL es0 45 6 = 0 := by decide +kernel
theorem z_9 : RB es0 := by
  intro k j q
  obtain ⟨a1, a2, a3, a4⟩ := z_9'
  obtain ⟨h1 | h1, h2 | h2⟩ := qB_k q <;> subst h1 <;> subst h2
  · exact a1
  · exact a2
  · exact a3
  · exact a4
theorem rel0 : Rel es0 := by
  obtain ⟨a1, a2, a3, a4, a5, a6⟩ := z_1
  obtain ⟨b1, b2, b3, b4, b5, b6⟩ := z_2
  refine ⟨⟨d00, ⟨⟨by decide, by decide⟩, by decide, by decide, by decide, fun w hw => absurd hw (Nat.not_lt_zero w), fun t ht => (show (-999999999 ≤ (0 : Int32).toInt ∧ (0 : Int32).toInt ≤ 999999999) ∧ (1 ≤ (1 : Int32).toInt ∧ (1 : Int32).toInt ≤ 999999) from by decide)⟩, ⟨a1, a2, a3, a4, fun w hw => absurd hw (Nat.not_lt_zero w), fun t ht => ?_⟩, ⟨b1, b2, b3, b4, fun w hw => absurd hw (Nat.not_lt_zero w), j2 b5 b6, fun t ht => absurd ht (Nat.not_lt_zero t)⟩⟩, ⟨z_3.1, Or.inl z_3.2⟩, ⟨0, by omega, z_4.1, z_4.2, fun k hk => absurd hk (Nat.not_lt_zero k)⟩, fun s hs => ?_, z_7, ⟨z_8, z_9⟩⟩
  · have : t = 0 := Nat.le_zero.mp ht
    subst this
    exact j2 a5 a6
  · obtain ⟨s1, s2, s3, s4⟩ := z_5 s hs
    exact ⟨s1, s2, Or.inl s3, ⟨0, by omega, s4⟩, z_6 s hs⟩
