/-! ===== ratio: is a set a ring, on both sides ===== -/
section
variable {d : CD} {σ τ : ES}
/-- a walk of a set's ways, by steps: where it is, which way it takes -/
def trk (d : CD) (S s : Nat) (g : Nat) (w : Nat → Nat) (at' : Nat → Nat) : Prop := at' 0 = s ∧ ∀ k, k < g → w k < dN d ∧ S.testBit (w k) = true ∧ wf d (w k) = at' k ∧ at' (k + 1) = wt d (w k)
def stw (w : Nat → Nat) : Nat → Nat
  | 0 => 0
  | k + 1 => stw w k ||| 2 ^ w k
theorem stw_bit (w : Nat → Nat) (i : Nat) : ∀ k, (stw w k).testBit i = true ↔ ∃ j, j < k ∧ w j = i := by
  intro k
  induction k with
  | zero =>
    show (0 : Nat).testBit i = true ↔ _
    rw [Nat.zero_testBit]
    constructor
    · intro h
      cases h
    · rintro ⟨j, hj, _⟩
      omega
  | succ k ih =>
    show (stw w k ||| 2 ^ w k).testBit i = true ↔ _
    rw [Nat.testBit_or, Nat.testBit_two_pow, Bool.or_eq_true, decide_eq_true_iff, ih]
    constructor
    · rintro (⟨j, h1, h2⟩ | h)
      · exact ⟨j, by omega, h2⟩
      · exact ⟨k, by omega, h⟩
    · rintro ⟨j, h1, h2⟩
      by_cases e : j = k
      · subst e
        exact Or.inr h2
      · exact Or.inl ⟨j, by omega, h2⟩
theorem stw_lt {n : Nat} (w : Nat → Nat) : ∀ k, (∀ j, j < k → w j < n) → stw w k < 2 ^ n := by
  intro k
  induction k with
  | zero => exact fun _ => Nat.pow_pos (by decide)
  | succ k ih => exact fun h => Nat.or_lt_two_pow (ih (fun j hj => h j (by omega))) (Nat.pow_lt_pow_right (by decide) (h k (by omega)))
/-- places that are all unlike -/
def dis (g : Nat) (f : Nat → Nat) : Prop := ∀ i j, i < j → j < g → f i ≠ f j
theorem stw_cnt {n : Nat} (hn : n ≤ 14) (w : Nat → Nat) : ∀ g, (∀ j, j < g → w j < n) → dis g w → sgm (fun _ => 1) (stw w g) n = (g : Int) := by
  intro g
  induction g with
  | zero => exact fun _ _ => sgm_z _ n
  | succ g ih =>
    intro h1 h2
    have i := ih (fun j hj => h1 j (by omega)) (fun a b ab hb => h2 a b ab (by omega))
    show sgm (fun _ => 1) (stw w g ||| 2 ^ w g) n = _
    rw [sgm_or (by
      by_cases c : (stw w g).testBit (w g) = true
      · obtain ⟨j, j1, j2⟩ := (stw_bit w (w g) g).mp c
        exact absurd j2 (h2 j g j1 (by omega))
      · simpa using c), if_pos (h1 g (by omega)), i]
    omega
/-- the ring that a set is: from a place round, all ways of it, no place twice -/
def Rng (d : CD) (S s : Nat) : Prop := ∃ g w at', 1 ≤ g ∧ trk d S s g w at' ∧ at' g = s ∧ dis g at' ∧ stw w g = S
theorem dis_w {S s g : Nat} {w at' : Nat → Nat} (h : trk d S s g w at') (hd : dis g at') : dis g w := by
  intro i j ij jg e
  have a := (h.2 i (by omega)).2.2.1
  have b := (h.2 j jg).2.2.1
  exact hd i j ij jg (by rw [← a, ← b, e])
theorem dis_le {P g : Nat} {f : Nat → Nat} (h : dis g f) (hb : ∀ k, k < g → f k < P) : g ≤ P := by
  have := pigeon P ((List.range g).map f) (by
    have key : ∀ m, m ≤ g → ((List.range m).map f).Nodup := by
      intro m
      induction m with
      | zero => exact fun _ => List.nodup_nil
      | succ m ih =>
        intro hm
        rw [List.range_succ, List.map_append]
        refine List.nodup_append.mpr ⟨ih (by omega), List.nodup_cons.mpr ⟨(fun x => by cases x), List.nodup_nil⟩, fun a ha b hb e => ?_⟩
        obtain ⟨i, i1, i2⟩ := List.mem_map.mp ha
        have hb : b = f m := by simpa using hb
        have := List.mem_range.mp i1
        exact h i m (by omega) (by omega) (by rw [i2, e, hb])
    exact key g (Nat.le_refl _)) (fun x hx => by
    obtain ⟨i, i1, i2⟩ := List.mem_map.mp hx
    rw [← i2]
    exact hb i (List.mem_range.mp i1))
  rw [List.length_map, List.length_range] at this
  exact this
/-- the first way of a set from a place -/
theorem first_c (ok : okD d) (hc : cls σ 1 d) {S p : Nat} (hS : S < 16384) (hp : p < 6) : ∃ y, e_X1_firstFrom_1 σ (nI S) (nI p) = some y ∧ ((y = -1 ∧ ∀ i, i < dN d → S.testBit i = true → wf d i ≠ p) ∨ ∃ i, i < dN d ∧ y = nI i ∧ S.testBit i = true ∧ wf d i = p) := by
  have h14 := ok.2.2.1
  have P6 := ok.1
  have key : ∀ f k, k ≤ dN d → dN d - k < f → (∀ i, i < k → S.testBit i = true → wf d i ≠ p) → ∃ y, e_X1_firstFrom_1_L2 σ (nI S) (nI p) f (nI k) = some y ∧ ((y = -1 ∧ ∀ i, i < dN d → S.testBit i = true → wf d i ≠ p) ∨ ∃ i, i < dN d ∧ y = nI i ∧ S.testBit i = true ∧ wf d i = p) := by
    intro f
    induction f with
    | zero => intro k h1 h2; omega
    | succ f ih =>
      intro k h1 h2 h
      have le : nI (dN d) ≤ nI k ↔ dN d ≤ k := nLe (by omega) (by omega)
      simp only [e_X1_firstFrom_1_L2, hc.2.2.1]
      by_cases q : dN d ≤ k
      · rw [if_pos (le.mpr q)]
        exact ⟨-1, rfl, Or.inl ⟨rfl, fun i hi => h i (by omega)⟩⟩
      · have hk : k < dN d := by omega
        obtain ⟨ew, lw⟩ := wf_eq ok hk
        have e3 : eI σ 3 k = dw d k 1 := hc.2.2.2.2.1 k hk 1 (by decide)
        rw [if_neg (fun y => q (le.mp y)), nI_1]
        have nxt : (S.testBit k = true → wf d k ≠ p) → ∃ y, e_X1_firstFrom_1_L2 σ (nI S) (nI p) f (nI (k + 1)) = some y ∧ ((y = -1 ∧ ∀ i, i < dN d → S.testBit i = true → wf d i ≠ p) ∨ ∃ i, i < dN d ∧ y = nI i ∧ S.testBit i = true ∧ wf d i = p) := fun e => ih (k + 1) (by omega) (by omega) (fun i hi hb => by
          by_cases c : i = k
          · subst c
            exact e hb
          · exact h i (by omega) hb)
        by_cases b : S.testBit k = true
        · rw [if_neg (fun y => by rw [(and_bit (by omega) (by omega)).mp y] at b; cases b), if_neg (nI_m1 (by omega)), if_pos (mib_nI (by omega) (by decide)), nIc (by omega), e3, ew]
          by_cases c : wf d k = p
          · rw [if_pos ((nI_i (by omega) (by omega)).mpr c)]
            exact ⟨nI k, rfl, Or.inr ⟨k, hk, rfl, b, c⟩⟩
          · rw [if_neg (fun y => c ((nI_i (by omega) (by omega)).mp y))]
            exact nxt (fun _ => c)
        · have b' : S.testBit k = false := by simpa using b
          rw [if_pos ((and_bit (by omega) (by omega)).mpr b')]
          exact nxt (fun x => absurd x b)
  exact key mN 0 (Nat.zero_le _) (mN_big (by omega)) (fun i hi => by omega)
/-- the least way of a set -/
theorem low_ex {n : Nat} : ∀ S, S < 2 ^ n → S ≠ 0 → ∃ i, i < n ∧ S.testBit i = true ∧ ∀ j, j < i → S.testBit j = false := by
  intro S hS hz
  have ex : ∃ i, i < n ∧ S.testBit i = true := by
    by_cases c : ∃ i, i < n ∧ S.testBit i = true
    · exact c
    · exfalso
      apply hz
      apply Nat.eq_of_testBit_eq
      intro i
      rw [Nat.zero_testBit]
      by_cases l : i < n
      · by_cases b : S.testBit i = true
        · exact absurd ⟨i, l, b⟩ c
        · simpa using b
      · exact Nat.testBit_lt_two_pow (Nat.lt_of_lt_of_le hS (Nat.pow_le_pow_right (by decide) (by omega)))
  have key : ∀ m, (∃ i, i < m ∧ S.testBit i = true) → ∃ i, i < m ∧ S.testBit i = true ∧ ∀ j, j < i → S.testBit j = false := by
    intro m
    induction m with
    | zero => rintro ⟨i, hi, _⟩; omega
    | succ m ih =>
      rintro ⟨i, hi, hb⟩
      by_cases c : ∃ i, i < m ∧ S.testBit i = true
      · obtain ⟨j, j1, j2⟩ := ih c
        exact ⟨j, by omega, j2⟩
      · have e : i = m := by
          by_cases x : i = m
          · exact x
          · exact absurd ⟨i, by omega, hb⟩ c
        subst e
        refine ⟨i, by omega, hb, fun j hj => ?_⟩
        by_cases b : S.testBit j = true
        · exact absurd ⟨j, hj, b⟩ c
        · simpa using b
  obtain ⟨i, i1, i2, i3⟩ := key n ex
  exact ⟨i, i1, i2, i3⟩
end
