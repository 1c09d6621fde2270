/-! ===== the best of a list of rings, on both sides ===== -/
def okR (r : Rg) : Prop := r.1 < 16384 ∧ (-9000000000 ≤ r.2.1.toInt ∧ r.2.1.toInt ≤ 9000000000) ∧ 1 ≤ r.2.2.toInt ∧ r.2.2.toInt ≤ 20000000
def gtr (r b : Rg) : Bool := decide (b.2.1.toInt * r.2.2.toInt < r.2.1.toInt * b.2.2.toInt)
def eqr (r b : Rg) : Bool := decide (b.2.1.toInt * r.2.2.toInt = r.2.1.toInt * b.2.2.toInt)
theorem ab_le {x y a b : Int} (h1 : -a ≤ x) (h2 : x ≤ a) (h3 : 0 ≤ y) (h4 : y ≤ b) : -(a * b) ≤ x * y ∧ x * y ≤ a * b := by
  have p1 : x * y ≤ a * y := Int.mul_le_mul_of_nonneg_right h2 h3
  have p2 : a * y ≤ a * b := Int.mul_le_mul_of_nonneg_left h4 (by omega)
  have p3 : -a * y ≤ x * y := Int.mul_le_mul_of_nonneg_right h1 h3
  rw [Int.neg_mul] at p3
  omega
theorem ro_b {r b : Rg} (hr : okR r) (hb : okR b) : -180000000000000000 ≤ r.2.1.toInt * b.2.2.toInt ∧ r.2.1.toInt * b.2.2.toInt ≤ 180000000000000000 := by
  have := ab_le (a := 9000000000) (b := 20000000) hr.2.1.1 hr.2.1.2 (y := b.2.2.toInt) (by have := hb.2.2.1; omega) hb.2.2.2
  exact this
theorem ro_m {r b : Rg} (hr : okR r) (hb : okR b) : (r.2.1 * b.2.2).toInt = r.2.1.toInt * b.2.2.toInt := by
  have := ro_b hr hb
  exact mul64 (by omega) (by omega)
theorem gtr_lt {r b : Rg} (hr : okR r) (hb : okR b) : b.2.1 * r.2.2 < r.2.1 * b.2.2 ↔ gtr r b = true := by
  unfold gtr
  rw [lt64, ro_m hr hb, ro_m hb hr, decide_eq_true_iff]
theorem eqr_eq {r b : Rg} (hr : okR r) (hb : okR b) : r.2.1 * b.2.2 = b.2.1 * r.2.2 ↔ eqr r b = true := by
  unfold eqr
  rw [eq64, ro_m hr hb, ro_m hb hr, decide_eq_true_iff]
  exact eq_comm
theorem ro_s {r b : Rg} (hr : okR r) (hb : okR b) : (r.2.1 * b.2.2 - b.2.1 * r.2.2).toInt = r.2.1.toInt * b.2.2.toInt - b.2.1.toInt * r.2.2.toInt := by
  have h1 := ro_b hr hb
  have h2 := ro_b hb hr
  rw [sub64, ro_m hr hb, ro_m hb hr]
  · rw [ro_m hr hb, ro_m hb hr]
    omega
  · rw [ro_m hr hb, ro_m hb hr]
    omega
/-- fractions over what is above 0: the order is one -/
theorem fr_lt' {x y u v p q : Int} (hy : 0 < y) (hv : 0 < v) (hq : 0 < q) (h1 : x * v ≤ u * y) (h2 : u * q < p * v) : x * q < p * y := by
  have a1 : x * v * q ≤ u * y * q := Int.mul_le_mul_of_nonneg_right h1 (by omega)
  have a2 : u * q * y < p * v * y := Int.mul_lt_mul_of_pos_right h2 hy
  have e1 : x * v * q = x * q * v := by rw [Int.mul_assoc, Int.mul_comm v q, ← Int.mul_assoc]
  have e2 : u * y * q = u * q * y := by rw [Int.mul_assoc, Int.mul_comm y q, ← Int.mul_assoc]
  have e3 : p * v * y = p * y * v := by rw [Int.mul_assoc, Int.mul_comm v y, ← Int.mul_assoc]
  have a3 : x * q * v < p * y * v := by omega
  exact Int.lt_of_mul_lt_mul_right a3 (by omega)
theorem fr_le' {x y u v p q : Int} (hy : 0 < y) (hv : 0 < v) (hq : 0 < q) (h1 : x * v ≤ u * y) (h2 : u * q ≤ p * v) : x * q ≤ p * y := by
  have a1 : x * v * q ≤ u * y * q := Int.mul_le_mul_of_nonneg_right h1 (by omega)
  have a2 : u * q * y ≤ p * v * y := Int.mul_le_mul_of_nonneg_right h2 (by omega)
  have e1 : x * v * q = x * q * v := by rw [Int.mul_assoc, Int.mul_comm v q, ← Int.mul_assoc]
  have e2 : u * y * q = u * q * y := by rw [Int.mul_assoc, Int.mul_comm y q, ← Int.mul_assoc]
  have e3 : p * v * y = p * y * v := by rw [Int.mul_assoc, Int.mul_comm v y, ← Int.mul_assoc]
  have a3 : x * q * v ≤ p * y * v := by omega
  exact Int.le_of_mul_le_mul_right a3 hv
def bst1 (c : Option Rg) (r : Rg) : Option Rg := match c with
  | none => some r
  | some b => if gtr r b = true then some r else some b
def bst (L : List Rg) : Option Rg := L.foldl bst1 none
def ow (L : List Rg) (b : Rg) : Nat := L.foldl (fun s r => if eqr r b = true then s ||| r.1 else s) 0
theorem gtr_f {r b : Rg} : ¬ gtr r b = true ↔ r.2.1.toInt * b.2.2.toInt ≤ b.2.1.toInt * r.2.2.toInt := by
  unfold gtr
  rw [decide_eq_true_iff]
  omega
/-- of the best nothing is greater, and it is of the list -/
theorem bst_top : ∀ L : List Rg, (∀ r, r ∈ L → okR r) → (bst L = none ∧ L = []) ∨ ∃ b, bst L = some b ∧ b ∈ L ∧ ∀ r, r ∈ L → ¬ gtr r b = true := by
  intro L
  generalize hn : L.length = n
  induction n generalizing L with
  | zero =>
    intro _
    have : L = [] := List.eq_nil_of_length_eq_zero hn
    subst this
    exact Or.inl ⟨rfl, rfl⟩
  | succ n ih =>
    intro ok
    right
    have ne : L ≠ [] := by
      rintro rfl
      cases hn
    obtain ⟨M, r, rfl⟩ : ∃ M r, L = M ++ [r] := ⟨L.dropLast, L.getLast ne, (List.dropLast_concat_getLast ne).symm⟩
    have hM : M.length = n := by
      rw [List.length_append] at hn
      have : M.length + 1 = n + 1 := hn
      omega
    have okM : ∀ r, r ∈ M → okR r := fun q hq => ok q (List.mem_append_left _ hq)
    have okr : okR r := ok r (List.mem_append_right _ (List.mem_singleton.mpr rfl))
    have st : bst (M ++ [r]) = bst1 (bst M) r := by
      unfold bst
      rw [List.foldl_append]
      rfl
    rw [st]
    rcases ih M hM okM with ⟨e1, e2⟩ | ⟨b, e1, e2, e3⟩
    · subst e2
      rw [e1]
      refine ⟨r, rfl, List.mem_append_right _ (List.mem_singleton.mpr rfl), fun q hq => ?_⟩
      have : q = r := by simpa using hq
      subst this
      rw [gtr_f]
      exact Int.le_refl _
    · rw [e1]
      have okb := okM b e2
      by_cases c : gtr r b = true
      · refine ⟨r, if_pos c, List.mem_append_right _ (List.mem_singleton.mpr rfl), fun q hq => ?_⟩
        rcases List.mem_append.mp hq with hq | hq
        · have okq := okM q hq
          have g := gtr_f.mp (e3 q hq)
          have c' : b.2.1.toInt * r.2.2.toInt < r.2.1.toInt * b.2.2.toInt := of_decide_eq_true c
          have := fr_lt' (y := q.2.2.toInt) (v := b.2.2.toInt) (q := r.2.2.toInt) (by have := okq.2.2.1; omega) (by have := okb.2.2.1; omega) (by have := okr.2.2.1; omega) g c'
          rw [gtr_f]
          omega
        · have : q = r := by simpa using hq
          subst this
          rw [gtr_f]
          exact Int.le_refl _
      · refine ⟨b, if_neg c, List.mem_append_left _ e2, fun q hq => ?_⟩
        rcases List.mem_append.mp hq with hq | hq
        · exact e3 q hq
        · have : q = r := by simpa using hq
          subst this
          exact c
