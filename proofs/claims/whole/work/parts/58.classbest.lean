/-! ===== the class's best ring ===== -/
def cmpq (x y : Int64) : Int32 := if y < x then 1 else if x = y then 0 else -1
theorem cmpq_eq (x y : Int64) : e_J13_compare_74951 x y = some (cmpq x y) := by
  unfold e_J13_compare_74951 cmpq
  by_cases c : y < x
  · have c1 : y ≤ x := by rw [le64]; rw [lt64] at c; omega
    have c2 : ¬ x = y := by rintro rfl; rw [lt64] at c; omega
    rw [if_pos c1, if_neg c2, if_pos c]
  · rw [if_neg c]
    by_cases c2 : x = y
    · subst c2
      rw [if_pos (by rw [le64]; omega), if_pos rfl, if_pos rfl]
    · have c1 : ¬ y ≤ x := by
        intro h
        rw [le64] at h
        rw [lt64] at c
        exact c2 (eq64.mpr (by omega))
      rw [if_neg c1, if_neg c2]
theorem order_c {σ : ES} {L : List Rg} (hs : sto σ L) (hl : L.length ≤ 1296) {i j : Nat} {r q : Rg} (hi : L[i]? = some r) (hj : L[j]? = some q) : e_X4_order σ (nI i) (nI j) = some (cmpq (r.2.1 * q.2.2) (q.2.1 * r.2.2)) := by
  have li := (List.getElem?_eq_some_iff.mp hi).1
  have lj := (List.getElem?_eq_some_iff.mp hj).1
  obtain ⟨_, a1, a2⟩ := hs.2 i r hi
  obtain ⟨_, b1, b2⟩ := hs.2 j q hj
  unfold e_X4_order
  rw [if_pos (mib_nI (by omega) (by decide)), if_pos (mib_nI (by omega) (by decide)), nIc (by omega), nIc (by omega), a1, a2, b1, b2, cmpq_eq, ob]
def rp (L : List Rg) (x : Int32) (c : Option Rg) : Prop := (x = -1 ∧ c = none) ∨ ∃ j b, x = nI j ∧ j < 1296 ∧ L[j]? = some b ∧ c = some b
theorem nI_m1 {j : Nat} (h : j < 2147483648) : ¬ nI j = -1 := by
  intro x
  have := congrArg Int32.toInt x
  rw [nIt h] at this
  have e : (-1 : Int32).toInt = -1 := rfl
  omega
theorem best_L {σ : ES} {L : List Rg} (hs : sto σ L) (hl : L.length ≤ 1296) (ok : ∀ r, r ∈ L → okR r) {m : Nat} (hm : m < 16384) : ∀ f i x c, i ≤ L.length → L.length - i < f → rp L x c → ∃ y, e_X4_best_L4 σ (nI m) f x (nI i) = some y ∧ rp L y (((L.drop i).filter fun r => decide (r.1 &&& m = 0)).foldl bst1 c) := by
  intro f
  induction f with
  | zero => intro i x c h1 h2; omega
  | succ f ih =>
    intro i x c h1 h2 hr
    have le : nI L.length ≤ nI i ↔ L.length ≤ i := nLe (by omega) (by omega)
    simp only [e_X4_best_L4, hs.1]
    by_cases c0 : L.length ≤ i
    · rw [if_pos (le.mpr c0), List.drop_eq_nil_of_le c0]
      exact ⟨x, rfl, hr⟩
    · have hi : i < L.length := by omega
      have gw : L[i]? = some (L[i]) := List.getElem?_eq_getElem hi
      have dr := List.drop_eq_getElem_cons hi
      revert gw dr
      generalize L[i] = r
      intro gw dr
      have okr := ok r (List.mem_of_getElem? gw)
      obtain ⟨a1, a2, a3⟩ := hs.2 i r gw
      have okr1 : r.1 < 16384 := okr.1
      have ln : r.1 &&& m ≤ m := Nat.and_le_right
      have an : nI r.1 &&& nI m = 0 ↔ r.1 &&& m = 0 := by
        rw [and_nI (by omega) (by omega), ← nI_lit0, nI_i (by omega) (by omega)]
      rw [if_neg (fun x => c0 (le.mp x)), if_pos (mib_nI (by omega) (by decide)), nIc (by omega), a1, dr, List.filter_cons, nI_1]
      by_cases c1 : r.1 &&& m = 0
      · rw [if_pos (an.mpr c1), if_pos (decide_eq_true c1), List.foldl_cons]
        rcases hr with ⟨e1, e2⟩ | ⟨j, b, e1, e2, e3, e4⟩
        · subst e1 e2
          rw [if_pos rfl]
          exact ih (i + 1) (nI i) (bst1 none r) (by omega) (by omega) (Or.inr ⟨i, r, rfl, by omega, gw, rfl⟩)
        · subst e1 e4
          have okb := ok b (List.mem_of_getElem? e3)
          rw [if_neg (nI_m1 (by omega)), order_c hs hl gw e3, ob]
          by_cases g : gtr r b = true
          · have e : cmpq (r.2.1 * b.2.2) (b.2.1 * r.2.2) = 1 := if_pos ((gtr_lt okr okb).mpr g)
            have e' : bst1 (some b) r = some r := if_pos g
            rw [e, e', if_neg (by decide)]
            exact ih (i + 1) (nI i) (some r) (by omega) (by omega) (Or.inr ⟨i, r, rfl, by omega, gw, rfl⟩)
          · have e : cmpq (r.2.1 * b.2.2) (b.2.1 * r.2.2) ≤ 0 := by
              unfold cmpq
              rw [if_neg (fun x => g ((gtr_lt okr okb).mp x))]
              split <;> decide
            have e' : bst1 (some b) r = some b := if_neg g
            rw [e', if_pos e]
            exact ih (i + 1) (nI j) (some b) (by omega) (by omega) (Or.inr ⟨j, b, rfl, e2, e3, rfl⟩)
      · rw [if_neg (fun x => c1 (an.mp x)), if_neg (fun x => c1 (of_decide_eq_true x))]
        exact ih (i + 1) x c (by omega) (by omega) hr
theorem best_c {σ : ES} {L : List Rg} (hs : sto σ L) (hl : L.length ≤ 1296) (ok : ∀ r, r ∈ L → okR r) {m : Nat} (hm : m < 16384) : ∃ y, e_X4_best σ (nI m) = some y ∧ rp L y (bst (L.filter fun r => decide (r.1 &&& m = 0))) := best_L hs hl ok hm mN 0 (-1) none (by omega) (mN_big (by omega)) (Or.inl ⟨rfl, rfl⟩)
theorem rw_L {σ : ES} {L : List Rg} (hs : sto σ L) (hl : L.length ≤ 1296) (ok : ∀ r, r ∈ L → okR r) {j : Nat} {b : Rg} (hj : L[j]? = some b) : ∀ f i s, i ≤ L.length → L.length - i < f → s < 16384 → e_X9_ringWays_L20 f (nI j) (nI s) (nI i) σ = some (nI ((L.drop i).foldl (fun s r => if eqr r b = true then s ||| r.1 else s) s), σ) := by
  have okb := ok b (List.mem_of_getElem? hj)
  intro f
  induction f with
  | zero => intro i s h1 h2; omega
  | succ f ih =>
    intro i s h1 h2 h3
    have le : nI L.length ≤ nI i ↔ L.length ≤ i := nLe (by omega) (by omega)
    simp only [e_X9_ringWays_L20, hs.1]
    by_cases c0 : L.length ≤ i
    · rw [if_pos (le.mpr c0), List.drop_eq_nil_of_le c0]
      rfl
    · have hi : i < L.length := by omega
      have gw : L[i]? = some (L[i]) := List.getElem?_eq_getElem hi
      have dr := List.drop_eq_getElem_cons hi
      revert gw dr
      generalize L[i] = r
      intro gw dr
      have okr := ok r (List.mem_of_getElem? gw)
      obtain ⟨a1, a2, a3⟩ := hs.2 i r gw
      have okr1 : r.1 < 16384 := okr.1
      rw [if_neg (fun x => c0 (le.mp x)), order_c hs hl gw hj, ob, dr, List.foldl_cons, nI_1]
      by_cases q : eqr r b = true
      · have e : cmpq (r.2.1 * b.2.2) (b.2.1 * r.2.2) = 0 := by
          unfold cmpq
          have q' := (eqr_eq okr okb).mpr q
          rw [q', if_neg (by rw [lt64]; omega), if_pos rfl]
        rw [e, if_pos rfl, if_pos (mib_nI (by omega) (by decide)), nIc (by omega), a1, or_nI (by omega) (by omega), if_pos q]
        exact ih (i + 1) (s ||| r.1) (by omega) (by omega) (Nat.or_lt_two_pow (n := 14) h3 okr1)
      · have e : ¬ cmpq (r.2.1 * b.2.2) (b.2.1 * r.2.2) = 0 := by
          unfold cmpq
          rw [if_neg (fun x => q ((eqr_eq okr okb).mp x))]
          split <;> decide
        rw [if_neg e, if_neg q]
        exact ih (i + 1) s (by omega) (by omega) h3
