/-! ===== raise: the least gain ===== -/
def nd (rv : Option Rg) (gain : Int) (r : Rg) : Int := match rv with
  | none => -999999999
  | some c => -(((r.2.1.toInt - gain) * c.2.2.toInt - c.2.1.toInt * r.2.2.toInt) / c.2.2.toInt)
def ml (rv : Option Rg) (gain : Int) (w : Nat) (m : Int) (L : List Rg) : Int := L.foldl (fun m r => if r.1.testBit w = true then (if nd rv gain r < m then nd rv gain r else m) else m) m
theorem ml_le (rv : Option Rg) (gain : Int) (w : Nat) (g : Int) : ∀ (L : List Rg) (m : Int), ml rv gain w m L ≤ g ↔ m ≤ g ∨ ∃ r, r ∈ L ∧ r.1.testBit w = true ∧ nd rv gain r ≤ g := by
  intro L
  induction L with
  | nil =>
    intro m
    constructor
    · exact fun h => Or.inl h
    · rintro (h | ⟨r, hr, _⟩)
      · exact h
      · cases hr
  | cons r L ih =>
    intro m
    show ml rv gain w (if r.1.testBit w = true then (if nd rv gain r < m then nd rv gain r else m) else m) L ≤ g ↔ _
    rw [ih]
    constructor
    · rintro (h | ⟨q, hq, h⟩)
      · by_cases c : r.1.testBit w = true
        · rw [if_pos c] at h
          by_cases c1 : nd rv gain r < m
          · rw [if_pos c1] at h
            exact Or.inr ⟨r, List.mem_cons_self .., c, h⟩
          · rw [if_neg c1] at h
            exact Or.inl h
        · rw [if_neg c] at h
          exact Or.inl h
      · exact Or.inr ⟨q, List.mem_cons_of_mem _ hq, h⟩
    · rintro (h | ⟨q, hq, h1, h2⟩)
      · left
        by_cases c : r.1.testBit w = true
        · rw [if_pos c]
          by_cases c1 : nd rv gain r < m
          · rw [if_pos c1]
            omega
          · rw [if_neg c1]
            exact h
        · rw [if_neg c]
          exact h
      · rcases List.mem_cons.mp hq with e | hq
        · subst e
          left
          rw [if_pos h1]
          by_cases c1 : nd rv gain q < m
          · rw [if_pos c1]
            exact h2
          · rw [if_neg c1]
            omega
        · exact Or.inr ⟨q, hq, h1, h2⟩
theorem nd_b {rv : Option Rg} {gain : Int} {r : Rg} (hr : okR r) (hv : ∀ c, rv = some c → okR c) (g1 : -999999999 ≤ gain) (g2 : gain ≤ 999999999) : -1000000000000000000 ≤ nd rv gain r ∧ nd rv gain r ≤ 1000000000000000000 := by
  cases rv with
  | none =>
    show -1000000000000000000 ≤ (-999999999 : Int) ∧ (-999999999 : Int) ≤ 1000000000000000000
    omega
  | some c =>
    have oc := hv c rfl
    have p1 := ab_le (a := 10000000000) (b := 20000000) (x := r.2.1.toInt - gain) (y := c.2.2.toInt) (by have := hr.2.1; omega) (by have := hr.2.1; omega) (by have := oc.2.2; omega) oc.2.2.2
    have p2 := ro_b oc hr
    have hq : 0 < c.2.2.toInt := by have := oc.2.2; omega
    show -1000000000000000000 ≤ -(((r.2.1.toInt - gain) * c.2.2.toInt - c.2.1.toInt * r.2.2.toInt) / c.2.2.toInt) ∧ -(((r.2.1.toInt - gain) * c.2.2.toInt - c.2.1.toInt * r.2.2.toInt) / c.2.2.toInt) ≤ 1000000000000000000
    revert p1 p2
    generalize (r.2.1.toInt - gain) * c.2.2.toInt = u
    generalize c.2.1.toInt * r.2.2.toInt = v
    intro p1 p2
    have a1 : -1000000000000000000 ≤ (u - v) / c.2.2.toInt := by
      rw [Int.le_ediv_iff_mul_le hq]
      have : -1000000000000000000 * c.2.2.toInt ≤ -1000000000000000000 * 1 := Int.mul_le_mul_of_nonpos_left (by omega) (by omega)
      omega
    have a2 : (u - v) / c.2.2.toInt ≤ 1000000000000000000 := by
      by_cases x : (u - v) / c.2.2.toInt ≤ 1000000000000000000
      · exact x
      · have h : 1000000000000000001 ≤ (u - v) / c.2.2.toInt := by omega
        rw [Int.le_ediv_iff_mul_le hq] at h
        have : 1000000000000000001 * 1 ≤ 1000000000000000001 * c.2.2.toInt := Int.mul_le_mul_of_nonneg_left (by omega) (by omega)
        omega
    omega
theorem raise_C {d : CD} (ok : okD d) {w : Nat} (hw : w < dN d) {σ : ES} (hc : cls σ 1 d) {L : List Rg} (hs : sto σ L) (hl : L.length ≤ 1296) (okL : ∀ r, r ∈ L → okR r) {x : Int32} {rv : Option Rg} (hx : rp L x rv) : ∀ f i (m : Int64), i ≤ L.length → L.length - i < f → -1000000000000000000 ≤ m.toInt → m.toInt ≤ 1000000000000000000 → e_X9_raise_L50 (nI w) f (nI (2 ^ w)) x m (nI i) σ = (if ml rv (dw d w 3).toInt w m.toInt (L.drop i) ≤ 999999999 then some (Int32.ofInt (if -999999999 < ml rv (dw d w 3).toInt w m.toInt (L.drop i) then ml rv (dw d w 3).toInt w m.toInt (L.drop i) else -999999999), σ) else some (-2000000001 - nI 3, fx 3 σ)) := by
  have h14 := ok.2.2.1
  have o3 := (ok.2.2.2.2.1 w hw).2.2.2.2.1
  have hv : ∀ c, rv = some c → okR c := by
    intro c e
    rcases hx with ⟨_, e2⟩ | ⟨j, b, e1, e2, e3, e4⟩
    · rw [e2] at e
      cases e
    · rw [e4] at e
      have : b = c := Option.some.inj e
      subst this
      exact okL b (List.mem_of_getElem? e3)
  intro f
  induction f with
  | zero => intro i m h1 h2; omega
  | succ f ih =>
    intro i m h1 h2 h3 h4
    have le : nI L.length ≤ nI i ↔ L.length ≤ i := nLe (by omega) (by omega)
    simp only [e_X9_raise_L50, hs.1]
    by_cases c0 : L.length ≤ i
    · rw [if_pos (le.mpr c0), List.drop_eq_nil_of_le c0]
      have em : ml rv (dw d w 3).toInt w m.toInt [] = m.toInt := rfl
      rw [em]
      have c9 : (999999999 : Int64).toInt = 999999999 := rfl
      have n9 : (-999999999 : Int64).toInt = -999999999 := rfl
      by_cases c1 : m.toInt ≤ 999999999
      · rw [if_pos (show m ≤ 999999999 by rw [le64, c9]; exact c1), if_pos c1]
        congr 2
        by_cases c2 : -999999999 < m.toInt
        · rw [if_pos c2, if_pos (show (-999999999 : Int64) < m by rw [lt64, n9]; exact c2)]
          rw [eq32, Int64.toInt_toInt32, Int32.toInt_ofInt]
        · rw [if_neg c2, if_neg (show ¬ (-999999999 : Int64) < m by rw [lt64, n9]; exact c2)]
          rfl
      · rw [if_neg (show ¬ m ≤ 999999999 by rw [le64, c9]; exact c1), if_neg c1, f3, ob]
    · have hi : i < L.length := by omega
      have gw : L[i]? = some (L[i]) := List.getElem?_eq_getElem hi
      have dr := List.drop_eq_getElem_cons hi
      revert gw dr
      generalize L[i] = r
      intro gw dr
      have okr := okL r (List.mem_of_getElem? gw)
      obtain ⟨a1, a2, a3⟩ := hs.2 i r gw
      have okr1 : r.1 < 16384 := okr.1
      have pw : 2 ^ w < 16384 := p2_14 (by omega)
      have an : nI r.1 &&& nI (2 ^ w) = 0 ↔ ¬ r.1.testBit w = true := by
        have le : r.1 &&& 2 ^ w ≤ 2 ^ w := Nat.and_le_right
        rw [and_nI (by omega) (by omega), ← nI_lit0, nI_i (by omega) (by omega), and_pw]
        simp
      have e5 : eI σ 5 w = dw d w 3 := hc.2.2.2.2.1 w hw 3 (by decide)
      have st : ml rv (dw d w 3).toInt w m.toInt (r :: L.drop (i + 1)) = ml rv (dw d w 3).toInt w (if r.1.testBit w = true then (if nd rv (dw d w 3).toInt r < m.toInt then nd rv (dw d w 3).toInt r else m.toInt) else m.toInt) (L.drop (i + 1)) := rfl
      rw [if_neg (fun x => c0 (le.mp x)), if_pos (mib_nI (by omega) (by decide)), nIc (by omega), a1, dr, st, nIc (show w < 2147483648 by omega), e5, a2, a3]
      by_cases c1 : r.1.testBit w = true
      · rw [if_neg (fun x => (an.mp x) c1), if_pos (mib_nI (by omega) (by decide)), if_pos c1]
        have nb := nd_b okr hv o3.1 o3.2
        have go : ∀ s : Int64, s.toInt = nd rv (dw d w 3).toInt r → e_X9_raise_J131 (nI w) (e_X9_raise_L50 (nI w) f) (nI (2 ^ w)) x m (nI i) s σ = (if ml rv (dw d w 3).toInt w (if nd rv (dw d w 3).toInt r < m.toInt then nd rv (dw d w 3).toInt r else m.toInt) (L.drop (i + 1)) ≤ 999999999 then some (Int32.ofInt (if -999999999 < ml rv (dw d w 3).toInt w (if nd rv (dw d w 3).toInt r < m.toInt then nd rv (dw d w 3).toInt r else m.toInt) (L.drop (i + 1)) then ml rv (dw d w 3).toInt w (if nd rv (dw d w 3).toInt r < m.toInt then nd rv (dw d w 3).toInt r else m.toInt) (L.drop (i + 1)) else -999999999), σ) else some (-2000000001 - nI 3, fx 3 σ)) := by
          intro s hs'
          unfold e_X9_raise_J131
          have e : (if s < m then s else m).toInt = if nd rv (dw d w 3).toInt r < m.toInt then nd rv (dw d w 3).toInt r else m.toInt := by
            by_cases c : s < m
            · rw [if_pos c, if_pos (by rw [lt64, hs'] at c; exact c), hs']
            · rw [if_neg c, if_neg (by rw [lt64, hs'] at c; exact c)]
          have b : -1000000000000000000 ≤ (if s < m then s else m).toInt ∧ (if s < m then s else m).toInt ≤ 1000000000000000000 := by
            by_cases c : s < m
            · rw [if_pos c, hs']
              exact nb
            · rw [if_neg c]
              exact ⟨h3, h4⟩
          rw [nI_1, ih (i + 1) _ (by omega) (by omega) b.1 b.2, e]
        rcases hx with ⟨e1, e2⟩ | ⟨j, b, e1, e2, e3, e4⟩
        · rw [if_pos e1]
          exact go _ (by rw [e2]; rfl)
        · obtain ⟨_, s1, s2⟩ := hs.2 j b e3
          have okb := okL b (List.mem_of_getElem? e3)
          have q0 : 0 < b.2.2.toInt := by have := okb.2.2; omega
          rw [e1, if_neg (nI_m1 (by omega))]
          unfold e_X4_missingTo
          rw [if_pos (mib_nI e2 (by decide)), nIc (by omega), s1, s2, if_pos (show (1 : Int64) ≤ b.2.2 by rw [le64]; exact okb.2.2.1)]
          have g3 : (dw d w 3).toInt64.toInt = (dw d w 3).toInt := t64 _
          have v1 : (r.2.1 - (dw d w 3).toInt64).toInt = r.2.1.toInt - (dw d w 3).toInt := by
            have := okr.2.1
            rw [sub64, g3] <;> rw [g3] <;> omega
          have p1 := ab_le (a := 10000000000) (b := 20000000) (x := r.2.1.toInt - (dw d w 3).toInt) (y := b.2.2.toInt) (by have := okr.2.1; omega) (by have := okr.2.1; omega) (by omega) okb.2.2.2
          have p2 := ro_b okb okr
          have v2 : ((r.2.1 - (dw d w 3).toInt64) * b.2.2).toInt = (r.2.1.toInt - (dw d w 3).toInt) * b.2.2.toInt := by
            rw [mul64, v1] <;> rw [v1] <;> omega
          have v3 := ro_m okb okr
          have v4 : ((r.2.1 - (dw d w 3).toInt64) * b.2.2 - b.2.1 * r.2.2).toInt = (r.2.1.toInt - (dw d w 3).toInt) * b.2.2.toInt - b.2.1.toInt * r.2.2.toInt := by
            rw [sub64, v2, v3] <;> rw [v2, v3] <;> omega
          obtain ⟨q, q1, q2⟩ := floor_eq (x := (r.2.1 - (dw d w 3).toInt64) * b.2.2 - b.2.1 * r.2.2) q0 (by rw [v4]; omega)
          rw [q1, ob, ob, ← e1]
          have nv : nd rv (dw d w 3).toInt r = -q.toInt := by
            rw [e4, q2, v4]
            rfl
          refine go _ ?_
          rw [nv, neg64]
          rw [nv] at nb
          omega
      · rw [if_pos (an.mpr c1), if_neg c1, nI_1]
        exact ih (i + 1) m (by omega) (by omega) h3 h4
