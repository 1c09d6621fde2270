/-! ===== bounds of rings; the reference's best; the class's best ===== -/
theorem brv_b {k g z : Int32} (k1 : 0 ≤ k.toInt) (k2 : k.toInt ≤ 5) (g1 : -999999999 ≤ g.toInt) (g2 : g.toInt ≤ 999999999) (z1 : 0 ≤ z.toInt) (z2 : z.toInt ≤ 5) : -1100000000 ≤ (brv k g z).toInt ∧ (brv k g z).toInt ≤ 1100000000 := by
  have c5 : (5 : Int32).toInt = 5 := rfl
  have c3 : (3 : Int32).toInt = 3 := rfl
  have c7 : (7 : Int32).toInt = 7 := rfl
  have c9 : (9 : Int32).toInt = 9 := rfl
  have c11 : (11 : Int32).toInt = 11 := rfl
  have m5 : (5 * z).toInt = 5 * z.toInt := by rw [mul32, c5] <;> rw [c5] <;> omega
  have m3 : (3 * z).toInt = 3 * z.toInt := by rw [mul32, c3] <;> rw [c3] <;> omega
  have s7 : (g - 7).toInt = g.toInt - 7 := by rw [sub32, c7] <;> rw [c7] <;> omega
  have s5 : (g - 5 * z).toInt = g.toInt - 5 * z.toInt := by rw [sub32, m5] <;> rw [m5] <;> omega
  rcases k6 k1 k2 with e | e | e | e | e | e <;> subst e
  · show -1100000000 ≤ g.toInt ∧ _
    have : brv 0 g z = g := rfl
    rw [this]
    omega
  · have : brv 1 g z = g - 7 := rfl
    rw [this, s7]
    omega
  · have : brv 2 g z = g - 5 * z := rfl
    rw [this, s5]
    omega
  · have : brv 3 g z = g - 7 + 3 * z := rfl
    rw [this, add32, s7, m3] <;> (try rw [s7, m3]) <;> omega
  · have : brv 4 g z = g - 5 * z - 11 := rfl
    rw [this, sub32, s5, c11] <;> (try rw [s5, c11]) <;> omega
  · by_cases c : z - z / 2 * 2 = 0
    · have : brv 5 g z = g + 9 := if_pos c
      rw [this, add32, c9] <;> (try rw [c9]) <;> omega
    · have : brv 5 g z = g := if_neg c
      rw [this]
      omega
theorem lsv_b {k t z : Int32} (k1 : 0 ≤ k.toInt) (k2 : k.toInt ≤ 5) (g1 : 1 ≤ t.toInt) (g2 : t.toInt ≤ 999999) (z1 : 0 ≤ z.toInt) (z2 : z.toInt ≤ 5) : 1 ≤ (lsv k t z).toInt ∧ (lsv k t z).toInt ≤ 2100000 := by
  have c1 : (1 : Int32).toInt = 1 := rfl
  have c2 : (2 : Int32).toInt = 2 := rfl
  have a1 : (t + 1).toInt = t.toInt + 1 := by rw [add32, c1] <;> rw [c1] <;> omega
  have a2 : (t + 2).toInt = t.toInt + 2 := by rw [add32, c2] <;> rw [c2] <;> omega
  have az : (t + z).toInt = t.toInt + z.toInt := by rw [add32] <;> omega
  rcases k6 k1 k2 with e | e | e | e | e | e <;> subst e
  · have : lsv 0 t z = t := rfl
    rw [this]
    omega
  · have : lsv 1 t z = t + 1 := rfl
    rw [this, a1]
    omega
  · have : lsv 2 t z = t + z := rfl
    rw [this, az]
    omega
  · have : lsv 3 t z = t + 1 := rfl
    rw [this, a1]
    omega
  · have : lsv 4 t z = 2 * (t + z) := rfl
    rw [this, mul32, c2, az] <;> (try rw [c2, az]) <;> omega
  · by_cases c : z ≤ 3
    · have : lsv 5 t z = t := if_pos c
      rw [this]
      omega
    · have : lsv 5 t z = t + 2 := if_neg c
      rw [this, a2]
      omega
theorem bR_b {d : CD} (ok : okD d) {w : Nat} (hw : w < dN d) : -1100000000 ≤ (bR d w).toInt ∧ (bR d w).toInt ≤ 1100000000 := by
  have o := ok.2.2.2.2.1 w hw
  have z := ok.2.1
  unfold bR
  rw [t64]
  exact brv_b o.1.1 o.1.2 o.2.2.2.2.1.1 o.2.2.2.2.1.2 (by rw [nIt (by omega)]; omega) (by rw [nIt (by omega)]; omega)
theorem lR_b {d : CD} (ok : okD d) {w : Nat} (hw : w < dN d) : 1 ≤ (lR d w).toInt ∧ (lR d w).toInt ≤ 2100000 := by
  have o := ok.2.2.2.2.1 w hw
  have z := ok.2.1
  unfold lR
  rw [t64]
  exact lsv_b o.1.1 o.1.2 o.2.2.2.2.2.1.1 o.2.2.2.2.2.1.2 (by rw [nIt (by omega)]; omega) (by rw [nIt (by omega)]; omega)
theorem rl_ok {d : CD} (ok : okD d) (op : Nat → Bool) (s : Nat) : ∀ (n a p k : Nat) (A B : Int64), n ≤ 8 → k < 16384 → -(1100000000 * (8 - (n : Int))) ≤ A.toInt → A.toInt ≤ 1100000000 * (8 - (n : Int)) → 0 ≤ B.toInt → B.toInt ≤ 2100000 * (8 - (n : Int)) → ∀ r, r ∈ rl d op n s a p k A B → okR r := by
  have h14 := ok.2.2.1
  intro n
  induction n with
  | zero =>
    intro a p k A B _ _ _ _ _ _ r hr
    cases hr
  | succ n ih =>
    intro a p k A B hn hk A1 A2 B1 B2 r hr
    rw [rl_outs] at hr
    obtain ⟨w, hw, hr⟩ := List.mem_flatMap.mp hr
    obtain ⟨hw, m1, m2⟩ := outs_mem hw
    have b1 := bR_b ok hw
    have l1 := lR_b ok hw
    have cn : ((n + 1 : Nat) : Int) = (n : Int) + 1 := by omega
    rw [cn] at A1 A2 B2
    have eA : (A + bR d w).toInt = A.toInt + (bR d w).toInt := add64 (by omega) (by omega)
    have eB : (B + lR d w).toInt = B.toInt + (lR d w).toInt := add64 (by omega) (by omega)
    unfold rc at hr
    rw [if_pos ⟨m1, m2⟩] at hr
    by_cases c1 : wt d w = s
    · rw [if_pos c1] at hr
      have : r = (k ||| 2 ^ w, A + bR d w, B + lR d w) := by simpa using hr
      subst this
      refine ⟨or14 hk (by omega), ?_, ?_⟩
      · show -9000000000 ≤ (A + bR d w).toInt ∧ (A + bR d w).toInt ≤ 9000000000
        rw [eA]
        omega
      · show 1 ≤ (B + lR d w).toInt ∧ (B + lR d w).toInt ≤ 20000000
        rw [eB]
        omega
    · rw [if_neg c1] at hr
      by_cases c2 : wt d w < s
      · rw [if_pos c2] at hr
        cases hr
      · rw [if_neg c2] at hr
        by_cases c3 : p.testBit (wt d w) = true
        · rw [if_pos c3] at hr
          cases hr
        · rw [if_neg c3] at hr
          exact ih _ _ _ _ _ (by omega) (or14 hk (by omega)) (by rw [eA]; omega) (by rw [eA]; omega) (by rw [eB]; omega) (by rw [eB]; omega) r hr
theorem al_ok {d : CD} (ok : okD d) (op : Nat → Bool) : ∀ r, r ∈ al d op → okR r := by
  intro r hr
  unfold al at hr
  obtain ⟨s, hs, hr⟩ := List.mem_flatMap.mp hr
  have z : (0 : Int64).toInt = 0 := rfl
  exact rl_ok ok op s 8 s (2 ^ s) 0 0 0 (by omega) (by omega) (by rw [z]; omega) (by rw [z]; omega) (by rw [z]; omega) (by rw [z]; omega) r hr
theorem lrev {α : Type} {p : List α → Prop} (h0 : p []) (h1 : ∀ M r, p M → p (M ++ [r])) : ∀ L, p L := by
  intro L
  have : ∀ n (L : List α), L.length = n → p L := by
    intro n
    induction n with
    | zero =>
      intro L hn
      have : L = [] := List.eq_nil_of_length_eq_zero hn
      subst this
      exact h0
    | succ n ih =>
      intro L hn
      have ne : L ≠ [] := by
        rintro rfl
        cases hn
      obtain ⟨M, r, rfl⟩ : ∃ M r, L = M ++ [r] := ⟨L.dropLast, L.getLast ne, (List.dropLast_concat_getLast ne).symm⟩
      rw [List.length_append] at hn
      have : M.length + 1 = n + 1 := hn
      exact h1 M r (ih M (by omega))
  exact this L.length L rfl
theorem ow_0 {b : Rg} : ∀ L : List Rg, (∀ q, q ∈ L → ¬ eqr q b = true) → ow L b = 0 := by
  refine lrev (fun _ => rfl) (fun M r ih h => ?_)
  unfold ow
  rw [List.foldl_append]
  show (if eqr r b = true then ow M b ||| r.1 else ow M b) = 0
  rw [if_neg (h r (List.mem_append_right _ (List.mem_singleton.mpr rfl)))]
  exact ih (fun q hq => h q (List.mem_append_left _ hq))
theorem eqr_r (r : Rg) : eqr r r = true := by
  unfold eqr
  exact decide_eq_true rfl
theorem ow_app (M : List Rg) (r b : Rg) : ow (M ++ [r]) b = if eqr r b = true then ow M b ||| r.1 else ow M b := by
  unfold ow
  rw [List.foldl_append]
  rfl
theorem bst_app (M : List Rg) (r : Rg) : bst (M ++ [r]) = bst1 (bst M) r := by
  unfold bst
  rw [List.foldl_append]
  rfl
theorem acs_fold (m : Nat) : ∀ L : List Rg, (∀ r, r ∈ L → okR r) → (bst (L.filter fun r => decide (m &&& r.1 = m)) = none ∧ L.foldl (acs m) ac0 = ac0) ∨ ∃ b, bst (L.filter fun r => decide (m &&& r.1 = m)) = some b ∧ L.foldl (acs m) ac0 = (true, ow (L.filter fun r => decide (m &&& r.1 = m)) b, b.2.1, b.2.2) := by
  refine lrev (fun _ => Or.inl ⟨rfl, rfl⟩) (fun M r ih ok => ?_)
  have okM : ∀ r, r ∈ M → okR r := fun q hq => ok q (List.mem_append_left _ hq)
  have okr : okR r := ok r (List.mem_append_right _ (List.mem_singleton.mpr rfl))
  have ih := ih okM
  rw [List.filter_append, List.filter_cons, List.filter_nil, List.foldl_append]
  have st : ∀ c, List.foldl (acs m) c [r] = acs m c r := fun _ => rfl
  rw [st]
  have okF : ∀ q, q ∈ M.filter (fun r => decide (m &&& r.1 = m)) → okR q := fun q hq => okM q (List.mem_filter.mp hq).1
  by_cases c : m &&& r.1 = m
  · rw [if_pos (decide_eq_true c), bst_app]
    right
    rcases ih with ⟨e1, e2⟩ | ⟨b, e1, e2⟩
    · rw [e1, e2]
      refine ⟨r, rfl, ?_⟩
      rw [ow_app, if_pos (eqr_r r)]
      have : ow (M.filter fun r => decide (m &&& r.1 = m)) r = 0 := by
        rcases bst_top _ okF with ⟨_, f⟩ | ⟨b, f, _⟩
        · rw [f]
          rfl
        · rw [e1] at f
          cases f
      rw [this, Nat.zero_or]
      unfold acs
      rw [if_pos c, if_pos (show ac0.1 = false from rfl)]
    · rw [e1, e2]
      obtain ⟨bm, top⟩ : b ∈ (M.filter fun r => decide (m &&& r.1 = m)) ∧ ∀ q, q ∈ (M.filter fun r => decide (m &&& r.1 = m)) → ¬ gtr q b = true := by
        rcases bst_top _ okF with ⟨f, _⟩ | ⟨b', f, g1, g2⟩
        · rw [e1] at f
          cases f
        · rw [e1] at f
          have : b = b' := Option.some.inj f
          subst this
          exact ⟨g1, g2⟩
      have okb := okF b bm
      have sg := ro_s okr okb
      have z : (0 : Int64).toInt = 0 := rfl
      have eac : acs m (true, ow (M.filter fun r => decide (m &&& r.1 = m)) b, b.2.1, b.2.2) r = if r.2.1 * b.2.2 - b.2.1 * r.2.2 ≤ 0 then (if r.2.1 * b.2.2 - b.2.1 * r.2.2 < 0 then (true, ow (M.filter fun r => decide (m &&& r.1 = m)) b, b.2.1, b.2.2) else (true, ow (M.filter fun r => decide (m &&& r.1 = m)) b ||| r.1, b.2.1, b.2.2)) else (true, r.1, r.2.1, r.2.2) := by
        unfold acs
        rw [if_pos c]
        exact if_neg (fun (x : true = false) => Bool.noConfusion x)
      rw [eac]
      by_cases g : gtr r b = true
      · have g' : b.2.1.toInt * r.2.2.toInt < r.2.1.toInt * b.2.2.toInt := of_decide_eq_true g
        refine ⟨r, if_pos g, ?_⟩
        rw [if_neg (by rw [le64, sg, z]; omega), ow_app, if_pos (eqr_r r), ow_0 _ (fun q hq => ?_), Nat.zero_or]
        have okq := okF q hq
        have g2 := gtr_f.mp (top q hq)
        have := fr_lt' (y := q.2.2.toInt) (v := b.2.2.toInt) (q := r.2.2.toInt) (by have := okq.2.2.1; omega) (by have := okb.2.2.1; omega) (by have := okr.2.2.1; omega) g2 g'
        unfold eqr
        rw [decide_eq_true_iff]
        omega
      · have g' := gtr_f.mp g
        refine ⟨b, if_neg g, ?_⟩
        rw [if_pos (by rw [le64, sg, z]; omega), ow_app]
        by_cases q : eqr r b = true
        · have q' : b.2.1.toInt * r.2.2.toInt = r.2.1.toInt * b.2.2.toInt := of_decide_eq_true q
          rw [if_neg (by rw [lt64, sg, z]; omega), if_pos q]
        · have q' : ¬ b.2.1.toInt * r.2.2.toInt = r.2.1.toInt * b.2.2.toInt := fun x => q (decide_eq_true x)
          rw [if_pos (by rw [lt64, sg, z]; omega), if_neg q]
  · rw [if_neg (fun x => c (of_decide_eq_true x)), List.append_nil]
    have e : ∀ a, acs m a r = a := by
      intro a
      unfold acs
      rw [if_neg c]
    rw [e]
    exact ih
