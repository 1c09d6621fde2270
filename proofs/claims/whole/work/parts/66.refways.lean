/-! ===== choices of ways: the reference's sums; walks of the reference ===== -/
def cWy (d : CD) (f : Nat → Bool) : CI := (dN d, (0, 0), (fun i => (bR d i).toInt), (fun i => (lR d i).toInt), f)
theorem sgm_ge0 {g : Nat → Int} (S : Nat) : ∀ n, (∀ i, i < n → 0 ≤ g i) → 0 ≤ sgm g S n := by
  intro n
  induction n with
  | zero => exact fun _ => Int.le_refl _
  | succ n ih =>
    intro h
    have i := ih (fun i hi => h i (by omega))
    have := h n (by omega)
    rw [sgm_s]
    split <;> omega
theorem sgm_pos {g : Nat → Int} : ∀ n S, (∀ i, i < n → 1 ≤ g i) → S < 2 ^ n → S ≠ 0 → 1 ≤ sgm g S n := by
  intro n
  induction n with
  | zero =>
    intro S _ h1 h2
    have : S = 0 := by simp at h1; omega
    exact absurd this h2
  | succ n ih =>
    intro S hg h1 h2
    rw [sgm_s]
    rcases split_top h1 with ⟨b, l⟩ | ⟨b, X, x1, x2, x3⟩
    · rw [b, if_neg (by decide), Int.add_zero]
      exact ih S (fun i hi => hg i (by omega)) l h2
    · rw [b, if_pos rfl]
      have g1 := hg n (by omega)
      have : 0 ≤ sgm g S n := by
        have := sgm_ge0 (g := g) S n (fun i hi => by have := hg i (by omega); omega)
        exact this
      omega
theorem cWy_ok {d : CD} (ok : okD d) {f : Nat → Bool} (hf : ∀ S, S < 2 ^ dN d → f S = true → S ≠ 0) : okC (cWy d f) := by
  have h14 := ok.2.2.1
  refine ⟨h14, fun i hi => ?_, ⟨by show (-1000000000 : Int) ≤ 0; omega, by show (0 : Int) ≤ 1000000000; omega, Int.le_refl _, by show (0 : Int) ≤ 1000000; omega⟩, fun S hS hc => ?_⟩
  · have b := bR_b ok (w := i) hi
    have l := lR_b ok (w := i) hi
    exact ⟨b.1, b.2, by show 0 ≤ (lR d i).toInt; omega, l.2⟩
  · have := sgm_pos (g := fun i => (lR d i).toInt) (dN d) S (fun i hi => (lR_b ok hi).1) hS (hf S hS hc)
    show 1 ≤ 0 + sgm (fun i => (lR d i).toInt) S (dN d)
    omega
section
variable {d : CD} {τ : ES} {f : Nat → Bool}
theorem aboveW_L (ok : okD d) (hm : mdl τ d) (h16 : ¬ eI τ 69 16 = 2) {S : Nat} (hS : S < 2 ^ dN d) : ∀ n i x, i ≤ 14 → 14 - i < n → x.toInt = sgm (fun i => (bR d i).toInt) S i → e_X10_aboveOf_L23 τ (nI S) n x (nI i) = some (cX (cWy d f) S) := by
  have h14 := ok.2.2.1
  have p : 2 ^ dN d ≤ 16384 := Nat.pow_le_pow_right (n := 2) (by decide) h14
  intro n
  induction n with
  | zero => intro i x h1 h2; omega
  | succ n ih =>
    intro i x h1 h2 hx
    have le : (14 : Int32) ≤ nI i ↔ 14 ≤ i := nLe (a := 14) (by omega) (by omega)
    simp only [e_X10_aboveOf_L23]
    by_cases q : 14 ≤ i
    · rw [if_pos (le.mpr q)]
      have e : i = 14 := by omega
      rw [e, sgm_ext hS 14 (by omega)] at hx
      rw [to64 hx]
      show some (Int64.ofInt (sgm (fun i => (bR d i).toInt) S (dN d))) = some (Int64.ofInt (0 + sgm (fun i => (bR d i).toInt) S (dN d)))
      rw [Int.zero_add]
    · rw [if_neg (fun y => q (le.mp y)), nI_1]
      by_cases b : S.testBit i = true
      · have hi : i < dN d := by
          by_cases l : i < dN d
          · exact l
          · rw [Nat.testBit_lt_two_pow (Nat.lt_of_lt_of_le hS (Nat.pow_le_pow_right (by decide) (by omega)))] at b
            cases b
        rw [if_neg (fun y => by rw [(bit_0 (by omega) (by omega)).mp y] at b; cases b), if_neg h16, m_brings ok hm hi, ob, show (brv (dw d i 0) (dw d i 3) (nI (dW d))).toInt64 = bR d i from rfl]
        have bb := sgm_b (g := fun i => (bR d i).toInt) (lo := -1100000000) (hi := 1100000000) (by omega) (by omega) S i (fun j hj => bR_b ok (by omega))
        have w := bR_b ok hi
        refine ih (i + 1) _ (by omega) (by omega) ?_
        rw [sgm_s, if_pos b, add64, hx]
        · rw [hx]
          omega
        · rw [hx]
          omega
      · have b' : S.testBit i = false := by simpa using b
        rw [if_pos ((bit_0 (by omega) (by omega)).mpr b'), z64]
        refine ih (i + 1) x (by omega) (by omega) ?_
        rw [sgm_s, if_neg b, hx, Int.add_zero]
theorem belowW_L (ok : okD d) (hm : mdl τ d) (h16 : ¬ eI τ 69 16 = 2) {S : Nat} (hS : S < 2 ^ dN d) : ∀ n i x, i ≤ 14 → 14 - i < n → x.toInt = sgm (fun i => (lR d i).toInt) S i → e_X10_belowOf_L23 τ (nI S) n x (nI i) = some (cY (cWy d f) S) := by
  have h14 := ok.2.2.1
  have p : 2 ^ dN d ≤ 16384 := Nat.pow_le_pow_right (n := 2) (by decide) h14
  intro n
  induction n with
  | zero => intro i x h1 h2; omega
  | succ n ih =>
    intro i x h1 h2 hx
    have le : (14 : Int32) ≤ nI i ↔ 14 ≤ i := nLe (a := 14) (by omega) (by omega)
    simp only [e_X10_belowOf_L23]
    by_cases q : 14 ≤ i
    · rw [if_pos (le.mpr q)]
      have e : i = 14 := by omega
      rw [e, sgm_ext hS 14 (by omega)] at hx
      rw [to64 hx]
      show some (Int64.ofInt (sgm (fun i => (lR d i).toInt) S (dN d))) = some (Int64.ofInt (0 + sgm (fun i => (lR d i).toInt) S (dN d)))
      rw [Int.zero_add]
    · rw [if_neg (fun y => q (le.mp y)), nI_1]
      by_cases b : S.testBit i = true
      · have hi : i < dN d := by
          by_cases l : i < dN d
          · exact l
          · rw [Nat.testBit_lt_two_pow (Nat.lt_of_lt_of_le hS (Nat.pow_le_pow_right (by decide) (by omega)))] at b
            cases b
        rw [if_neg (fun y => by rw [(bit_0 (by omega) (by omega)).mp y] at b; cases b), if_neg h16, m_lasts ok hm hi, ob, show (lsv (dw d i 0) (dw d i 4) (nI (dW d))).toInt64 = lR d i from rfl]
        have bb := sgm_b (g := fun i => (lR d i).toInt) (lo := 0) (hi := 2100000) (by omega) (by omega) S i (fun j hj => by have := lR_b ok (w := j) (by omega); exact ⟨by show 0 ≤ (lR d j).toInt; omega, this.2⟩)
        have w := lR_b ok hi
        refine ih (i + 1) _ (by omega) (by omega) ?_
        rw [sgm_s, if_pos b, add64, hx]
        · rw [hx]
          omega
        · rw [hx]
          omega
      · have b' : S.testBit i = false := by simpa using b
        rw [if_pos ((bit_0 (by omega) (by omega)).mpr b'), z64]
        refine ih (i + 1) x (by omega) (by omega) ?_
        rw [sgm_s, if_neg b, hx, Int.add_zero]
theorem sub_iff {S : Nat} (hS : S < 2 ^ dN d) : S &&& om d (dN d) = S ↔ ∀ i, i < dN d → S.testBit i = true → opw d i = true := by
  constructor
  · intro h i hi hb
    have := congrArg (fun x => Nat.testBit x i) h
    simp only [Nat.testBit_and] at this
    rw [hb, om_bit d (dN d) i hi, Bool.true_and] at this
    exact this
  · intro h
    apply Nat.eq_of_testBit_eq
    intro i
    rw [Nat.testBit_and]
    by_cases c : i < dN d
    · rw [om_bit d (dN d) i c]
      by_cases b : S.testBit i = true
      · have := h i c b
        unfold opw at this
        rw [b, this]
        rfl
      · have b' : S.testBit i = false := by simpa using b
        rw [b', Bool.false_and]
    · have : S.testBit i = false := Nat.testBit_lt_two_pow (Nat.lt_of_lt_of_le hS (Nat.pow_le_pow_right (by decide) (by omega)))
      rw [this, Bool.false_and]
/-- the reference's choices of ways, by what the sort asks -/
theorem RM_ways (ok : okD d) (hm : mdl τ d) (h16 : ¬ eI τ 69 16 = 2) (hf : ∀ S, S < 2 ^ dN d → e_X10_isChoice τ (nI S) = some (bi (f S))) : RM τ (cWy d f) := by
  have h14 := ok.2.2.1
  have p : 2 ^ dN d ≤ 16384 := Nat.pow_le_pow_right (n := 2) (by decide) h14
  refine ⟨?_, hf, fun S hS => ⟨?_, ?_⟩⟩
  · unfold e_X10_allSets
    rw [if_neg h16, hm.2.2.1]
    by_cases c : dN d < 14
    · rw [shl_nI (dN d) c]
      rfl
    · have : dN d = 14 := by omega
      show some _ = some (nI (2 ^ dN d))
      rw [this]
      rfl
  · unfold e_X10_aboveOf
    rw [if_neg h16]
    exact aboveW_L ok hm h16 hS mN 0 0 (by omega) (mN_big (by omega)) rfl
  · unfold e_X10_belowOf
    rw [if_neg h16]
    exact belowW_L ok hm h16 hS mN 0 0 (by omega) (mN_big (by omega)) rfl
theorem choice_w (ok : okD d) (hm : mdl τ d) (h16 : ¬ eI τ 69 16 = 2) {S : Nat} (hS : S < 2 ^ dN d) {g : Bool} (hg : S ≠ 0 → (∀ i, i < dN d → S.testBit i = true → opw d i = true) → (if (eI τ 69 16) = 0 then ((e_X10_isRound τ (nI S)).bind (fun r9 => if r9 = 0 ∨ r9 = 1 then (some r9) else none)) else (if (eI τ 69 16) = (1 : Int32) then ((e_X10_joinsAll τ (nI S)).bind (fun r6 => if r6 = 0 ∨ r6 = 1 then (some r6) else none)) else ((e_X10_rises τ (nI S)).bind (fun r3 => if r3 = 0 ∨ r3 = 1 then (some r3) else none)))) = some (bi g)) : e_X10_isChoice τ (nI S) = some (bi (decide (S ≠ 0) && (decide (∀ i, i < dN d → S.testBit i = true → opw d i = true) && g))) := by
  have h14 := ok.2.2.1
  have p : 2 ^ dN d ≤ 16384 := Nat.pow_le_pow_right (n := 2) (by decide) h14
  have oml : om d (dN d) < 16384 := om_14 d h14
  unfold e_X10_isChoice
  rw [if_neg h16]
  by_cases z : S = 0
  · rw [if_pos (show nI S = 0 from by rw [z]; rfl), decide_eq_false (fun x => x z), Bool.false_and]
    rfl
  · rw [if_neg (show ¬ nI S = 0 from fun y => z ((nI_i (by omega) (by omega)).mp y)), open_eq ok hm, ob, decide_eq_true z, Bool.true_and]
    by_cases s : ∀ i, i < dN d → S.testBit i = true → opw d i = true
    · rw [if_pos ((sub_nI (by omega) oml).mpr ((sub_iff hS).mpr s)), hg z s, decide_eq_true s, Bool.true_and]
    · rw [if_neg (fun y => s ((sub_iff hS).mp ((sub_nI (by omega) oml).mp y))), decide_eq_false s, Bool.false_and]
      rfl
theorem wayFrom_m (ok : okD d) (hm : mdl τ d) {S p : Nat} (hS : S < 16384) (hp : p < 2147483648) : ∃ y, e_X10_wayFrom τ (nI S) (nI p) = some y ∧ ((∃ i, wfl d S p = [i] ∧ y = nI i) ∨ ((∀ i, wfl d S p ≠ [i]) ∧ y = -1)) := by
  have h14 := ok.2.2.1
  have P6 := ok.1
  have key : ∀ n k x3, k ≤ dN d → dN d - k < n → ((((List.range k).filter (fun i => S.testBit i && decide (wf d i = p))) = [] ∧ x3 = -1) ∨ ∃ i M, ((List.range k).filter (fun i => S.testBit i && decide (wf d i = p))) = M ++ [i] ∧ x3 = nI i) → ∃ y, e_X10_wayFrom_L8 τ (nI S) (nI p) n x3 (nI ((List.range k).filter (fun i => S.testBit i && decide (wf d i = p))).length) (nI k) = some y ∧ ((∃ i, wfl d S p = [i] ∧ y = nI i) ∨ ((∀ i, wfl d S p ≠ [i]) ∧ y = -1)) := by
    intro n
    induction n with
    | zero => intro k x3 h1 h2; omega
    | succ n ih =>
      intro k x3 h1 h2 hx
      have le : nI (dN d) ≤ nI k ↔ dN d ≤ k := nLe (by omega) (by omega)
      have len : ((List.range k).filter (fun i => S.testBit i && decide (wf d i = p))).length ≤ k := by
        have := List.length_filter_le (fun i => S.testBit i && decide (wf d i = p)) (List.range k)
        rw [List.length_range] at this
        exact this
      simp only [e_X10_wayFrom_L8, hm.2.2.1]
      by_cases q : dN d ≤ k
      · have ek : k = dN d := by omega
        subst ek
        rw [if_pos (le.mpr q)]
        have one : nI ((List.range (dN d)).filter (fun i => S.testBit i && decide (wf d i = p))).length = 1 ↔ ((List.range (dN d)).filter (fun i => S.testBit i && decide (wf d i = p))).length = 1 := nI_i (b := 1) (by omega) (by omega)
        by_cases c : ((List.range (dN d)).filter (fun i => S.testBit i && decide (wf d i = p))).length = 1
        · rw [if_pos (one.mpr c)]
          refine ⟨x3, rfl, Or.inl ?_⟩
          rcases hx with ⟨e, _⟩ | ⟨i, M, e1, e2⟩
          · rw [e] at c
            cases c
          · rw [e1, List.length_append] at c
            have c : M.length + 1 = 1 := c
            have : M = [] := List.eq_nil_of_length_eq_zero (by omega)
            rw [this] at e1
            exact ⟨i, e1, e2⟩
        · rw [if_neg (fun y => c (one.mp y))]
          refine ⟨-1, rfl, Or.inr ⟨fun i hi => c ?_, rfl⟩⟩
          have hi : (List.range (dN d)).filter (fun i => S.testBit i && decide (wf d i = p)) = [i] := hi
          rw [hi]
          rfl
      · have hk : k < dN d := by omega
        obtain ⟨ew, lw⟩ := wf_eq ok hk
        have rs : (List.range (k + 1)).filter (fun i => S.testBit i && decide (wf d i = p)) = (List.range k).filter (fun i => S.testBit i && decide (wf d i = p)) ++ (if (S.testBit k && decide (wf d k = p)) = true then [k] else []) := by
          rw [List.range_succ, List.filter_append, List.filter_cons, List.filter_nil]
        have no : (S.testBit k && decide (wf d k = p)) = false → ∃ y, e_X10_wayFrom_L8 τ (nI S) (nI p) n x3 (nI ((List.range k).filter (fun i => S.testBit i && decide (wf d i = p))).length) (nI (k + 1)) = some y ∧ ((∃ i, wfl d S p = [i] ∧ y = nI i) ∨ ((∀ i, wfl d S p ≠ [i]) ∧ y = -1)) := by
          intro e
          rw [e, if_neg (by decide), List.append_nil] at rs
          have := ih (k + 1) x3 (by omega) (by omega)
          rw [rs] at this
          exact this hx
        rw [if_neg (fun y => q (le.mp y)), nI_1 k]
        by_cases b : S.testBit k = true
        · rw [if_pos ((bit_1 (by omega) (by omega)).mpr b), m_at ok hm hk 1 (by decide) 1 rfl, ob, ew]
          by_cases c : wf d k = p
          · rw [if_pos ((nI_i (by omega) hp).mpr c), nI_1]
            rw [b, decide_eq_true c, if_pos (by decide)] at rs
            have := ih (k + 1) (nI k) (by omega) (by omega)
            rw [rs, List.length_append] at this
            exact this (Or.inr ⟨k, _, rfl, rfl⟩)
          · rw [if_neg (fun y => c ((nI_i (by omega) hp).mp y))]
            exact no (by rw [decide_eq_false c, Bool.and_false])
        · rw [if_neg (fun y => b ((bit_1 (by omega) (by omega)).mp y))]
          have b' : S.testBit k = false := by simpa using b
          exact no (by rw [b', Bool.false_and])
  exact key mN 0 (-1) (Nat.zero_le _) (mN_big (by omega)) (Or.inl ⟨rfl, rfl⟩)
theorem rises_m (ok : okD d) (hm : mdl τ d) {S e : Nat} (hS : S < 16384) (he : e < 6) (h18 : eI τ 69 18 = nI e) : ∀ n f g p, p ≤ e → e - p < n → e - p < f → g < 16384 → e_X10_rises_L7 τ (nI S) n (nI g) (nI p) = some (bi (trv d S e f g p)) := by
  have h14 := ok.2.2.1
  have P6 := ok.1
  intro n
  induction n with
  | zero => intro f g p h1 h2; omega
  | succ n ih =>
    intro f g p h1 h2 h3 hg
    obtain ⟨f, rfl⟩ : ∃ f', f = f' + 1 := ⟨f - 1, by omega⟩
    simp only [e_X10_rises_L7, h18]
    by_cases c : p = e
    · subst c
      rw [if_pos rfl, trv_e]
      by_cases q : g = S
      · rw [if_pos ((nI_i (by omega) (by omega)).mpr q), decide_eq_true q]
        rfl
      · rw [if_neg (fun y => q ((nI_i (by omega) (by omega)).mp y)), decide_eq_false q]
        rfl
    · rw [if_neg (fun y => c ((nI_i (by omega) (by omega)).mp y))]
      obtain ⟨y, y1, y2⟩ := wayFrom_m ok hm hS (show p < 2147483648 by omega)
      rw [y1, ob]
      rcases y2 with ⟨i, i1, i2⟩ | ⟨i1, i2⟩
      · have m : i ∈ wfl d S p := by rw [i1]; exact List.mem_singleton.mpr rfl
        obtain ⟨m1, m2, m3⟩ := wfl_mem.mp m
        obtain ⟨et, lt⟩ := wt_eq ok m1
        rw [trv_1 c i1, i2, if_neg (nI_pos (by omega)), m_at ok hm m1 2 (by decide) 2 rfl, ob, ob, ob, et]
        have l1 : nI (wt d i) ≤ nI p ↔ wt d i ≤ p := nLe (by omega) (by omega)
        have l2 : nI (wt d i) ≤ nI e ↔ wt d i ≤ e := nLe (by omega) (by omega)
        by_cases q1 : wt d i ≤ p
        · rw [if_pos (l1.mpr q1), if_pos (Or.inl q1)]
          rfl
        · rw [if_neg (fun y => q1 (l1.mp y))]
          by_cases q2 : wt d i ≤ e
          · rw [if_pos (l2.mpr q2), if_neg (by omega)]
            have pw := p2_14 (t := i) (by omega)
            rw [shl_nI i (by omega), or_nI (by omega) (by omega)]
            exact ih f (g ||| 2 ^ i) (wt d i) q2 (by omega) (by omega) (or14 hg (by omega))
          · rw [if_neg (fun y => q2 (l2.mp y)), if_pos (Or.inr (by omega))]
            rfl
      · rw [i2, if_pos (by decide), trv_0 c i1]
        rfl
theorem RM_walk (ok : okD d) (hm : mdl τ d) (h16 : eI τ 69 16 = 3) {s e : Nat} (hs : s < e) (he : e < 6) (h17 : eI τ 69 17 = nI s) (h18 : eI τ 69 18 = nI e) : RM τ (cWy d (isWk d s e)) := by
  have h14 := ok.2.2.1
  have p : 2 ^ dN d ≤ 16384 := Nat.pow_le_pow_right (n := 2) (by decide) h14
  have n2 : ¬ eI τ 69 16 = 2 := by rw [h16]; decide
  refine RM_ways ok hm n2 (fun S hS => ?_)
  refine choice_w ok hm n2 hS (fun _ _ => ?_)
  have r := rises_m ok hm (S := S) (e := e) (by omega) he h18 mN 7 0 s (by omega) (mN_big (by omega)) (by omega) (by omega)
  have r' : e_X10_rises τ (nI S) = some (bi (trv d S e 7 0 s)) := by
    unfold e_X10_rises
    rw [h17]
    exact r
  rw [if_neg (by rw [h16]; decide), if_neg (by rw [h16]; decide), r', ob, if_pos (bi_d _)]
end
