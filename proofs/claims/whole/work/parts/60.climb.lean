/-! ===== choices, their sums, the climb ===== -/
def sgm (g : Nat → Int) (S : Nat) : Nat → Int
  | 0 => 0
  | n + 1 => sgm g S n + (if S.testBit n = true then g n else 0)
abbrev CI : Type := Nat × (Int × Int) × (Nat → Int) × (Nat → Int) × (Nat → Bool)
def cN (c : CI) : Nat := c.1
def cG (c : CI) : Nat → Int := c.2.2.1
def cT (c : CI) : Nat → Int := c.2.2.2.1
def ch (c : CI) : Nat → Bool := c.2.2.2.2
def cA (c : CI) (S : Nat) : Int := c.2.1.1 + sgm (cG c) S (cN c)
def cB (c : CI) (S : Nat) : Int := c.2.1.2 + sgm (cT c) S (cN c)
def okC (c : CI) : Prop := cN c ≤ 14 ∧ (∀ i, i < cN c → -1100000000 ≤ cG c i ∧ cG c i ≤ 1100000000 ∧ 0 ≤ cT c i ∧ cT c i ≤ 2100000) ∧ (-1000000000 ≤ c.2.1.1 ∧ c.2.1.1 ≤ 1000000000 ∧ 0 ≤ c.2.1.2 ∧ c.2.1.2 ≤ 1000000) ∧ ∀ S, S < 2 ^ cN c → ch c S = true → 1 ≤ cB c S
theorem sgm_b {g : Nat → Int} {lo hi : Int} (h1 : lo ≤ 0) (h2 : 0 ≤ hi) (S : Nat) : ∀ n, (∀ i, i < n → lo ≤ g i ∧ g i ≤ hi) → lo * (n : Int) ≤ sgm g S n ∧ sgm g S n ≤ hi * (n : Int) := by
  intro n
  induction n with
  | zero =>
    intro _
    show lo * ((0 : Nat) : Int) ≤ 0 ∧ (0 : Int) ≤ hi * ((0 : Nat) : Int)
    simp
  | succ n ih =>
    intro h
    obtain ⟨i1, i2⟩ := ih (fun i hi => h i (by omega))
    obtain ⟨j1, j2⟩ := h n (by omega)
    show lo * ((n + 1 : Nat) : Int) ≤ sgm g S n + (if S.testBit n = true then g n else 0) ∧ sgm g S n + (if S.testBit n = true then g n else 0) ≤ hi * ((n + 1 : Nat) : Int)
    rw [show ((n + 1 : Nat) : Int) = (n : Int) + 1 by omega, Int.mul_add, Int.mul_add, Int.mul_one, Int.mul_one]
    by_cases c : S.testBit n = true
    · rw [if_pos c]
      omega
    · rw [if_neg c]
      omega
theorem cA_b {c : CI} (ok : okC c) (S : Nat) : -16400000000 ≤ cA c S ∧ cA c S ≤ 16400000000 := by
  have b := sgm_b (g := cG c) (lo := -1100000000) (hi := 1100000000) (by omega) (by omega) S (cN c) (fun i hi => ⟨(ok.2.1 i hi).1, (ok.2.1 i hi).2.1⟩)
  have := ok.1
  have := ok.2.2.1
  unfold cA
  omega
theorem cB_b {c : CI} (ok : okC c) (S : Nat) : 0 ≤ cB c S ∧ cB c S ≤ 30400000 := by
  have b := sgm_b (g := cT c) (lo := 0) (hi := 2100000) (by omega) (by omega) S (cN c) (fun i hi => ⟨(ok.2.1 i hi).2.2.1, (ok.2.1 i hi).2.2.2⟩)
  have := ok.1
  have := ok.2.2.1
  unfold cB
  omega
theorem cAB {c : CI} (ok : okC c) (S R : Nat) : -498560000000000000 ≤ cA c S * cB c R ∧ cA c S * cB c R ≤ 498560000000000000 := by
  have a := cA_b ok S
  have b := cB_b ok R
  have := ab_le (a := 16400000000) (b := 30400000) a.1 a.2 b.1 b.2
  omega
/-- the least of those whose value is greatest -/
def isL (c : CI) (v : Nat → Int) (S : Nat) : Prop := S < 2 ^ cN c ∧ ch c S = true ∧ ∀ R, R < 2 ^ cN c → ch c R = true → v R ≤ v S ∧ (R < S → v R < v S)
theorem isL_u {c : CI} {v : Nat → Int} {S R : Nat} (h : isL c v S) (g : isL c v R) : S = R := by
  obtain ⟨h1, h2, h3⟩ := h
  obtain ⟨g1, g2, g3⟩ := g
  have a := h3 R g1 g2
  have b := g3 S h1 h2
  rcases Nat.lt_trichotomy S R with x | x | x
  · have := b.2 x
    omega
  · exact x
  · have := a.2 x
    omega
def vl (c : CI) (a b : Int) (S : Nat) : Int := cA c S * b - a * cB c S
theorem isL_sh {c : CI} {v w : Nat → Int} {k : Int} (e : ∀ S, v S = w S + k) {S : Nat} : isL c v S ↔ isL c w S := by
  unfold isL
  constructor
  · rintro ⟨h1, h2, h3⟩
    refine ⟨h1, h2, fun R r1 r2 => ?_⟩
    have := h3 R r1 r2
    rw [e R, e S] at this
    exact ⟨by omega, fun q => by have := this.2 q; omega⟩
  · rintro ⟨h1, h2, h3⟩
    refine ⟨h1, h2, fun R r1 r2 => ?_⟩
    have := h3 R r1 r2
    rw [e R, e S]
    exact ⟨by omega, fun q => by have := this.2 q; omega⟩
/-- sums of weights -/
theorem sgm_lin (g t : Nat → Int) (a b : Int) (S : Nat) : ∀ n, sgm (fun i => b * g i - a * t i) S n = b * sgm g S n - a * sgm t S n := by
  intro n
  induction n with
  | zero =>
    show (0 : Int) = b * 0 - a * 0
    omega
  | succ n ih =>
    show sgm (fun i => b * g i - a * t i) S n + (if S.testBit n = true then b * g n - a * t n else 0) = b * (sgm g S n + (if S.testBit n = true then g n else 0)) - a * (sgm t S n + (if S.testBit n = true then t n else 0))
    rw [ih, Int.mul_add, Int.mul_add]
    by_cases c : S.testBit n = true
    · rw [if_pos c, if_pos c, if_pos c]
      omega
    · rw [if_neg c, if_neg c, if_neg c]
      omega
def Wt (c : CI) (a b : Int) (i : Nat) : Int := b * cG c i - a * cT c i
theorem vl_eq (c : CI) (a b : Int) (S : Nat) : vl c a b S = sgm (Wt c a b) S (cN c) + (c.2.1.1 * b - a * c.2.1.2) := by
  have e : sgm (Wt c a b) S (cN c) = b * sgm (cG c) S (cN c) - a * sgm (cT c) S (cN c) := sgm_lin (cG c) (cT c) a b S (cN c)
  unfold vl cA cB
  rw [e, Int.add_mul, Int.mul_add, Int.mul_comm b]
  omega
theorem isL_W {c : CI} {a b : Int} {S : Nat} : isL c (vl c a b) S ↔ isL c (fun S => sgm (Wt c a b) S (cN c)) S := isL_sh (vl_eq c a b)
theorem isL_0 {c : CI} {S : Nat} : isL c (fun S => sgm (Wt c 0 0) S (cN c)) S ↔ isL c (fun _ => 0) S := by
  refine isL_sh (k := 0) (fun R => ?_)
  have e : sgm (Wt c 0 0) R (cN c) = 0 * sgm (cG c) R (cN c) - 0 * sgm (cT c) R (cN c) := sgm_lin (cG c) (cT c) 0 0 R (cN c)
  show sgm (Wt c 0 0) R (cN c) = _
  rw [e]
  omega
def noC (c : CI) : Prop := ∀ S, S < 2 ^ cN c → ch c S = false
/-- among finitely many there is one -/
theorem isL_ex (c : CI) (v : Nat → Int) : noC c ∨ ∃ S, isL c v S := by
  have key : ∀ m, m ≤ 2 ^ cN c → (∀ S, S < m → ch c S = false) ∨ ∃ S, S < m ∧ ch c S = true ∧ ∀ R, R < m → ch c R = true → v R ≤ v S ∧ (R < S → v R < v S) := by
    intro m
    induction m with
    | zero =>
      intro _
      exact Or.inl (fun S h => by omega)
    | succ m ih =>
      intro hm
      rcases ih (by omega) with h | ⟨S, s1, s2, s3⟩
      · by_cases q : ch c m = true
        · refine Or.inr ⟨m, by omega, q, fun R r1 r2 => ?_⟩
          have : R = m := by
            by_cases e : R = m
            · exact e
            · have := h R (by omega)
              rw [r2] at this
              cases this
          rw [this]
          exact ⟨Int.le_refl _, fun x => by omega⟩
        · refine Or.inl (fun S hS => ?_)
          by_cases e : S = m
          · rw [e]
            simpa using q
          · exact h S (by omega)
      · by_cases q : ch c m = true
        · by_cases l : v S < v m
          · refine Or.inr ⟨m, by omega, q, fun R r1 r2 => ?_⟩
            by_cases e : R = m
            · rw [e]
              exact ⟨Int.le_refl _, fun x => by omega⟩
            · have := s3 R (by omega) r2
              exact ⟨by omega, fun _ => by omega⟩
          · refine Or.inr ⟨S, by omega, s2, fun R r1 r2 => ?_⟩
            by_cases e : R = m
            · rw [e]
              exact ⟨by omega, fun x => by omega⟩
            · exact s3 R (by omega) r2
        · refine Or.inr ⟨S, by omega, s2, fun R r1 r2 => ?_⟩
          by_cases e : R = m
          · rw [e] at r2
            exact absurd r2 q
          · exact s3 R (by omega) r2
  rcases key (2 ^ cN c) (Nat.le_refl _) with h | ⟨S, h1, h2, h3⟩
  · exact Or.inl h
  · exact Or.inr ⟨S, h1, h2, h3⟩
/-- the climb: from a choice, so many steps gone; the one it ends with, the steps, the one behind -/
noncomputable def nx (c : CI) (S : Nat) : Nat := Classical.epsilon (fun N => isL c (vl c (cA c S) (cB c S)) N)
theorem nx_is {c : CI} {S N : Nat} (h : isL c (vl c (cA c S) (cB c S)) N) : nx c S = N := isL_u (Classical.epsilon_spec ⟨N, h⟩) h
theorem nx_L {c : CI} {S : Nat} (h1 : S < 2 ^ cN c) (h2 : ch c S = true) : isL c (vl c (cA c S) (cB c S)) (nx c S) := by
  rcases isL_ex c (vl c (cA c S) (cB c S)) with h | ⟨N, h⟩
  · rw [h S h1] at h2
    cases h2
  · rw [nx_is h]
    exact h
def gtc (c : CI) (R S : Nat) : Bool := decide (cA c S * cB c R < cA c R * cB c S)
noncomputable def clm (c : CI) : Nat → Nat → Nat → Option (Nat × Nat × Nat)
  | 0, _, _ => none
  | f + 1, S, k => if gtc c (nx c S) S = true then clm c f (nx c S) (k + 1) else some (S, k, nx c S)
def mu (c : CI) (S : Nat) : Nat := ((List.range (2 ^ cN c)).filter (fun R => ch c R && gtc c R S)).length
theorem fil_lt {p q : Nat → Bool} (h : ∀ x, p x = true → q x = true) : ∀ l : List Nat, (l.filter p).length ≤ (l.filter q).length ∧ ((∃ x, x ∈ l ∧ q x = true ∧ ¬ p x = true) → (l.filter p).length < (l.filter q).length) := by
  intro l
  induction l with
  | nil => exact ⟨Nat.le_refl _, fun ⟨x, hx, _⟩ => by cases hx⟩
  | cons y l ih =>
    obtain ⟨i1, i2⟩ := ih
    rw [List.filter_cons, List.filter_cons]
    by_cases a : p y = true
    · rw [if_pos a, if_pos (h y a), List.length_cons, List.length_cons]
      refine ⟨by omega, fun ⟨x, hx, x1, x2⟩ => ?_⟩
      rcases List.mem_cons.mp hx with e | e
      · rw [e] at x2
        exact absurd a x2
      · have := i2 ⟨x, e, x1, x2⟩
        omega
    · rw [if_neg a]
      by_cases b : q y = true
      · rw [if_pos b, List.length_cons]
        exact ⟨by omega, fun _ => by omega⟩
      · rw [if_neg b]
        refine ⟨i1, fun ⟨x, hx, x1, x2⟩ => ?_⟩
        rcases List.mem_cons.mp hx with e | e
        · rw [e] at x1
          exact absurd x1 b
        · exact i2 ⟨x, e, x1, x2⟩
theorem mu_lt {c : CI} (ok : okC c) {S N : Nat} (h1 : S < 2 ^ cN c) (h2 : ch c S = true) (n1 : N < 2 ^ cN c) (n2 : ch c N = true) (g : gtc c N S = true) : mu c N < mu c S := by
  have g' : cA c S * cB c N < cA c N * cB c S := of_decide_eq_true g
  have bS := ok.2.2.2 S h1 h2
  have bN := ok.2.2.2 N n1 n2
  unfold mu
  have pos : ∀ R, ch c R = true → gtc c R N = true → cB c R > 0 ∨ ¬ R < 2 ^ cN c := by
    intro R r1 _
    by_cases x : R < 2 ^ cN c
    · left
      have := ok.2.2.2 R x r1
      omega
    · exact Or.inr x
  have sub : ((List.range (2 ^ cN c)).filter (fun R => ch c R && gtc c R N)).length < ((List.range (2 ^ cN c)).filter (fun R => ch c R && (gtc c R S || !decide (R < 2 ^ cN c)))).length := by
    refine (fil_lt (fun R hR => ?_) _).2 ⟨N, List.mem_range.mpr n1, ?_, ?_⟩
    · rw [Bool.and_eq_true] at hR ⊢
      refine ⟨hR.1, ?_⟩
      rcases pos R hR.1 hR.2 with x | x
      · have r := of_decide_eq_true hR.2
        have := fr_lt' (x := cA c S) (y := cB c S) (u := cA c N) (v := cB c N) (p := cA c R) (q := cB c R) (by omega) (by omega) (by omega) (by omega) r
        rw [Bool.or_eq_true]
        exact Or.inl (decide_eq_true this)
      · rw [Bool.or_eq_true]
        right
        rw [decide_eq_false x]
        rfl
    · rw [Bool.and_eq_true, Bool.or_eq_true]
      exact ⟨n2, Or.inl g⟩
    · rw [Bool.and_eq_true]
      rintro ⟨_, x⟩
      have := of_decide_eq_true x
      omega
  have same : ((List.range (2 ^ cN c)).filter (fun R => ch c R && (gtc c R S || !decide (R < 2 ^ cN c)))) = ((List.range (2 ^ cN c)).filter (fun R => ch c R && gtc c R S)) := by
    refine List.filter_congr (fun R hR => ?_)
    rw [decide_eq_true (List.mem_range.mp hR), Bool.not_true, Bool.or_false]
  rw [same] at sub
  exact sub
theorem clm_ex {c : CI} (ok : okC c) : ∀ m S k, S < 2 ^ cN c → ch c S = true → mu c S ≤ m → ∃ r, clm c (m + 1) S k = some r ∧ r.2.1 ≤ k + m ∧ k ≤ r.2.1 ∧ r.1 < 2 ^ cN c ∧ ch c r.1 = true ∧ r.2.2 = nx c r.1 ∧ ¬ gtc c r.2.2 r.1 = true := by
  intro m
  induction m with
  | zero =>
    intro S k h1 h2 h3
    have L := nx_L h1 h2
    show ∃ r, (if gtc c (nx c S) S = true then clm c 0 (nx c S) (k + 1) else some (S, k, nx c S)) = some r ∧ _
    by_cases g : gtc c (nx c S) S = true
    · have := mu_lt ok h1 h2 L.1 L.2.1 g
      omega
    · rw [if_neg g]
      exact ⟨_, rfl, by show k ≤ k + 0; omega, Nat.le_refl _, h1, h2, rfl, g⟩
  | succ m ih =>
    intro S k h1 h2 h3
    have L := nx_L h1 h2
    show ∃ r, (if gtc c (nx c S) S = true then clm c (m + 1) (nx c S) (k + 1) else some (S, k, nx c S)) = some r ∧ _
    by_cases g : gtc c (nx c S) S = true
    · have := mu_lt ok h1 h2 L.1 L.2.1 g
      obtain ⟨r, r1, r2, r3, r4⟩ := ih (nx c S) (k + 1) L.1 L.2.1 (by omega)
      rw [if_pos g]
      exact ⟨r, r1, by omega, by omega, r4⟩
    · rw [if_neg g]
      exact ⟨_, rfl, by show k ≤ k + (m + 1); omega, Nat.le_refl _, h1, h2, rfl, g⟩
theorem mu_top {c : CI} {S : Nat} (h1 : S < 2 ^ cN c) (h2 : ch c S = true) : mu c S + 1 ≤ 2 ^ cN c := by
  unfold mu
  have := (fil_lt (p := fun R => ch c R && gtc c R S) (q := fun _ => true) (fun _ _ => rfl) (List.range (2 ^ cN c))).2 ⟨S, List.mem_range.mpr h1, rfl, by
    rw [Bool.and_eq_true]
    rintro ⟨_, x⟩
    have := of_decide_eq_true x
    omega⟩
  rw [List.filter_eq_self.mpr (fun _ _ => rfl), List.length_range] at this
  omega
/-- the one behind the last is the least that is as good -/
theorem last_like {c : CI} {S : Nat} (h1 : S < 2 ^ cN c) (h2 : ch c S = true) (g : ¬ gtc c (nx c S) S = true) : nx c S < 2 ^ cN c ∧ ch c (nx c S) = true ∧ cA c (nx c S) * cB c S = cA c S * cB c (nx c S) ∧ ∀ R, R < nx c S → ch c R = true → ¬ cA c R * cB c S = cA c S * cB c R := by
  obtain ⟨n1, n2, n3⟩ := nx_L h1 h2
  have g' : ¬ cA c S * cB c (nx c S) < cA c (nx c S) * cB c S := fun x => g (decide_eq_true x)
  have s := (n3 S h1 h2).1
  unfold vl at n3 s
  have e : cA c (nx c S) * cB c S = cA c S * cB c (nx c S) := by omega
  refine ⟨n1, n2, e, fun R r1 r2 q => ?_⟩
  have := (n3 R (by omega) r2).2 r1
  omega
