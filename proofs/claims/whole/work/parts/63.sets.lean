/-! ===== sums over sets; greatest weight, least number ===== -/
theorem sgm_congr {g : Nat → Int} {S R : Nat} : ∀ n, (∀ i, i < n → S.testBit i = R.testBit i) → sgm g S n = sgm g R n := by
  intro n
  induction n with
  | zero => exact fun _ => rfl
  | succ n ih =>
    intro h
    rw [sgm_s, sgm_s, ih (fun i hi => h i (by omega)), h n (by omega)]
theorem sgm_gc {g g' : Nat → Int} {S : Nat} : ∀ n, (∀ i, i < n → g i = g' i) → sgm g S n = sgm g' S n := by
  intro n
  induction n with
  | zero => exact fun _ => rfl
  | succ n ih =>
    intro h
    rw [sgm_s, sgm_s, ih (fun i hi => h i (by omega)), h n (by omega)]
theorem sgm_or {g : Nat → Int} {S h : Nat} (hb : S.testBit h = false) : ∀ n, sgm g (S ||| 2 ^ h) n = sgm g S n + (if h < n then g h else 0) := by
  intro n
  induction n with
  | zero =>
    rw [if_neg (by omega)]
    rfl
  | succ n ih =>
    rw [sgm_s, sgm_s, ih]
    by_cases e : h = n
    · subst e
      rw [bit_self, if_neg (show ¬ h < h by omega), if_pos rfl, hb, if_neg (show ¬ false = true by decide), if_pos (show h < h + 1 by omega)]
    · rw [bit_ne e]
      by_cases l : h < n
      · rw [if_pos l, if_pos (show h < n + 1 by omega)]
        omega
      · rw [if_neg l, if_neg (show ¬ h < n + 1 by omega)]
        omega
theorem bit_top {S n : Nat} (h : S < 2 ^ (n + 1)) : S.testBit n = true ↔ 2 ^ n ≤ S := by
  have p : 2 ^ (n + 1) = 2 * 2 ^ n := by rw [Nat.pow_succ, Nat.mul_comm]
  have pos : 0 < 2 ^ n := Nat.pow_pos (by decide)
  rw [Nat.testBit_eq_decide_div_mod_eq, decide_eq_true_iff]
  constructor
  · intro q
    by_cases x : 2 ^ n ≤ S
    · exact x
    · rw [Nat.div_eq_of_lt (by omega)] at q
      cases q
  · intro q
    have : S / 2 ^ n = 1 := by
      rw [Nat.div_eq_iff pos]
      omega
    rw [this]
/-- a set is below a power of 2, or has its bit and one below -/
theorem split_top {S n : Nat} (h : S < 2 ^ (n + 1)) : (S.testBit n = false ∧ S < 2 ^ n) ∨ (S.testBit n = true ∧ ∃ X, X < 2 ^ n ∧ S = X + 2 ^ n ∧ ∀ i, i < n → S.testBit i = X.testBit i) := by
  have p : 2 ^ (n + 1) = 2 * 2 ^ n := by rw [Nat.pow_succ, Nat.mul_comm]
  by_cases c : 2 ^ n ≤ S
  · right
    refine ⟨(bit_top h).mpr c, S - 2 ^ n, by omega, by omega, fun i hi => ?_⟩
    have e : S = (S - 2 ^ n) ||| 2 ^ n := by
      rw [or_top (by omega)]
      omega
    rw [e]
    have : (S - 2 ^ n ||| 2 ^ n) - 2 ^ n = S - 2 ^ n := by rw [← e]
    rw [bit_ne (by omega), this]
  · left
    refine ⟨?_, by omega⟩
    have := mt (bit_top h).mp c
    simpa using this
theorem sgm_2 : ∀ n S, S < 2 ^ n → sgm (fun i => ((2 ^ i : Nat) : Int)) S n = (S : Int) := by
  intro n
  induction n with
  | zero =>
    intro S h
    have : S = 0 := by simp at h; omega
    subst this
    rfl
  | succ n ih =>
    intro S h
    rw [sgm_s]
    rcases split_top h with ⟨b, l⟩ | ⟨b, X, x1, x2, x3⟩
    · rw [b, if_neg (by decide), ih S l, Int.add_zero]
    · rw [b, if_pos rfl, sgm_congr n x3, ih X x1, x2]
      omega
theorem sgm_1 : ∀ n, n ≤ 14 → ∀ S, S < 2 ^ n → sgm (fun _ => 1) S n = (pcl 14 S : Int) := by
  intro n
  induction n with
  | zero =>
    intro _ S h
    have : S = 0 := by simp at h; omega
    subst this
    rw [pcl_0]
    rfl
  | succ n ih =>
    intro hn S h
    rw [sgm_s]
    rcases split_top h with ⟨b, l⟩ | ⟨b, X, x1, x2, x3⟩
    · rw [b, if_neg (by decide), ih (by omega) S l, Int.add_zero]
    · rw [b, if_pos rfl, sgm_congr n x3, ih (by omega) X x1, x2, pcl_top 14 n X (by omega) x1]
      omega
/-- weights by which the least number wins among those of one weight -/
def W2 (W : Nat → Int) (i : Nat) : Int := 16384 * W i - 1 * ((2 ^ i : Nat) : Int)
theorem sgm_W2 (W : Nat → Int) {n S : Nat} (h : S < 2 ^ n) : sgm (W2 W) S n = 16384 * sgm W S n - (S : Int) := by
  have e : sgm (W2 W) S n = 16384 * sgm W S n - 1 * sgm (fun i => ((2 ^ i : Nat) : Int)) S n := sgm_lin W (fun i => ((2 ^ i : Nat) : Int)) 1 16384 S n
  rw [e, sgm_2 n S h]
  omega
theorem isL_W2 {c : CI} (hn : cN c ≤ 14) {W : Nat → Int} {S : Nat} (h1 : S < 2 ^ cN c) (h2 : ch c S = true) (h3 : ∀ R, R < 2 ^ cN c → ch c R = true → sgm (W2 W) R (cN c) ≤ sgm (W2 W) S (cN c)) : isL c (fun S => sgm W S (cN c)) S := by
  refine ⟨h1, h2, fun R r1 r2 => ?_⟩
  have p : 2 ^ cN c ≤ 16384 := Nat.pow_le_pow_right (n := 2) (by decide) hn
  have := h3 R r1 r2
  rw [sgm_W2 W r1, sgm_W2 W h1] at this
  show sgm W R (cN c) ≤ sgm W S (cN c) ∧ (R < S → sgm W R (cN c) < sgm W S (cN c))
  exact ⟨by omega, fun q => by omega⟩
theorem W2_le {W : Nat → Int} {i j : Nat} (hj : j < 14) (h : i < j) : (W j ≤ W i → W2 W j ≤ W2 W i) ∧ (¬ W j ≤ W i → W2 W i ≤ W2 W j) := by
  have p1 : 2 ^ i < 2 ^ j := Nat.pow_lt_pow_right (by decide) h
  have p2 : 2 ^ j < 16384 := p2_14 hj
  have p0 : 0 < 2 ^ i := Nat.pow_pos (by decide)
  unfold W2
  constructor
  · intro q
    omega
  · intro q
    omega
/-- sums that differ by a threshold -/
theorem sgm_thr {W : Nat → Int} {t : Int} {S R : Nat} : ∀ n, (∀ i, i < n → S.testBit i = true → t ≤ W i) → (∀ i, i < n → S.testBit i = false → W i ≤ t) → sgm W R n - t * sgm (fun _ => 1) R n ≤ sgm W S n - t * sgm (fun _ => 1) S n := by
  intro n
  induction n with
  | zero =>
    intro _ _
    exact Int.le_refl _
  | succ n ih =>
    intro h1 h2
    have i := ih (fun j hj => h1 j (by omega)) (fun j hj => h2 j (by omega))
    rw [sgm_s, sgm_s, sgm_s, sgm_s, Int.mul_add, Int.mul_add]
    by_cases c : S.testBit n = true
    · have := h1 n (by omega) c
      rw [if_pos c, if_pos c]
      by_cases d : R.testBit n = true
      · rw [if_pos d, if_pos d]
        omega
      · rw [if_neg d, if_neg d]
        omega
    · have c' : S.testBit n = false := by simpa using c
      have := h2 n (by omega) c'
      rw [if_neg c, if_neg c]
      by_cases d : R.testBit n = true
      · rw [if_pos d, if_pos d]
        omega
      · rw [if_neg d, if_neg d]
        omega
theorem or_lt {S h n : Nat} (hS : S < 2 ^ n) (hh : h < n) : S ||| 2 ^ h < 2 ^ n := Nat.or_lt_two_pow hS (Nat.pow_lt_pow_right (by decide) hh)
/-- a set with all bits below n counts n -/
theorem sgm_all {S : Nat} : ∀ n, (∀ i, i < n → S.testBit i = true) → sgm (fun _ => 1) S n = (n : Int) := by
  intro n
  induction n with
  | zero => exact fun _ => rfl
  | succ n ih =>
    intro h
    rw [sgm_s, ih (fun i hi => h i (by omega)), h n (by omega), if_pos rfl]
    omega
/-! ===== loads ===== -/
def cL (d : CD) (k : Nat) : CI := (dT d, ((dt d 0 0).toInt, (dt d 0 1).toInt), (fun i => (dt d (i + 1) 0).toInt), (fun i => (dt d (i + 1) 1).toInt), fun S => decide (pcl 14 S = k))
theorem cL_ok {d : CD} (ok : okD d) (k : Nat) : okC (cL d k) := by
  have t12 := ok.2.2.2.1
  have o := ok.2.2.2.2.2
  have o0 := o 0 (by omega)
  unfold okT at o0
  refine ⟨?_, fun i hi => ?_, ?_, fun S hS _ => ?_⟩
  · show dT d ≤ 14
    omega
  · have hi : i < dT d := hi
    have oi := o (i + 1) (by omega)
    unfold okT at oi
    show -1100000000 ≤ (dt d (i + 1) 0).toInt ∧ (dt d (i + 1) 0).toInt ≤ 1100000000 ∧ 0 ≤ (dt d (i + 1) 1).toInt ∧ (dt d (i + 1) 1).toInt ≤ 2100000
    omega
  · show -1000000000 ≤ (dt d 0 0).toInt ∧ (dt d 0 0).toInt ≤ 1000000000 ∧ 0 ≤ (dt d 0 1).toInt ∧ (dt d 0 1).toInt ≤ 1000000
    omega
  · have b := sgm_b (g := fun i => (dt d (i + 1) 1).toInt) (lo := 0) (hi := 2100000) (by omega) (by omega) S (dT d) (fun i hi => by
      have oi := o (i + 1) (by omega)
      unfold okT at oi
      show 0 ≤ (dt d (i + 1) 1).toInt ∧ (dt d (i + 1) 1).toInt ≤ 2100000
      omega)
    show 1 ≤ (dt d 0 1).toInt + sgm (fun i => (dt d (i + 1) 1).toInt) S (dT d)
    omega
/-- what the greedy choice holds: its last is between the taken and the others -/
def gr (W : Nat → Int) (n S : Nat) : Prop := S = 0 ∨ ∃ h, h < n ∧ S.testBit h = true ∧ (∀ i, i < n → S.testBit i = true → W2 W h ≤ W2 W i) ∧ ∀ i, i < n → S.testBit i = false → W2 W i ≤ W2 W h
theorem load_in {σ : ES} {n : Nat} (hn : n ≤ 14) {W : Nat → Int} (h4 : eI σ 51 4 = nI n) (hW : ∀ i, i < n → (eL σ 54 i).toInt = W i) {S : Nat} (hS : S < 2 ^ n) (x2 : Int32) (k4 : Int32 → Int32 → Option Int32) (some_out : ∃ i, i < n ∧ S.testBit i = false) : ∀ f t x, t ≤ n → n - t < f → ((x = -1 ∧ ∀ i, i < t → S.testBit i = true) ∨ ∃ j, j < t ∧ x = nI j ∧ S.testBit j = false ∧ ∀ i, i < t → S.testBit i = false → W2 W i ≤ W2 W j) → ∃ j, j < n ∧ S.testBit j = false ∧ (∀ i, i < n → S.testBit i = false → W2 W i ≤ W2 W j) ∧ e_X3_pick_L17 σ k4 f (nI S) x2 x (nI t) = k4 (nI (S ||| 2 ^ j)) (x2 + 1) := by
  have p : 2 ^ n ≤ 16384 := Nat.pow_le_pow_right (n := 2) (by decide) hn
  intro f
  induction f with
  | zero => intro t x h1 h2; omega
  | succ f ih =>
    intro t x h1 h2 hx
    have le : nI n ≤ nI t ↔ n ≤ t := nLe (by omega) (by omega)
    simp only [e_X3_pick_L17, h4]
    by_cases q : n ≤ t
    · rw [if_pos (le.mpr q)]
      rcases hx with ⟨_, e⟩ | ⟨j, j1, j2, j3, j4⟩
      · obtain ⟨i, i1, i2⟩ := some_out
        rw [e i (by omega)] at i2
        cases i2
      · refine ⟨j, by omega, j3, fun i hi => j4 i (by omega), ?_⟩
        have := p2_14 (t := j) (by omega)
        rw [j2, if_pos (nI_pos' (by omega)), shl_nI j (by omega), or_nI (by omega) (by omega)]
    · rw [if_neg (fun y => q (le.mp y)), nI_1]
      by_cases b : S.testBit t = true
      · rw [if_neg (fun y => by rw [(and_bit (by omega) (by omega)).mp y] at b; cases b)]
        refine ih (t + 1) x (by omega) (by omega) ?_
        rcases hx with ⟨e1, e2⟩ | ⟨j, j1, j2, j3, j4⟩
        · refine Or.inl ⟨e1, fun i hi => ?_⟩
          by_cases e : i = t
          · rw [e]
            exact b
          · exact e2 i (by omega)
        · refine Or.inr ⟨j, by omega, j2, j3, fun i hi hb => ?_⟩
          by_cases e : i = t
          · rw [e, b] at hb
            cases hb
          · exact j4 i (by omega) hb
      · have b' : S.testBit t = false := by simpa using b
        rw [if_pos ((and_bit (by omega) (by omega)).mpr b')]
        rcases hx with ⟨e1, e2⟩ | ⟨j, j1, j2, j3, j4⟩
        · rw [e1, if_pos (by decide)]
          refine ih (t + 1) (nI t) (by omega) (by omega) (Or.inr ⟨t, by omega, rfl, b', fun i hi hb => ?_⟩)
          by_cases e : i = t
          · rw [e]
            exact Int.le_refl _
          · rw [e2 i (by omega)] at hb
            cases hb
        · have w := W2_le (W := W) (i := j) (j := t) (by omega) j1
          rw [j2, if_neg (nI_pos (by omega)), if_pos (mib_nI (by omega) (by decide)), if_pos (mib_nI (by omega) (by decide)), nIc (by omega), nIc (by omega)]
          by_cases l : W t ≤ W j
          · rw [if_pos (by rw [le64, hW t (by omega), hW j (by omega)]; exact l)]
            refine ih (t + 1) (nI j) (by omega) (by omega) (Or.inr ⟨j, by omega, rfl, j3, fun i hi hb => ?_⟩)
            by_cases e : i = t
            · rw [e]
              exact w.1 l
            · exact j4 i (by omega) hb
          · rw [if_neg (by rw [le64, hW t (by omega), hW j (by omega)]; exact l)]
            refine ih (t + 1) (nI t) (by omega) (by omega) (Or.inr ⟨t, by omega, rfl, b', fun i hi hb => ?_⟩)
            by_cases e : i = t
            · rw [e]
              exact Int.le_refl _
            · have := j4 i (by omega) hb
              have := w.2 l
              omega
theorem load_pick {σ : ES} {n k : Nat} (hn : n ≤ 14) (hk : k ≤ n) {W : Nat → Int} (h4 : eI σ 51 4 = nI n) (h10 : eI σ 51 10 = nI k) (hW : ∀ i, i < n → (eL σ 54 i).toInt = W i) : ∀ f t S, t ≤ k → k - t < f → S < 2 ^ n → sgm (fun _ => 1) S n = (t : Int) → gr W n S → ∃ N, e_X3_pick_L4 σ f (nI S) (nI t) = some (nI N) ∧ N < 2 ^ n ∧ sgm (fun _ => 1) N n = (k : Int) ∧ gr W n N := by
  intro f
  induction f with
  | zero => intro t S h1 h2; omega
  | succ f ih =>
    intro t S h1 h2 hS hc hg
    have le : nI k ≤ nI t ↔ k ≤ t := nLe (by omega) (by omega)
    simp only [e_X3_pick_L4, h10]
    by_cases q : k ≤ t
    · rw [if_pos (le.mpr q)]
      exact ⟨S, rfl, hS, by rw [hc]; omega, hg⟩
    · rw [if_neg (fun y => q (le.mp y))]
      have out : ∃ i, i < n ∧ S.testBit i = false := by
        by_cases e : ∃ i, i < n ∧ S.testBit i = false
        · exact e
        · have := sgm_all (S := S) n (fun i hi => by
            by_cases b : S.testBit i = true
            · exact b
            · exact absurd ⟨i, hi, by simpa using b⟩ e)
          omega
      obtain ⟨j, j1, j2, j3, j4⟩ := load_in hn h4 hW hS (nI t) (e_X3_pick_L4 σ f) out mN 0 (-1) (by omega) (mN_big (by omega)) (Or.inl ⟨rfl, fun i hi => by omega⟩)
      have j4' : e_X3_pick_L17 σ (e_X3_pick_L4 σ f) mN (nI S) (nI t) (-1) 0 = e_X3_pick_L4 σ f (nI (S ||| 2 ^ j)) (nI t + 1) := j4
      rw [j4', nI_1]
      refine ih (t + 1) (S ||| 2 ^ j) (by omega) (by omega) (or_lt hS j1) ?_ (Or.inr ⟨j, j1, bit_self, fun i hi hb => ?_, fun i hi hb => ?_⟩)
      · rw [sgm_or j2, if_pos j1, hc]
        omega
      · by_cases e : j = i
        · rw [e]
          exact Int.le_refl _
        · rw [bit_ne e] at hb
          rcases hg with z | ⟨h, g1, g2, g3, g4⟩
          · rw [z, Nat.zero_testBit] at hb
            cases hb
          · have := g3 i hi hb
            have := g4 j j1 j2
            omega
      · by_cases e : j = i
        · rw [e, bit_self] at hb
          cases hb
        · rw [bit_ne e] at hb
          exact j3 i hi hb
