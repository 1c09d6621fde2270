/-! ===== texts: words, on both sides ===== -/
def wmap : List Nat := [7, 8, 6, 0, 1, 2, 3, 4, 5, 10, 9, 11, 12]
theorem wm_1 : ∀ k : Nat, k < 13 → wmap.getD k 0 < 13 ∧ (mbytes k).length ≤ 7 := by decide +kernel
theorem wm_2 : ∀ k : Nat, k < 13 → ∀ j : Nat, j < 8 → mwords.getD (8 * wmap.getD k 0 + j) 0 = if j < (mbytes k).length then (mbytes k).getD j 0 else 32 := by decide +kernel
theorem wm_3 : ∀ k : Nat, k < 13 → ∀ j : Nat, j < 8 → j < (mbytes k).length → ¬ (mbytes k).getD j 0 = 32 := by decide +kernel
theorem wm_4 : ∀ w : Nat, w < 13 → ∀ w' : Nat, w' < 13 → (∀ j : Nat, j < 8 → mwords.getD (8 * w + j) 0 = mwords.getD (8 * w' + j) 0) → w = w' := by decide +kernel
theorem len_0 : ∀ k : Nat, k < 13 → e_J0_length_8abf5 es0 (1000 + k) = some (nI (mbytes k).length) := by decide +kernel
theorem chr_0 : ∀ k : Nat, k < 13 → ∀ j : Nat, j < 8 → j < (mbytes k).length → e_J0_charAt_5068e es0 (1000 + k) (nI j) = some ((mbytes k).getD j 0) := by decide +kernel
theorem len_s (σ : ES) {k : Nat} (h : k < 13) : e_J0_length_8abf5 σ (1000 + k) = some (nI (mbytes k).length) := len_0 k h
theorem chr_s (σ : ES) {k j : Nat} (h : k < 13) (hj : j < (mbytes k).length) : e_J0_charAt_5068e σ (1000 + k) (nI j) = some ((mbytes k).getD j 0) := chr_0 k h j (by have := (wm_1 k h).2; omega) hj
theorem mst_k : ∀ k : Nat, k < 13 → mst (1000 + k) = true := by decide
section
variable {b : Nat → Int32} {n : Nat}
theorem lts_all : ∀ f i j, i ≤ j → j < lts b n f i → isL' (b j) = true := by
  intro f
  induction f with
  | zero =>
    intro i j h1 h2
    have : j < i := h2
    omega
  | succ f ih =>
    intro i j h1 h2
    have e : lts b n (f + 1) i = if i < n ∧ isL' (b i) = true then lts b n f (i + 1) else i := rfl
    rw [e] at h2
    by_cases c : i < n ∧ isL' (b i) = true
    · rw [if_pos c] at h2
      by_cases z : j = i
      · rw [z]
        exact c.2
      · exact ih (i + 1) j (by omega) h2
    · rw [if_neg c] at h2
      omega
theorem tkn_let {i : Nat} (h : (tkn b n i).1 = 1) : ∀ j, (tkn b n i).2.1 ≤ j → j < (tkn b n i).2.2.1 → isL' (b j) = true := by
  unfold tkn at h ⊢
  revert h
  generalize skp b n 121 i = f
  unfold tkn'
  by_cases c : n ≤ f
  · rw [if_pos c]
    intro (h : 0 = 1)
    omega
  · rw [if_neg c]
    by_cases l : isL' (b f) = true
    · rw [if_pos l]
      intro _ j j1 j2
      exact lts_all 121 f j j1 j2
    · rw [if_neg l]
      by_cases g : isD' (b f) = true
      · rw [if_pos g]
        intro (h : 2 = 1)
        omega
      · rw [if_neg g]
        by_cases e : b f = 59
        · rw [if_pos e]
          intro (h : 3 = 1)
          omega
        · rw [if_neg e]
          intro (h : 4 = 1)
          omega
/-- the class's word k stands there -/
def cwd (b : Nat → Int32) (f e k : Nat) : Prop := e - f = (mbytes k).length ∧ ∀ j, j < (mbytes k).length → b (f + j) = (mbytes k).getD j 0
theorem cwd_iff {f e : Nat} (hf : f ≤ e) (hl : ∀ j, f ≤ j → j < e → isL' (b j) = true) {k : Nat} (hk : k < 13) : cwd b f e k ↔ isWd b f e (wmap.getD k 0) = true := by
  have w1 := (wm_1 k hk).2
  have w2 := wm_2 k hk
  have w3 := wm_3 k hk
  have n32 : ∀ j, f ≤ j → j < e → b j ≠ 32 := by
    intro j j1 j2 x
    have := hl j j1 j2
    rw [x] at this
    cases this
  unfold isWd
  rw [Bool.and_eq_true, decide_eq_true_iff, mch_iff]
  constructor
  · rintro ⟨h1, h2⟩
    refine ⟨by omega, fun j hj => ?_⟩
    rw [w2 j hj]
    unfold bw
    by_cases c : j < (mbytes k).length
    · rw [if_pos c, if_neg (by omega), h2 j c]
    · rw [if_neg c, if_pos (by omega)]
  · rintro ⟨h1, h2⟩
    have ge : ∀ j, j < (mbytes k).length → f + j < e := by
      intro j hj
      by_cases c : f + j < e
      · exact c
      · have := h2 j (by omega)
        rw [w2 j (by omega), if_pos hj] at this
        unfold bw at this
        rw [if_pos (by omega)] at this
        exact absurd this (w3 j (by omega) hj)
    have le : e ≤ f + (mbytes k).length := by
      by_cases c : e ≤ f + (mbytes k).length
      · exact c
      · have := h2 (mbytes k).length (by omega)
        rw [w2 _ (by omega), if_neg (by omega)] at this
        unfold bw at this
        rw [if_neg (by omega)] at this
        exact absurd this.symm (n32 _ (by omega) (by omega))
    have lo : e - f = (mbytes k).length := by
      by_cases z : (mbytes k).length = 0
      · omega
      · have := ge ((mbytes k).length - 1) (by omega)
        omega
    refine ⟨lo, fun j hj => ?_⟩
    have := h2 j (by omega)
    rw [w2 j (by omega), if_pos hj] at this
    unfold bw at this
    rw [if_neg (by omega)] at this
    exact this.symm
theorem wdx_iff {f e w : Nat} (hw : w < 13) : wdx b f e = w ↔ isWd b f e w = true := by
  have uniq : ∀ x y, x < 13 → y < 13 → isWd b f e x = true → isWd b f e y = true → x = y := by
    intro x y hx hy h1 h2
    unfold isWd at h1 h2
    rw [Bool.and_eq_true, mch_iff] at h1 h2
    exact wm_4 x hx y hy (fun j hj => by rw [h1.2 j hj, h2.2 j hj])
  have key : ∀ m, m ≤ 13 → (wdl b f e m = 13 ∧ ∀ x, x < m → ¬ isWd b f e x = true) ∨ (wdl b f e m < 13 ∧ isWd b f e (wdl b f e m) = true) := by
    intro m
    induction m with
    | zero => exact fun _ => Or.inl ⟨rfl, fun x hx => by omega⟩
    | succ m ih =>
      intro hm
      have es : wdl b f e (m + 1) = if isWd b f e m = true then m else wdl b f e m := rfl
      rw [es]
      by_cases c : isWd b f e m = true
      · rw [if_pos c]
        exact Or.inr ⟨by omega, c⟩
      · rw [if_neg c]
        rcases ih (by omega) with ⟨a, p⟩ | q
        · refine Or.inl ⟨a, fun x hx => ?_⟩
          by_cases z : x = m
          · rw [z]
            exact c
          · exact p x (by omega)
        · exact Or.inr q
  constructor
  · intro h
    rcases key 13 (Nat.le_refl _) with ⟨a, _⟩ | ⟨_, c⟩
    · have : wdx b f e = 13 := a
      omega
    · have : isWd b f e (wdx b f e) = true := c
      rw [h] at this
      exact this
  · intro h
    rcases key 13 (Nat.le_refl _) with ⟨_, p⟩ | ⟨a, c⟩
    · exact absurd h (p w hw)
    · exact uniq _ _ a hw c h
theorem isWord_c {σ : ES} (ht : tpC σ b n) {i : Nat} (hi : i ≤ n) (hs : stC σ (tkn b n i)) {k : Nat} (hk : k < 13) : e_X6_isWord σ (1000 + k) = some (bi (decide ((tkn b n i).1 = 1 ∧ wdx b (tkn b n i).2.1 (tkn b n i).2.2.1 = wmap.getD k 0))) := by
  obtain ⟨t1, t2, t3⟩ := id ht
  obtain ⟨o1, o2, o3, o4, o5, o6, o7, o8⟩ := tkn_ok b hi
  have lt := @tkn_let b n i
  revert hs o1 o2 o3 o4 o5 o6 o7 o8 lt
  generalize tkn b n i = t
  intro hs o1 o2 o3 o4 o5 o6 o7 o8 lt
  obtain ⟨s1, s2, s3, s4⟩ := hs
  have w1 := wm_1 k hk
  unfold e_X6_isWord
  rw [s1]
  have e1 : nI t.1 = 1 ↔ t.1 = 1 := nI_i (b := 1) (by omega) (by omega)
  by_cases c : t.1 = 1
  · rw [if_pos (e1.mpr c), len_s σ hk, ob, if_pos (mst_k k hk), s2, s3]
    have hl := lt c
    have ci := cwd_iff o4 hl hk
    rw [← wdx_iff w1.1] at ci
    have sb : nI t.2.2.1 - nI t.2.1 = nI (t.2.2.1 - t.2.1) := by
      rw [eq32, subn (by omega) (by omega), nIt (by omega)]
      omega
    rw [sb]
    have el : nI (t.2.2.1 - t.2.1) = nI (mbytes k).length ↔ t.2.2.1 - t.2.1 = (mbytes k).length := nI_i (by omega) (by omega)
    by_cases q : t.2.2.1 - t.2.1 = (mbytes k).length
    · rw [if_pos (el.mpr q)]
      have key : ∀ g j, j ≤ (mbytes k).length → (mbytes k).length - j < g → (∀ x, x < j → b (t.2.1 + x) = (mbytes k).getD x 0) → e_X6_isWord_L28 σ (1000 + k) g (nI j) = some (bi (decide (t.1 = 1 ∧ wdx b t.2.1 t.2.2.1 = wmap.getD k 0))) := by
        intro g
        induction g with
        | zero => intro j h1 h2; omega
        | succ g ih =>
          intro j h1 h2 h
          have le : nI (mbytes k).length ≤ nI j ↔ (mbytes k).length ≤ j := nLe (by omega) (by omega)
          simp only [e_X6_isWord_L28]
          rw [len_s σ hk, ob, if_pos (mst_k k hk), s2, nI_add]
          by_cases z : (mbytes k).length ≤ j
          · rw [if_pos (le.mpr z), decide_eq_true ⟨c, ci.mp ⟨q, fun x hx => h x (by omega)⟩⟩]
            rfl
          · rw [if_neg (fun y => z (le.mp y)), if_pos (mib_nI (by omega) (by decide)), chr_s σ hk (by omega), ob, nIc (by omega), (t3 (t.2.1 + j) (by omega)).1, nI_1]
            by_cases v : b (t.2.1 + j) = (mbytes k).getD j 0
            · rw [if_pos v]
              refine ih (j + 1) (by omega) (by omega) (fun x hx => ?_)
              by_cases u : x = j
              · rw [u]
                exact v
              · exact h x (by omega)
            · rw [if_neg v, decide_eq_false (fun y => v ((ci.mpr y.2).2 j (by omega)))]
              rfl
      exact key mN 0 (Nat.zero_le _) (mN_big (by omega)) (fun x hx => by omega)
    · rw [if_neg (fun y => q (el.mp y)), decide_eq_false (fun y => q (ci.mpr y.2).1)]
      rfl
  · rw [if_neg (fun y => c (e1.mp y)), decide_eq_false (fun y => c y.1)]
    rfl
theorem isWord_m {σ : ES} {t : Tok} (h1 : t.1 ≤ 4) (hs : stM b σ t) {w : Nat} (hw : w < 13) : e_X10_isWord σ (nI w) = some (bi (decide (t.1 = 1 ∧ wdx b t.2.1 t.2.2.1 = w))) := by
  have wl : wdx b t.2.1 t.2.2.1 ≤ 13 := wdl_le t.2.1 t.2.2.1 13 (Nat.le_refl _)
  have tenw : (10 : Int32) + nI w = nI (10 + w) := nI_add 10 w
  have low : ∀ x : Int32, x.toInt < 10 → ¬ x = nI (10 + w) := by
    intro x hx e
    rw [e, nIt (by omega)] at hx
    omega
  unfold e_X10_isWord
  rw [hs.1, tenw]
  unfold tkM
  by_cases c0 : t.1 = 0
  · rw [if_pos c0, if_neg (low _ (by decide)), decide_eq_false (fun y => by omega)]
    rfl
  · rw [if_neg c0]
    by_cases c1 : t.1 = 1
    · rw [if_pos c1]
      by_cases q : wdx b t.2.1 t.2.2.1 = 13
      · rw [if_pos q, if_neg (low _ (by decide)), decide_eq_false (fun y => by omega)]
        rfl
      · have e10 : (10 : Int32) + nI (wdx b t.2.1 t.2.2.1) = nI (10 + wdx b t.2.1 t.2.2.1) := nI_add 10 _
        rw [if_neg q, e10]
        by_cases z : wdx b t.2.1 t.2.2.1 = w
        · rw [if_pos (by rw [z]), decide_eq_true ⟨c1, z⟩]
          rfl
        · rw [if_neg (fun y => z (by have := (nI_i (by omega) (by omega)).mp y; omega)), decide_eq_false (fun y => z y.2)]
          rfl
    · rw [if_neg c1, decide_eq_false (fun y => c1 y.1)]
      by_cases c2 : t.1 = 2
      · rw [if_pos c2]
        by_cases q : t.2.2.2 ≤ 999999
        · rw [if_pos q, if_neg (low _ (by decide))]
          rfl
        · rw [if_neg q, if_neg (low _ (by decide))]
          rfl
      · rw [if_neg c2]
        by_cases c3 : t.1 = 3
        · rw [if_pos c3, if_neg (low _ (by decide))]
          rfl
        · rw [if_neg c3, if_neg (low _ (by decide))]
          rfl
end
