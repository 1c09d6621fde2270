/-! ===== texts: the next token, on both sides ===== -/
section
variable {b : Nat → Int32} {n : Nat}
theorem J38_c {f : Nat} (hf : f ≤ n) {σ : ES} (ht : tpC σ b n) (h5 : eI σ 57 5 = nI f) : ∃ σ', e_X6_next_J38 σ = some σ' ∧ nfC σ σ' ∧ stC σ' (tkn' b n f) := by
  obtain ⟨t1, t2, t3⟩ := id ht
  obtain ⟨τ, hτ⟩ : ∃ τ, τ = uI σ 57 4 (nI f) := ⟨_, rfl⟩
  have fτ : nfC σ τ := by rw [hτ]; exact nfC_u (by omega)
  have tτ := tpC_nf ht fτ
  have e0 : eI τ 57 0 = nI n := tτ.2.1
  have e4 : eI τ 57 4 = nI f := by rw [hτ]; rfl
  have e5 : eI τ 57 5 = nI f := by rw [hτ]; exact h5
  have lt : nI f < nI n ↔ f < n := nLt (by omega) (by omega)
  unfold e_X6_next_J38 tkn'
  rw [h5, ← hτ, e4, e0]
  by_cases c : n ≤ f
  · rw [if_neg (fun y => by have := lt.mp y; omega), if_pos c]
    refine ⟨_, rfl, fτ.trans (nfC_u (by omega)), rfl, e4, e5, fun (x : 0 = 2) => by omega⟩
  · have hb := (tτ.2.2 f (by omega)).1
    rw [if_pos (lt.mpr (by omega)), if_neg c, if_pos (mib_nI (by omega) (by decide)), nIc (by omega), hb, isL_c, ob]
    by_cases l : isL' (b f) = true
    · rw [l, if_neg (by decide), if_pos rfl]
      obtain ⟨σ', r1, r2, r3, r4, r5⟩ := lts_c 121 mN f (uI τ 57 3 1) (by omega) (mN_big (by omega)) hf (tpC_nf tτ (nfC_u (by omega))) e5
      exact ⟨σ', r1, (fτ.trans (nfC_u (by omega))).trans r2, r3, r4.trans e4, r5, fun (x : 1 = 2) => by omega⟩
    · have l' : isL' (b f) = false := by simpa using l
      rw [l', if_pos bi_f, if_neg (show ¬ false = true by decide), isD_c, ob]
      by_cases g : isD' (b f) = true
      · rw [g, if_neg (by decide), if_pos rfl]
        unfold e_X6_takeDigits
        have f1 : nfC τ (uI (uI τ 57 3 2) 57 6 0) := (nfC_u (by omega)).trans (nfC_u (by omega))
        obtain ⟨σ', r1, r2, r3, r4, r5, r6⟩ := dgs_c 121 mN f 0 (uI (uI τ 57 3 2) 57 6 0) (by omega) (mN_big (by omega)) hf (by omega) (tpC_nf tτ f1) e5 rfl
        rw [r1, ob]
        exact ⟨σ', rfl, (fτ.trans f1).trans r2, r3, r4.trans e4, r5, fun _ => r6⟩
      · have g' : isD' (b f) = false := by simpa using g
        rw [g', if_pos bi_f, if_neg (show ¬ false = true by decide)]
        have J : ∀ q : Nat, q ≠ 2 → ∃ σ', e_X6_next_J171 (nI q) τ = some σ' ∧ nfC σ σ' ∧ stC σ' (q, f, f + 1, 0) := by
          intro q hq
          refine ⟨_, rfl, fτ.trans ((nfC_u (by omega)).trans (nfC_u (by omega))), rfl, e4, ?_, fun (x : q = 2) => absurd x hq⟩
          have : eI (uI τ 57 3 (nI q)) 57 5 + 1 = nI (f + 1) := by
            have : eI (uI τ 57 3 (nI q)) 57 5 = nI f := e5
            rw [this, nI_1]
          exact this
        by_cases e : b f = 59
        · rw [if_pos e, if_pos e]
          exact J 3 (by omega)
        · rw [if_neg e, if_neg e]
          exact J 4 (by omega)
theorem skp_c : ∀ f g i σ, n - i < f → n - i < g → i ≤ n → tpC σ b n → eI σ 57 5 = nI i → ∃ σ', e_X6_next_L0 g σ = some σ' ∧ nfC σ σ' ∧ stC σ' (tkn' b n (skp b n f i)) := by
  intro f
  induction f with
  | zero => intro g i σ h1; omega
  | succ f ih =>
    intro g i σ h1 h2 hi ht h5
    obtain ⟨g, rfl⟩ : ∃ g', g = g' + 1 := ⟨g - 1, by omega⟩
    obtain ⟨t1, t2, t3⟩ := id ht
    have le : nI n ≤ nI i ↔ n ≤ i := nLe (by omega) (by omega)
    have e : skp b n (f + 1) i = if i < n ∧ b i = 32 then skp b n f (i + 1) else i := rfl
    have J := J38_c hi ht h5
    simp only [e_X6_next_L0, t2, h5]
    rw [e]
    by_cases c : n ≤ i
    · rw [if_pos (le.mpr c), if_neg (by omega)]
      exact J
    · rw [if_neg (fun y => c (le.mp y)), if_pos (mib_nI (by omega) (by decide)), nIc (by omega), (t3 i (by omega)).1, nI_1]
      by_cases l : b i = 32
      · rw [if_pos l, if_pos ⟨by omega, l⟩]
        obtain ⟨σ', r1, r2, r3⟩ := ih g (i + 1) (uI σ 57 5 (nI (i + 1))) (by omega) (by omega) (by omega) (tpC_nf ht (nfC_u (by omega))) rfl
        exact ⟨σ', r1, (nfC_u (by omega)).trans r2, r3⟩
      · rw [if_neg l, if_neg (fun x => l x.2)]
        exact J
theorem next_c {i : Nat} (hi : i ≤ n) {σ : ES} (ht : tpC σ b n) (h5 : eI σ 57 5 = nI i) : ∃ σ', e_X6_next σ = some σ' ∧ nfC σ σ' ∧ stC σ' (tkn b n i) := by
  have t1 := ht.1
  obtain ⟨σ', r1, r2, r3⟩ := skp_c 121 (mN + 1) i σ (by omega) (Nat.lt_succ_of_lt (mN_big (by omega))) hi ht h5
  refine ⟨σ', ?_, r2, r3⟩
  rw [← r1]
  simp only [e_X6_next_L0]
  unfold e_X6_next
  rfl
end
/-! the reference -/
def tpM (σ : ES) (b : Nat → Int32) (n : Nat) : Prop := n ≤ 120 ∧ eI σ 69 25 = nI n ∧ (∀ i, i < n → eI σ 79 i = b i ∧ 0 ≤ (b i).toInt ∧ (b i).toInt ≤ 255) ∧ ∀ k, k < 104 → eI σ 80 k = mwords.getD k 0
def nfM (σ σ' : ES) : Prop := (∀ a c, ¬ (a = 69 ∧ (c = 26 ∨ c = 27 ∨ c = 28 ∨ c = 29)) → eI σ' a c = eI σ a c) ∧ (∀ a c, eL σ' a c = eL σ a c) ∧ ∀ a, eT σ' a = eT σ a
theorem nfM.refl (σ : ES) : nfM σ σ := ⟨fun _ _ _ => rfl, fun _ _ => rfl, fun _ => rfl⟩
theorem nfM.trans {σ τ υ : ES} (h : nfM σ τ) (g : nfM τ υ) : nfM σ υ := ⟨fun a b q => (g.1 a b q).trans (h.1 a b q), fun a b => (g.2.1 a b).trans (h.2.1 a b), fun a => (g.2.2 a).trans (h.2.2 a)⟩
theorem nfM_u {σ : ES} {c : Nat} {v : Int32} (h : c = 26 ∨ c = 27 ∨ c = 28 ∨ c = 29) : nfM σ (uI σ 69 c v) := ⟨fun a e q => by rw [eI_uI, if_neg (by omega)], fun _ _ => rfl, fun _ => rfl⟩
theorem tpM_nf {σ σ' : ES} {b : Nat → Int32} {n : Nat} (h : tpM σ b n) (g : nfM σ σ') : tpM σ' b n := by
  obtain ⟨h1, h2, h3, h4⟩ := h
  refine ⟨h1, (g.1 69 25 (by omega)).trans h2, fun i hi => ?_, fun k hk => ?_⟩
  · rw [g.1 79 i (by omega)]
    exact h3 i hi
  · rw [g.1 80 k (by omega)]
    exact h4 k hk
/-- the byte of a place of a word, blanks behind it -/
def bw (b : Nat → Int32) (f e k : Nat) : Int32 := if e ≤ f + k then 32 else b (f + k)
def mch (b : Nat → Int32) (f e w : Nat) : Bool := (List.range 8).all (fun k => decide (mwords.getD (8 * w + k) 0 = bw b f e k))
theorem mch_iff {b : Nat → Int32} {f e w : Nat} : mch b f e w = true ↔ ∀ j, j < 8 → mwords.getD (8 * w + j) 0 = bw b f e j := by
  unfold mch
  rw [List.all_eq_true]
  constructor
  · intro h j hj
    exact of_decide_eq_true (h j (List.mem_range.mpr hj))
  · intro h j hj
    exact decide_eq_true (h j (List.mem_range.mp hj))
theorem mch_f {b : Nat → Int32} {f e w : Nat} (h : ¬ ∀ j, j < 8 → mwords.getD (8 * w + j) 0 = bw b f e j) : mch b f e w = false := by
  by_cases c : mch b f e w = true
  · exact absurd (mch_iff.mp c) h
  · simpa using c
def isWd (b : Nat → Int32) (f e w : Nat) : Bool := decide (e - f ≤ 8) && mch b f e w
/-- the word that stands there; 13: none -/
def wdl (b : Nat → Int32) (f e : Nat) : Nat → Nat
  | 0 => 13
  | w + 1 => if isWd b f e w = true then w else wdl b f e w
def wdx (b : Nat → Int32) (f e : Nat) : Nat := wdl b f e 13
/-- the reference's token -/
def tkM (b : Nat → Int32) (t : Tok) : Int32 := if t.1 = 0 then -1 else if t.1 = 1 then (if wdx b t.2.1 t.2.2.1 = 13 then -2 else 10 + nI (wdx b t.2.1 t.2.2.1)) else if t.1 = 2 then (if t.2.2.2 ≤ 999999 then 1 else -2) else if t.1 = 3 then 0 else -2
def stM (b : Nat → Int32) (σ : ES) (t : Tok) : Prop := eI σ 69 28 = tkM b t ∧ eI σ 69 27 = nI t.2.1 ∧ eI σ 69 26 = nI t.2.2.1 ∧ (t.1 = 2 → t.2.2.2 ≤ 999999 → eI σ 69 29 = nI t.2.2.2)
section
variable {b : Nat → Int32} {n : Nat}
theorem byte_m {σ : ES} (ht : tpM σ b n) {i : Nat} (hi : i ≤ n) : e_X10_byteAt σ (nI i) = some (if n ≤ i then -1 else b i) := by
  obtain ⟨t1, t2, t3, t4⟩ := ht
  have le : nI n ≤ nI i ↔ n ≤ i := nLe (by omega) (by omega)
  unfold e_X10_byteAt
  rw [t2]
  by_cases c : n ≤ i
  · rw [if_pos (le.mpr c), if_pos c]
  · rw [if_neg (fun y => c (le.mp y)), if_neg c, if_pos (mib_nI (by omega) (by decide)), nIc (by omega), (t3 i (by omega)).1]
theorem in_m1 : ∀ lo hi : Int, 0 ≤ lo → ir lo hi (-1) = false := by
  intro lo hi h
  unfold ir
  rw [decide_eq_false (show ¬ lo ≤ (-1 : Int32).toInt from fun x => by have e : (-1 : Int32).toInt = -1 := rfl; omega), Bool.false_and]
/-- is it one of these words -/
theorem wordFrom_L {σ : ES} (ht : tpM σ b n) {f e : Nat} (hf : f ≤ e) (he : e ≤ n) (h27 : eI σ 69 27 = nI f) (h26 : eI σ 69 26 = nI e) {w : Nat} (hw : w < 13) : ∀ g k x, k ≤ 8 → 8 - k < g → ((x = 1 ∧ ∀ j, j < k → mwords.getD (8 * w + j) 0 = bw b f e j) ∨ (x = 0 ∧ ¬ ∀ j, j < 8 → mwords.getD (8 * w + j) 0 = bw b f e j)) → e_X10_isWordFrom_L22 σ (nI w) g x (nI k) = some (bi (mch b f e w)) := by
  obtain ⟨t1, t2, t3, t4⟩ := id ht
  intro g
  induction g with
  | zero => intro k x h1 h2; omega
  | succ g ih =>
    intro k x h1 h2 hx
    have le : (8 : Int32) ≤ nI k ↔ 8 ≤ k := nLe (a := 8) (by omega) (by omega)
    have e8 : (8 : Int32) * nI w + nI k = nI (8 * w + k) := by
      have : (8 : Int32) * nI w = nI (8 * w) := (Int32.ofNat_mul 8 w).symm
      rw [this, nI_add]
    simp only [e_X10_isWordFrom_L22, h26, h27, e8]
    by_cases c : 8 ≤ k
    · rw [if_pos (le.mpr c)]
      rcases hx with ⟨a, p⟩ | ⟨a, p⟩
      · rw [a, if_pos (Or.inr rfl), mch_iff.mpr (fun j hj => p j (by omega))]
        rfl
      · rw [a, if_pos (Or.inl rfl), mch_f p]
        rfl
    · rw [if_neg (fun y => c (le.mp y))]
      rcases hx with ⟨a, p⟩ | ⟨a, p⟩
      · rw [a, if_neg (by decide), if_pos (mib_nI (by omega) (by decide)), nIc (by omega), t4 (8 * w + k) (by omega), nI_add]
        have J : ∀ s1 : Int32, s1 = bw b f e k → e_X10_isWordFrom_J71 σ (nI w) (e_X10_isWordFrom_L22 σ (nI w) g) (nI k) (mwords.getD (8 * w + k) 0) s1 = some (bi (mch b f e w)) := by
          intro s1 hs
          unfold e_X10_isWordFrom_J71
          rw [hs, nI_1]
          by_cases q : mwords.getD (8 * w + k) 0 = bw b f e k
          · rw [if_pos q]
            refine ih (k + 1) 1 (by omega) (by omega) (Or.inl ⟨rfl, fun j hj => ?_⟩)
            by_cases z : j = k
            · rw [z]
              exact q
            · exact p j (by omega)
          · rw [if_neg q]
            exact ih (k + 1) 0 (by omega) (by omega) (Or.inr ⟨rfl, fun y => q (y k (by omega))⟩)
        have le2 : nI e ≤ nI (f + k) ↔ e ≤ f + k := nLe (by omega) (by omega)
        by_cases q : e ≤ f + k
        · rw [if_pos (le2.mpr q)]
          exact J 32 (by unfold bw; rw [if_pos q])
        · rw [if_neg (fun y => q (le2.mp y)), byte_m ht (by omega), ob, if_neg (by omega)]
          exact J _ (by unfold bw; rw [if_neg q])
      · rw [a, if_pos rfl, if_pos (Or.inl rfl), mch_f p]
        rfl
theorem wordFrom_m {σ : ES} (ht : tpM σ b n) {f e : Nat} (hf : f ≤ e) (he : e ≤ n) (h27 : eI σ 69 27 = nI f) (h26 : eI σ 69 26 = nI e) {w : Nat} (hw : w < 13) : ∃ y, e_X10_isWordFrom σ (nI w) = some (bi y) ∧ (e - f ≤ 8 → y = isWd b f e w) ∧ (¬ e - f ≤ 8 → y = false) := by
  have t1 := ht.1
  have sb : (nI e - nI f).toInt = ((e - f : Nat) : Int) := by
    rw [subn (by omega) (by omega)]
    omega
  unfold e_X10_isWordFrom
  rw [h26, h27]
  have lt : (8 : Int32) < nI e - nI f ↔ 8 < e - f := by
    rw [lt32, sb, show (8 : Int32).toInt = 8 from rfl]
    omega
  by_cases c : 8 < e - f
  · rw [if_pos (lt.mpr c)]
    refine ⟨false, ?_, fun x => by omega, fun _ => rfl⟩
    have eN : mN = (mN - 1) + 1 := by
      have := mN_big (n := 1) (by omega)
      omega
    rw [eN]
    simp only [e_X10_isWordFrom_L22]
    rw [if_neg (by decide), if_pos trivial, if_pos (Or.inl trivial)]
    rfl
  · rw [if_neg (fun y => c (lt.mp y))]
    have := wordFrom_L ht hf he h27 h26 hw mN 0 1 (by omega) (mN_big (by omega)) (Or.inl ⟨rfl, fun j hj => by omega⟩)
    refine ⟨mch b f e w, this, fun x => ?_, fun x => by omega⟩
    unfold isWd
    rw [decide_eq_true x, Bool.true_and]
end
