/-! ===== texts: tokens, as both sides read them ===== -/
def isL' (x : Int32) : Bool := ir 97 122 x
def isD' (x : Int32) : Bool := ir 48 57 x
def skp (b : Nat → Int32) (n : Nat) : Nat → Nat → Nat
  | 0, i => i
  | f + 1, i => if i < n ∧ b i = 32 then skp b n f (i + 1) else i
def lts (b : Nat → Int32) (n : Nat) : Nat → Nat → Nat
  | 0, i => i
  | f + 1, i => if i < n ∧ isL' (b i) = true then lts b n f (i + 1) else i
def dgv (x : Int32) : Nat := (x.toInt - 48).toNat
def nv (v : Nat) (x : Int32) : Nat := if 1000000 < 10 * v + dgv x then 1000000 else 10 * v + dgv x
def dgs (b : Nat → Int32) (n : Nat) : Nat → Nat → Nat → Nat × Nat
  | 0, i, v => (i, v)
  | f + 1, i, v => if i < n ∧ isD' (b i) = true then dgs b n f (i + 1) (nv v (b i)) else (i, v)
abbrev Tok : Type := Nat × Nat × Nat × Nat
/-- sort, first byte, byte behind, value -/
def tkn' (b : Nat → Int32) (n f : Nat) : Tok := if n ≤ f then (0, f, f, 0) else if isL' (b f) = true then (1, f, lts b n 121 f, 0) else if isD' (b f) = true then (2, f, (dgs b n 121 f 0).1, (dgs b n 121 f 0).2) else if b f = 59 then (3, f, f + 1, 0) else (4, f, f + 1, 0)
def tkn (b : Nat → Int32) (n i : Nat) : Tok := tkn' b n (skp b n 121 i)
theorem skp_le (b : Nat → Int32) (n : Nat) : ∀ f i, i ≤ n → i ≤ skp b n f i ∧ skp b n f i ≤ n := by
  intro f
  induction f with
  | zero => exact fun i h => ⟨Nat.le_refl _, h⟩
  | succ f ih =>
    intro i h
    show i ≤ (if i < n ∧ b i = 32 then skp b n f (i + 1) else i) ∧ (if i < n ∧ b i = 32 then skp b n f (i + 1) else i) ≤ n
    by_cases c : i < n ∧ b i = 32
    · rw [if_pos c]
      have := ih (i + 1) (by omega)
      omega
    · rw [if_neg c]
      omega
theorem lts_le (b : Nat → Int32) (n : Nat) : ∀ f i, i ≤ n → i ≤ lts b n f i ∧ lts b n f i ≤ n := by
  intro f
  induction f with
  | zero => exact fun i h => ⟨Nat.le_refl _, h⟩
  | succ f ih =>
    intro i h
    show i ≤ (if i < n ∧ isL' (b i) = true then lts b n f (i + 1) else i) ∧ (if i < n ∧ isL' (b i) = true then lts b n f (i + 1) else i) ≤ n
    by_cases c : i < n ∧ isL' (b i) = true
    · rw [if_pos c]
      have := ih (i + 1) (by omega)
      omega
    · rw [if_neg c]
      omega
theorem dgs_le (b : Nat → Int32) (n : Nat) : ∀ f i v, i ≤ n → v ≤ 1000000 → i ≤ (dgs b n f i v).1 ∧ (dgs b n f i v).1 ≤ n ∧ (dgs b n f i v).2 ≤ 1000000 := by
  intro f
  induction f with
  | zero => exact fun i v h hv => ⟨Nat.le_refl _, h, hv⟩
  | succ f ih =>
    intro i v h hv
    have e : dgs b n (f + 1) i v = if i < n ∧ isD' (b i) = true then dgs b n f (i + 1) (nv v (b i)) else (i, v) := rfl
    rw [e]
    by_cases c : i < n ∧ isD' (b i) = true
    · rw [if_pos c]
      have nb : nv v (b i) ≤ 1000000 := by
        unfold nv
        split <;> omega
      have := ih (i + 1) (nv v (b i)) (by omega) nb
      omega
    · rw [if_neg c]
      exact ⟨Nat.le_refl _, h, hv⟩
theorem lts_gt {b : Nat → Int32} {n i : Nat} (h : i < n) (hl : isL' (b i) = true) : i < lts b n 121 i := by
  show i < (if i < n ∧ isL' (b i) = true then lts b n 120 (i + 1) else i)
  rw [if_pos ⟨h, hl⟩]
  have := lts_le b n 120 (i + 1) (by omega)
  omega
theorem dgs_gt {b : Nat → Int32} {n i : Nat} (h : i < n) (hl : isD' (b i) = true) : i < (dgs b n 121 i 0).1 := by
  show i < (if i < n ∧ isD' (b i) = true then dgs b n 120 (i + 1) (nv 0 (b i)) else (i, 0)).1
  rw [if_pos ⟨h, hl⟩]
  have nb : nv 0 (b i) ≤ 1000000 := by
    unfold nv
    split <;> omega
  have := dgs_le b n 120 (i + 1) (nv 0 (b i)) (by omega) nb
  omega
/-- what a token's numbers are like -/
theorem tkn_ok (b : Nat → Int32) {n i : Nat} (h : i ≤ n) : (tkn b n i).1 ≤ 4 ∧ i ≤ (tkn b n i).2.1 ∧ (tkn b n i).2.1 ≤ n ∧ (tkn b n i).2.1 ≤ (tkn b n i).2.2.1 ∧ (tkn b n i).2.2.1 ≤ n ∧ (tkn b n i).2.2.2 ≤ 1000000 ∧ ((tkn b n i).1 = 0 ↔ (tkn b n i).2.1 = n) ∧ ((tkn b n i).1 ≠ 0 → (tkn b n i).2.1 < (tkn b n i).2.2.1) := by
  obtain ⟨s1, s2⟩ := skp_le b n 121 i h
  unfold tkn
  revert s1 s2
  generalize skp b n 121 i = f
  intro s1 s2
  unfold tkn'
  by_cases c : n ≤ f
  · rw [if_pos c]
    have : f = n := by omega
    refine ⟨by show 0 ≤ 4; omega, s1, s2, Nat.le_refl _, s2, by show 0 ≤ 1000000; omega, ⟨fun _ => this, fun _ => rfl⟩, fun x => absurd rfl x⟩
  · rw [if_neg c]
    by_cases l : isL' (b f) = true
    · rw [if_pos l]
      have := lts_le b n 121 f s2
      exact ⟨by show 1 ≤ 4; omega, s1, s2, this.1, this.2, by show 0 ≤ 1000000; omega, ⟨fun (x : 1 = 0) => by omega, fun (x : f = n) => by omega⟩, fun _ => lts_gt (show f < n by omega) l⟩
    · rw [if_neg l]
      by_cases g : isD' (b f) = true
      · rw [if_pos g]
        have := dgs_le b n 121 f 0 s2 (by omega)
        exact ⟨by show 2 ≤ 4; omega, s1, s2, this.1, this.2.1, this.2.2, ⟨fun (x : 2 = 0) => by omega, fun (x : f = n) => by omega⟩, fun _ => dgs_gt (show f < n by omega) g⟩
      · rw [if_neg g]
        by_cases e : b f = 59
        · rw [if_pos e]
          exact ⟨by show 3 ≤ 4; omega, s1, s2, by show f ≤ f + 1; omega, by show f + 1 ≤ n; omega, by show 0 ≤ 1000000; omega, ⟨fun (x : 3 = 0) => by omega, fun (x : f = n) => by omega⟩, fun _ => by show f < f + 1; omega⟩
        · rw [if_neg e]
          exact ⟨by show 4 ≤ 4; omega, s1, s2, by show f ≤ f + 1; omega, by show f + 1 ≤ n; omega, by show 0 ≤ 1000000; omega, ⟨fun (x : 4 = 0) => by omega, fun (x : f = n) => by omega⟩, fun _ => by show f < f + 1; omega⟩
/-- the tape of the class -/
def tpC (σ : ES) (b : Nat → Int32) (n : Nat) : Prop := n ≤ 120 ∧ eI σ 57 0 = nI n ∧ ∀ i, i < n → eI σ 58 i = b i ∧ 0 ≤ (b i).toInt ∧ (b i).toInt ≤ 255
def nfC (σ σ' : ES) : Prop := (∀ a c, ¬ (a = 57 ∧ (c = 3 ∨ c = 4 ∨ c = 5 ∨ c = 6)) → eI σ' a c = eI σ a c) ∧ (∀ a c, eL σ' a c = eL σ a c) ∧ ∀ a, eT σ' a = eT σ a
theorem nfC.refl (σ : ES) : nfC σ σ := ⟨fun _ _ _ => rfl, fun _ _ => rfl, fun _ => rfl⟩
theorem nfC.trans {σ τ υ : ES} (h : nfC σ τ) (g : nfC τ υ) : nfC σ υ := ⟨fun a b q => (g.1 a b q).trans (h.1 a b q), fun a b => (g.2.1 a b).trans (h.2.1 a b), fun a => (g.2.2 a).trans (h.2.2 a)⟩
theorem nfC_u {σ : ES} {c : Nat} {v : Int32} (h : c = 3 ∨ c = 4 ∨ c = 5 ∨ c = 6) : nfC σ (uI σ 57 c v) := ⟨fun a e q => by rw [eI_uI, if_neg (by omega)], fun _ _ => rfl, fun _ => rfl⟩
theorem tpC_nf {σ σ' : ES} {b : Nat → Int32} {n : Nat} (h : tpC σ b n) (g : nfC σ σ') : tpC σ' b n := by
  obtain ⟨h1, h2, h3⟩ := h
  refine ⟨h1, (g.1 57 0 (by omega)).trans h2, fun i hi => ?_⟩
  rw [g.1 58 i (by omega)]
  exact h3 i hi
def stC (σ : ES) (t : Tok) : Prop := eI σ 57 3 = nI t.1 ∧ eI σ 57 4 = nI t.2.1 ∧ eI σ 57 5 = nI t.2.2.1 ∧ (t.1 = 2 → eI σ 57 6 = nI t.2.2.2)
theorem isL_c (x : Int32) : e_X6_isLetter x = some (bi (isL' x)) := by
  unfold e_X6_isLetter isL' ir
  have e1 : (97 : Int32).toInt = 97 := rfl
  have e2 : (122 : Int32).toInt = 122 := rfl
  by_cases c : x < 97
  · rw [if_pos c]
    rw [lt32, e1] at c
    rw [decide_eq_false (show ¬ 97 ≤ x.toInt by omega), Bool.false_and]
    rfl
  · rw [if_neg c]
    rw [lt32, e1] at c
    by_cases g : 122 < x
    · rw [if_pos g]
      rw [lt32, e2] at g
      rw [decide_eq_false (show ¬ x.toInt ≤ 122 by omega), Bool.and_false]
      rfl
    · rw [if_neg g]
      rw [lt32, e2] at g
      rw [decide_eq_true (show 97 ≤ x.toInt by omega), decide_eq_true (show x.toInt ≤ 122 by omega)]
      rfl
theorem isD_c (x : Int32) : e_X6_isDigit x = some (bi (isD' x)) := by
  unfold e_X6_isDigit isD' ir
  have e1 : (48 : Int32).toInt = 48 := rfl
  have e2 : (57 : Int32).toInt = 57 := rfl
  by_cases c : x < 48
  · rw [if_pos c]
    rw [lt32, e1] at c
    rw [decide_eq_false (show ¬ 48 ≤ x.toInt by omega), Bool.false_and]
    rfl
  · rw [if_neg c]
    rw [lt32, e1] at c
    by_cases g : 57 < x
    · rw [if_pos g]
      rw [lt32, e2] at g
      rw [decide_eq_false (show ¬ x.toInt ≤ 57 by omega), Bool.and_false]
      rfl
    · rw [if_neg g]
      rw [lt32, e2] at g
      rw [decide_eq_true (show 48 ≤ x.toInt by omega), decide_eq_true (show x.toInt ≤ 57 by omega)]
      rfl
section
variable {b : Nat → Int32} {n : Nat}
theorem lts_c : ∀ f g i σ, n - i < f → n - i < g → i ≤ n → tpC σ b n → eI σ 57 5 = nI i → ∃ σ', e_X6_next_L85 g σ = some σ' ∧ nfC σ σ' ∧ eI σ' 57 3 = eI σ 57 3 ∧ eI σ' 57 4 = eI σ 57 4 ∧ eI σ' 57 5 = nI (lts b n f i) := by
  intro f
  induction f with
  | zero => intro g i σ h1; omega
  | succ f ih =>
    intro g i σ h1 h2 hi ht h5
    obtain ⟨g, rfl⟩ : ∃ g', g = g' + 1 := ⟨g - 1, by omega⟩
    obtain ⟨t1, t2, t3⟩ := id ht
    have le : nI n ≤ nI i ↔ n ≤ i := nLe (by omega) (by omega)
    simp only [e_X6_next_L85, t2, h5]
    have e : lts b n (f + 1) i = if i < n ∧ isL' (b i) = true then lts b n f (i + 1) else i := rfl
    rw [e]
    by_cases c : n ≤ i
    · rw [if_pos (le.mpr c), if_neg (by omega)]
      exact ⟨σ, rfl, nfC.refl σ, rfl, rfl, h5⟩
    · rw [if_neg (fun y => c (le.mp y)), if_pos (mib_nI (by omega) (by decide)), nIc (by omega), (t3 i (by omega)).1, isL_c, ob, nI_1]
      by_cases l : isL' (b i) = true
      · rw [if_pos (show i < n ∧ isL' (b i) = true from ⟨by omega, l⟩), l, if_neg (by decide)]
        obtain ⟨σ', r1, r2, r3, r4, r5⟩ := ih g (i + 1) (uI σ 57 5 (nI (i + 1))) (by omega) (by omega) (by omega) (tpC_nf ht (nfC_u (by omega))) rfl
        exact ⟨σ', r1, (nfC_u (by omega)).trans r2, r3, r4, r5⟩
      · have l' : isL' (b i) = false := by simpa using l
        rw [if_neg (show ¬ (i < n ∧ isL' (b i) = true) from fun x => l x.2), l', if_pos bi_f]
        exact ⟨σ, rfl, nfC.refl σ, rfl, rfl, h5⟩
theorem nv_c {v : Nat} (hv : v ≤ 1000000) {x : Int32} (hx : isD' x = true) : (if (1000000 : Int32) < (((nI v) * (10 : Int32)) + x) - (48 : Int32) then (1000000 : Int32) else (((nI v) * (10 : Int32)) + x) - (48 : Int32)) = nI (nv v x) := by
  obtain ⟨x1, x2⟩ := ir_iff.mp hx
  have e10 : (10 : Int32).toInt = 10 := rfl
  have e48 : (48 : Int32).toInt = 48 := rfl
  have m : (nI v * 10).toInt = (v : Int) * 10 := by rw [mul32, nIt (by omega), e10] <;> rw [nIt (by omega), e10] <;> omega
  have a : (nI v * 10 + x).toInt = (v : Int) * 10 + x.toInt := by rw [add32, m] <;> rw [m] <;> omega
  have s : (nI v * 10 + x - 48).toInt = (v : Int) * 10 + x.toInt - 48 := by rw [sub32, a, e48] <;> rw [a, e48] <;> omega
  have dv : (dgv x : Int) = x.toInt - 48 := by
    unfold dgv
    omega
  unfold nv
  have lt : (1000000 : Int32) < nI v * 10 + x - 48 ↔ 1000000 < 10 * v + dgv x := by
    rw [lt32, s, show (1000000 : Int32).toInt = 1000000 from rfl]
    omega
  by_cases c : 1000000 < 10 * v + dgv x
  · rw [if_pos (lt.mpr c), if_pos c]
    rfl
  · rw [if_neg (fun y => c (lt.mp y)), if_neg c, eq32, s, nIt (by omega)]
    omega
theorem dgs_c : ∀ f g i v σ, n - i < f → n - i < g → i ≤ n → v ≤ 1000000 → tpC σ b n → eI σ 57 5 = nI i → eI σ 57 6 = nI v → ∃ σ', e_X6_takeDigits_L5 g σ = some σ' ∧ nfC σ σ' ∧ eI σ' 57 3 = eI σ 57 3 ∧ eI σ' 57 4 = eI σ 57 4 ∧ eI σ' 57 5 = nI (dgs b n f i v).1 ∧ eI σ' 57 6 = nI (dgs b n f i v).2 := by
  intro f
  induction f with
  | zero => intro g i v σ h1; omega
  | succ f ih =>
    intro g i v σ h1 h2 hi hv ht h5 h6
    obtain ⟨g, rfl⟩ : ∃ g', g = g' + 1 := ⟨g - 1, by omega⟩
    obtain ⟨t1, t2, t3⟩ := id ht
    have le : nI n ≤ nI i ↔ n ≤ i := nLe (by omega) (by omega)
    simp only [e_X6_takeDigits_L5, t2, h5]
    have e : dgs b n (f + 1) i v = if i < n ∧ isD' (b i) = true then dgs b n f (i + 1) (nv v (b i)) else (i, v) := rfl
    rw [e]
    by_cases c : n ≤ i
    · rw [if_pos (le.mpr c), if_neg (by omega)]
      exact ⟨σ, rfl, nfC.refl σ, rfl, rfl, h5, h6⟩
    · rw [if_neg (fun y => c (le.mp y)), if_pos (mib_nI (by omega) (by decide)), nIc (by omega), (t3 i (by omega)).1, isD_c, ob]
      by_cases l : isD' (b i) = true
      · rw [if_pos (show i < n ∧ isD' (b i) = true from ⟨by omega, l⟩), l, if_neg (by decide), h6, nv_c hv l, eI_uI, if_neg (by omega), h5, nI_1]
        have nb : nv v (b i) ≤ 1000000 := by
          unfold nv
          split <;> omega
        obtain ⟨σ', r1, r2, r3, r4, r5, r6⟩ := ih g (i + 1) (nv v (b i)) (uI (uI σ 57 6 (nI (nv v (b i)))) 57 5 (nI (i + 1))) (by omega) (by omega) (by omega) nb (tpC_nf ht ((nfC_u (by omega)).trans (nfC_u (by omega)))) rfl rfl
        exact ⟨σ', r1, ((nfC_u (by omega)).trans (nfC_u (by omega))).trans r2, r3, r4, r5, r6⟩
      · have l' : isD' (b i) = false := by simpa using l
        rw [if_neg (show ¬ (i < n ∧ isD' (b i) = true) from fun x => l x.2), l', if_pos bi_f]
        exact ⟨σ, rfl, nfC.refl σ, rfl, rfl, h5, h6⟩
end
