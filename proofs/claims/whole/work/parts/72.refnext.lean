/-! ===== texts: the reference's next token ===== -/
section
variable {b : Nat → Int32} {n : Nat}
def tw (x : Nat) : Int32 := if x = 13 then -2 else 10 + nI x
theorem wdl_le (f e : Nat) : ∀ w, w ≤ 13 → wdl b f e w ≤ 13 := by
  intro w
  induction w with
  | zero => exact fun _ => Nat.le_refl _
  | succ w ih =>
    intro h
    show (if isWd b f e w = true then w else wdl b f e w) ≤ 13
    by_cases c : isWd b f e w = true
    · rw [if_pos c]
      omega
    · rw [if_neg c]
      exact ih (by omega)
theorem words_L {f e : Nat} (hf : f ≤ e) (he : e ≤ n) : ∀ g w σ, w ≤ 13 → 13 - w < g → tpM σ b n → eI σ 69 27 = nI f → eI σ 69 26 = nI e → eI σ 69 28 = tw (wdl b f e w) → ∃ σ', e_X10_next_L117 g (nI w) σ = some σ' ∧ nfM σ σ' ∧ eI σ' 69 27 = nI f ∧ eI σ' 69 26 = nI e ∧ eI σ' 69 28 = tw (wdx b f e) := by
  intro g
  induction g with
  | zero => intro w σ h1 h2; omega
  | succ g ih =>
    intro w σ h1 h2 ht h27 h26 h28
    have le : (13 : Int32) ≤ nI w ↔ 13 ≤ w := nLe (a := 13) (by omega) (by omega)
    simp only [e_X10_next_L117]
    by_cases c : 13 ≤ w
    · have e1 : w = 13 := by omega
      subst e1
      rw [if_pos (le.mpr c)]
      exact ⟨σ, rfl, nfM.refl σ, h27, h26, h28⟩
    · obtain ⟨y, y1, y2, y3⟩ := wordFrom_m ht hf he h27 h26 (show w < 13 by omega)
      have ey : y = isWd b f e w := by
        by_cases q : e - f ≤ 8
        · exact y2 q
        · rw [y3 q]
          unfold isWd
          rw [decide_eq_false q, Bool.false_and]
      rw [if_neg (fun z => c (le.mp z)), y1, ob, nI_1, ey]
      have es : wdl b f e (w + 1) = if isWd b f e w = true then w else wdl b f e w := rfl
      have go : ∀ v, v = tw (wdl b f e (w + 1)) → ∃ σ', e_X10_next_L117 g (nI (w + 1)) (uI σ 69 28 v) = some σ' ∧ nfM σ σ' ∧ eI σ' 69 27 = nI f ∧ eI σ' 69 26 = nI e ∧ eI σ' 69 28 = tw (wdx b f e) := by
        intro v hv
        obtain ⟨σ', r1, r2, r3⟩ := ih (w + 1) (uI σ 69 28 v) (by omega) (by omega) (tpM_nf ht (nfM_u (by omega))) h27 h26 hv
        exact ⟨σ', r1, (nfM_u (by omega)).trans r2, r3⟩
      by_cases q : isWd b f e w = true
      · rw [q, if_neg (by decide)]
        refine go _ ?_
        rw [es, if_pos q]
        unfold tw
        rw [if_neg (by omega)]
      · have q' : isWd b f e w = false := by simpa using q
        rw [q', if_pos bi_f]
        refine go _ ?_
        rw [es, if_neg q]
        exact h28
theorem lts_m : ∀ f g i s σ, n - i < f → n - i < g → i ≤ n → s ≤ i → tpM σ b n → eI σ 69 27 = nI s → eI σ 69 26 = nI i → eI σ 69 28 = -2 → ∃ σ', e_X10_next_L81 g σ = some σ' ∧ nfM σ σ' ∧ eI σ' 69 27 = nI s ∧ eI σ' 69 26 = nI (lts b n f i) ∧ eI σ' 69 28 = tw (wdx b s (lts b n f i)) := by
  intro f
  induction f with
  | zero => intro g i s σ h1; omega
  | succ f ih =>
    intro g i s σ h1 h2 hi hs ht h27 h26 h28
    obtain ⟨g, rfl⟩ : ∃ g', g = g' + 1 := ⟨g - 1, by omega⟩
    have t1 := ht.1
    simp only [e_X10_next_L81, h26]
    have e : lts b n (f + 1) i = if i < n ∧ isL' (b i) = true then lts b n f (i + 1) else i := rfl
    rw [byte_m ht hi, ob, min_eq, ob, e]
    have fin : ∃ σ', e_X10_next_L117 mN 0 σ = some σ' ∧ nfM σ σ' ∧ eI σ' 69 27 = nI s ∧ eI σ' 69 26 = nI i ∧ eI σ' 69 28 = tw (wdx b s i) := words_L hs hi mN 0 σ (by omega) (mN_big (by omega)) ht h27 h26 h28
    have e1 : ∀ x, ir (97 : Int64).toInt (122 : Int64).toInt x = isL' x := fun _ => rfl
    rw [e1]
    by_cases c : n ≤ i
    · rw [if_pos c, show isL' (-1) = false from rfl, if_pos bi_f, if_neg (show ¬ (i < n ∧ isL' (b i) = true) by omega)]
      exact fin
    · rw [if_neg c]
      by_cases l : isL' (b i) = true
      · rw [if_pos (show i < n ∧ isL' (b i) = true from ⟨by omega, l⟩), l, if_neg (by decide), nI_1]
        obtain ⟨σ', r1, r2, r3⟩ := ih g (i + 1) s (uI σ 69 26 (nI (i + 1))) (by omega) (by omega) (by omega) (by omega) (tpM_nf ht (nfM_u (by omega))) h27 rfl h28
        exact ⟨σ', r1, (nfM_u (by omega)).trans r2, r3⟩
      · have l' : isL' (b i) = false := by simpa using l
        rw [if_neg (show ¬ (i < n ∧ isL' (b i) = true) from fun x => l x.2), l', if_pos bi_f]
        exact fin
def vrel (x v : Nat) : Prop := (x ≤ 999999 ∧ v = x) ∨ (999999 < x ∧ x ≤ 9999999 ∧ v = 1000000)
theorem dgs_m : ∀ f g i v x s σ, n - i < f → n - i < g → i ≤ n → vrel x v → tpM σ b n → eI σ 69 27 = nI s → eI σ 69 26 = nI i → eI σ 69 29 = nI x → ∃ σ', e_X10_next_L174 g σ = some σ' ∧ nfM σ σ' ∧ eI σ' 69 27 = nI s ∧ eI σ' 69 26 = nI (dgs b n f i v).1 ∧ eI σ' 69 28 = (if (dgs b n f i v).2 ≤ 999999 then 1 else -2) ∧ ((dgs b n f i v).2 ≤ 999999 → eI σ' 69 29 = nI (dgs b n f i v).2) := by
  intro f
  induction f with
  | zero => intro g i v x s σ h1; omega
  | succ f ih =>
    intro g i v x s σ h1 h2 hi hv ht h27 h26 h29
    obtain ⟨g, rfl⟩ : ∃ g', g = g' + 1 := ⟨g - 1, by omega⟩
    have t1 := ht.1
    have xb : x ≤ 9999999 := by
      rcases hv with ⟨a, _⟩ | ⟨_, a, _⟩ <;> omega
    have c9 : (nI x ≤ (999999 : Int32)) ↔ x ≤ 999999 := nLe (b := 999999) (by omega) (by omega)
    simp only [e_X10_next_L174, h26, h29]
    have e : dgs b n (f + 1) i v = if i < n ∧ isD' (b i) = true then dgs b n f (i + 1) (nv v (b i)) else (i, v) := rfl
    rw [byte_m ht hi, ob, min_eq, ob, e]
    have e1 : ∀ x, ir (48 : Int64).toInt (57 : Int64).toInt x = isD' x := fun _ => rfl
    rw [e1]
    have fin : ∃ σ', (if nI x ≤ (999999 : Int32) then some (uI σ 69 28 1) else some (uI σ 69 28 (-2))) = some σ' ∧ nfM σ σ' ∧ eI σ' 69 27 = nI s ∧ eI σ' 69 26 = nI i ∧ eI σ' 69 28 = (if v ≤ 999999 then 1 else -2) ∧ (v ≤ 999999 → eI σ' 69 29 = nI v) := by
      rcases hv with ⟨a, b⟩ | ⟨a, _, b⟩
      · rw [if_pos (c9.mpr a), if_pos (by omega)]
        exact ⟨_, rfl, nfM_u (by omega), h27, h26, rfl, fun _ => by rw [b]; exact h29⟩
      · rw [if_neg (fun z => by have := c9.mp z; omega), if_neg (by omega)]
        exact ⟨_, rfl, nfM_u (by omega), h27, h26, rfl, fun z => by omega⟩
    by_cases c : n ≤ i
    · rw [if_pos c, show isD' (-1) = false from rfl, if_pos bi_f, if_neg (show ¬ (i < n ∧ isD' (b i) = true) by omega)]
      exact fin
    · rw [if_neg c]
      by_cases l : isD' (b i) = true
      · rw [if_pos (show i < n ∧ isD' (b i) = true from ⟨by omega, l⟩), l, if_neg (by decide)]
        obtain ⟨x1, x2⟩ := ir_iff.mp l
        have dv : (dgv (b i) : Int) = (b i).toInt - 48 := by
          unfold dgv
          omega
        have go : ∀ (x' : Nat) (y : Int32), y = nI x' → vrel x' (nv v (b i)) → ∃ σ', e_X10_next_J232 (e_X10_next_L174 g) y σ = some σ' ∧ nfM σ σ' ∧ eI σ' 69 27 = nI s ∧ eI σ' 69 26 = nI (dgs b n f (i + 1) (nv v (b i))).1 ∧ eI σ' 69 28 = (if (dgs b n f (i + 1) (nv v (b i))).2 ≤ 999999 then 1 else -2) ∧ ((dgs b n f (i + 1) (nv v (b i))).2 ≤ 999999 → eI σ' 69 29 = nI (dgs b n f (i + 1) (nv v (b i))).2) := by
          intro x' y hy hx'
          unfold e_X10_next_J232
          have e26 : eI (uI σ 69 29 y) 69 26 = nI i := h26
          rw [e26, nI_1]
          have f1 : nfM σ (uI (uI σ 69 29 y) 69 26 (nI (i + 1))) := (nfM_u (by omega)).trans (nfM_u (by omega))
          obtain ⟨σ', r1, r2, r3⟩ := ih g (i + 1) (nv v (b i)) x' s (uI (uI σ 69 29 y) 69 26 (nI (i + 1))) (by omega) (by omega) (by omega) hx' (tpM_nf ht f1) h27 rfl hy
          exact ⟨σ', r1, f1.trans r2, r3⟩
        by_cases q : x ≤ 999999
        · have ev : v = x := by
            rcases hv with ⟨_, a⟩ | ⟨a, _⟩
            · exact a
            · omega
          rw [if_pos (c9.mpr q), ob]
          refine go (10 * x + dgv (b i)) _ ?_ ?_
          · have e10 : (10 : Int32).toInt = 10 := rfl
            have e48 : (48 : Int32).toInt = 48 := rfl
            have m : ((10 : Int32) * nI x).toInt = 10 * (x : Int) := by rw [mul32, nIt (by omega), e10] <;> rw [nIt (by omega), e10] <;> omega
            have a : ((10 : Int32) * nI x + b i).toInt = 10 * (x : Int) + (b i).toInt := by rw [add32, m] <;> rw [m] <;> omega
            rw [eq32, sub32, a, e48, nIt (by omega)]
            · omega
            · rw [a, e48]
              omega
            · rw [a, e48]
              omega
          · unfold nv vrel
            rw [ev]
            by_cases z : 1000000 < 10 * x + dgv (b i)
            · rw [if_pos z]
              exact Or.inr ⟨by omega, by omega, rfl⟩
            · rw [if_neg z]
              by_cases z2 : 10 * x + dgv (b i) ≤ 999999
              · exact Or.inl ⟨z2, rfl⟩
              · exact Or.inr ⟨by omega, by omega, by omega⟩
        · have ev : v = 1000000 := by
            rcases hv with ⟨a, _⟩ | ⟨_, _, a⟩
            · omega
            · exact a
          rw [if_neg (fun z => q (c9.mp z))]
          refine go x _ rfl ?_
          unfold nv vrel
          rw [ev, if_pos (by omega)]
          exact Or.inr ⟨by omega, xb, rfl⟩
      · have l' : isD' (b i) = false := by simpa using l
        rw [if_neg (show ¬ (i < n ∧ isD' (b i) = true) from fun x => l x.2), l', if_pos bi_f]
        exact fin
theorem J64_m {f : Nat} (hf : f ≤ n) {σ : ES} (ht : tpM σ b n) (h27 : eI σ 69 27 = nI f) (h26 : eI σ 69 26 = nI f) : ∃ σ', (if 0 ≤ (if n ≤ f then -1 else b f) then (if (if n ≤ f then -1 else b f) = (59 : Int32) then (e_X10_next_J64 (if n ≤ f then -1 else b f) (0 : Int32) σ) else (e_X10_next_J64 (if n ≤ f then -1 else b f) (-2 : Int32) σ)) else (e_X10_next_J64 (if n ≤ f then -1 else b f) (-1 : Int32) σ)) = some σ' ∧ nfM σ σ' ∧ stM b σ' (tkn' b n f) := by
  have t1 := ht.1
  have i1 : ∀ x, ir (97 : Int64).toInt (122 : Int64).toInt x = isL' x := fun _ => rfl
  have i2 : ∀ x, ir (48 : Int64).toInt (57 : Int64).toInt x = isD' x := fun _ => rfl
  unfold tkn'
  by_cases c : n ≤ f
  · rw [if_pos c, if_pos c, if_neg (by decide)]
    unfold e_X10_next_J64
    rw [min_eq, ob, min_eq, ob, i1, i2, show isL' (-1) = false from rfl, show isD' (-1) = false from rfl, if_pos bi_f, if_pos bi_f, if_pos (by decide)]
    exact ⟨_, rfl, nfM_u (by omega), rfl, h27, h26, fun (x : 0 = 2) => by omega⟩
  · have hb := ht.2.2.1 f (by omega)
    have b0 : (0 : Int32) ≤ b f := by
      rw [le32, show (0 : Int32).toInt = 0 from rfl]
      exact hb.2.1
    have bn : ¬ b f < 0 := by
      rw [lt32, show (0 : Int32).toInt = 0 from rfl]
      omega
    rw [if_neg c, if_neg c, if_pos b0]
    by_cases l : isL' (b f) = true
    · have n59 : ¬ b f = 59 := by
        intro e
        rw [e] at l
        cases l
      rw [if_neg n59, if_pos l]
      unfold e_X10_next_J64
      rw [min_eq, ob, i1, l, if_neg (by decide)]
      obtain ⟨σ', r1, r2, r3, r4, r5⟩ := lts_m 121 mN f f (uI σ 69 28 (-2)) (by omega) (mN_big (by omega)) hf (Nat.le_refl _) (tpM_nf ht (nfM_u (by omega))) h27 h26 rfl
      exact ⟨σ', r1, (nfM_u (by omega)).trans r2, r5, r3, r4, fun (x : 1 = 2) => by omega⟩
    · have l' : isL' (b f) = false := by simpa using l
      rw [if_neg l]
      by_cases g : isD' (b f) = true
      · have n59 : ¬ b f = 59 := by
          intro e
          rw [e] at g
          cases g
        rw [if_neg n59, if_pos g]
        unfold e_X10_next_J64
        rw [min_eq, ob, i1, l', if_pos bi_f, min_eq, ob, i2, g, if_neg (by decide)]
        have f1 : nfM σ (uI (uI σ 69 28 (-2)) 69 29 0) := (nfM_u (by omega)).trans (nfM_u (by omega))
        obtain ⟨σ', r1, r2, r3, r4, r5, r6⟩ := dgs_m 121 mN f 0 0 f (uI (uI σ 69 28 (-2)) 69 29 0) (by omega) (mN_big (by omega)) hf (Or.inl ⟨by omega, rfl⟩) (tpM_nf ht f1) h27 h26 rfl
        exact ⟨σ', r1, f1.trans r2, r5, r3, r4, fun _ => r6⟩
      · have g' : isD' (b f) = false := by simpa using g
        rw [if_neg g]
        have J : ∀ (v : Int32), e_X10_next_J64 (b f) v σ = some (uI (uI σ 69 28 v) 69 26 (nI (f + 1))) := by
          intro v
          unfold e_X10_next_J64
          have e26 : eI (uI σ 69 28 v) 69 26 = nI f := h26
          rw [min_eq, ob, i1, l', if_pos bi_f, min_eq, ob, i2, g', if_pos bi_f, if_neg bn, e26, nI_1]
        rw [J, J]
        have fr : ∀ v, nfM σ (uI (uI σ 69 28 v) 69 26 (nI (f + 1))) := fun v => (nfM_u (by omega)).trans (nfM_u (by omega))
        by_cases e : b f = 59
        · rw [if_pos e, if_pos e]
          exact ⟨_, rfl, fr _, rfl, h27, rfl, fun (x : 3 = 2) => by omega⟩
        · rw [if_neg e, if_neg e]
          exact ⟨_, rfl, fr _, rfl, h27, rfl, fun (x : 4 = 2) => by omega⟩
theorem skp_m : ∀ f g i σ, n - i < f → n - i < g → i ≤ n → tpM σ b n → eI σ 69 26 = nI i → ∃ σ', e_X10_next_L0 g σ = some σ' ∧ nfM σ σ' ∧ stM b σ' (tkn' b n (skp b n f i)) := by
  intro f
  induction f with
  | zero => intro g i σ h1; omega
  | succ f ih =>
    intro g i σ h1 h2 hi ht h26
    obtain ⟨g, rfl⟩ : ∃ g', g = g' + 1 := ⟨g - 1, by omega⟩
    have t1 := ht.1
    have e : skp b n (f + 1) i = if i < n ∧ b i = 32 then skp b n f (i + 1) else i := rfl
    have f1 : nfM σ (uI σ 69 27 (nI i)) := nfM_u (by omega)
    have e26 : eI (uI σ 69 27 (nI i)) 69 26 = nI i := h26
    obtain ⟨σ', r1, r2, r3⟩ := J64_m hi (tpM_nf ht f1) (show eI (uI σ 69 27 (nI i)) 69 27 = nI i from rfl) e26
    simp only [e_X10_next_L0, h26, e26]
    rw [byte_m ht hi, ob, byte_m (tpM_nf ht f1) hi, ob, e, nI_1]
    by_cases c : n ≤ i
    · rw [if_pos c] at r1 ⊢
      rw [if_neg (show ¬ ((-1 : Int32) = 32) by decide), if_neg (show ¬ (i < n ∧ b i = 32) by omega)]
      exact ⟨σ', r1, f1.trans r2, r3⟩
    · rw [if_neg c] at r1 ⊢
      by_cases l : b i = 32
      · rw [if_pos l, if_pos (show i < n ∧ b i = 32 from ⟨by omega, l⟩)]
        obtain ⟨σ', s1, s2, s3⟩ := ih g (i + 1) (uI σ 69 26 (nI (i + 1))) (by omega) (by omega) (by omega) (tpM_nf ht (nfM_u (by omega))) rfl
        exact ⟨σ', s1, (nfM_u (by omega)).trans s2, s3⟩
      · rw [if_neg l, if_neg (show ¬ (i < n ∧ b i = 32) from fun x => l x.2)]
        exact ⟨σ', r1, f1.trans r2, r3⟩
theorem next_m' {i : Nat} (hi : i ≤ n) {σ : ES} (ht : tpM σ b n) (h26 : eI σ 69 26 = nI i) : ∃ σ', e_X10_next σ = some σ' ∧ nfM σ σ' ∧ stM b σ' (tkn b n i) := by
  have t1 := ht.1
  obtain ⟨σ', r1, r2, r3⟩ := skp_m 121 (mN + 1) i σ (by omega) (Nat.lt_succ_of_lt (mN_big (by omega))) hi ht h26
  refine ⟨σ', ?_, r2, r3⟩
  rw [← r1]
  simp only [e_X10_next_L0]
  unfold e_X10_next
  rfl
end
