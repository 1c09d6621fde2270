/-! ===== the reference's climb ===== -/
def cX (c : CI) (S : Nat) : Int64 := Int64.ofInt (cA c S)
def cY (c : CI) (S : Nat) : Int64 := Int64.ofInt (cB c S)
theorem of64 {z : Int} (h1 : -9000000000000000000 ≤ z) (h2 : z ≤ 9000000000000000000) : (Int64.ofInt z).toInt = z := by
  rw [Int64.toInt_ofInt, bm64] <;> omega
theorem to64 {x : Int64} {z : Int} (h : x.toInt = z) : x = Int64.ofInt z := by
  have := r64 x
  rw [eq64, Int64.toInt_ofInt, bm64] <;> omega
theorem cX_t {c : CI} (ok : okC c) (S : Nat) : (cX c S).toInt = cA c S := by
  have := cA_b ok S
  exact of64 (by omega) (by omega)
theorem cY_t {c : CI} (ok : okC c) (S : Nat) : (cY c S).toInt = cB c S := by
  have := cB_b ok S
  exact of64 (by omega) (by omega)
theorem cXY {c : CI} (ok : okC c) (S R : Nat) : (cX c S * cY c R).toInt = cA c S * cB c R := by
  have := cAB ok S R
  rw [mul64, cX_t ok, cY_t ok] <;> rw [cX_t ok, cY_t ok] <;> omega
def RM (σ : ES) (c : CI) : Prop := e_X10_allSets σ = some (nI (2 ^ cN c)) ∧ (∀ S, S < 2 ^ cN c → e_X10_isChoice σ (nI S) = some (bi (ch c S))) ∧ ∀ S, S < 2 ^ cN c → e_X10_aboveOf σ (nI S) = some (cX c S) ∧ e_X10_belowOf σ (nI S) = some (cY c S)
theorem pw14 {c : CI} (ok : okC c) : 2 ^ cN c ≤ 16384 := Nat.pow_le_pow_right (n := 2) (by decide) ok.1
section
variable {σ : ES} {c : CI}
theorem least_m (ok : okC c) (h : RM σ c) : ∀ f S, S ≤ 2 ^ cN c → 2 ^ cN c - S < f → (∀ R, R < S → ch c R = false) → (noC c ∧ e_X10_leastChoice_L2 σ f (nI S) = some (-1)) ∨ ∃ T, isL c (fun _ => 0) T ∧ e_X10_leastChoice_L2 σ f (nI S) = some (nI T) := by
  have p := pw14 ok
  obtain ⟨h1, h2, h3⟩ := h
  intro f
  induction f with
  | zero => intro S s1 s2; omega
  | succ f ih =>
    intro S s1 s2 hS
    have le : nI (2 ^ cN c) ≤ nI S ↔ 2 ^ cN c ≤ S := nLe (by omega) (by omega)
    simp only [e_X10_leastChoice_L2, h1, ob]
    by_cases q : 2 ^ cN c ≤ S
    · rw [if_pos (le.mpr q)]
      exact Or.inl ⟨fun R hR => hS R (by omega), rfl⟩
    · rw [if_neg (fun x => q (le.mp x)), h2 S (by omega), ob]
      by_cases g : ch c S = true
      · rw [g, if_neg (by decide)]
        refine Or.inr ⟨S, ⟨by omega, g, fun R r1 r2 => ⟨Int.le_refl _, fun x => ?_⟩⟩, rfl⟩
        rw [hS R x] at r2
        cases r2
      · have g : ch c S = false := by simpa using g
        rw [g, if_pos bi_f, nI_1]
        refine ih (S + 1) (by omega) (by omega) (fun R hR => ?_)
        by_cases e : R = S
        · rw [e]
          exact g
        · exact hS R (by omega)
theorem vl_t (ok : okC c) (S R : Nat) : (cX c R * cY c S - cX c S * cY c R).toInt = vl c (cA c S) (cB c S) R := by
  have a := cAB ok S R
  have b := cAB ok R S
  unfold vl
  rw [sub64, cXY ok, cXY ok] <;> rw [cXY ok, cXY ok] <;> omega
theorem next_m (ok : okC c) (h : RM σ c) {S0 : Nat} (s0 : S0 < 2 ^ cN c) (s0' : ch c S0 = true) : ∀ f S x5 x6, S ≤ 2 ^ cN c → 2 ^ cN c - S < f → ((x5 = -1 ∧ ∀ R, R < S → ch c R = false) ∨ ∃ T, T < S ∧ x5 = nI T ∧ ch c T = true ∧ x6.toInt = vl c (cA c S0) (cB c S0) T ∧ ∀ R, R < S → ch c R = true → vl c (cA c S0) (cB c S0) R ≤ vl c (cA c S0) (cB c S0) T ∧ (R < T → vl c (cA c S0) (cB c S0) R < vl c (cA c S0) (cB c S0) T)) → e_X10_nextChoice_L9 σ (cX c S0) (cY c S0) f x5 x6 (nI S) = some (nI (nx c S0)) := by
  have p := pw14 ok
  obtain ⟨h1, h2, h3⟩ := h
  intro f
  induction f with
  | zero => intro S x5 x6 s1 s2; omega
  | succ f ih =>
    intro S x5 x6 s1 s2 hS
    have le : nI (2 ^ cN c) ≤ nI S ↔ 2 ^ cN c ≤ S := nLe (by omega) (by omega)
    simp only [e_X10_nextChoice_L9, h1, ob]
    by_cases q : 2 ^ cN c ≤ S
    · rw [if_pos (le.mpr q)]
      rcases hS with ⟨_, g⟩ | ⟨T, t1, t2, t3, t4, t5⟩
      · rw [g S0 (by omega)] at s0'
        cases s0'
      · rw [t2, nx_is (N := T) ⟨by omega, t3, fun R r1 r2 => t5 R (by omega) r2⟩]
    · rw [if_neg (fun x => q (le.mp x)), h2 S (by omega), ob, nI_1]
      by_cases g : ch c S = true
      · obtain ⟨a1, a2⟩ := h3 S (by omega)
        rw [g, if_neg (by decide), a1, ob, a2, ob]
        have vt := vl_t ok S0 S
        have new : (∀ R, R < S → ch c R = true → vl c (cA c S0) (cB c S0) R < vl c (cA c S0) (cB c S0) S) → e_X10_nextChoice_L9 σ (cX c S0) (cY c S0) f (nI S) (cX c S * cY c S0 - cX c S0 * cY c S) (nI (S + 1)) = some (nI (nx c S0)) := by
          intro all
          refine ih (S + 1) _ _ (by omega) (by omega) (Or.inr ⟨S, by omega, rfl, g, vt, fun R r1 r2 => ?_⟩)
          by_cases e : R = S
          · rw [e]
            exact ⟨Int.le_refl _, fun x => by omega⟩
          · have := all R (by omega) r2
            exact ⟨by omega, fun _ => this⟩
        rcases hS with ⟨e1, e2⟩ | ⟨T, t1, t2, t3, t4, t5⟩
        · rw [e1, if_pos (by decide)]
          exact new (fun R r1 r2 => by rw [e2 R r1] at r2; cases r2)
        · rw [t2, if_neg (nI_pos (by omega))]
          by_cases l : cX c S * cY c S0 - cX c S0 * cY c S ≤ x6
          · rw [if_pos l]
            rw [le64, vt, t4] at l
            refine ih (S + 1) _ _ (by omega) (by omega) (Or.inr ⟨T, by omega, rfl, t3, t4, fun R r1 r2 => ?_⟩)
            by_cases e : R = S
            · rw [e]
              exact ⟨l, fun x => by omega⟩
            · exact t5 R (by omega) r2
          · rw [if_neg l]
            rw [le64, vt, t4] at l
            exact new (fun R r1 r2 => by have := (t5 R r1 r2).1; omega)
      · have g : ch c S = false := by simpa using g
        rw [g, if_pos bi_f]
        refine ih (S + 1) x5 x6 (by omega) (by omega) ?_
        rcases hS with ⟨e1, e2⟩ | ⟨T, t1, t2, t3, t4, t5⟩
        · refine Or.inl ⟨e1, fun R hR => ?_⟩
          by_cases e : R = S
          · rw [e]
            exact g
          · exact e2 R (by omega)
        · refine Or.inr ⟨T, by omega, t2, t3, t4, fun R r1 r2 => ?_⟩
          by_cases e : R = S
          · rw [e, g] at r2
            cases r2
          · exact t5 R (by omega) r2
theorem next_eq (ok : okC c) (h : RM σ c) {S : Nat} (s0 : S < 2 ^ cN c) (s0' : ch c S = true) : e_X10_nextChoice σ (cX c S) (cY c S) = some (nI (nx c S)) := by
  have p := pw14 ok
  exact next_m ok h s0 s0' mN 0 (-1) 0 (Nat.zero_le _) (mN_big (by omega)) (Or.inl ⟨rfl, fun R hR => by omega⟩)
theorem like_m (ok : okC c) (h : RM σ c) {S T : Nat} (t0 : T < 2 ^ cN c) (t1 : ch c T = true) (t2 : cA c T * cB c S = cA c S * cB c T) (t3 : ∀ R, R < T → ch c R = true → ¬ cA c R * cB c S = cA c S * cB c R) : ∀ f R, R ≤ T → T - R < f → e_X10_leastLike_L3 σ (cX c S) (cY c S) f (nI R) = some (nI T) := by
  have p := pw14 ok
  obtain ⟨h1, h2, h3⟩ := h
  intro f
  induction f with
  | zero => intro R s1 s2; omega
  | succ f ih =>
    intro R s1 s2
    simp only [e_X10_leastLike_L3]
    obtain ⟨a1, a2⟩ := h3 R (by omega)
    have eq : cX c R * cY c S = cX c S * cY c R ↔ cA c R * cB c S = cA c S * cB c R := by
      rw [eq64, cXY ok, cXY ok]
    rw [h2 R (by omega), ob, nI_1]
    by_cases e : R = T
    · subst e
      rw [t1, if_neg (by decide), a1, ob, a2, ob, if_pos (eq.mpr t2)]
    · have go := ih (R + 1) (by omega) (by omega)
      by_cases g : ch c R = true
      · rw [g, if_neg (by decide), a1, ob, a2, ob, if_neg (fun x => t3 R (by omega) g (eq.mp x))]
        exact go
      · have g : ch c R = false := by simpa using g
        rw [g, if_pos bi_f]
        exact go
theorem like_eq (ok : okC c) (h : RM σ c) {S : Nat} (s0 : S < 2 ^ cN c) (s0' : ch c S = true) (g : ¬ gtc c (nx c S) S = true) : e_X10_leastLike σ (cX c S) (cY c S) = some (nI (nx c S)) := by
  have p := pw14 ok
  obtain ⟨a1, a2, a3, a4⟩ := last_like s0 s0' g
  exact like_m ok h a1 a2 a3 a4 mN 0 (by omega) (mN_big (by omega))
def resv (c : CI) (r : Nat × Nat × Nat) (a : Int32) : Option Int64 := if (2 : Int32) ≤ a then (if a = (2 : Int32) then some (nI r.2.2).toInt64 else some (nI r.2.1).toInt64) else e_X10_lowest (cX c r.1) (cY c r.1) a
theorem kl1 {k : Nat} (h : k < 20000) : (nI k).toInt64 + 1 = (nI (k + 1)).toInt64 := by
  have o : (1 : Int64).toInt = 1 := rfl
  rw [eq64, add64, t64, t64, nIt (by omega), nIt (by omega), o]
  · omega
  · rw [t64, nIt (by omega), o]
    omega
  · rw [t64, nIt (by omega), o]
    omega
theorem climbed_m (ok : okC c) (h : RM σ c) (q a : Int32) : ∀ f g S k r, f ≤ g → S < 2 ^ cN c → ch c S = true → clm c f S k = some r → k ≤ r.2.1 → r.2.1 ≤ 16384 → r.1 < 2 ^ cN c → ch c r.1 = true → r.2.2 = nx c r.1 → ¬ gtc c r.2.2 r.1 = true → (∀ f S k r, clm c f S k = some r → k ≤ r.2.1) → e_X10_climbed_L25 σ q a g (cX c S) (cY c S) (nI k).toInt64 (nI (nx c S)) = resv c r a := by
  have p := pw14 ok
  obtain ⟨h1, h2, h3⟩ := id h
  intro f
  induction f with
  | zero =>
    intro g S k r _ _ _ hc
    cases hc
  | succ f ih =>
    intro g S k r hg s1 s2 hc k1 k2 r1 r2 r3 r4 mono
    obtain ⟨g, rfl⟩ : ∃ g', g = g' + 1 := ⟨g - 1, by omega⟩
    have L := nx_L s1 s2
    obtain ⟨a1, a2⟩ := h3 (nx c S) L.1
    have hc : (if gtc c (nx c S) S = true then clm c f (nx c S) (k + 1) else some (S, k, nx c S)) = some r := hc
    have cmp : cX c (nx c S) * cY c S ≤ cX c S * cY c (nx c S) ↔ ¬ gtc c (nx c S) S = true := by
      rw [le64, cXY ok, cXY ok]
      unfold gtc
      rw [decide_eq_true_iff]
      omega
    simp only [e_X10_climbed_L25]
    rw [a1, ob, a2, ob]
    by_cases gt : gtc c (nx c S) S = true
    · rw [if_pos gt] at hc
      rw [if_neg (fun x => cmp.mp x gt), ob, ob, next_eq ok h L.1 L.2.1, ob]
      have := mono _ _ _ _ hc
      rw [kl1 (by omega)]
      exact ih g (nx c S) (k + 1) r (by omega) L.1 L.2.1 hc this k2 r1 r2 r3 r4 mono
    · rw [if_neg gt] at hc
      have e : (S, k, nx c S) = r := Option.some.inj hc
      subst e
      rw [if_pos (cmp.mpr gt)]
      unfold resv
      by_cases b1 : (2 : Int32) ≤ a
      · rw [if_pos b1, if_pos b1]
        by_cases b2 : a = 2
        · rw [if_pos b2, if_pos b2, like_eq ok h s1 s2 gt, ob]
        · rw [if_neg b2, if_neg b2]
      · rw [if_neg b1, if_neg b1]
        show (e_X10_lowest (cX c S) (cY c S) a).bind (fun r7 => some r7) = e_X10_lowest (cX c S) (cY c S) a
        cases e_X10_lowest (cX c S) (cY c S) a <;> rfl
theorem clm_mono : ∀ f S k r, clm c f S k = some r → k ≤ r.2.1 := by
  intro f
  induction f with
  | zero =>
    intro S k r h
    cases h
  | succ f ih =>
    intro S k r h
    have h : (if gtc c (nx c S) S = true then clm c f (nx c S) (k + 1) else some (S, k, nx c S)) = some r := h
    by_cases gt : gtc c (nx c S) S = true
    · rw [if_pos gt] at h
      have := ih _ _ _ h
      omega
    · rw [if_neg gt] at h
      have e : (S, k, nx c S) = r := Option.some.inj h
      subst e
      exact Nat.le_refl _
/-- how a climb ends -/
def ends (c : CI) (S : Nat) (r : Nat × Nat × Nat) : Prop := isL c (fun _ => 0) S ∧ clm c (mu c S + 1) S 1 = some r ∧ r.2.1 ≤ 16384 ∧ 1 ≤ r.2.1 ∧ r.1 < 2 ^ cN c ∧ ch c r.1 = true ∧ r.2.2 = nx c r.1 ∧ ¬ gtc c r.2.2 r.1 = true
theorem ends_ex (ok : okC c) {S : Nat} (h : isL c (fun _ => 0) S) : ∃ r, ends c S r := by
  have p := pw14 ok
  obtain ⟨r, r1, r2, r3, r4, r5, r6, r7⟩ := clm_ex ok (mu c S) S 1 h.1 h.2.1 (Nat.le_refl _)
  have := mu_top h.1 h.2.1
  exact ⟨r, h, r1, by omega, r3, r4, r5, r6, r7⟩
theorem told_m (ok : okC c) (h : RM σ c) (a : Int32) : (noC c ∧ e_X10_told a σ = some (-4000000000000000001 - (nI 3).toInt64, gx 3 σ)) ∨ ∃ S r, ends c S r ∧ e_X10_told a σ = (resv c r a).bind fun v => some (v, σ) := by
  have p := pw14 ok
  rcases least_m ok h mN 0 (Nat.zero_le _) (mN_big (by omega)) (fun R hR => by omega) with ⟨h1, h2⟩ | ⟨S, h1, h2⟩
  · left
    refine ⟨h1, ?_⟩
    have h2' : e_X10_leastChoice σ = some (-1) := h2
    unfold e_X10_told
    rw [h2', ob, if_neg (by decide), lg3, ob]
  · right
    obtain ⟨r, hr⟩ := ends_ex ok h1
    refine ⟨S, r, hr, ?_⟩
    obtain ⟨e1, e2, e3, e4, e5, e6, e7, e8⟩ := hr
    obtain ⟨a1, a2⟩ := h.2.2 S h1.1
    have h2' : e_X10_leastChoice σ = some (nI S) := h2
    have hS := h1.1
    have mt := mu_top h1.1 h1.2.1
    have cm := climbed_m ok h (nI S) a (mu c S + 1) mN S 1 r (Nat.le_of_lt (mN_big (by omega))) h1.1 h1.2.1 e2 e4 e3 e5 e6 e7 e8 clm_mono
    unfold e_X10_told
    rw [h2', ob, if_pos (nI_pos' (by omega))]
    unfold e_X10_climbed
    rw [a1, ob, a2, ob, next_eq ok h h1.1 h1.2.1, ob]
    have cm' : e_X10_climbed_L25 σ (nI S) a mN (cX c S) (cY c S) 1 (nI (nx c S)) = resv c r a := cm
    rw [cm']
end
