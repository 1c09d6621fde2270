/-! ===== the class's climbs ===== -/
def pf (σ σ' : ES) : Prop := (∀ a b, a ≠ 44 → a ≠ 50 → eI σ' a b = eI σ a b) ∧ (∀ a b, a ≠ 49 → eL σ' a b = eL σ a b) ∧ ∀ a, eT σ' a = eT σ a
theorem pf.refl (σ : ES) : pf σ σ := ⟨fun _ _ _ _ => rfl, fun _ _ _ => rfl, fun _ => rfl⟩
theorem pf.trans {σ τ υ : ES} (h : pf σ τ) (g : pf τ υ) : pf σ υ := ⟨fun a b q r => (g.1 a b q r).trans (h.1 a b q r), fun a b q => (g.2.1 a b q).trans (h.2.1 a b q), fun a => (g.2.2 a).trans (h.2.2 a)⟩
theorem sgm_s (g : Nat → Int) (S n : Nat) : sgm g S (n + 1) = sgm g S n + (if S.testBit n = true then g n else 0) := rfl
def kf39 (σ σ' : ES) : Prop := (∀ a b, a ≠ 44 → a ≠ 50 → ¬ (a = 39 ∧ (b = 0 ∨ b = 1)) → eI σ' a b = eI σ a b) ∧ (∀ a b, ¬ (a = 39 ∧ (b = 2 ∨ b = 3)) → a ≠ 42 → a ≠ 49 → eL σ' a b = eL σ a b) ∧ ∀ a, eT σ' a = eT σ a
theorem kf39.refl (σ : ES) : kf39 σ σ := ⟨fun _ _ _ _ _ => rfl, fun _ _ _ _ _ => rfl, fun _ => rfl⟩
theorem kf39.trans {σ τ υ : ES} (h : kf39 σ τ) (g : kf39 τ υ) : kf39 σ υ := ⟨fun a b q r s => (g.1 a b q r s).trans (h.1 a b q r s), fun a b q r s => (g.2.1 a b q r s).trans (h.2.1 a b q r s), fun a => (g.2.2 a).trans (h.2.2 a)⟩
theorem kf39_pf {σ σ' : ES} (h : pf σ σ') : kf39 σ σ' := ⟨fun a b q r _ => h.1 a b q r, fun a b _ _ r => h.2.1 a b r, h.2.2⟩
theorem kf39_0 (σ : ES) (v : Int32) : kf39 σ (uI σ 39 0 v) := ⟨fun a b _ _ q => by rw [eI_uI, if_neg (by omega)], fun _ _ _ _ _ => rfl, fun _ => rfl⟩
theorem kf39_1 (σ : ES) (v : Int32) : kf39 σ (uI σ 39 1 v) := ⟨fun a b _ _ q => by rw [eI_uI, if_neg (by omega)], fun _ _ _ _ _ => rfl, fun _ => rfl⟩
theorem kf39_2 (σ : ES) (v : Int64) : kf39 σ (uL σ 39 2 v) := ⟨fun _ _ _ _ _ => rfl, fun a b q _ _ => by rw [eL_uL, if_neg (by omega)], fun _ => rfl⟩
theorem kf39_3 (σ : ES) (v : Int64) : kf39 σ (uL σ 39 3 v) := ⟨fun _ _ _ _ _ => rfl, fun a b q _ _ => by rw [eL_uL, if_neg (by omega)], fun _ => rfl⟩
def CM39 (σ : ES) (c : CI) : Prop := eI σ 39 4 = nI (cN c) ∧ (∀ i, i < cN c → (eL σ 40 i).toInt = cG c i ∧ (eL σ 41 i).toInt = cT c i) ∧ (eL σ 39 5).toInt = c.2.1.1 ∧ (eL σ 39 6).toInt = c.2.1.2
theorem CM39_k {σ σ' : ES} {c : CI} (h : CM39 σ c) (g : kf39 σ σ') : CM39 σ' c := by
  obtain ⟨h1, h2, h3, h4⟩ := h
  refine ⟨(g.1 39 4 (by omega) (by omega) (by omega)).trans h1, fun i hi => ?_, ?_, ?_⟩
  · rw [g.2.1 40 i (by omega) (by omega) (by omega), g.2.1 41 i (by omega) (by omega) (by omega)]
    exact h2 i hi
  · rw [g.2.1 39 5 (by omega) (by omega) (by omega)]
    exact h3
  · rw [g.2.1 39 6 (by omega) (by omega) (by omega)]
    exact h4
section
variable {c : CI}
theorem tog39a (ok : okC c) {σ : ES} (h : CM39 σ c) {S : Nat} (hS : S < 16384) : e_X0_together_39_40 σ (nI S) = some (Int64.ofInt (sgm (cG c) S (cN c))) := by
  have n14 := ok.1
  have key : ∀ f i x, i ≤ cN c → cN c - i < f → x.toInt = sgm (cG c) S i → e_X0_together_39_40_L5 σ (nI S) f x (nI i) = some (Int64.ofInt (sgm (cG c) S (cN c))) := by
    intro f
    induction f with
    | zero => intro i x h1 h2; omega
    | succ f ih =>
      intro i x h1 h2 hx
      have le : nI (cN c) ≤ nI i ↔ cN c ≤ i := nLe (by omega) (by omega)
      simp only [e_X0_together_39_40_L5, h.1]
      by_cases q : cN c ≤ i
      · rw [if_pos (le.mpr q), to64 hx, show cN c = i by omega]
      · have b := sgm_b (g := cG c) (lo := -1100000000) (hi := 1100000000) (by omega) (by omega) S i (fun j hj => ⟨(ok.2.1 j (by omega)).1, (ok.2.1 j (by omega)).2.1⟩)
        have v := (h.2.1 i (by omega)).1
        have w := ok.2.1 i (by omega)
        rw [if_neg (fun y => q (le.mp y)), nI_1]
        by_cases t : S.testBit i = true
        · rw [if_neg (fun y => by rw [(and_bit (by omega) (by omega)).mp y] at t; cases t), if_pos (mib_nI (by omega) (by decide)), nIc (by omega)]
          refine ih (i + 1) _ (by omega) (by omega) ?_
          rw [sgm_s, if_pos t, add64, hx, v] <;> (try rw [hx, v]) <;> omega
        · have t' : S.testBit i = false := by simpa using t
          rw [if_pos ((and_bit (by omega) (by omega)).mpr t')]
          refine ih (i + 1) x (by omega) (by omega) ?_
          rw [sgm_s, if_neg t, hx, Int.add_zero]
  exact key mN 0 0 (Nat.zero_le _) (mN_big (by omega)) rfl
theorem tog39b (ok : okC c) {σ : ES} (h : CM39 σ c) {S : Nat} (hS : S < 16384) : e_X0_together_39_41 σ (nI S) = some (Int64.ofInt (sgm (cT c) S (cN c))) := by
  have n14 := ok.1
  have key : ∀ f i x, i ≤ cN c → cN c - i < f → x.toInt = sgm (cT c) S i → e_X0_together_39_41_L5 σ (nI S) f x (nI i) = some (Int64.ofInt (sgm (cT c) S (cN c))) := by
    intro f
    induction f with
    | zero => intro i x h1 h2; omega
    | succ f ih =>
      intro i x h1 h2 hx
      have le : nI (cN c) ≤ nI i ↔ cN c ≤ i := nLe (by omega) (by omega)
      simp only [e_X0_together_39_41_L5, h.1]
      by_cases q : cN c ≤ i
      · rw [if_pos (le.mpr q), to64 hx, show cN c = i by omega]
      · have b := sgm_b (g := cT c) (lo := 0) (hi := 2100000) (by omega) (by omega) S i (fun j hj => ⟨(ok.2.1 j (by omega)).2.2.1, (ok.2.1 j (by omega)).2.2.2⟩)
        have v := (h.2.1 i (by omega)).2
        have w := ok.2.1 i (by omega)
        rw [if_neg (fun y => q (le.mp y)), nI_1]
        by_cases t : S.testBit i = true
        · rw [if_neg (fun y => by rw [(and_bit (by omega) (by omega)).mp y] at t; cases t), if_pos (mib_nI (by omega) (by decide)), nIc (by omega)]
          refine ih (i + 1) _ (by omega) (by omega) ?_
          rw [sgm_s, if_pos t, add64, hx, v] <;> (try rw [hx, v]) <;> omega
        · have t' : S.testBit i = false := by simpa using t
          rw [if_pos ((and_bit (by omega) (by omega)).mpr t')]
          refine ih (i + 1) x (by omega) (by omega) ?_
          rw [sgm_s, if_neg t, hx, Int.add_zero]
  exact key mN 0 0 (Nat.zero_le _) (mN_big (by omega)) rfl
theorem sum39 (ok : okC c) {σ : ES} (h : CM39 σ c) (S : Nat) : eL σ 39 5 + Int64.ofInt (sgm (cG c) S (cN c)) = cX c S ∧ eL σ 39 6 + Int64.ofInt (sgm (cT c) S (cN c)) = cY c S := by
  have n14 := ok.1
  have b1 := sgm_b (g := cG c) (lo := -1100000000) (hi := 1100000000) (by omega) (by omega) S (cN c) (fun i hi => ⟨(ok.2.1 i hi).1, (ok.2.1 i hi).2.1⟩)
  have b2 := sgm_b (g := cT c) (lo := 0) (hi := 2100000) (by omega) (by omega) S (cN c) (fun i hi => ⟨(ok.2.1 i hi).2.2.1, (ok.2.1 i hi).2.2.2⟩)
  have o := ok.2.2.1
  have e1 : (Int64.ofInt (sgm (cG c) S (cN c))).toInt = sgm (cG c) S (cN c) := of64 (by omega) (by omega)
  have e2 : (Int64.ofInt (sgm (cT c) S (cN c))).toInt = sgm (cT c) S (cN c) := of64 (by omega) (by omega)
  constructor
  · rw [eq64, cX_t ok, add64, h.2.2.1, e1]
    · rfl
    · rw [h.2.2.1, e1]
      omega
    · rw [h.2.2.1, e1]
      omega
  · rw [eq64, cY_t ok, add64, h.2.2.2, e2]
    · rfl
    · rw [h.2.2.2, e2]
      omega
    · rw [h.2.2.2, e2]
      omega
theorem weigh39 (ok : okC c) {a b : Int64} (a1 : -16400000000 ≤ a.toInt) (a2 : a.toInt ≤ 16400000000) (b1 : 0 ≤ b.toInt) (b2 : b.toInt ≤ 30400000) {σ : ES} (h : CM39 σ c) : ∃ σ', e_X0_weigh_39 a b σ = some σ' ∧ (∀ p q, eI σ' p q = eI σ p q) ∧ (∀ p q, p ≠ 42 → eL σ' p q = eL σ p q) ∧ (∀ p, eT σ' p = eT σ p) ∧ ∀ i, i < cN c → (eL σ' 42 i).toInt = Wt c a.toInt b.toInt i := by
  have n14 := ok.1
  have key : ∀ f k σ, k ≤ cN c → cN c - k < f → CM39 σ c → (∀ i, i < k → (eL σ 42 i).toInt = Wt c a.toInt b.toInt i) → ∃ σ', e_X0_weigh_39_L3 a b f (nI k) σ = some σ' ∧ (∀ p q, eI σ' p q = eI σ p q) ∧ (∀ p q, p ≠ 42 → eL σ' p q = eL σ p q) ∧ (∀ p, eT σ' p = eT σ p) ∧ ∀ i, i < cN c → (eL σ' 42 i).toInt = Wt c a.toInt b.toInt i := by
    intro f
    induction f with
    | zero => intro k σ h1 h2; omega
    | succ f ih =>
      intro k σ h1 h2 h hw
      have le : nI (cN c) ≤ nI k ↔ cN c ≤ k := nLe (by omega) (by omega)
      simp only [e_X0_weigh_39_L3, h.1]
      by_cases q : cN c ≤ k
      · rw [if_pos (le.mpr q)]
        exact ⟨σ, rfl, fun _ _ => rfl, fun _ _ _ => rfl, fun _ => rfl, fun i hi => hw i (by omega)⟩
      · rw [if_neg (fun y => q (le.mp y)), if_pos (mib_nI (by omega) (by decide)), nIc (by omega), nI_1]
        obtain ⟨v1, v2⟩ := h.2.1 k (by omega)
        have w := ok.2.1 k (by omega)
        have p1 := ab_le (a := 1100000000) (b := 30400000) (x := cG c k) (y := b.toInt) w.1 w.2.1 b1 b2
        have p2 := ab_le (a := 16400000000) (b := 2100000) (x := a.toInt) (y := cT c k) a1 a2 w.2.2.1 w.2.2.2
        rw [Int.mul_comm (cG c k)] at p1
        have e1 : (b * eL σ 40 k).toInt = b.toInt * cG c k := by
          rw [mul64, v1] <;> rw [v1] <;> omega
        have e2 : (a * eL σ 41 k).toInt = a.toInt * cT c k := by
          rw [mul64, v2] <;> rw [v2] <;> omega
        have e3 : (b * eL σ 40 k - a * eL σ 41 k).toInt = Wt c a.toInt b.toInt k := by
          unfold Wt
          rw [sub64, e1, e2] <;> rw [e1, e2] <;> omega
        have hk : kf39 σ (uL σ 42 k (b * eL σ 40 k - a * eL σ 41 k)) := ⟨fun _ _ _ _ _ => rfl, fun p q _ r _ => by rw [eL_uL, if_neg (by omega)], fun _ => rfl⟩
        obtain ⟨σ', s1, s2, s3, s4, s5⟩ := ih (k + 1) (uL σ 42 k (b * eL σ 40 k - a * eL σ 41 k)) (by omega) (by omega) (CM39_k h hk) (fun i hi => by
          rw [eL_uL]
          by_cases e : i = k
          · rw [if_pos (show 42 = 42 ∧ i = k from ⟨rfl, e⟩), e]
            exact e3
          · rw [if_neg (show ¬ (42 = 42 ∧ i = k) from fun x => e x.2)]
            exact hw i (by omega))
        refine ⟨σ', s1, s2, fun p q r => ?_, s4, s5⟩
        rw [s3 p q r, eL_uL, if_neg (by omega)]
  exact key mN 0 σ (Nat.zero_le _) (mN_big (by omega)) h (fun i hi => by omega)
theorem runs39 (ok : okC c) {PI : ES → Prop} (hPI : ∀ σ σ', kf39 σ σ' → PI σ → PI σ') (hP : ∀ σ (W : Nat → Int), PI σ → eI σ 39 4 = nI (cN c) → (∀ i, i < cN c → (eL σ 42 i).toInt = W i) → (∀ i, i < cN c → -100000000000000000 ≤ W i ∧ W i ≤ 100000000000000000) → ∃ N σ', e_X7_pick σ = some (nI N, σ') ∧ pf σ σ' ∧ ((N = 0 ∧ noC c) ∨ (isL c (fun S => sgm W S (cN c)) N ∧ N ≠ 0))) : ∀ f g S k r σ, f ≤ g → PI σ → CM39 σ c → S < 2 ^ cN c → ch c S = true → clm c f S k = some r → r.2.1 ≤ 16384 → ∃ σ', e_X0_runs_39_L19 g (nI S) (nI k) σ = some (1, σ') ∧ kf39 σ σ' ∧ eI σ' 39 0 = nI r.2.2 ∧ eI σ' 39 1 = nI r.2.1 ∧ eL σ' 39 2 = cX c r.1 ∧ eL σ' 39 3 = cY c r.1 := by
  have p := pw14 ok
  have n14 := ok.1
  intro f
  induction f with
  | zero =>
    intro g S k r σ _ _ _ _ _ hc
    cases hc
  | succ f ih =>
    intro g S k r σ hg hpi hcm s1 s2 hc r2
    obtain ⟨g, rfl⟩ : ∃ g', g = g' + 1 := ⟨g - 1, by omega⟩
    have km := clm_mono _ _ _ _ hc
    have hc : (if gtc c (nx c S) S = true then clm c f (nx c S) (k + 1) else some (S, k, nx c S)) = some r := hc
    have lt : (16384 : Int32) < nI k ↔ 16384 < k := nLt (a := 16384) (by omega) (by omega)
    simp only [e_X0_runs_39_L19]
    have k1 := kf39_1 σ (nI k)
    have c1 := CM39_k hcm k1
    have u1 := sum39 ok c1 S
    have k2 := kf39_2 (uI σ 39 1 (nI k)) (cX c S)
    have c2 := CM39_k c1 k2
    have u2 := sum39 ok c2 S
    have k3 := kf39_3 (uL (uI σ 39 1 (nI k)) 39 2 (cX c S)) (cY c S)
    have c3 := CM39_k c2 k3
    rw [if_neg (fun y => by have := lt.mp y; omega), tog39a ok c1 (by omega), ob, u1.1, tog39b ok c2 (by omega), ob, u2.2, show eL (uL (uL (uI σ 39 1 (nI k)) 39 2 (cX c S)) 39 3 (cY c S)) 39 2 = cX c S from rfl, show eL (uL (uL (uI σ 39 1 (nI k)) 39 2 (cX c S)) 39 3 (cY c S)) 39 3 = cY c S from rfl]
    have aB := cA_b ok S
    have bB := cB_b ok S
    obtain ⟨σ4, w1, w2, w3, w4, w5⟩ := weigh39 ok (a := cX c S) (b := cY c S) (by rw [cX_t ok]; omega) (by rw [cX_t ok]; omega) (by rw [cY_t ok]; omega) (by rw [cY_t ok]; omega) c3
    rw [w1, ob]
    have k4 : kf39 (uL (uL (uI σ 39 1 (nI k)) 39 2 (cX c S)) 39 3 (cY c S)) σ4 := ⟨fun a b _ _ _ => w2 a b, fun a b _ q _ => w3 a b q, w4⟩
    have K4 : kf39 σ σ4 := ((k1.trans k2).trans k3).trans k4
    have c4 := CM39_k hcm K4
    rw [cX_t ok, cY_t ok] at w5
    obtain ⟨N, σ5, q1, q2, q3⟩ := hP σ4 (Wt c (cA c S) (cB c S)) (hPI _ _ K4 hpi) c4.1 w5 (fun i hi => by
      have w := ok.2.1 i hi
      have p1 := ab_le (a := 1100000000) (b := 30400000) (x := cG c i) (y := cB c S) w.1 w.2.1 bB.1 bB.2
      have p2 := ab_le (a := 16400000000) (b := 2100000) (x := cA c S) (y := cT c i) aB.1 aB.2 w.2.2.1 w.2.2.2
      rw [Int.mul_comm (cG c i)] at p1
      unfold Wt
      omega)
    have isN : nx c S = N := by
      rcases q3 with ⟨_, no⟩ | ⟨q3, _⟩
      · rw [no S s1] at s2
        cases s2
      · exact nx_is (isL_W.mpr q3)
    have LN := nx_L s1 s2
    rw [isN] at LN hc
    have ln : N < 16384 := by have := LN.1; omega
    rw [q1, ob]
    dsimp only
    have K5 : kf39 σ σ5 := K4.trans (kf39_pf q2)
    have k6 := kf39_0 σ5 (nI N)
    have K6 := K5.trans k6
    have c6 := CM39_k hcm K6
    rw [show eI (uI σ5 39 0 (nI N)) 39 0 = nI N from rfl, tog39a ok c6 ln, ob, tog39b ok c6 ln, ob, (sum39 ok c6 N).1, (sum39 ok c6 N).2]
    have x2 : eL (uI σ5 39 0 (nI N)) 39 2 = cX c S := by
      show eL σ5 39 2 = _
      rw [q2.2.1 39 2 (by omega), w3 39 2 (by omega)]
      rfl
    have x3 : eL (uI σ5 39 0 (nI N)) 39 3 = cY c S := by
      show eL σ5 39 3 = _
      rw [q2.2.1 39 3 (by omega), w3 39 3 (by omega)]
      rfl
    have x1 : eI (uI σ5 39 0 (nI N)) 39 1 = nI k := by
      show eI σ5 39 1 = _
      rw [q2.1 39 1 (by omega) (by omega), w2 39 1]
      rfl
    rw [x2, x3, nI_1]
    have cmp : cX c S * cY c N < cX c N * cY c S ↔ gtc c N S = true := by
      rw [lt64, cXY ok, cXY ok]
      unfold gtc
      rw [decide_eq_true_iff]
    by_cases gt : gtc c N S = true
    · rw [if_pos gt] at hc
      rw [if_pos (cmp.mpr gt)]
      obtain ⟨σ', t1, t2, t3⟩ := ih g N (k + 1) r (uI σ5 39 0 (nI N)) (by omega) (hPI _ _ K6 hpi) c6 LN.1 LN.2.1 hc r2
      exact ⟨σ', t1, K6.trans t2, t3⟩
    · rw [if_neg gt] at hc
      have e : (S, k, N) = r := Option.some.inj hc
      subst e
      rw [if_neg (fun y => gt (cmp.mp y))]
      exact ⟨_, rfl, K6, rfl, x1, x2, x3⟩
theorem run39 (ok : okC c) {PI : ES → Prop} (hPI : ∀ σ σ', kf39 σ σ' → PI σ → PI σ') (hP : ∀ σ (W : Nat → Int), PI σ → eI σ 39 4 = nI (cN c) → (∀ i, i < cN c → (eL σ 42 i).toInt = W i) → (∀ i, i < cN c → -100000000000000000 ≤ W i ∧ W i ≤ 100000000000000000) → ∃ N σ', e_X7_pick σ = some (nI N, σ') ∧ pf σ σ' ∧ ((N = 0 ∧ noC c) ∨ (isL c (fun S => sgm W S (cN c)) N ∧ N ≠ 0))) {σ : ES} (hpi : PI σ) (hcm : CM39 σ c) : ∃ σ', kf39 σ σ' ∧ ((noC c ∧ e_X0_runs_39 σ = some (0, σ')) ∨ ∃ S r, ends c S r ∧ e_X0_runs_39 σ = some (1, σ') ∧ eI σ' 39 0 = nI r.2.2 ∧ eI σ' 39 1 = nI r.2.1 ∧ eL σ' 39 2 = cX c r.1 ∧ eL σ' 39 3 = cY c r.1) := by
  have p := pw14 ok
  obtain ⟨σ4, w1, w2, w3, w4, w5⟩ := weigh39 ok (a := 0) (b := 0) (by decide) (by decide) (by decide) (by decide) hcm
  have k4 : kf39 σ σ4 := ⟨fun a b _ _ _ => w2 a b, fun a b _ q _ => w3 a b q, w4⟩
  have c4 := CM39_k hcm k4
  obtain ⟨N, σ5, q1, q2, q3⟩ := hP σ4 (Wt c 0 0) (hPI _ _ k4 hpi) c4.1 w5 (fun i hi => by
    unfold Wt
    omega)
  have K5 : kf39 σ σ5 := k4.trans (kf39_pf q2)
  unfold e_X0_runs_39
  rw [w1, ob]
  rcases q3 with ⟨n0, no⟩ | ⟨q3, n0⟩
  · subst n0
    rw [q1, ob]
    dsimp only
    rw [if_pos nI_lit0]
    exact ⟨σ5, K5, Or.inl ⟨no, rfl⟩⟩
  · have L0 := isL_0.mp q3
    obtain ⟨r, hr⟩ := ends_ex ok L0
    obtain ⟨e1, e2, e3, e4, e5⟩ := id hr
    have mt := mu_top L0.1 L0.2.1
    obtain ⟨σ', t1, t2, t3⟩ := runs39 ok hPI hP (mu c N + 1) mN N 1 r σ5 (Nat.le_of_lt (mN_big (by omega))) (hPI _ _ K5 hpi) (CM39_k hcm K5) L0.1 L0.2.1 e2 e3
    have hN := L0.1
    rw [q1, ob]
    dsimp only
    rw [if_neg (show ¬ nI N = 0 from fun y => n0 ((nI_i (by omega) (by omega)).mp y))]
    exact ⟨σ', K5.trans t2, Or.inr ⟨N, r, hr, t1, t3⟩⟩
end
theorem told39 {c : CI} (ok : okC c) {σ : ES} {r : Nat × Nat × Nat} (e4 : r.1 < 2 ^ cN c) (e5 : ch c r.1 = true) (h0 : eI σ 39 0 = nI r.2.2) (h1 : eI σ 39 1 = nI r.2.1) (h2 : eL σ 39 2 = cX c r.1) (h3 : eL σ 39 3 = cY c r.1) {a : Int32} (ha : ir 0 3 a = true) : ∃ v, e_X9_told_39 1 a σ = some (v, σ) ∧ resv c r a = some v := by
  obtain ⟨a1, a2⟩ := ir_iff.mp ha
  unfold e_X9_told_39 resv
  rw [if_neg (by decide), h0, h1, h2, h3]
  by_cases c2 : a = 2
  · subst c2
    rw [if_pos rfl, if_pos (by decide), if_pos rfl]
    exact ⟨_, rfl, rfl⟩
  · by_cases c3 : a = 3
    · subst c3
      rw [if_neg (by decide), if_pos rfl, if_pos (by decide), if_neg (by decide)]
      exact ⟨_, rfl, rfl⟩
    · have lt : ¬ (2 : Int32) ≤ a := by
        rw [le32, show (2 : Int32).toInt = 2 from rfl]
        intro q
        have h23 : a.toInt = 2 ∨ a.toInt = 3 := by omega
        rcases h23 with e | e
        · exact c2 (eq32.mpr e)
        · exact c3 (eq32.mpr e)
      rw [if_neg c2, if_neg c3, if_neg lt]
      have aB := cA_b ok r.1
      have bB := cB_b ok r.1
      have b1 := ok.2.2.2 r.1 e4 e5
      obtain ⟨x, y, l1, l2, l3, _⟩ := low_eq (A := cX c r.1) (B := cY c r.1) (by rw [cX_t ok]; omega) (by rw [cX_t ok]; omega) (by rw [cY_t ok]; omega) (by rw [cY_t ok]; omega)
      by_cases a0 : a = 0
      · subst a0
        exact ⟨x, by rw [l1, ob], l2⟩
      · exact ⟨y, by rw [(l3 a a0).1, ob], (l3 a a0).2⟩
def kf45 (σ σ' : ES) : Prop := (∀ a b, a ≠ 44 → a ≠ 50 → ¬ (a = 45 ∧ (b = 0 ∨ b = 1)) → eI σ' a b = eI σ a b) ∧ (∀ a b, ¬ (a = 45 ∧ (b = 2 ∨ b = 3)) → a ≠ 48 → a ≠ 49 → eL σ' a b = eL σ a b) ∧ ∀ a, eT σ' a = eT σ a
theorem kf45.refl (σ : ES) : kf45 σ σ := ⟨fun _ _ _ _ _ => rfl, fun _ _ _ _ _ => rfl, fun _ => rfl⟩
theorem kf45.trans {σ τ υ : ES} (h : kf45 σ τ) (g : kf45 τ υ) : kf45 σ υ := ⟨fun a b q r s => (g.1 a b q r s).trans (h.1 a b q r s), fun a b q r s => (g.2.1 a b q r s).trans (h.2.1 a b q r s), fun a => (g.2.2 a).trans (h.2.2 a)⟩
theorem kf45_pf {σ σ' : ES} (h : pf σ σ') : kf45 σ σ' := ⟨fun a b q r _ => h.1 a b q r, fun a b _ _ r => h.2.1 a b r, h.2.2⟩
theorem kf45_0 (σ : ES) (v : Int32) : kf45 σ (uI σ 45 0 v) := ⟨fun a b _ _ q => by rw [eI_uI, if_neg (by omega)], fun _ _ _ _ _ => rfl, fun _ => rfl⟩
theorem kf45_1 (σ : ES) (v : Int32) : kf45 σ (uI σ 45 1 v) := ⟨fun a b _ _ q => by rw [eI_uI, if_neg (by omega)], fun _ _ _ _ _ => rfl, fun _ => rfl⟩
theorem kf45_2 (σ : ES) (v : Int64) : kf45 σ (uL σ 45 2 v) := ⟨fun _ _ _ _ _ => rfl, fun a b q _ _ => by rw [eL_uL, if_neg (by omega)], fun _ => rfl⟩
theorem kf45_3 (σ : ES) (v : Int64) : kf45 σ (uL σ 45 3 v) := ⟨fun _ _ _ _ _ => rfl, fun a b q _ _ => by rw [eL_uL, if_neg (by omega)], fun _ => rfl⟩
def CM45 (σ : ES) (c : CI) : Prop := eI σ 45 4 = nI (cN c) ∧ (∀ i, i < cN c → (eL σ 46 i).toInt = cG c i ∧ (eL σ 47 i).toInt = cT c i) ∧ (eL σ 45 5).toInt = c.2.1.1 ∧ (eL σ 45 6).toInt = c.2.1.2
theorem CM45_k {σ σ' : ES} {c : CI} (h : CM45 σ c) (g : kf45 σ σ') : CM45 σ' c := by
  obtain ⟨h1, h2, h3, h4⟩ := h
  refine ⟨(g.1 45 4 (by omega) (by omega) (by omega)).trans h1, fun i hi => ?_, ?_, ?_⟩
  · rw [g.2.1 46 i (by omega) (by omega) (by omega), g.2.1 47 i (by omega) (by omega) (by omega)]
    exact h2 i hi
  · rw [g.2.1 45 5 (by omega) (by omega) (by omega)]
    exact h3
  · rw [g.2.1 45 6 (by omega) (by omega) (by omega)]
    exact h4
section
variable {c : CI}
theorem tog45a (ok : okC c) {σ : ES} (h : CM45 σ c) {S : Nat} (hS : S < 16384) : e_X0_together_45_46 σ (nI S) = some (Int64.ofInt (sgm (cG c) S (cN c))) := by
  have n14 := ok.1
  have key : ∀ f i x, i ≤ cN c → cN c - i < f → x.toInt = sgm (cG c) S i → e_X0_together_45_46_L5 σ (nI S) f x (nI i) = some (Int64.ofInt (sgm (cG c) S (cN c))) := by
    intro f
    induction f with
    | zero => intro i x h1 h2; omega
    | succ f ih =>
      intro i x h1 h2 hx
      have le : nI (cN c) ≤ nI i ↔ cN c ≤ i := nLe (by omega) (by omega)
      simp only [e_X0_together_45_46_L5, h.1]
      by_cases q : cN c ≤ i
      · rw [if_pos (le.mpr q), to64 hx, show cN c = i by omega]
      · have b := sgm_b (g := cG c) (lo := -1100000000) (hi := 1100000000) (by omega) (by omega) S i (fun j hj => ⟨(ok.2.1 j (by omega)).1, (ok.2.1 j (by omega)).2.1⟩)
        have v := (h.2.1 i (by omega)).1
        have w := ok.2.1 i (by omega)
        rw [if_neg (fun y => q (le.mp y)), nI_1]
        by_cases t : S.testBit i = true
        · rw [if_neg (fun y => by rw [(and_bit (by omega) (by omega)).mp y] at t; cases t), if_pos (mib_nI (by omega) (by decide)), nIc (by omega)]
          refine ih (i + 1) _ (by omega) (by omega) ?_
          rw [sgm_s, if_pos t, add64, hx, v] <;> (try rw [hx, v]) <;> omega
        · have t' : S.testBit i = false := by simpa using t
          rw [if_pos ((and_bit (by omega) (by omega)).mpr t')]
          refine ih (i + 1) x (by omega) (by omega) ?_
          rw [sgm_s, if_neg t, hx, Int.add_zero]
  exact key mN 0 0 (Nat.zero_le _) (mN_big (by omega)) rfl
theorem tog45b (ok : okC c) {σ : ES} (h : CM45 σ c) {S : Nat} (hS : S < 16384) : e_X0_together_45_47 σ (nI S) = some (Int64.ofInt (sgm (cT c) S (cN c))) := by
  have n14 := ok.1
  have key : ∀ f i x, i ≤ cN c → cN c - i < f → x.toInt = sgm (cT c) S i → e_X0_together_45_47_L5 σ (nI S) f x (nI i) = some (Int64.ofInt (sgm (cT c) S (cN c))) := by
    intro f
    induction f with
    | zero => intro i x h1 h2; omega
    | succ f ih =>
      intro i x h1 h2 hx
      have le : nI (cN c) ≤ nI i ↔ cN c ≤ i := nLe (by omega) (by omega)
      simp only [e_X0_together_45_47_L5, h.1]
      by_cases q : cN c ≤ i
      · rw [if_pos (le.mpr q), to64 hx, show cN c = i by omega]
      · have b := sgm_b (g := cT c) (lo := 0) (hi := 2100000) (by omega) (by omega) S i (fun j hj => ⟨(ok.2.1 j (by omega)).2.2.1, (ok.2.1 j (by omega)).2.2.2⟩)
        have v := (h.2.1 i (by omega)).2
        have w := ok.2.1 i (by omega)
        rw [if_neg (fun y => q (le.mp y)), nI_1]
        by_cases t : S.testBit i = true
        · rw [if_neg (fun y => by rw [(and_bit (by omega) (by omega)).mp y] at t; cases t), if_pos (mib_nI (by omega) (by decide)), nIc (by omega)]
          refine ih (i + 1) _ (by omega) (by omega) ?_
          rw [sgm_s, if_pos t, add64, hx, v] <;> (try rw [hx, v]) <;> omega
        · have t' : S.testBit i = false := by simpa using t
          rw [if_pos ((and_bit (by omega) (by omega)).mpr t')]
          refine ih (i + 1) x (by omega) (by omega) ?_
          rw [sgm_s, if_neg t, hx, Int.add_zero]
  exact key mN 0 0 (Nat.zero_le _) (mN_big (by omega)) rfl
theorem sum45 (ok : okC c) {σ : ES} (h : CM45 σ c) (S : Nat) : eL σ 45 5 + Int64.ofInt (sgm (cG c) S (cN c)) = cX c S ∧ eL σ 45 6 + Int64.ofInt (sgm (cT c) S (cN c)) = cY c S := by
  have n14 := ok.1
  have b1 := sgm_b (g := cG c) (lo := -1100000000) (hi := 1100000000) (by omega) (by omega) S (cN c) (fun i hi => ⟨(ok.2.1 i hi).1, (ok.2.1 i hi).2.1⟩)
  have b2 := sgm_b (g := cT c) (lo := 0) (hi := 2100000) (by omega) (by omega) S (cN c) (fun i hi => ⟨(ok.2.1 i hi).2.2.1, (ok.2.1 i hi).2.2.2⟩)
  have o := ok.2.2.1
  have e1 : (Int64.ofInt (sgm (cG c) S (cN c))).toInt = sgm (cG c) S (cN c) := of64 (by omega) (by omega)
  have e2 : (Int64.ofInt (sgm (cT c) S (cN c))).toInt = sgm (cT c) S (cN c) := of64 (by omega) (by omega)
  constructor
  · rw [eq64, cX_t ok, add64, h.2.2.1, e1]
    · rfl
    · rw [h.2.2.1, e1]
      omega
    · rw [h.2.2.1, e1]
      omega
  · rw [eq64, cY_t ok, add64, h.2.2.2, e2]
    · rfl
    · rw [h.2.2.2, e2]
      omega
    · rw [h.2.2.2, e2]
      omega
theorem weigh45 (ok : okC c) {a b : Int64} (a1 : -16400000000 ≤ a.toInt) (a2 : a.toInt ≤ 16400000000) (b1 : 0 ≤ b.toInt) (b2 : b.toInt ≤ 30400000) {σ : ES} (h : CM45 σ c) : ∃ σ', e_X0_weigh_45 a b σ = some σ' ∧ (∀ p q, eI σ' p q = eI σ p q) ∧ (∀ p q, p ≠ 48 → eL σ' p q = eL σ p q) ∧ (∀ p, eT σ' p = eT σ p) ∧ ∀ i, i < cN c → (eL σ' 48 i).toInt = Wt c a.toInt b.toInt i := by
  have n14 := ok.1
  have key : ∀ f k σ, k ≤ cN c → cN c - k < f → CM45 σ c → (∀ i, i < k → (eL σ 48 i).toInt = Wt c a.toInt b.toInt i) → ∃ σ', e_X0_weigh_45_L3 a b f (nI k) σ = some σ' ∧ (∀ p q, eI σ' p q = eI σ p q) ∧ (∀ p q, p ≠ 48 → eL σ' p q = eL σ p q) ∧ (∀ p, eT σ' p = eT σ p) ∧ ∀ i, i < cN c → (eL σ' 48 i).toInt = Wt c a.toInt b.toInt i := by
    intro f
    induction f with
    | zero => intro k σ h1 h2; omega
    | succ f ih =>
      intro k σ h1 h2 h hw
      have le : nI (cN c) ≤ nI k ↔ cN c ≤ k := nLe (by omega) (by omega)
      simp only [e_X0_weigh_45_L3, h.1]
      by_cases q : cN c ≤ k
      · rw [if_pos (le.mpr q)]
        exact ⟨σ, rfl, fun _ _ => rfl, fun _ _ _ => rfl, fun _ => rfl, fun i hi => hw i (by omega)⟩
      · rw [if_neg (fun y => q (le.mp y)), if_pos (mib_nI (by omega) (by decide)), nIc (by omega), nI_1]
        obtain ⟨v1, v2⟩ := h.2.1 k (by omega)
        have w := ok.2.1 k (by omega)
        have p1 := ab_le (a := 1100000000) (b := 30400000) (x := cG c k) (y := b.toInt) w.1 w.2.1 b1 b2
        have p2 := ab_le (a := 16400000000) (b := 2100000) (x := a.toInt) (y := cT c k) a1 a2 w.2.2.1 w.2.2.2
        rw [Int.mul_comm (cG c k)] at p1
        have e1 : (b * eL σ 46 k).toInt = b.toInt * cG c k := by
          rw [mul64, v1] <;> rw [v1] <;> omega
        have e2 : (a * eL σ 47 k).toInt = a.toInt * cT c k := by
          rw [mul64, v2] <;> rw [v2] <;> omega
        have e3 : (b * eL σ 46 k - a * eL σ 47 k).toInt = Wt c a.toInt b.toInt k := by
          unfold Wt
          rw [sub64, e1, e2] <;> rw [e1, e2] <;> omega
        have hk : kf45 σ (uL σ 48 k (b * eL σ 46 k - a * eL σ 47 k)) := ⟨fun _ _ _ _ _ => rfl, fun p q _ r _ => by rw [eL_uL, if_neg (by omega)], fun _ => rfl⟩
        obtain ⟨σ', s1, s2, s3, s4, s5⟩ := ih (k + 1) (uL σ 48 k (b * eL σ 46 k - a * eL σ 47 k)) (by omega) (by omega) (CM45_k h hk) (fun i hi => by
          rw [eL_uL]
          by_cases e : i = k
          · rw [if_pos (show 48 = 48 ∧ i = k from ⟨rfl, e⟩), e]
            exact e3
          · rw [if_neg (show ¬ (48 = 48 ∧ i = k) from fun x => e x.2)]
            exact hw i (by omega))
        refine ⟨σ', s1, s2, fun p q r => ?_, s4, s5⟩
        rw [s3 p q r, eL_uL, if_neg (by omega)]
  exact key mN 0 σ (Nat.zero_le _) (mN_big (by omega)) h (fun i hi => by omega)
theorem runs45 (ok : okC c) {PI : ES → Prop} (hPI : ∀ σ σ', kf45 σ σ' → PI σ → PI σ') (hP : ∀ σ (W : Nat → Int), PI σ → eI σ 45 4 = nI (cN c) → (∀ i, i < cN c → (eL σ 48 i).toInt = W i) → (∀ i, i < cN c → -100000000000000000 ≤ W i ∧ W i ≤ 100000000000000000) → ∃ N σ', e_X8_pick σ = some (nI N, σ') ∧ pf σ σ' ∧ ((N = 0 ∧ noC c) ∨ (isL c (fun S => sgm W S (cN c)) N ∧ N ≠ 0))) : ∀ f g S k r σ, f ≤ g → PI σ → CM45 σ c → S < 2 ^ cN c → ch c S = true → clm c f S k = some r → r.2.1 ≤ 16384 → ∃ σ', e_X0_runs_45_L19 g (nI S) (nI k) σ = some (1, σ') ∧ kf45 σ σ' ∧ eI σ' 45 0 = nI r.2.2 ∧ eI σ' 45 1 = nI r.2.1 ∧ eL σ' 45 2 = cX c r.1 ∧ eL σ' 45 3 = cY c r.1 := by
  have p := pw14 ok
  have n14 := ok.1
  intro f
  induction f with
  | zero =>
    intro g S k r σ _ _ _ _ _ hc
    cases hc
  | succ f ih =>
    intro g S k r σ hg hpi hcm s1 s2 hc r2
    obtain ⟨g, rfl⟩ : ∃ g', g = g' + 1 := ⟨g - 1, by omega⟩
    have km := clm_mono _ _ _ _ hc
    have hc : (if gtc c (nx c S) S = true then clm c f (nx c S) (k + 1) else some (S, k, nx c S)) = some r := hc
    have lt : (16384 : Int32) < nI k ↔ 16384 < k := nLt (a := 16384) (by omega) (by omega)
    simp only [e_X0_runs_45_L19]
    have k1 := kf45_1 σ (nI k)
    have c1 := CM45_k hcm k1
    have u1 := sum45 ok c1 S
    have k2 := kf45_2 (uI σ 45 1 (nI k)) (cX c S)
    have c2 := CM45_k c1 k2
    have u2 := sum45 ok c2 S
    have k3 := kf45_3 (uL (uI σ 45 1 (nI k)) 45 2 (cX c S)) (cY c S)
    have c3 := CM45_k c2 k3
    rw [if_neg (fun y => by have := lt.mp y; omega), tog45a ok c1 (by omega), ob, u1.1, tog45b ok c2 (by omega), ob, u2.2, show eL (uL (uL (uI σ 45 1 (nI k)) 45 2 (cX c S)) 45 3 (cY c S)) 45 2 = cX c S from rfl, show eL (uL (uL (uI σ 45 1 (nI k)) 45 2 (cX c S)) 45 3 (cY c S)) 45 3 = cY c S from rfl]
    have aB := cA_b ok S
    have bB := cB_b ok S
    obtain ⟨σ4, w1, w2, w3, w4, w5⟩ := weigh45 ok (a := cX c S) (b := cY c S) (by rw [cX_t ok]; omega) (by rw [cX_t ok]; omega) (by rw [cY_t ok]; omega) (by rw [cY_t ok]; omega) c3
    rw [w1, ob]
    have k4 : kf45 (uL (uL (uI σ 45 1 (nI k)) 45 2 (cX c S)) 45 3 (cY c S)) σ4 := ⟨fun a b _ _ _ => w2 a b, fun a b _ q _ => w3 a b q, w4⟩
    have K4 : kf45 σ σ4 := ((k1.trans k2).trans k3).trans k4
    have c4 := CM45_k hcm K4
    rw [cX_t ok, cY_t ok] at w5
    obtain ⟨N, σ5, q1, q2, q3⟩ := hP σ4 (Wt c (cA c S) (cB c S)) (hPI _ _ K4 hpi) c4.1 w5 (fun i hi => by
      have w := ok.2.1 i hi
      have p1 := ab_le (a := 1100000000) (b := 30400000) (x := cG c i) (y := cB c S) w.1 w.2.1 bB.1 bB.2
      have p2 := ab_le (a := 16400000000) (b := 2100000) (x := cA c S) (y := cT c i) aB.1 aB.2 w.2.2.1 w.2.2.2
      rw [Int.mul_comm (cG c i)] at p1
      unfold Wt
      omega)
    have isN : nx c S = N := by
      rcases q3 with ⟨_, no⟩ | ⟨q3, _⟩
      · rw [no S s1] at s2
        cases s2
      · exact nx_is (isL_W.mpr q3)
    have LN := nx_L s1 s2
    rw [isN] at LN hc
    have ln : N < 16384 := by have := LN.1; omega
    rw [q1, ob]
    dsimp only
    have K5 : kf45 σ σ5 := K4.trans (kf45_pf q2)
    have k6 := kf45_0 σ5 (nI N)
    have K6 := K5.trans k6
    have c6 := CM45_k hcm K6
    rw [show eI (uI σ5 45 0 (nI N)) 45 0 = nI N from rfl, tog45a ok c6 ln, ob, tog45b ok c6 ln, ob, (sum45 ok c6 N).1, (sum45 ok c6 N).2]
    have x2 : eL (uI σ5 45 0 (nI N)) 45 2 = cX c S := by
      show eL σ5 45 2 = _
      rw [q2.2.1 45 2 (by omega), w3 45 2 (by omega)]
      rfl
    have x3 : eL (uI σ5 45 0 (nI N)) 45 3 = cY c S := by
      show eL σ5 45 3 = _
      rw [q2.2.1 45 3 (by omega), w3 45 3 (by omega)]
      rfl
    have x1 : eI (uI σ5 45 0 (nI N)) 45 1 = nI k := by
      show eI σ5 45 1 = _
      rw [q2.1 45 1 (by omega) (by omega), w2 45 1]
      rfl
    rw [x2, x3, nI_1]
    have cmp : cX c S * cY c N < cX c N * cY c S ↔ gtc c N S = true := by
      rw [lt64, cXY ok, cXY ok]
      unfold gtc
      rw [decide_eq_true_iff]
    by_cases gt : gtc c N S = true
    · rw [if_pos gt] at hc
      rw [if_pos (cmp.mpr gt)]
      obtain ⟨σ', t1, t2, t3⟩ := ih g N (k + 1) r (uI σ5 45 0 (nI N)) (by omega) (hPI _ _ K6 hpi) c6 LN.1 LN.2.1 hc r2
      exact ⟨σ', t1, K6.trans t2, t3⟩
    · rw [if_neg gt] at hc
      have e : (S, k, N) = r := Option.some.inj hc
      subst e
      rw [if_neg (fun y => gt (cmp.mp y))]
      exact ⟨_, rfl, K6, rfl, x1, x2, x3⟩
theorem run45 (ok : okC c) {PI : ES → Prop} (hPI : ∀ σ σ', kf45 σ σ' → PI σ → PI σ') (hP : ∀ σ (W : Nat → Int), PI σ → eI σ 45 4 = nI (cN c) → (∀ i, i < cN c → (eL σ 48 i).toInt = W i) → (∀ i, i < cN c → -100000000000000000 ≤ W i ∧ W i ≤ 100000000000000000) → ∃ N σ', e_X8_pick σ = some (nI N, σ') ∧ pf σ σ' ∧ ((N = 0 ∧ noC c) ∨ (isL c (fun S => sgm W S (cN c)) N ∧ N ≠ 0))) {σ : ES} (hpi : PI σ) (hcm : CM45 σ c) : ∃ σ', kf45 σ σ' ∧ ((noC c ∧ e_X0_runs_45 σ = some (0, σ')) ∨ ∃ S r, ends c S r ∧ e_X0_runs_45 σ = some (1, σ') ∧ eI σ' 45 0 = nI r.2.2 ∧ eI σ' 45 1 = nI r.2.1 ∧ eL σ' 45 2 = cX c r.1 ∧ eL σ' 45 3 = cY c r.1) := by
  have p := pw14 ok
  obtain ⟨σ4, w1, w2, w3, w4, w5⟩ := weigh45 ok (a := 0) (b := 0) (by decide) (by decide) (by decide) (by decide) hcm
  have k4 : kf45 σ σ4 := ⟨fun a b _ _ _ => w2 a b, fun a b _ q _ => w3 a b q, w4⟩
  have c4 := CM45_k hcm k4
  obtain ⟨N, σ5, q1, q2, q3⟩ := hP σ4 (Wt c 0 0) (hPI _ _ k4 hpi) c4.1 w5 (fun i hi => by
    unfold Wt
    omega)
  have K5 : kf45 σ σ5 := k4.trans (kf45_pf q2)
  unfold e_X0_runs_45
  rw [w1, ob]
  rcases q3 with ⟨n0, no⟩ | ⟨q3, n0⟩
  · subst n0
    rw [q1, ob]
    dsimp only
    rw [if_pos nI_lit0]
    exact ⟨σ5, K5, Or.inl ⟨no, rfl⟩⟩
  · have L0 := isL_0.mp q3
    obtain ⟨r, hr⟩ := ends_ex ok L0
    obtain ⟨e1, e2, e3, e4, e5⟩ := id hr
    have mt := mu_top L0.1 L0.2.1
    obtain ⟨σ', t1, t2, t3⟩ := runs45 ok hPI hP (mu c N + 1) mN N 1 r σ5 (Nat.le_of_lt (mN_big (by omega))) (hPI _ _ K5 hpi) (CM45_k hcm K5) L0.1 L0.2.1 e2 e3
    have hN := L0.1
    rw [q1, ob]
    dsimp only
    rw [if_neg (show ¬ nI N = 0 from fun y => n0 ((nI_i (by omega) (by omega)).mp y))]
    exact ⟨σ', K5.trans t2, Or.inr ⟨N, r, hr, t1, t3⟩⟩
end
theorem told45 {c : CI} (ok : okC c) {σ : ES} {r : Nat × Nat × Nat} (e4 : r.1 < 2 ^ cN c) (e5 : ch c r.1 = true) (h0 : eI σ 45 0 = nI r.2.2) (h1 : eI σ 45 1 = nI r.2.1) (h2 : eL σ 45 2 = cX c r.1) (h3 : eL σ 45 3 = cY c r.1) {a : Int32} (ha : ir 0 3 a = true) : ∃ v, e_X9_told_45 1 a σ = some (v, σ) ∧ resv c r a = some v := by
  obtain ⟨a1, a2⟩ := ir_iff.mp ha
  unfold e_X9_told_45 resv
  rw [if_neg (by decide), h0, h1, h2, h3]
  by_cases c2 : a = 2
  · subst c2
    rw [if_pos rfl, if_pos (by decide), if_pos rfl]
    exact ⟨_, rfl, rfl⟩
  · by_cases c3 : a = 3
    · subst c3
      rw [if_neg (by decide), if_pos rfl, if_pos (by decide), if_neg (by decide)]
      exact ⟨_, rfl, rfl⟩
    · have lt : ¬ (2 : Int32) ≤ a := by
        rw [le32, show (2 : Int32).toInt = 2 from rfl]
        intro q
        have h23 : a.toInt = 2 ∨ a.toInt = 3 := by omega
        rcases h23 with e | e
        · exact c2 (eq32.mpr e)
        · exact c3 (eq32.mpr e)
      rw [if_neg c2, if_neg c3, if_neg lt]
      have aB := cA_b ok r.1
      have bB := cB_b ok r.1
      have b1 := ok.2.2.2 r.1 e4 e5
      obtain ⟨x, y, l1, l2, l3, _⟩ := low_eq (A := cX c r.1) (B := cY c r.1) (by rw [cX_t ok]; omega) (by rw [cX_t ok]; omega) (by rw [cY_t ok]; omega) (by rw [cY_t ok]; omega)
      by_cases a0 : a = 0
      · subst a0
        exact ⟨x, by rw [l1, ob], l2⟩
      · exact ⟨y, by rw [(l3 a a0).1, ob], (l3 a a0).2⟩
def kf51 (σ σ' : ES) : Prop := (∀ a b, a ≠ 44 → a ≠ 50 → ¬ (a = 51 ∧ (b = 0 ∨ b = 1)) → eI σ' a b = eI σ a b) ∧ (∀ a b, ¬ (a = 51 ∧ (b = 2 ∨ b = 3)) → a ≠ 54 → a ≠ 49 → eL σ' a b = eL σ a b) ∧ ∀ a, eT σ' a = eT σ a
theorem kf51.refl (σ : ES) : kf51 σ σ := ⟨fun _ _ _ _ _ => rfl, fun _ _ _ _ _ => rfl, fun _ => rfl⟩
theorem kf51.trans {σ τ υ : ES} (h : kf51 σ τ) (g : kf51 τ υ) : kf51 σ υ := ⟨fun a b q r s => (g.1 a b q r s).trans (h.1 a b q r s), fun a b q r s => (g.2.1 a b q r s).trans (h.2.1 a b q r s), fun a => (g.2.2 a).trans (h.2.2 a)⟩
theorem kf51_pf {σ σ' : ES} (h : pf σ σ') : kf51 σ σ' := ⟨fun a b q r _ => h.1 a b q r, fun a b _ _ r => h.2.1 a b r, h.2.2⟩
theorem kf51_0 (σ : ES) (v : Int32) : kf51 σ (uI σ 51 0 v) := ⟨fun a b _ _ q => by rw [eI_uI, if_neg (by omega)], fun _ _ _ _ _ => rfl, fun _ => rfl⟩
theorem kf51_1 (σ : ES) (v : Int32) : kf51 σ (uI σ 51 1 v) := ⟨fun a b _ _ q => by rw [eI_uI, if_neg (by omega)], fun _ _ _ _ _ => rfl, fun _ => rfl⟩
theorem kf51_2 (σ : ES) (v : Int64) : kf51 σ (uL σ 51 2 v) := ⟨fun _ _ _ _ _ => rfl, fun a b q _ _ => by rw [eL_uL, if_neg (by omega)], fun _ => rfl⟩
theorem kf51_3 (σ : ES) (v : Int64) : kf51 σ (uL σ 51 3 v) := ⟨fun _ _ _ _ _ => rfl, fun a b q _ _ => by rw [eL_uL, if_neg (by omega)], fun _ => rfl⟩
def CM51 (σ : ES) (c : CI) : Prop := eI σ 51 4 = nI (cN c) ∧ (∀ i, i < cN c → (eL σ 52 i).toInt = cG c i ∧ (eL σ 53 i).toInt = cT c i) ∧ (eL σ 51 5).toInt = c.2.1.1 ∧ (eL σ 51 6).toInt = c.2.1.2
theorem CM51_k {σ σ' : ES} {c : CI} (h : CM51 σ c) (g : kf51 σ σ') : CM51 σ' c := by
  obtain ⟨h1, h2, h3, h4⟩ := h
  refine ⟨(g.1 51 4 (by omega) (by omega) (by omega)).trans h1, fun i hi => ?_, ?_, ?_⟩
  · rw [g.2.1 52 i (by omega) (by omega) (by omega), g.2.1 53 i (by omega) (by omega) (by omega)]
    exact h2 i hi
  · rw [g.2.1 51 5 (by omega) (by omega) (by omega)]
    exact h3
  · rw [g.2.1 51 6 (by omega) (by omega) (by omega)]
    exact h4
section
variable {c : CI}
theorem tog51a (ok : okC c) {σ : ES} (h : CM51 σ c) {S : Nat} (hS : S < 16384) : e_X0_together_51_52 σ (nI S) = some (Int64.ofInt (sgm (cG c) S (cN c))) := by
  have n14 := ok.1
  have key : ∀ f i x, i ≤ cN c → cN c - i < f → x.toInt = sgm (cG c) S i → e_X0_together_51_52_L5 σ (nI S) f x (nI i) = some (Int64.ofInt (sgm (cG c) S (cN c))) := by
    intro f
    induction f with
    | zero => intro i x h1 h2; omega
    | succ f ih =>
      intro i x h1 h2 hx
      have le : nI (cN c) ≤ nI i ↔ cN c ≤ i := nLe (by omega) (by omega)
      simp only [e_X0_together_51_52_L5, h.1]
      by_cases q : cN c ≤ i
      · rw [if_pos (le.mpr q), to64 hx, show cN c = i by omega]
      · have b := sgm_b (g := cG c) (lo := -1100000000) (hi := 1100000000) (by omega) (by omega) S i (fun j hj => ⟨(ok.2.1 j (by omega)).1, (ok.2.1 j (by omega)).2.1⟩)
        have v := (h.2.1 i (by omega)).1
        have w := ok.2.1 i (by omega)
        rw [if_neg (fun y => q (le.mp y)), nI_1]
        by_cases t : S.testBit i = true
        · rw [if_neg (fun y => by rw [(and_bit (by omega) (by omega)).mp y] at t; cases t), if_pos (mib_nI (by omega) (by decide)), nIc (by omega)]
          refine ih (i + 1) _ (by omega) (by omega) ?_
          rw [sgm_s, if_pos t, add64, hx, v] <;> (try rw [hx, v]) <;> omega
        · have t' : S.testBit i = false := by simpa using t
          rw [if_pos ((and_bit (by omega) (by omega)).mpr t')]
          refine ih (i + 1) x (by omega) (by omega) ?_
          rw [sgm_s, if_neg t, hx, Int.add_zero]
  exact key mN 0 0 (Nat.zero_le _) (mN_big (by omega)) rfl
theorem tog51b (ok : okC c) {σ : ES} (h : CM51 σ c) {S : Nat} (hS : S < 16384) : e_X0_together_51_53 σ (nI S) = some (Int64.ofInt (sgm (cT c) S (cN c))) := by
  have n14 := ok.1
  have key : ∀ f i x, i ≤ cN c → cN c - i < f → x.toInt = sgm (cT c) S i → e_X0_together_51_53_L5 σ (nI S) f x (nI i) = some (Int64.ofInt (sgm (cT c) S (cN c))) := by
    intro f
    induction f with
    | zero => intro i x h1 h2; omega
    | succ f ih =>
      intro i x h1 h2 hx
      have le : nI (cN c) ≤ nI i ↔ cN c ≤ i := nLe (by omega) (by omega)
      simp only [e_X0_together_51_53_L5, h.1]
      by_cases q : cN c ≤ i
      · rw [if_pos (le.mpr q), to64 hx, show cN c = i by omega]
      · have b := sgm_b (g := cT c) (lo := 0) (hi := 2100000) (by omega) (by omega) S i (fun j hj => ⟨(ok.2.1 j (by omega)).2.2.1, (ok.2.1 j (by omega)).2.2.2⟩)
        have v := (h.2.1 i (by omega)).2
        have w := ok.2.1 i (by omega)
        rw [if_neg (fun y => q (le.mp y)), nI_1]
        by_cases t : S.testBit i = true
        · rw [if_neg (fun y => by rw [(and_bit (by omega) (by omega)).mp y] at t; cases t), if_pos (mib_nI (by omega) (by decide)), nIc (by omega)]
          refine ih (i + 1) _ (by omega) (by omega) ?_
          rw [sgm_s, if_pos t, add64, hx, v] <;> (try rw [hx, v]) <;> omega
        · have t' : S.testBit i = false := by simpa using t
          rw [if_pos ((and_bit (by omega) (by omega)).mpr t')]
          refine ih (i + 1) x (by omega) (by omega) ?_
          rw [sgm_s, if_neg t, hx, Int.add_zero]
  exact key mN 0 0 (Nat.zero_le _) (mN_big (by omega)) rfl
theorem sum51 (ok : okC c) {σ : ES} (h : CM51 σ c) (S : Nat) : eL σ 51 5 + Int64.ofInt (sgm (cG c) S (cN c)) = cX c S ∧ eL σ 51 6 + Int64.ofInt (sgm (cT c) S (cN c)) = cY c S := by
  have n14 := ok.1
  have b1 := sgm_b (g := cG c) (lo := -1100000000) (hi := 1100000000) (by omega) (by omega) S (cN c) (fun i hi => ⟨(ok.2.1 i hi).1, (ok.2.1 i hi).2.1⟩)
  have b2 := sgm_b (g := cT c) (lo := 0) (hi := 2100000) (by omega) (by omega) S (cN c) (fun i hi => ⟨(ok.2.1 i hi).2.2.1, (ok.2.1 i hi).2.2.2⟩)
  have o := ok.2.2.1
  have e1 : (Int64.ofInt (sgm (cG c) S (cN c))).toInt = sgm (cG c) S (cN c) := of64 (by omega) (by omega)
  have e2 : (Int64.ofInt (sgm (cT c) S (cN c))).toInt = sgm (cT c) S (cN c) := of64 (by omega) (by omega)
  constructor
  · rw [eq64, cX_t ok, add64, h.2.2.1, e1]
    · rfl
    · rw [h.2.2.1, e1]
      omega
    · rw [h.2.2.1, e1]
      omega
  · rw [eq64, cY_t ok, add64, h.2.2.2, e2]
    · rfl
    · rw [h.2.2.2, e2]
      omega
    · rw [h.2.2.2, e2]
      omega
theorem weigh51 (ok : okC c) {a b : Int64} (a1 : -16400000000 ≤ a.toInt) (a2 : a.toInt ≤ 16400000000) (b1 : 0 ≤ b.toInt) (b2 : b.toInt ≤ 30400000) {σ : ES} (h : CM51 σ c) : ∃ σ', e_X0_weigh_51 a b σ = some σ' ∧ (∀ p q, eI σ' p q = eI σ p q) ∧ (∀ p q, p ≠ 54 → eL σ' p q = eL σ p q) ∧ (∀ p, eT σ' p = eT σ p) ∧ ∀ i, i < cN c → (eL σ' 54 i).toInt = Wt c a.toInt b.toInt i := by
  have n14 := ok.1
  have key : ∀ f k σ, k ≤ cN c → cN c - k < f → CM51 σ c → (∀ i, i < k → (eL σ 54 i).toInt = Wt c a.toInt b.toInt i) → ∃ σ', e_X0_weigh_51_L3 a b f (nI k) σ = some σ' ∧ (∀ p q, eI σ' p q = eI σ p q) ∧ (∀ p q, p ≠ 54 → eL σ' p q = eL σ p q) ∧ (∀ p, eT σ' p = eT σ p) ∧ ∀ i, i < cN c → (eL σ' 54 i).toInt = Wt c a.toInt b.toInt i := by
    intro f
    induction f with
    | zero => intro k σ h1 h2; omega
    | succ f ih =>
      intro k σ h1 h2 h hw
      have le : nI (cN c) ≤ nI k ↔ cN c ≤ k := nLe (by omega) (by omega)
      simp only [e_X0_weigh_51_L3, h.1]
      by_cases q : cN c ≤ k
      · rw [if_pos (le.mpr q)]
        exact ⟨σ, rfl, fun _ _ => rfl, fun _ _ _ => rfl, fun _ => rfl, fun i hi => hw i (by omega)⟩
      · rw [if_neg (fun y => q (le.mp y)), if_pos (mib_nI (by omega) (by decide)), nIc (by omega), nI_1]
        obtain ⟨v1, v2⟩ := h.2.1 k (by omega)
        have w := ok.2.1 k (by omega)
        have p1 := ab_le (a := 1100000000) (b := 30400000) (x := cG c k) (y := b.toInt) w.1 w.2.1 b1 b2
        have p2 := ab_le (a := 16400000000) (b := 2100000) (x := a.toInt) (y := cT c k) a1 a2 w.2.2.1 w.2.2.2
        rw [Int.mul_comm (cG c k)] at p1
        have e1 : (b * eL σ 52 k).toInt = b.toInt * cG c k := by
          rw [mul64, v1] <;> rw [v1] <;> omega
        have e2 : (a * eL σ 53 k).toInt = a.toInt * cT c k := by
          rw [mul64, v2] <;> rw [v2] <;> omega
        have e3 : (b * eL σ 52 k - a * eL σ 53 k).toInt = Wt c a.toInt b.toInt k := by
          unfold Wt
          rw [sub64, e1, e2] <;> rw [e1, e2] <;> omega
        have hk : kf51 σ (uL σ 54 k (b * eL σ 52 k - a * eL σ 53 k)) := ⟨fun _ _ _ _ _ => rfl, fun p q _ r _ => by rw [eL_uL, if_neg (by omega)], fun _ => rfl⟩
        obtain ⟨σ', s1, s2, s3, s4, s5⟩ := ih (k + 1) (uL σ 54 k (b * eL σ 52 k - a * eL σ 53 k)) (by omega) (by omega) (CM51_k h hk) (fun i hi => by
          rw [eL_uL]
          by_cases e : i = k
          · rw [if_pos (show 54 = 54 ∧ i = k from ⟨rfl, e⟩), e]
            exact e3
          · rw [if_neg (show ¬ (54 = 54 ∧ i = k) from fun x => e x.2)]
            exact hw i (by omega))
        refine ⟨σ', s1, s2, fun p q r => ?_, s4, s5⟩
        rw [s3 p q r, eL_uL, if_neg (by omega)]
  exact key mN 0 σ (Nat.zero_le _) (mN_big (by omega)) h (fun i hi => by omega)
theorem runs51 (ok : okC c) {PI : ES → Prop} (hPI : ∀ σ σ', kf51 σ σ' → PI σ → PI σ') (hP : ∀ σ (W : Nat → Int), PI σ → eI σ 51 4 = nI (cN c) → (∀ i, i < cN c → (eL σ 54 i).toInt = W i) → (∀ i, i < cN c → -100000000000000000 ≤ W i ∧ W i ≤ 100000000000000000) → ∃ N σ', (e_X3_pick σ = some (nI N) ∧ σ' = σ) ∧ pf σ σ' ∧ ((N = 0 ∧ noC c) ∨ (isL c (fun S => sgm W S (cN c)) N ∧ N ≠ 0))) : ∀ f g S k r σ, f ≤ g → PI σ → CM51 σ c → S < 2 ^ cN c → ch c S = true → clm c f S k = some r → r.2.1 ≤ 16384 → ∃ σ', e_X0_runs_51_L19 g (nI S) (nI k) σ = some (1, σ') ∧ kf51 σ σ' ∧ eI σ' 51 0 = nI r.2.2 ∧ eI σ' 51 1 = nI r.2.1 ∧ eL σ' 51 2 = cX c r.1 ∧ eL σ' 51 3 = cY c r.1 := by
  have p := pw14 ok
  have n14 := ok.1
  intro f
  induction f with
  | zero =>
    intro g S k r σ _ _ _ _ _ hc
    cases hc
  | succ f ih =>
    intro g S k r σ hg hpi hcm s1 s2 hc r2
    obtain ⟨g, rfl⟩ : ∃ g', g = g' + 1 := ⟨g - 1, by omega⟩
    have km := clm_mono _ _ _ _ hc
    have hc : (if gtc c (nx c S) S = true then clm c f (nx c S) (k + 1) else some (S, k, nx c S)) = some r := hc
    have lt : (16384 : Int32) < nI k ↔ 16384 < k := nLt (a := 16384) (by omega) (by omega)
    simp only [e_X0_runs_51_L19]
    have k1 := kf51_1 σ (nI k)
    have c1 := CM51_k hcm k1
    have u1 := sum51 ok c1 S
    have k2 := kf51_2 (uI σ 51 1 (nI k)) (cX c S)
    have c2 := CM51_k c1 k2
    have u2 := sum51 ok c2 S
    have k3 := kf51_3 (uL (uI σ 51 1 (nI k)) 51 2 (cX c S)) (cY c S)
    have c3 := CM51_k c2 k3
    rw [if_neg (fun y => by have := lt.mp y; omega), tog51a ok c1 (by omega), ob, u1.1, tog51b ok c2 (by omega), ob, u2.2, show eL (uL (uL (uI σ 51 1 (nI k)) 51 2 (cX c S)) 51 3 (cY c S)) 51 2 = cX c S from rfl, show eL (uL (uL (uI σ 51 1 (nI k)) 51 2 (cX c S)) 51 3 (cY c S)) 51 3 = cY c S from rfl]
    have aB := cA_b ok S
    have bB := cB_b ok S
    obtain ⟨σ4, w1, w2, w3, w4, w5⟩ := weigh51 ok (a := cX c S) (b := cY c S) (by rw [cX_t ok]; omega) (by rw [cX_t ok]; omega) (by rw [cY_t ok]; omega) (by rw [cY_t ok]; omega) c3
    rw [w1, ob]
    have k4 : kf51 (uL (uL (uI σ 51 1 (nI k)) 51 2 (cX c S)) 51 3 (cY c S)) σ4 := ⟨fun a b _ _ _ => w2 a b, fun a b _ q _ => w3 a b q, w4⟩
    have K4 : kf51 σ σ4 := ((k1.trans k2).trans k3).trans k4
    have c4 := CM51_k hcm K4
    rw [cX_t ok, cY_t ok] at w5
    obtain ⟨N, σ5, q1, q2, q3⟩ := hP σ4 (Wt c (cA c S) (cB c S)) (hPI _ _ K4 hpi) c4.1 w5 (fun i hi => by
      have w := ok.2.1 i hi
      have p1 := ab_le (a := 1100000000) (b := 30400000) (x := cG c i) (y := cB c S) w.1 w.2.1 bB.1 bB.2
      have p2 := ab_le (a := 16400000000) (b := 2100000) (x := cA c S) (y := cT c i) aB.1 aB.2 w.2.2.1 w.2.2.2
      rw [Int.mul_comm (cG c i)] at p1
      unfold Wt
      omega)
    have isN : nx c S = N := by
      rcases q3 with ⟨_, no⟩ | ⟨q3, _⟩
      · rw [no S s1] at s2
        cases s2
      · exact nx_is (isL_W.mpr q3)
    have LN := nx_L s1 s2
    rw [isN] at LN hc
    have ln : N < 16384 := by have := LN.1; omega
    obtain ⟨q1, q1'⟩ := q1
    rw [q1, ob, ← q1']
    have K5 : kf51 σ σ5 := K4.trans (kf51_pf q2)
    have k6 := kf51_0 σ5 (nI N)
    have K6 := K5.trans k6
    have c6 := CM51_k hcm K6
    rw [show eI (uI σ5 51 0 (nI N)) 51 0 = nI N from rfl, tog51a ok c6 ln, ob, tog51b ok c6 ln, ob, (sum51 ok c6 N).1, (sum51 ok c6 N).2]
    have x2 : eL (uI σ5 51 0 (nI N)) 51 2 = cX c S := by
      show eL σ5 51 2 = _
      rw [q2.2.1 51 2 (by omega), w3 51 2 (by omega)]
      rfl
    have x3 : eL (uI σ5 51 0 (nI N)) 51 3 = cY c S := by
      show eL σ5 51 3 = _
      rw [q2.2.1 51 3 (by omega), w3 51 3 (by omega)]
      rfl
    have x1 : eI (uI σ5 51 0 (nI N)) 51 1 = nI k := by
      show eI σ5 51 1 = _
      rw [q2.1 51 1 (by omega) (by omega), w2 51 1]
      rfl
    rw [x2, x3, nI_1]
    have cmp : cX c S * cY c N < cX c N * cY c S ↔ gtc c N S = true := by
      rw [lt64, cXY ok, cXY ok]
      unfold gtc
      rw [decide_eq_true_iff]
    by_cases gt : gtc c N S = true
    · rw [if_pos gt] at hc
      rw [if_pos (cmp.mpr gt)]
      obtain ⟨σ', t1, t2, t3⟩ := ih g N (k + 1) r (uI σ5 51 0 (nI N)) (by omega) (hPI _ _ K6 hpi) c6 LN.1 LN.2.1 hc r2
      exact ⟨σ', t1, K6.trans t2, t3⟩
    · rw [if_neg gt] at hc
      have e : (S, k, N) = r := Option.some.inj hc
      subst e
      rw [if_neg (fun y => gt (cmp.mp y))]
      exact ⟨_, rfl, K6, rfl, x1, x2, x3⟩
theorem run51 (ok : okC c) {PI : ES → Prop} (hPI : ∀ σ σ', kf51 σ σ' → PI σ → PI σ') (hP : ∀ σ (W : Nat → Int), PI σ → eI σ 51 4 = nI (cN c) → (∀ i, i < cN c → (eL σ 54 i).toInt = W i) → (∀ i, i < cN c → -100000000000000000 ≤ W i ∧ W i ≤ 100000000000000000) → ∃ N σ', (e_X3_pick σ = some (nI N) ∧ σ' = σ) ∧ pf σ σ' ∧ ((N = 0 ∧ noC c) ∨ (isL c (fun S => sgm W S (cN c)) N ∧ N ≠ 0))) {σ : ES} (hpi : PI σ) (hcm : CM51 σ c) : ∃ σ', kf51 σ σ' ∧ ((noC c ∧ e_X0_runs_51 σ = some (0, σ')) ∨ ∃ S r, ends c S r ∧ e_X0_runs_51 σ = some (1, σ') ∧ eI σ' 51 0 = nI r.2.2 ∧ eI σ' 51 1 = nI r.2.1 ∧ eL σ' 51 2 = cX c r.1 ∧ eL σ' 51 3 = cY c r.1) := by
  have p := pw14 ok
  obtain ⟨σ4, w1, w2, w3, w4, w5⟩ := weigh51 ok (a := 0) (b := 0) (by decide) (by decide) (by decide) (by decide) hcm
  have k4 : kf51 σ σ4 := ⟨fun a b _ _ _ => w2 a b, fun a b _ q _ => w3 a b q, w4⟩
  have c4 := CM51_k hcm k4
  obtain ⟨N, σ5, q1, q2, q3⟩ := hP σ4 (Wt c 0 0) (hPI _ _ k4 hpi) c4.1 w5 (fun i hi => by
    unfold Wt
    omega)
  have K5 : kf51 σ σ5 := k4.trans (kf51_pf q2)
  unfold e_X0_runs_51
  rw [w1, ob]
  rcases q3 with ⟨n0, no⟩ | ⟨q3, n0⟩
  · subst n0
    obtain ⟨q1, q1'⟩ := q1
    rw [q1, ob, if_pos nI_lit0, ← q1']
    exact ⟨σ5, K5, Or.inl ⟨no, rfl⟩⟩
  · have L0 := isL_0.mp q3
    obtain ⟨r, hr⟩ := ends_ex ok L0
    obtain ⟨e1, e2, e3, e4, e5⟩ := id hr
    have mt := mu_top L0.1 L0.2.1
    obtain ⟨σ', t1, t2, t3⟩ := runs51 ok hPI hP (mu c N + 1) mN N 1 r σ5 (Nat.le_of_lt (mN_big (by omega))) (hPI _ _ K5 hpi) (CM51_k hcm K5) L0.1 L0.2.1 e2 e3
    have hN := L0.1
    obtain ⟨q1, q1'⟩ := q1
    rw [q1, ob, ← q1']
    rw [if_neg (show ¬ nI N = 0 from fun y => n0 ((nI_i (by omega) (by omega)).mp y))]
    exact ⟨σ', K5.trans t2, Or.inr ⟨N, r, hr, t1, t3⟩⟩
end
theorem told51 {c : CI} (ok : okC c) {σ : ES} {r : Nat × Nat × Nat} (e4 : r.1 < 2 ^ cN c) (e5 : ch c r.1 = true) (h0 : eI σ 51 0 = nI r.2.2) (h1 : eI σ 51 1 = nI r.2.1) (h2 : eL σ 51 2 = cX c r.1) (h3 : eL σ 51 3 = cY c r.1) {a : Int32} (ha : ir 0 3 a = true) : ∃ v, e_X9_told_51 1 a σ = some (v, σ) ∧ resv c r a = some v := by
  obtain ⟨a1, a2⟩ := ir_iff.mp ha
  unfold e_X9_told_51 resv
  rw [if_neg (by decide), h0, h1, h2, h3]
  by_cases c2 : a = 2
  · subst c2
    rw [if_pos rfl, if_pos (by decide), if_pos rfl]
    exact ⟨_, rfl, rfl⟩
  · by_cases c3 : a = 3
    · subst c3
      rw [if_neg (by decide), if_pos rfl, if_pos (by decide), if_neg (by decide)]
      exact ⟨_, rfl, rfl⟩
    · have lt : ¬ (2 : Int32) ≤ a := by
        rw [le32, show (2 : Int32).toInt = 2 from rfl]
        intro q
        have h23 : a.toInt = 2 ∨ a.toInt = 3 := by omega
        rcases h23 with e | e
        · exact c2 (eq32.mpr e)
        · exact c3 (eq32.mpr e)
      rw [if_neg c2, if_neg c3, if_neg lt]
      have aB := cA_b ok r.1
      have bB := cB_b ok r.1
      have b1 := ok.2.2.2 r.1 e4 e5
      obtain ⟨x, y, l1, l2, l3, _⟩ := low_eq (A := cX c r.1) (B := cY c r.1) (by rw [cX_t ok]; omega) (by rw [cX_t ok]; omega) (by rw [cY_t ok]; omega) (by rw [cY_t ok]; omega)
      by_cases a0 : a = 0
      · subst a0
        exact ⟨x, by rw [l1, ob], l2⟩
      · exact ⟨y, by rw [(l3 a a0).1, ob], (l3 a a0).2⟩
