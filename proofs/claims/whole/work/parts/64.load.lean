/-! ===== load: both sides ===== -/
def hfr (σ σ' : ES) : Prop := (∀ a b, a < 39 ∨ 57 ≤ a → eI σ' a b = eI σ a b) ∧ ∀ a b, (a < 39 ∨ 57 ≤ a ∨ qB a b = true) → eL σ' a b = eL σ a b
theorem hfr.refl (σ : ES) : hfr σ σ := ⟨fun _ _ _ => rfl, fun _ _ _ => rfl⟩
theorem hfr.trans {σ τ υ : ES} (h : hfr σ τ) (g : hfr τ υ) : hfr σ υ := ⟨fun a b q => (g.1 a b q).trans (h.1 a b q), fun a b q => (g.2 a b q).trans (h.2 a b q)⟩
theorem kp_hfr {σ σ' : ES} (h : hfr σ σ') : kp σ σ' := by
  refine ⟨fun k j q => h.1 k j ?_, fun k j q => h.2 k j ?_⟩
  · simp only [qK, qI, qT, qS, qF, Bool.or_eq_true, Bool.and_eq_true, beq_iff_eq, decide_eq_true_eq] at q
    omega
  · rw [Bool.or_eq_true] at q
    rcases q with q | q
    · simp only [qL, Bool.or_eq_true, Bool.and_eq_true, beq_iff_eq, decide_eq_true_eq] at q
      omega
    · exact Or.inr (Or.inr q)
theorem hfr_51 {σ σ' : ES} (h : kf51 σ σ') : hfr σ σ' := ⟨fun a b q => h.1 a b (by omega) (by omega) (by omega), fun a b q => by
  have : a < 39 ∨ 57 ≤ a ∨ ((a = 39 ∨ a = 45) ∧ (b = 5 ∨ b = 6)) := by
    rcases q with q | q | q
    · exact Or.inl q
    · exact Or.inr (Or.inl q)
    · exact Or.inr (Or.inr (qB_k q))
  exact h.2.1 a b (by omega) (by omega) (by omega)⟩
theorem mdl_hfr {σ σ' : ES} {d : CD} (h : mdl σ d) (g : hfr σ σ') : mdl σ' d := mdl_c h (fun j hj => g.1 69 j (by omega)) (fun j => g.1 71 j (by omega)) (fun j => g.1 72 j (by omega)) (fun j => g.1 73 j (by omega))
theorem z64 (x : Int64) : x + 0 = x := by
  have := r64 x
  rw [eq64, add64] <;> rw [show (0 : Int64).toInt = 0 from rfl] <;> omega
theorem sgm_ext {g : Nat → Int} {S n : Nat} (h : S < 2 ^ n) : ∀ m, n ≤ m → sgm g S m = sgm g S n := by
  intro m
  induction m with
  | zero =>
    intro hm
    have : n = 0 := by omega
    rw [this]
  | succ m ih =>
    intro hm
    by_cases e : n = m + 1
    · rw [e]
    · have l : S < 2 ^ m := Nat.lt_of_lt_of_le h (Nat.pow_le_pow_right (by decide) (by omega))
      rw [sgm_s, Nat.testBit_lt_two_pow l, if_neg (by decide), ih (by omega), Int.add_zero]
section
variable {d : CD} {τ : ES}
theorem above_L (ok : okD d) (hm : mdl τ d) (h16 : eI τ 69 16 = 2) {k S : Nat} (hS : S < 2 ^ dT d) : ∀ f i x, i ≤ 14 → 14 - i < f → x.toInt = (dt d 0 0).toInt + sgm (cG (cL d k)) S i → e_X10_aboveOf_L23 τ (nI S) f x (nI i) = some (cX (cL d k) S) := by
  have t12 := ok.2.2.2.1
  have okc := cL_ok ok k
  have p : 2 ^ dT d ≤ 16384 := Nat.pow_le_pow_right (n := 2) (by decide) (show dT d ≤ 14 by omega)
  intro f
  induction f with
  | zero => intro i x h1 h2; omega
  | succ f ih =>
    intro i x h1 h2 hx
    have le : (14 : Int32) ≤ nI i ↔ 14 ≤ i := nLe (a := 14) (by omega) (by omega)
    simp only [e_X10_aboveOf_L23]
    by_cases q : 14 ≤ i
    · rw [if_pos (le.mpr q)]
      have e : i = 14 := by omega
      rw [e, sgm_ext hS 14 (by omega)] at hx
      rw [to64 hx]
      rfl
    · rw [if_neg (fun y => q (le.mp y)), nI_1]
      by_cases b : S.testBit i = true
      · have hi : i < dT d := by
          by_cases l : i < dT d
          · exact l
          · rw [Nat.testBit_lt_two_pow (Nat.lt_of_lt_of_le hS (Nat.pow_le_pow_right (by decide) (by omega)))] at b
            cases b
        have v : eI τ 72 (2 * i) = dt d (i + 1) 0 := hm.2.2.2.2.2.2 i hi 0 (by decide)
        rw [if_neg (fun y => by rw [(bit_0 (by omega) (by omega)).mp y] at b; cases b), if_pos h16, two_nI0, if_pos (mib_nI (by omega) (by decide)), nIc (by omega), v]
        have bb := sgm_b (g := cG (cL d k)) (lo := -1100000000) (hi := 1100000000) (by omega) (by omega) S i (fun j hj => ⟨(okc.2.1 j (by show j < dT d; omega)).1, (okc.2.1 j (by show j < dT d; omega)).2.1⟩)
        have w := okc.2.1 i hi
        have o := okc.2.2.1
        have wv : cG (cL d k) i = (dt d (i + 1) 0).toInt := rfl
        have ov : (cL d k).2.1.1 = (dt d 0 0).toInt := rfl
        refine ih (i + 1) _ (by omega) (by omega) ?_
        rw [sgm_s, if_pos b, add64, hx, t64, wv]
        · omega
        · rw [hx, t64]
          omega
        · rw [hx, t64]
          omega
      · have b' : S.testBit i = false := by simpa using b
        rw [if_pos ((bit_0 (by omega) (by omega)).mpr b'), z64]
        refine ih (i + 1) x (by omega) (by omega) ?_
        rw [sgm_s, if_neg b, hx, Int.add_zero]
theorem below_L (ok : okD d) (hm : mdl τ d) (h16 : eI τ 69 16 = 2) {k S : Nat} (hS : S < 2 ^ dT d) : ∀ f i x, i ≤ 14 → 14 - i < f → x.toInt = (dt d 0 1).toInt + sgm (cT (cL d k)) S i → e_X10_belowOf_L23 τ (nI S) f x (nI i) = some (cY (cL d k) S) := by
  have t12 := ok.2.2.2.1
  have okc := cL_ok ok k
  have p : 2 ^ dT d ≤ 16384 := Nat.pow_le_pow_right (n := 2) (by decide) (show dT d ≤ 14 by omega)
  intro f
  induction f with
  | zero => intro i x h1 h2; omega
  | succ f ih =>
    intro i x h1 h2 hx
    have le : (14 : Int32) ≤ nI i ↔ 14 ≤ i := nLe (a := 14) (by omega) (by omega)
    simp only [e_X10_belowOf_L23]
    by_cases q : 14 ≤ i
    · rw [if_pos (le.mpr q)]
      have e : i = 14 := by omega
      rw [e, sgm_ext hS 14 (by omega)] at hx
      rw [to64 hx]
      rfl
    · rw [if_neg (fun y => q (le.mp y)), nI_1]
      by_cases b : S.testBit i = true
      · have hi : i < dT d := by
          by_cases l : i < dT d
          · exact l
          · rw [Nat.testBit_lt_two_pow (Nat.lt_of_lt_of_le hS (Nat.pow_le_pow_right (by decide) (by omega)))] at b
            cases b
        have v : eI τ 72 (2 * i + 1) = dt d (i + 1) 1 := hm.2.2.2.2.2.2 i hi 1 (by decide)
        have e2 : (2 : Int32) * nI i + 1 = nI (2 * i + 1) := two_nI i 1
        rw [if_neg (fun y => by rw [(bit_0 (by omega) (by omega)).mp y] at b; cases b), if_pos h16, e2, if_pos (mib_nI (by omega) (by decide)), nIc (by omega), v]
        have bb := sgm_b (g := cT (cL d k)) (lo := 0) (hi := 2100000) (by omega) (by omega) S i (fun j hj => ⟨(okc.2.1 j (by show j < dT d; omega)).2.2.1, (okc.2.1 j (by show j < dT d; omega)).2.2.2⟩)
        have w := okc.2.1 i hi
        have o := okc.2.2.1
        have wv : cT (cL d k) i = (dt d (i + 1) 1).toInt := rfl
        have ov : (cL d k).2.1.2 = (dt d 0 1).toInt := rfl
        refine ih (i + 1) _ (by omega) (by omega) ?_
        rw [sgm_s, if_pos b, add64, hx, t64, wv]
        · omega
        · rw [hx, t64]
          omega
        · rw [hx, t64]
          omega
      · have b' : S.testBit i = false := by simpa using b
        rw [if_pos ((bit_0 (by omega) (by omega)).mpr b'), z64]
        refine ih (i + 1) x (by omega) (by omega) ?_
        rw [sgm_s, if_neg b, hx, Int.add_zero]
theorem RM_load (ok : okD d) (hm : mdl τ d) (h16 : eI τ 69 16 = 2) {k : Nat} (hk : k ≤ 14) (h19 : eI τ 69 19 = nI k) : RM τ (cL d k) := by
  have t12 := ok.2.2.2.1
  have p : 2 ^ dT d ≤ 16384 := Nat.pow_le_pow_right (n := 2) (by decide) (show dT d ≤ 14 by omega)
  refine ⟨?_, fun S hS => ?_, fun S hS => ⟨?_, ?_⟩⟩
  · unfold e_X10_allSets
    rw [if_pos h16, hm.2.2.2.1, shl_nI (dT d) (by omega)]
    rfl
  · have hS : S < 2 ^ dT d := hS
    have pl := pcl_le 14 S
    unfold e_X10_isChoice
    rw [if_pos h16, bits_eq (show S < 2 ^ 14 by omega), ob, h19]
    show (if nI (pcl 14 S) = nI k then some 1 else some 0) = some (bi (decide (pcl 14 S = k)))
    by_cases e : pcl 14 S = k
    · rw [if_pos ((nI_i (by omega) (by omega)).mpr e), decide_eq_true e]
      rfl
    · rw [if_neg (fun y => e ((nI_i (by omega) (by omega)).mp y)), decide_eq_false e]
      rfl
  · have hS : S < 2 ^ dT d := hS
    unfold e_X10_aboveOf
    have v : eI τ 73 0 = dt d 0 0 := hm.2.2.2.2.2.1 0 (by decide)
    rw [if_pos h16, if_pos (by decide)]
    refine above_L ok hm h16 hS mN 0 _ (by omega) (mN_big (by omega)) ?_
    show (eI τ 73 0).toInt64.toInt = (dt d 0 0).toInt + 0
    rw [v, t64]
    omega
  · have hS : S < 2 ^ dT d := hS
    unfold e_X10_belowOf
    have v : eI τ 73 1 = dt d 0 1 := hm.2.2.2.2.2.1 1 (by decide)
    rw [if_pos h16, if_pos (by decide)]
    refine below_L ok hm h16 hS mN 0 _ (by omega) (mN_big (by omega)) ?_
    show (eI τ 73 1).toInt64.toInt = (dt d 0 1).toInt + 0
    rw [v, t64]
    omega
end
theorem load_is {n k : Nat} (hn : n ≤ 14) (k1 : 1 ≤ k) {W : Nat → Int} {N : Nat} {c : CI} (ec : cN c = n) (hch : ∀ S, ch c S = decide (pcl 14 S = k)) (hN : N < 2 ^ n) (hc : sgm (fun _ => 1) N n = (k : Int)) (hg : gr W n N) : isL c (fun S => sgm W S (cN c)) N ∧ N ≠ 0 := by
  have cnt : ∀ S, S < 2 ^ n → sgm (fun _ => 1) S n = (pcl 14 S : Int) := fun S hS => sgm_1 n hn S hS
  have nz : N ≠ 0 := by
    intro e
    rw [e] at hc
    have : sgm (fun _ => (1 : Int)) 0 n = (pcl 14 0 : Int) := cnt 0 (Nat.pow_pos (by decide))
    rw [pcl_0] at this
    omega
  refine ⟨isL_W2 (by omega) (by rw [ec]; exact hN) ?_ (fun R r1 r2 => ?_), nz⟩
  · rw [hch]
    have := cnt N hN
    exact decide_eq_true (by omega)
  · rw [ec] at r1 ⊢
    rw [hch] at r2
    have r3 := of_decide_eq_true r2
    have := cnt R r1
    rcases hg with z | ⟨h, g1, g2, g3, g4⟩
    · exact absurd z nz
    · have t := sgm_thr (W := W2 W) (t := W2 W h) (S := N) (R := R) n g3 g4
      rw [hc, this, r3] at t
      omega
theorem load_fill {d : CD} (ok : okD d) {k : Nat} (x : Int32) : ∀ f i σ, i ≤ dT d → dT d - i < f → cls σ 1 d → eI σ 51 4 = nI (dT d) → (∀ j, j < i → (eL σ 52 j).toInt = cG (cL d k) j ∧ (eL σ 53 j).toInt = cT (cL d k) j) → ∃ σ', e_X3_climbs_1_L37 x f (nI i) σ = ((e_X0_runs_51 σ').bind (fun r1 => if r1.1 = 0 ∨ r1.1 = 1 then (some (r1.1, r1.2)) else none)) ∧ (∀ a b, eI σ' a b = eI σ a b) ∧ (∀ a b, a ≠ 52 → a ≠ 53 → eL σ' a b = eL σ a b) ∧ ∀ j, j < dT d → (eL σ' 52 j).toInt = cG (cL d k) j ∧ (eL σ' 53 j).toInt = cT (cL d k) j := by
  have t12 := ok.2.2.2.1
  intro f
  induction f with
  | zero => intro i σ h1 h2; omega
  | succ f ih =>
    intro i σ h1 h2 hc h4 hv
    have le : nI (dT d) ≤ nI i ↔ dT d ≤ i := nLe (by omega) (by omega)
    simp only [e_X3_climbs_1_L37, h4, nI_1]
    by_cases q : dT d ≤ i
    · rw [if_pos (le.mpr q)]
      exact ⟨σ, rfl, fun _ _ => rfl, fun _ _ _ _ => rfl, fun j hj => hv j (by omega)⟩
    · have v1 : eI σ 8 (i + 1) = dt d (i + 1) 0 := hc.2.2.2.2.2 (i + 1) (by omega) 0 (by decide)
      have v2 : eI σ 9 (i + 1) = dt d (i + 1) 1 := hc.2.2.2.2.2 (i + 1) (by omega) 1 (by decide)
      rw [if_neg (fun y => q (le.mp y)), if_pos (mib_nI (by omega) (by decide)), if_pos (mib_nI (by omega) (by decide)), nIc (by omega), nIc (by omega), eI_uL, v1, v2]
      obtain ⟨σ', s1, s2, s3, s4⟩ := ih (i + 1) (uL (uL σ 52 i (dt d (i + 1) 0).toInt64) 53 i (dt d (i + 1) 1).toInt64) (by omega) (by omega) (cls_c hc (fun _ _ _ _ => rfl)) h4 (fun j hj => by
        rw [eL_uL, if_neg (show ¬ (52 = 53 ∧ j = i) by omega), eL_uL, eL_uL, eL_uL, if_neg (show ¬ (53 = 52 ∧ j = i) by omega)]
        by_cases e : j = i
        · rw [if_pos (show 52 = 52 ∧ j = i from ⟨rfl, e⟩), if_pos (show 53 = 53 ∧ j = i from ⟨rfl, e⟩), t64, t64, e]
          exact ⟨rfl, rfl⟩
        · rw [if_neg (show ¬ (52 = 52 ∧ j = i) from fun x => e x.2), if_neg (show ¬ (53 = 53 ∧ j = i) from fun x => e x.2)]
          exact hv j (by omega))
      refine ⟨σ', s1, s2, fun a b n1 n2 => ?_, s4⟩
      rw [s3 a b n1 n2, eL_uL, if_neg (by omega), eL_uL, if_neg (by omega)]
theorem load_c {d : CD} (ok : okD d) {σ : ES} (hc : cls σ 1 d) {k : Nat} (k1 : 1 ≤ k) (k2 : k ≤ dT d) : ∃ σ', hfr σ σ' ∧ ((noC (cL d k) ∧ e_X3_climbs_1 (nI k) σ = some (0, σ')) ∨ ∃ S r, ends (cL d k) S r ∧ e_X3_climbs_1 (nI k) σ = some (1, σ') ∧ eI σ' 51 0 = nI r.2.2 ∧ eI σ' 51 1 = nI r.2.1 ∧ eL σ' 51 2 = cX (cL d k) r.1 ∧ eL σ' 51 3 = cY (cL d k) r.1) := by
  have t12 := ok.2.2.2.1
  have okc := cL_ok ok k
  have e9 : eI σ 1 9 = nI (dT d) := hc.2.2.2.1
  have e8 : eI σ 8 0 = dt d 0 0 := hc.2.2.2.2.2 0 (by omega) 0 (by decide)
  have e9' : eI σ 9 0 = dt d 0 1 := hc.2.2.2.2.2 0 (by omega) 1 (by decide)
  obtain ⟨σ1, hσ1⟩ : ∃ σ1, σ1 = uL (uL (uI (uI σ 51 10 (nI k)) 51 4 (nI (dT d))) 51 5 (dt d 0 0).toInt64) 51 6 (dt d 0 1).toInt64 := ⟨_, rfl⟩
  have st : e_X3_climbs_1 (nI k) σ = e_X3_climbs_1_L37 (nI k) mN 0 σ1 := by
    have z0' : (0 : Int32).toNatClampNeg = 0 := rfl
    have a1 : eI (uI σ 51 10 (nI k)) 1 9 = nI (dT d) := e9
    have a2 : ∀ v, eI (uI (uI σ 51 10 (nI k)) 51 4 v) 8 0 = dt d 0 0 := fun _ => e8
    have a3 : ∀ v w, eI (uL (uI (uI σ 51 10 (nI k)) 51 4 v) 51 5 w) 9 0 = dt d 0 1 := fun _ _ => e9'
    unfold e_X3_climbs_1
    rw [if_pos (by decide), z0', a1, a2, a3, hσ1]
  have I1 : ∀ a b, ¬ (a = 51 ∧ (b = 4 ∨ b = 10)) → eI σ1 a b = eI σ a b := by
    intro a b q
    rw [hσ1, eI_uL, eI_uL, eI_uI, if_neg (by omega), eI_uI, if_neg (by omega)]
  have L1 : ∀ a b, a ≠ 51 → eL σ1 a b = eL σ a b := by
    intro a b q
    rw [hσ1, eL_uL, if_neg (by omega), eL_uL, if_neg (by omega)]
    rfl
  have c1 : cls σ1 1 d := cls_c hc (fun p q h1 h2 => I1 p q (by omega))
  obtain ⟨σ2, s1, s2, s3, s4⟩ := load_fill ok (k := k) (nI k) mN 0 σ1 (by omega) (mN_big (by omega)) c1 (by rw [hσ1]; rfl) (fun j hj => by omega)
  have s1' : e_X3_climbs_1_L37 (nI k) mN 0 σ1 = (e_X0_runs_51 σ2).bind (fun r1 => if r1.1 = 0 ∨ r1.1 = 1 then (some (r1.1, r1.2)) else none) := s1
  have cm : CM51 σ2 (cL d k) := by
    refine ⟨?_, s4, ?_, ?_⟩
    · rw [s2, hσ1]
      rfl
    · rw [s3 51 5 (by omega) (by omega), hσ1]
      show (dt d 0 0).toInt64.toInt = (dt d 0 0).toInt
      exact t64 _
    · rw [s3 51 6 (by omega) (by omega), hσ1]
      show (dt d 0 1).toInt64.toInt = (dt d 0 1).toInt
      exact t64 _
  have h10 : eI σ2 51 10 = nI k := by
    rw [s2, hσ1]
    rfl
  have hr2 : hfr σ σ2 := by
    refine ⟨fun a b q => ?_, fun a b q => ?_⟩
    · rw [s2, I1 a b (by omega)]
    · have : a < 39 ∨ 57 ≤ a ∨ ((a = 39 ∨ a = 45) ∧ (b = 5 ∨ b = 6)) := by
        rcases q with q | q | q
        · exact Or.inl q
        · exact Or.inr (Or.inl q)
        · exact Or.inr (Or.inr (qB_k q))
      rw [s3 a b (by omega) (by omega), L1 a b (by omega)]
  obtain ⟨σ3, q1, q2⟩ := run51 okc (PI := fun τ => eI τ 51 10 = nI k) (fun τ τ' g h => (g.1 51 10 (by omega) (by omega) (by omega)).trans h) (fun τ W h h4 hW _ => by
    have h4' : eI τ 51 4 = nI (dT d) := h4
    obtain ⟨N, n1, n2, n3, n4⟩ := load_pick (show dT d ≤ 14 by omega) k2 h4' h hW mN 0 0 (by omega) (mN_big (by omega)) (Nat.pow_pos (by decide)) (by
      have : sgm (fun _ => (1 : Int)) 0 (dT d) = (pcl 14 0 : Int) := sgm_1 (dT d) (by omega) 0 (Nat.pow_pos (by decide))
      rw [pcl_0] at this
      exact this) (Or.inl rfl)
    exact ⟨N, τ, ⟨n1, rfl⟩, pf.refl τ, Or.inr (load_is (n := dT d) (by omega) k1 rfl (fun _ => rfl) n2 n3 n4)⟩) h10 cm
  refine ⟨σ3, hr2.trans (hfr_51 q1), ?_⟩
  rw [st, s1']
  rcases q2 with ⟨n1, n2⟩ | ⟨S, r, n1, n2, n3⟩
  · left
    refine ⟨n1, ?_⟩
    rw [n2, ob, if_pos (show (0 : Int32) = 0 ∨ (0 : Int32) = 1 from Or.inl rfl)]
  · right
    refine ⟨S, r, n1, ?_, n3⟩
    rw [n2, ob, if_pos (show (1 : Int32) = 0 ∨ (1 : Int32) = 1 from Or.inr rfl)]
theorem sim_load : Sim_load Rel := by
  intro σ h x1 x2
  have hR := h
  obtain ⟨⟨d, ok, hc, hm⟩, h2, h3, h4, h5, h6⟩ := h
  have t12 := ok.2.2.2.1
  have e1 : ir (0 : Int32).toInt (3 : Int32).toInt x2 = ir 0 3 x2 := rfl
  have e2 : ir (0 : Int64).toInt (3 : Int64).toInt x2 = ir 0 3 x2 := rfl
  have e3 : ir (1 : Int32).toInt (nI (dT d)).toInt x1 = ir 1 (dT d : Int) x1 := by
    rw [nIt (by omega)]
    rfl
  have e4 : ir (1 : Int64).toInt (nI (dT d)).toInt64.toInt x1 = ir 1 (dT d : Int) x1 := by
    rw [t64, nIt (by omega)]
    rfl
  have bey : e_X9_load x1 x2 σ = some (-4000000000000000001 - (nI 0).toInt64, fx 0 σ) → e_X10_load x1 x2 (fx 0 σ) = some (-4000000000000000001 - (nI 0).toInt64, gx 0 (fx 0 σ)) → ∃ (r : Int64) (σ1 : ES) (σ2 : ES), e_X9_load x1 x2 σ = some (r, σ1) ∧ e_X10_load x1 x2 σ1 = some (r, σ2) ∧ Rel σ2 := fun q1 q2 => ⟨_, _, _, q1, q2, Rel_find 0 hR⟩
  have mf0 := mdl_fx 0 hm
  by_cases q1 : ir 0 3 x2 = true
  · by_cases q2 : ir 1 (dT d : Int) x1 = true
    · obtain ⟨p1, p2⟩ := ir_iff.mp q2
      obtain ⟨k, ek, hk, rfl⟩ := nI_ex (show 0 ≤ x1.toInt by omega)
      obtain ⟨σ1, f1, f2⟩ := load_c ok hc (k := k) (by omega) (by omega)
      have R1 : Rel σ1 := Rel_kp hR (kp_hfr f1)
      have m1 := mdl_hfr hm f1
      have okc := cL_ok ok k
      have M : ∀ τ, mdl τ d → e_X10_load (nI k) x2 τ = (e_X10_told x2 (uI (uI τ 69 16 2) 69 19 (nI k))).bind (fun r7 => some (r7.1, r7.2)) := by
        intro τ ht
        simp only [e_X10_load, min_eq, e2, q1, ob, bi_0, Bool.true_eq_false, if_false, ht.2.2.2.1, e4, q2]
      have rm : ∀ τ, mdl τ d → RM (uI (uI τ 69 16 2) 69 19 (nI k)) (cL d k) := fun τ ht => RM_load (τ := uI (uI τ 69 16 2) 69 19 (nI k)) ok (mdl_c ht (fun j hj => by rcases hj with e | e | e | e <;> subst e <;> rfl) (fun _ => rfl) (fun _ => rfl) (fun _ => rfl)) rfl (show k ≤ 14 by omega) rfl
      have kk : ∀ τ, kp τ (uI (uI τ 69 16 2) 69 19 (nI k)) := fun τ => (kp_u rfl).trans (kp_u rfl)
      rcases f2 with ⟨n1, n2⟩ | ⟨S, r, n1, n2, n3, n4, n5, n6⟩
      · refine ⟨-4000000000000000001 - (nI 3).toInt64, fx 3 σ1, gx 3 (uI (uI (fx 3 σ1) 69 16 2) 69 19 (nI k)), ?_, ?_, Rel_kp (Rel_find 3 R1) (kp_gx (kk _))⟩
        · simp only [e_X9_load, within_eq, e1, q1, ob, bi_0, Bool.true_eq_false, if_false, hc.2.2.2.1, e3, q2, n2, e_X9_told_51, if_true, lf3]
        · rw [M _ (mdl_fx 3 m1)]
          rcases told_m okc (rm _ (mdl_fx 3 m1)) x2 with ⟨_, t⟩ | ⟨S, r, t, _⟩
          · rw [t, ob]
          · have := n1 S t.1.1
            rw [t.1.2.1] at this
            cases this
      · rcases told_m okc (rm _ m1) x2 with ⟨t, _⟩ | ⟨S', r', t1, t2⟩
        · have := t S n1.1.1
          rw [n1.1.2.1] at this
          cases this
        · have eS : S' = S := isL_u t1.1 n1.1
          subst eS
          have er : r' = r := Option.some.inj (t1.2.1.symm.trans n1.2.1)
          subst er
          obtain ⟨v, v1, v2⟩ := told51 okc n1.2.2.2.2.1 n1.2.2.2.2.2.1 n3 n4 n5 n6 q1
          refine ⟨v, σ1, _, ?_, ?_, Rel_kp R1 (kk σ1)⟩
          · simp only [e_X9_load, within_eq, e1, q1, ob, bi_0, Bool.true_eq_false, if_false, hc.2.2.2.1, e3, q2, n2, v1]
          · rw [M _ m1, t2, v2, ob, ob]
    · have q2 : ir 1 (dT d : Int) x1 = false := by simpa using q2
      apply bey
      · simp only [e_X9_load, within_eq, e1, q1, ob, bi_0, Bool.true_eq_false, if_false, hc.2.2.2.1, e3, q2, lf0, if_true]
      · simp only [e_X10_load, min_eq, e2, q1, ob, bi_0, Bool.true_eq_false, if_false, mf0.2.2.2.1, e4, q2, lg0, if_true]
  · have q1 : ir 0 3 x2 = false := by simpa using q1
    apply bey
    · simp only [e_X9_load, within_eq, e1, q1, ob, bi_0, lf0, if_true]
    · simp only [e_X10_load, min_eq, e2, q1, ob, bi_0, lg0, if_true]
