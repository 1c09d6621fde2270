/-! ===== trees of the reference; tree ===== -/
theorem and2_0 {J a b : Nat} : J &&& (2 ^ a ||| 2 ^ b) = 0 ↔ J.testBit a = false ∧ J.testBit b = false := by
  rw [Nat.and_or_distrib_left, Nat.or_eq_zero_iff, and_pw, and_pw]
theorem or_same {J E : Nat} (h : J ||| E = J) {i : Nat} (hi : E.testBit i = true) : J.testBit i = true := by
  have := congrArg (fun x => Nat.testBit x i) h
  simp only [Nat.testBit_or] at this
  rw [hi, Bool.or_true] at this
  exact this.symm
theorem le_or (J E : Nat) : J ≤ J ||| E := Nat.left_le_or
section
variable {d : CD} {τ : ES}
/-- what is joined so far: 0 is, all of it is joined to 0 -/
def Jok (d : CD) (S J : Nat) : Prop := J < 2 ^ dP d ∧ J.testBit 0 = true ∧ ∀ p, J.testBit p = true → lbs d idl (esl (dN d) S) p = lbs d idl (esl (dN d) S) 0
theorem joins_L (ok : okD d) (hm : mdl τ d) {S : Nat} (hS : S < 16384) (k19 : Int32 → Int32 → Option Int32) (x3 : Int32) : ∀ f k J, k ≤ dN d → dN d - k < f → Jok d S J → ∃ J', e_X10_joinsAll_L29 τ (nI S) k19 f (nI J) x3 (nI k) = k19 (nI J') x3 ∧ J ≤ J' ∧ Jok d S J' ∧ (J' = J → ∀ w, k ≤ w → w < dN d → S.testBit w = true → J.testBit (wf d w) = J.testBit (wt d w)) := by
  have h14 := ok.2.2.1
  have P6 := ok.1
  have pP : 2 ^ dP d ≤ 64 := Nat.pow_le_pow_right (n := 2) (by decide) P6.2
  intro f
  induction f with
  | zero => intro k J h1 h2; omega
  | succ f ih =>
    intro k J h1 h2 hJ
    obtain ⟨j1, j2, j3⟩ := id hJ
    have le : nI (dN d) ≤ nI k ↔ dN d ≤ k := nLe (by omega) (by omega)
    simp only [e_X10_joinsAll_L29, hm.2.2.1]
    by_cases q : dN d ≤ k
    · rw [if_pos (le.mpr q)]
      exact ⟨J, rfl, Nat.le_refl _, hJ, fun _ w w1 w2 => by omega⟩
    · have hk : k < dN d := by omega
      obtain ⟨ew, lw⟩ := wf_eq ok hk
      obtain ⟨et, lt⟩ := wt_eq ok hk
      have z : nI J ||| 0 = nI J := by rw [← nI_lit0, or_nI (by omega) (by omega), Nat.or_zero]
      have pa := p2_14 (t := wf d k) (by omega)
      have pb := p2_14 (t := wt d k) (by omega)
      have pe : 2 ^ wf d k ||| 2 ^ wt d k < 2 ^ dP d := Nat.or_lt_two_pow (Nat.pow_lt_pow_right (by decide) lw) (Nat.pow_lt_pow_right (by decide) lt)
      rw [if_neg (fun y => q (le.mp y)), m_at ok hm hk 1 (by decide) 1 rfl, ob, m_at ok hm hk 2 (by decide) 2 rfl, ob, ew, et, shl_nI (wf d k) (by omega), shl_nI (wt d k) (by omega), or_nI (by omega) (by omega), z, nI_1]
      have skip : (S.testBit k = true → J.testBit (wf d k) = J.testBit (wt d k)) → ∃ J', e_X10_joinsAll_L29 τ (nI S) k19 f (nI J) x3 (nI (k + 1)) = k19 (nI J') x3 ∧ J ≤ J' ∧ Jok d S J' ∧ (J' = J → ∀ w, k ≤ w → w < dN d → S.testBit w = true → J.testBit (wf d w) = J.testBit (wt d w)) := by
        intro e
        obtain ⟨J', r1, r2, r3, r4⟩ := ih (k + 1) J (by omega) (by omega) hJ
        refine ⟨J', r1, r2, r3, fun x w w1 w2 w3 => ?_⟩
        by_cases c : w = k
        · subst c
          exact e w3
        · exact r4 x w (by omega) w2 w3
      by_cases b : S.testBit k = true
      · rw [if_pos ((bit_1 (by omega) (by omega)).mpr b)]
        have an : nI J &&& nI (2 ^ wf d k ||| 2 ^ wt d k) = 0 ↔ J.testBit (wf d k) = false ∧ J.testBit (wt d k) = false := by
          have : J &&& (2 ^ wf d k ||| 2 ^ wt d k) ≤ J := Nat.and_le_left
          rw [and_nI (by omega) (by omega), ← nI_lit0, nI_i (by omega) (by omega), and2_0]
        by_cases c : J.testBit (wf d k) = false ∧ J.testBit (wt d k) = false
        · rw [if_pos (an.mpr c)]
          exact skip (fun _ => by rw [c.1, c.2])
        · rw [if_neg (fun y => c (an.mp y)), or_nI (by omega) (by omega)]
          have me : k ∈ esl (dN d) S := esl_mem.mpr ⟨hk, b⟩
          have lq := lbs_eq (d := d) _ idl k me
          have hJ' : Jok d S (J ||| (2 ^ wf d k ||| 2 ^ wt d k)) := by
            refine ⟨Nat.or_lt_two_pow j1 pe, by rw [Nat.testBit_or, j2, Bool.true_or], fun p hp => ?_⟩
            rw [Nat.testBit_or, Nat.testBit_or, Nat.testBit_two_pow, Nat.testBit_two_pow, Bool.or_eq_true, Bool.or_eq_true, decide_eq_true_iff, decide_eq_true_iff] at hp
            have both : lbs d idl (esl (dN d) S) (wf d k) = lbs d idl (esl (dN d) S) 0 := by
              by_cases x : J.testBit (wf d k) = true
              · exact j3 _ x
              · by_cases y : J.testBit (wt d k) = true
                · rw [lq]
                  exact j3 _ y
                · exact absurd ⟨by simpa using x, by simpa using y⟩ c
            rcases hp with x | x | x
            · exact j3 p x
            · rw [← x]
              exact both
            · rw [← x, ← lq]
              exact both
          obtain ⟨J', r1, r2, r3, r4⟩ := ih (k + 1) (J ||| (2 ^ wf d k ||| 2 ^ wt d k)) (by omega) (by omega) hJ'
          have lo := le_or J (2 ^ wf d k ||| 2 ^ wt d k)
          refine ⟨J', r1, by omega, r3, fun x w w1 w2 w3 => ?_⟩
          have e : J ||| (2 ^ wf d k ||| 2 ^ wt d k) = J := by omega
          by_cases cw : w = k
          · subst cw
            rw [or_same e (i := wf d w) (by rw [Nat.testBit_or, Nat.testBit_two_pow, decide_eq_true rfl, Bool.true_or]), or_same e (i := wt d w) (by rw [Nat.testBit_or, Nat.testBit_two_pow (n := wt d w), decide_eq_true rfl, Bool.or_true])]
          · have := r4 (by omega) w (by omega) w2 w3
            rw [e] at this
            exact this
      · rw [if_neg (fun y => b ((bit_1 (by omega) (by omega)).mp y))]
        exact skip (fun x => absurd x b)
theorem closed_in {S J : Nat} (hJ : Jok d S J) (hc : ∀ w, w < dN d → S.testBit w = true → J.testBit (wf d w) = J.testBit (wt d w)) (p : Nat) : J.testBit p = true ↔ lbs d idl (esl (dN d) S) p = lbs d idl (esl (dN d) S) 0 := by
  constructor
  · exact hJ.2.2 p
  · intro e
    have cr : crs (lbs d idl (esl (dN d) S)) (fun p => if J.testBit p = true then 1 else 0) := lbs_in _ (fun p q (h : p = q) => by rw [h]) (fun u hu => by
      obtain ⟨a, b⟩ := esl_mem.mp hu
      show (if J.testBit (wf d u) = true then 1 else 0) = (if J.testBit (wt d u) = true then 1 else 0)
      rw [hc u a b])
    have x : (if J.testBit p = true then 1 else 0) = (if J.testBit 0 = true then 1 else 0) := cr _ _ e
    rw [hJ.2.1, if_pos rfl] at x
    by_cases c : J.testBit p = true
    · exact c
    · rw [if_neg c] at x
      cases x
theorem full_iff {P J : Nat} (hJ : J < 2 ^ P) : J = 2 ^ P - 1 ↔ ∀ p, p < P → J.testBit p = true := by
  constructor
  · intro e p hp
    rw [e, Nat.testBit_two_pow_sub_one]
    exact decide_eq_true hp
  · intro h
    apply Nat.eq_of_testBit_eq
    intro i
    rw [Nat.testBit_two_pow_sub_one]
    by_cases c : i < P
    · rw [h i c, decide_eq_true c]
    · rw [decide_eq_false c]
      exact Nat.testBit_lt_two_pow (Nat.lt_of_lt_of_le hJ (Nat.pow_le_pow_right (by decide) (by omega)))
theorem joins19 (ok : okD d) (hm : mdl τ d) {S : Nat} (hS : S < 16384) : ∀ f J K, 64 - J < f → Jok d S J → K ≤ J → (K = J → ∀ w, w < dN d → S.testBit w = true → J.testBit (wf d w) = J.testBit (wt d w)) → e_X10_joinsAll_L19 τ (nI S) f (nI J) (nI K) = some (bi (decide (∀ p, p < dP d → lbs d idl (esl (dN d) S) p = lbs d idl (esl (dN d) S) 0))) := by
  have h14 := ok.2.2.1
  have P6 := ok.1
  have pP : 2 ^ dP d ≤ 64 := Nat.pow_le_pow_right (n := 2) (by decide) P6.2
  intro f
  induction f with
  | zero => intro J K h1; omega
  | succ f ih =>
    intro J K h1 hJ hK hc
    have j1 := hJ.1
    simp only [e_X10_joinsAll_L19, hm.1]
    by_cases c : K = J
    · subst c
      have cl := hc rfl
      rw [if_pos rfl, shl_nI (dP d) (by omega)]
      have pp : 1 ≤ 2 ^ dP d := Nat.pow_pos (by decide)
      have e1 : nI (2 ^ dP d) - 1 = nI (2 ^ dP d - 1) := by
        have := nI_pred (2 ^ dP d - 1)
        rw [show 2 ^ dP d - 1 + 1 = 2 ^ dP d by omega] at this
        exact this
      rw [e1]
      by_cases g : ∀ p, p < dP d → lbs d idl (esl (dN d) S) p = lbs d idl (esl (dN d) S) 0
      · have full := (full_iff j1).mpr (fun p hp => (closed_in hJ cl p).mpr (g p hp))
        rw [if_pos (by rw [← full]), decide_eq_true g]
        rfl
      · rw [if_neg (fun y => g (fun p hp => (closed_in hJ cl p).mp ((full_iff j1).mp ((nI_i (by omega) (by omega)).mp y) p hp))), decide_eq_false g]
        rfl
    · rw [if_neg (fun y => c ((nI_i (by omega) (by omega)).mp y).symm)]
      obtain ⟨J', r1, r2, r3, r4⟩ := joins_L ok hm hS (e_X10_joinsAll_L19 τ (nI S) f) (nI J) mN 0 J (Nat.zero_le _) (mN_big (by omega)) hJ
      have r1' : e_X10_joinsAll_L29 τ (nI S) (e_X10_joinsAll_L19 τ (nI S) f) mN (nI J) (nI J) 0 = e_X10_joinsAll_L19 τ (nI S) f (nI J') (nI J) := r1
      rw [r1']
      have j1' := r3.1
      by_cases e : J = J'
      · subst e
        obtain ⟨f, rfl⟩ : ∃ f', f = f' + 1 := ⟨f - 1, by omega⟩
        have cl := fun w w2 w3 => r4 rfl w (Nat.zero_le _) w2 w3
        simp only [e_X10_joinsAll_L19, hm.1]
        rw [if_pos trivial, shl_nI (dP d) (by omega)]
        have pp : 1 ≤ 2 ^ dP d := Nat.pow_pos (by decide)
        have e1 : nI (2 ^ dP d) - 1 = nI (2 ^ dP d - 1) := by
          have := nI_pred (2 ^ dP d - 1)
          rw [show 2 ^ dP d - 1 + 1 = 2 ^ dP d by omega] at this
          exact this
        rw [e1]
        by_cases g : ∀ p, p < dP d → lbs d idl (esl (dN d) S) p = lbs d idl (esl (dN d) S) 0
        · have full := (full_iff j1).mpr (fun p hp => (closed_in hJ cl p).mpr (g p hp))
          rw [if_pos (by rw [← full]), decide_eq_true g]
          rfl
        · rw [if_neg (fun y => g (fun p hp => (closed_in hJ cl p).mp ((full_iff j1).mp ((nI_i (by omega) (by omega)).mp y) p hp))), decide_eq_false g]
          rfl
      · exact ih J' J (by omega) r3 r2 (fun x => absurd x e)
theorem joinsAll_m (ok : okD d) (hm : mdl τ d) {S : Nat} (hS : S < 2 ^ dN d) : e_X10_joinsAll τ (nI S) = some (bi (jA d S)) := by
  have h14 := ok.2.2.1
  have P6 := ok.1
  have pw : 2 ^ dN d ≤ 16384 := Nat.pow_le_pow_right (n := 2) (by decide) h14
  have pl := pcl_le 14 S
  unfold e_X10_joinsAll jA
  rw [bits_eq (show S < 2 ^ 14 by omega), ob, hm.1]
  have e1 : nI (dP d) - 1 = nI (dP d - 1) := by
    have := nI_pred (dP d - 1)
    rw [show dP d - 1 + 1 = dP d by omega] at this
    exact this
  rw [e1]
  by_cases c : pcl 14 S + 1 = dP d
  · rw [if_pos ((nI_i (by omega) (by omega)).mpr (by omega)), decide_eq_true c, Bool.true_and]
    have p2 : 1 < 2 ^ dP d := Nat.one_lt_two_pow (by omega)
    have := joins19 ok hm (S := S) (by omega) mN 1 0 (mN_big (by omega)) ⟨p2, rfl, fun p hp => by
      have : p = 0 := by
        by_cases z : p = 0
        · exact z
        · have h1 : (1 : Nat) < 2 ^ p := Nat.one_lt_two_pow z
          rw [Nat.testBit_lt_two_pow h1] at hp
          cases hp
      rw [this]⟩ (by omega) (fun x => by omega)
    exact this
  · rw [if_neg (fun y => c (by have := (nI_i (by omega) (by omega)).mp y; omega)), decide_eq_false c, Bool.false_and]
    rfl
theorem RM_tree (ok : okD d) (hm : mdl τ d) (h16 : eI τ 69 16 = 1) : RM τ (cWy d (isTr d)) := by
  have n2 : ¬ eI τ 69 16 = 2 := by rw [h16]; decide
  refine RM_ways ok hm n2 (fun S hS => ?_)
  refine choice_w ok hm n2 hS (fun _ _ => ?_)
  rw [if_neg (by rw [h16]; decide), if_pos h16, joinsAll_m ok hm hS, ob, if_pos (bi_d _)]
end
theorem sim_tree : Sim_tree Rel := by
  intro σ h x
  have hR := h
  obtain ⟨⟨d, ok, hc, hm⟩, h2, h3, h4, h5, h6⟩ := h
  have e1 : ir (0 : Int32).toInt (3 : Int32).toInt x = ir 0 3 x := rfl
  have e2 : ir (0 : Int64).toInt (3 : Int64).toInt x = ir 0 3 x := rfl
  by_cases q1 : ir 0 3 x = true
  · obtain ⟨σ1, f1, f2⟩ := tree_c ok hc h6.2
    have R1 : Rel σ1 := Rel_kp hR (kp_hfr f1)
    have m1 := mdl_hfr hm f1
    have okc := cWy_ok ok (f := isTr d) tr_nz
    have C : e_X9_tree x σ = (e_X7_climbs_1 σ).bind (fun r3 => (e_X9_told_39 r3.1 x r3.2).bind (fun r5 => some (r5.1, r5.2))) := by
      simp only [e_X9_tree, within_eq, e1, q1, ob, bi_0, Bool.true_eq_false, if_false]
    have M : ∀ τ, e_X10_tree x τ = (e_X10_told x (uI τ 69 16 1)).bind (fun r3 => some (r3.1, r3.2)) := by
      intro τ
      simp only [e_X10_tree, min_eq, e2, q1, ob, bi_0, Bool.true_eq_false, if_false]
    have rm : ∀ τ, mdl τ d → RM (uI τ 69 16 1) (cWy d (isTr d)) := fun τ ht => RM_tree (τ := uI τ 69 16 1) ok (mdl_c ht (fun j hj => by rcases hj with e | e | e | e <;> subst e <;> rfl) (fun _ => rfl) (fun _ => rfl) (fun _ => rfl)) rfl
    have kk : ∀ τ, kp τ (uI τ 69 16 1) := fun τ => kp_u rfl
    rcases f2 with ⟨n1, n2⟩ | ⟨S, r, n1, n2, n3, n4, n5, n6⟩
    · refine ⟨-4000000000000000001 - (nI 3).toInt64, fx 3 σ1, gx 3 (uI (fx 3 σ1) 69 16 1), ?_, ?_, Rel_kp (Rel_find 3 R1) (kp_gx (kk _))⟩
      · rw [C, n2, ob]
        simp only [e_X9_told_39, if_true, lf3, ob]
      · rw [M]
        rcases told_m okc (rm _ (mdl_fx 3 m1)) x with ⟨_, t⟩ | ⟨S, r, t, _⟩
        · rw [t, ob]
        · have := n1 S t.1.1
          rw [t.1.2.1] at this
          cases this
    · rcases told_m okc (rm _ m1) x with ⟨t, _⟩ | ⟨S', r', t1, t2⟩
      · have := t S n1.1.1
        rw [n1.1.2.1] at this
        cases this
      · have eS : S' = S := isL_u t1.1 n1.1
        subst eS
        have er : r' = r := Option.some.inj (t1.2.1.symm.trans n1.2.1)
        subst er
        obtain ⟨v, v1, v2⟩ := told39 okc n1.2.2.2.2.1 n1.2.2.2.2.2.1 n3 n4 n5 n6 q1
        refine ⟨v, σ1, _, ?_, ?_, Rel_kp R1 (kk σ1)⟩
        · rw [C, n2, ob]
          simp only [v1, ob]
        · rw [M, t2, v2, ob, ob]
  · have q1 : ir 0 3 x = false := by simpa using q1
    refine ⟨-4000000000000000001 - (nI 0).toInt64, fx 0 σ, gx 0 (fx 0 σ), ?_, ?_, Rel_find 0 hR⟩
    · simp only [e_X9_tree, within_eq, e1, q1, ob, bi_0, lf0, if_true]
    · simp only [e_X10_tree, min_eq, e2, q1, ob, bi_0, lg0, if_true]
