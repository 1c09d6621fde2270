/-! ===== ratio: both sides ===== -/
theorem hfr_55 {σ σ' : ES} (h : jf55 σ σ') : hfr σ σ' := ⟨fun a b q => h.1 a b (by omega), fun a b _ => h.2.1 a b⟩
def rst (τ : ES) (a y : Int32) : ES := uI (uI τ 69 16 a) 69 19 y
theorem rst_kp (τ : ES) (a y : Int32) : kp τ (rst τ a y) := (kp_u rfl).trans (kp_u rfl)
theorem rst_mdl {τ : ES} {d : CD} (h : mdl τ d) (a y : Int32) : mdl (rst τ a y) d := mdl_c h (fun j hj => by rcases hj with e | e | e | e <;> subst e <;> rfl) (fun _ => rfl) (fun _ => rfl) (fun _ => rfl)
theorem rst_16 (τ : ES) (a y : Int32) : eI (rst τ a y) 69 16 = a := rfl
theorem rst_19 (τ : ES) (a y : Int32) : eI (rst τ a y) 69 19 = y := rfl
theorem cL_ch (d : CD) (k S : Nat) : ch (cL d k) S = decide (pcl 14 S = k) := rfl
theorem cL_self (d : CD) (S : Nat) : ch (cL d (pcl 14 S)) S = true := by
  rw [cL_ch]
  exact decide_eq_true (Eq.refl (pcl 14 S))
/-- the reference, once sort and what are good -/
theorem ratio_r {a1 a2 a3 : Int32} (q1 : ir 0 2 a1 = true) (q3 : ir 0 1 a3 = true) {y : Int32} (hy : e_X10_bits a2 = some y) {τ : ES} {n : Nat} (hn : n ≤ 14) (ha : e_X10_allSets (rst τ a1 y) = some (nI (2 ^ n))) : e_X10_ratio a1 a2 a3 τ = if ir 1 (((2 ^ n : Nat) : Int) - 1) a2 = false then some (-4000000000000000001 - (nI 4).toInt64, gx 4 (rst τ a1 y)) else ((e_X10_isChoice (rst τ a1 y) a2).bind (fun r15 => if r15 = 0 then some (-4000000000000000001 - (nI 4).toInt64, gx 4 (rst τ a1 y)) else ((e_X10_aboveOf (rst τ a1 y) a2).bind (fun r17 => (e_X10_belowOf (rst τ a1 y) a2).bind (fun r19 => (e_X10_lowest r17 r19 a3).bind (fun r21 => some (r21, rst τ a1 y))))))) := by
  have p : 2 ^ n ≤ 16384 := Nat.pow_le_pow_right (n := 2) (by decide) hn
  have pp : 1 ≤ 2 ^ n := Nat.pow_pos (by decide)
  have e1 : ir (0 : Int64).toInt (2 : Int64).toInt a1 = ir 0 2 a1 := rfl
  have e3 : ir (0 : Int64).toInt (1 : Int64).toInt a3 = ir 0 1 a3 := rfl
  have e2 : ir (1 : Int64).toInt (nI (2 ^ n) - 1).toInt64.toInt a2 = ir 1 (((2 ^ n : Nat) : Int) - 1) a2 := by
    rw [t64, pred_nI (by omega)]
    rfl
  have ha' : e_X10_allSets (uI (uI τ 69 16 a1) 69 19 y) = some (nI (2 ^ n)) := ha
  simp only [e_X10_ratio, min_eq, e1, q1, e3, q3, ob, bi_0, Bool.true_eq_false, if_false, hy, ha', e2, lg4]
  rfl
theorem sets_w {d : CD} (ok : okD d) {τ : ES} (hm : mdl τ d) {a y : Int32} (ha : ¬ a = 2) : e_X10_allSets (rst τ a y) = some (nI (2 ^ dN d)) := by
  have h14 := ok.2.2.1
  have hm' := rst_mdl hm a y
  unfold e_X10_allSets
  rw [rst_16, if_neg ha, hm'.2.2.1]
  by_cases c : dN d < 14
  · rw [shl_nI (dN d) c]
  · have : dN d = 14 := by omega
    rw [this]
    rfl
theorem sim_ratio : Sim_ratio Rel := by
  intro σ h a1 a2 a3
  have hR := h
  obtain ⟨⟨d, ok, hc, hm⟩, h2, h3, h4, h5, h6⟩ := h
  have h14 := ok.2.2.1
  have t12 := ok.2.2.2.1
  have pw : 2 ^ dN d ≤ 16384 := Nat.pow_le_pow_right (n := 2) (by decide) h14
  have pt : 2 ^ dT d ≤ 16384 := Nat.pow_le_pow_right (n := 2) (by decide) (show dT d ≤ 14 by omega)
  have e1 : ir (0 : Int32).toInt (2 : Int32).toInt a1 = ir 0 2 a1 := rfl
  have e2 : ir (0 : Int64).toInt (2 : Int64).toInt a1 = ir 0 2 a1 := rfl
  have e3 : ir (0 : Int32).toInt (1 : Int32).toInt a3 = ir 0 1 a3 := rfl
  have e4 : ir (0 : Int64).toInt (1 : Int64).toInt a3 = ir 0 1 a3 := rfl
  have bey : e_X9_ratio a1 a2 a3 σ = some (-4000000000000000001 - (nI 0).toInt64, fx 0 σ) → e_X10_ratio a1 a2 a3 (fx 0 σ) = some (-4000000000000000001 - (nI 0).toInt64, gx 0 (fx 0 σ)) → ∃ (r : Int64) (σ1 : ES) (σ2 : ES), e_X9_ratio a1 a2 a3 σ = some (r, σ1) ∧ e_X10_ratio a1 a2 a3 σ1 = some (r, σ2) ∧ Rel σ2 := fun q1 q2 => ⟨_, _, _, q1, q2, Rel_find 0 hR⟩
  obtain ⟨y, hy⟩ := bits_any a2
  by_cases q1 : ir 0 2 a1 = true
  · by_cases q3 : ir 0 1 a3 = true
    · have C : e_X9_ratio a1 a2 a3 σ = (e_X9_isChoice a1 a2 σ).bind (fun r7 => if r7.1 = 0 then ((e_X9_longFinding (4 : Int32) r7.2).bind (fun r21 => some (r21.1, r21.2))) else (if a1 = (2 : Int32) then ((e_X1_gainTogether_1 r7.2 a2).bind (fun r15 => (e_X1_timeTogether_1 r7.2 a2).bind (fun r17 => (e_X9_lowest r15 r17 a3).bind (fun r19 => some (r19, r7.2))))) else ((e_X1_bringTogether_1 r7.2 a2).bind (fun r9 => (e_X1_lastTogether_1 r7.2 a2).bind (fun r11 => (e_X9_lowest r9 r11 a3).bind (fun r13 => some (r13, r7.2))))))) := by
        simp only [e_X9_ratio, within_eq, e1, q1, e3, q3, ob, bi_0, Bool.true_eq_false, if_false]
      have no : ∀ σ1, hfr σ σ1 → e_X9_isChoice a1 a2 σ = some (0, σ1) → (∀ τ, mdl τ d → e_X10_ratio a1 a2 a3 τ = some (-4000000000000000001 - (nI 4).toInt64, gx 4 (rst τ a1 y))) → ∃ (r : Int64) (σ1 : ES) (σ2 : ES), e_X9_ratio a1 a2 a3 σ = some (r, σ1) ∧ e_X10_ratio a1 a2 a3 σ1 = some (r, σ2) ∧ Rel σ2 := by
        intro σ1 f1 c1 m1
        refine ⟨_, fx 4 σ1, _, ?_, m1 _ (mdl_fx 4 (mdl_hfr hm f1)), Rel_kp (Rel_find 4 (Rel_kp hR (kp_hfr f1))) (kp_gx (rst_kp _ _ _))⟩
        rw [C, c1, ob, if_pos rfl, lf4, ob]
      have yes : ∀ σ1 (c : CI) (S : Nat), okC c → S < 2 ^ cN c → ch c S = true → hfr σ σ1 → e_X9_isChoice a1 a2 σ = some (1, σ1) → (if a1 = (2 : Int32) then ((e_X1_gainTogether_1 σ1 a2).bind (fun r15 => (e_X1_timeTogether_1 σ1 a2).bind (fun r17 => (e_X9_lowest r15 r17 a3).bind (fun r19 => some (r19, σ1))))) else ((e_X1_bringTogether_1 σ1 a2).bind (fun r9 => (e_X1_lastTogether_1 σ1 a2).bind (fun r11 => (e_X9_lowest r9 r11 a3).bind (fun r13 => some (r13, σ1)))))) = (e_X9_lowest (cX c S) (cY c S) a3).bind (fun v => some (v, σ1)) → (∀ τ, mdl τ d → e_X10_ratio a1 a2 a3 τ = (e_X10_lowest (cX c S) (cY c S) a3).bind (fun v => some (v, rst τ a1 y))) → ∃ (r : Int64) (σ1 : ES) (σ2 : ES), e_X9_ratio a1 a2 a3 σ = some (r, σ1) ∧ e_X10_ratio a1 a2 a3 σ1 = some (r, σ2) ∧ Rel σ2 := by
        intro σ1 c S okc hS hch f1 c1 s1 m1
        have aB := cA_b okc S
        have bB := cB_b okc S
        have b1 := okc.2.2.2 S hS hch
        obtain ⟨u, v, l1, l2, l3, _⟩ := low_eq (A := cX c S) (B := cY c S) (by rw [cX_t okc]; omega) (by rw [cX_t okc]; omega) (by rw [cY_t okc]; omega) (by rw [cY_t okc]; omega)
        have cc1 : e_X9_ratio a1 a2 a3 σ = (e_X9_lowest (cX c S) (cY c S) a3).bind (fun v => some (v, σ1)) := by
          rw [C, c1, ob, ← s1]
          exact if_neg (show ¬ (1 : Int32) = 0 by decide)
        have mm := m1 σ1 (mdl_hfr hm f1)
        by_cases a0 : a3 = 0
        · subst a0
          refine ⟨u, σ1, rst σ1 a1 y, ?_, ?_, Rel_kp (Rel_kp hR (kp_hfr f1)) (rst_kp σ1 a1 y)⟩
          · rw [cc1, l1, ob]
          · rw [mm, l2, ob]
        · refine ⟨v, σ1, rst σ1 a1 y, ?_, ?_, Rel_kp (Rel_kp hR (kp_hfr f1)) (rst_kp σ1 a1 y)⟩
          · rw [cc1, (l3 a3 a0).1, ob]
          · rw [mm, (l3 a3 a0).2, ob]
      by_cases s2 : a1 = 2
      · subst s2
        have sets : ∀ τ, mdl τ d → e_X10_allSets (rst τ 2 y) = some (nI (2 ^ dT d)) := by
          intro τ ht
          unfold e_X10_allSets
          rw [rst_16, if_pos rfl, (rst_mdl ht 2 y).2.2.2.1, shl_nI (dT d) (by omega)]
        have R := fun τ ht => ratio_r (τ := τ) q1 q3 hy (show dT d ≤ 14 by omega) (sets τ ht)
        have sh : (1 : Int32) <<< (nI (dT d) &&& 31) = nI (2 ^ dT d) := shl_nI (dT d) (by omega)
        by_cases q2 : ir 1 (((2 ^ dT d : Nat) : Int) - 1) a2 = true
        · obtain ⟨p1, p2⟩ := ir_iff.mp q2
          obtain ⟨S, eS, hS, rfl⟩ := nI_ex (show 0 ≤ a2.toInt by omega)
          have lS : S < 2 ^ dT d := by omega
          have ey : y = nI (pcl 14 S) := by
            rw [bits_eq (show S < 2 ^ 14 by omega)] at hy
            exact (Option.some.inj hy).symm
          have pl := pcl_le 14 S
          have okc := cL_ok ok (pcl 14 S)
          obtain ⟨g1, g2⟩ := gain_eq ok hc lS (pcl 14 S)
          refine yes σ (cL d (pcl 14 S)) S okc lS (cL_self d S) (hfr.refl σ) ?_ ?_ (fun τ ht => ?_)
          · unfold e_X9_isChoice
            rw [if_neg (by decide), if_neg (by decide), if_neg (fun z => by rw [le32, show (0 : Int32).toInt = 0 from rfl] at z; omega), hc.2.2.2.1, sh, if_neg (fun z => by have := (nLe (by omega) (by omega)).mp z; omega)]
          · rw [if_pos rfl, g1, ob, g2, ob]
          · have rm := RM_load (τ := rst τ 2 y) ok (rst_mdl ht 2 y) rfl (show pcl 14 S ≤ 14 by omega) (by rw [rst_19, ey])
            obtain ⟨r1, r2, r3⟩ := rm
            rw [R τ ht, q2, if_neg (by decide), r2 S lS, ob, cL_self, if_neg (by decide), (r3 S lS).1, ob, (r3 S lS).2, ob]
        · have q2 : ir 1 (((2 ^ dT d : Nat) : Int) - 1) a2 = false := by simpa using q2
          have h' : ¬ (1 ≤ a2.toInt ∧ a2.toInt ≤ ((2 ^ dT d : Nat) : Int) - 1) := fun x => by
            rw [ir_iff.mpr x] at q2
            cases q2
          refine no σ (hfr.refl σ) ?_ (fun τ ht => by rw [R τ ht, if_pos q2])
          unfold e_X9_isChoice
          rw [if_neg (by decide), if_neg (by decide)]
          by_cases c : a2 ≤ 0
          · rw [if_pos c]
          · rw [if_neg c, hc.2.2.2.1, sh]
            rw [le32, show (0 : Int32).toInt = 0 from rfl] at c
            rw [if_pos (by rw [le32, nIt (by omega)]; omega)]
      · have R := fun τ ht => ratio_r (τ := τ) q1 q3 hy h14 (sets_w ok ht (y := y) s2)
        by_cases q2 : ir 1 (((2 ^ dN d : Nat) : Int) - 1) a2 = true
        · obtain ⟨p1, p2⟩ := ir_iff.mp q2
          obtain ⟨S, eS, hS, rfl⟩ := nI_ex (show 0 ≤ a2.toInt by omega)
          have lS : S < 2 ^ dN d := by omega
          have nz : S ≠ 0 := by omega
          have os := openSet_eq ok hc (show 1 ≤ S by omega) lS
          have n2 : ∀ τ, ¬ eI (rst τ a1 y) 69 16 = 2 := fun τ => s2
          have refno : ∀ τ, mdl τ d → e_X10_isChoice (rst τ a1 y) (nI S) = some 0 → e_X10_ratio a1 (nI S) a3 τ = some (-4000000000000000001 - (nI 4).toInt64, gx 4 (rst τ a1 y)) := by
            intro τ ht e
            rw [R τ ht, q2, if_neg (by decide), e, ob, if_pos rfl]
          have refyes : ∀ (f : Nat → Bool) τ, mdl τ d → e_X10_isChoice (rst τ a1 y) (nI S) = some 1 → e_X10_ratio a1 (nI S) a3 τ = (e_X10_lowest (cX (cWy d f) S) (cY (cWy d f) S) a3).bind (fun v => some (v, rst τ a1 y)) := by
            intro f τ ht e
            have ab : e_X10_aboveOf (rst τ a1 y) (nI S) = some (cX (cWy d f) S) := by
              unfold e_X10_aboveOf
              rw [if_neg (n2 τ)]
              exact aboveW_L ok (rst_mdl ht a1 y) (n2 τ) lS mN 0 0 (by omega) (mN_big (by omega)) rfl
            have be : e_X10_belowOf (rst τ a1 y) (nI S) = some (cY (cWy d f) S) := by
              unfold e_X10_belowOf
              rw [if_neg (n2 τ)]
              exact belowW_L ok (rst_mdl ht a1 y) (n2 τ) lS mN 0 0 (by omega) (mN_big (by omega)) rfl
            rw [R τ ht, q2, if_neg (by decide), e, ob, if_neg (by decide), ab, ob, be, ob]
          by_cases op : ∀ i, i < dN d → S.testBit i = true → opw d i = true
          · rw [decide_eq_true op] at os
            by_cases s0 : a1 = 0
            · obtain ⟨b, b1, b2⟩ := ring_both ok hc lS nz
              have rc := fun τ (ht : mdl τ d) => choice_w ok (rst_mdl ht a1 y) (n2 τ) lS (g := b) (fun _ _ => by
                rw [rst_16, if_pos s0, b2 _ (rst_mdl ht a1 y), ob, if_pos (bi_d b)])
              have ic : e_X9_isChoice a1 (nI S) σ = some (bi b, σ) := by
                unfold e_X9_isChoice
                rw [if_pos s0, os, ob, if_neg (by decide), b1, ob]
                cases b
                · rw [if_pos bi_f]
                  rfl
                · rw [if_neg (by decide)]
                  rfl
              cases b with
              | false =>
                refine no σ (hfr.refl σ) ic (fun τ ht => refno τ ht ?_)
                rw [rc τ ht, Bool.and_false, Bool.and_false]
                rfl
              | true =>
                obtain ⟨g1, g2⟩ := bring_eq ok hc lS (fun R => decide (R ≠ 0))
                refine yes σ (cWy d (fun R => decide (R ≠ 0))) S (cWy_ok ok (fun R _ h => of_decide_eq_true h)) lS (decide_eq_true nz) (hfr.refl σ) ic ?_ (fun τ ht => refyes _ τ ht ?_)
                · rw [if_neg s2, g1, ob, g2, ob]
                · rw [rc τ ht, decide_eq_true op, decide_eq_true nz]
                  rfl
            · have s1 : a1 = 1 := by
                obtain ⟨z1, z2⟩ := ir_iff.mp q1
                have n0 : a1.toInt ≠ 0 := fun e => s0 (eq32.mpr e)
                have n2' : a1.toInt ≠ 2 := fun e => s2 (eq32.mpr e)
                exact eq32.mpr (show a1.toInt = 1 by omega)
              obtain ⟨σ1, b1, f1⟩ := isTree_c ok hc lS
              have rc := fun τ (ht : mdl τ d) => choice_w ok (rst_mdl ht a1 y) (n2 τ) lS (g := jA d S) (fun _ _ => by
                rw [rst_16, if_neg s0, if_pos s1, joinsAll_m ok (rst_mdl ht a1 y) lS, ob, if_pos (bi_d _)])
              have ic : e_X9_isChoice a1 (nI S) σ = some (bi (jA d S), σ1) := by
                unfold e_X9_isChoice
                rw [if_neg s0, if_pos s1, os, ob, if_neg (by decide), b1, ob]
                cases jA d S
                · rw [if_pos bi_f]
                  rfl
                · rw [if_neg (show ¬ bi true = 0 by decide)]
                  rfl
              by_cases b : jA d S = true
              · rw [b] at ic
                obtain ⟨g1, g2⟩ := bring_eq ok (cls_c hc (fun p q h1 h2 => f1.1 p q (by omega)) : cls σ1 1 d) lS (fun R => decide (R ≠ 0))
                refine yes σ1 (cWy d (fun R => decide (R ≠ 0))) S (cWy_ok ok (fun R _ h => of_decide_eq_true h)) lS (decide_eq_true nz) (hfr_55 f1) ic ?_ (fun τ ht => refyes _ τ ht ?_)
                · rw [if_neg s2, g1, ob, g2, ob]
                · rw [rc τ ht, decide_eq_true op, decide_eq_true nz, b]
                  rfl
              · have b : jA d S = false := by simpa using b
                rw [b] at ic
                refine no σ1 (hfr_55 f1) ic (fun τ ht => refno τ ht ?_)
                rw [rc τ ht, b, Bool.and_false, Bool.and_false]
                rfl
          · rw [decide_eq_false op] at os
            have ic : e_X9_isChoice a1 (nI S) σ = some (0, σ) := by
              unfold e_X9_isChoice
              rw [os, ob, if_pos bi_f]
              by_cases s0 : a1 = 0
              · rw [if_pos s0]
              · have s1 : a1 = 1 := by
                  obtain ⟨z1, z2⟩ := ir_iff.mp q1
                  have n0 : a1.toInt ≠ 0 := fun e => s0 (eq32.mpr e)
                  have n2' : a1.toInt ≠ 2 := fun e => s2 (eq32.mpr e)
                  exact eq32.mpr (show a1.toInt = 1 by omega)
                rw [if_neg s0, if_pos s1, ob, if_pos bi_f]
            refine no σ (hfr.refl σ) ic (fun τ ht => refno τ ht ?_)
            rw [choice_w ok (rst_mdl ht a1 y) (n2 τ) lS (g := true) (fun _ o => absurd o op), decide_eq_false op, Bool.false_and, Bool.and_false]
            rfl
        · have q2 : ir 1 (((2 ^ dN d : Nat) : Int) - 1) a2 = false := by simpa using q2
          have os := openSet_no ok hc q2
          refine no σ (hfr.refl σ) ?_ (fun τ ht => by rw [R τ ht, if_pos q2])
          unfold e_X9_isChoice
          rw [os, ob, if_pos rfl]
          by_cases s0 : a1 = 0
          · rw [if_pos s0]
          · have s1 : a1 = 1 := by
              obtain ⟨z1, z2⟩ := ir_iff.mp q1
              have n0 : a1.toInt ≠ 0 := fun e => s0 (eq32.mpr e)
              have n2' : a1.toInt ≠ 2 := fun e => s2 (eq32.mpr e)
              exact eq32.mpr (show a1.toInt = 1 by omega)
            rw [if_neg s0, if_pos s1, ob, if_pos rfl]
    · have q3 : ir 0 1 a3 = false := by simpa using q3
      apply bey
      · simp only [e_X9_ratio, within_eq, e1, q1, e3, q3, ob, bi_0, Bool.true_eq_false, if_false, lf0, if_true]
      · simp only [e_X10_ratio, min_eq, e2, q1, e4, q3, ob, bi_0, Bool.true_eq_false, if_false, lg0, if_true]
  · have q1 : ir 0 2 a1 = false := by simpa using q1
    apply bey
    · simp only [e_X9_ratio, within_eq, e1, q1, ob, bi_0, lf0, if_true]
    · simp only [e_X10_ratio, min_eq, e2, q1, ob, bi_0, lg0, if_true]
