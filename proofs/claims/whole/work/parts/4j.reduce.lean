/-! ===== reduce ===== -/
theorem Rel_put2 {σ : ES} (hR : Rel σ) {s i : Nat} (hs : s < 4) (hi : i < 39) (V1 V2 : Int64) : Rel (uL (uL (uL (uL σ (62 + 2 * s) i V1) (62 + 2 * s) (i + 1) V2) 77 (40 * s + i) V1) 77 (40 * s + i + 1) V2) := by
  refine Rel_S hR (fun _ _ _ => rfl) (fun k j q => by have := qB_k q; rw [eL_uL, if_neg (by omega), eL_uL, if_neg (by omega), eL_uL, if_neg (by omega), eL_uL, if_neg (by omega)]) (RSh_put2 (s := s) (i := i) (v1 := V1) (v2 := V2) hR.2.2.2.1 (fun _ _ _ => rfl) (fun s' j' _ hj' => ?_) (fun s' j' _ hj' => ?_))
  · rw [eL_uL, if_neg (by omega), eL_uL, if_neg (by omega), eL_uL, eL_uL]
    by_cases c1 : s' = s ∧ j' = i + 1
    · rw [if_pos c1, if_pos (by omega)]
    · rw [if_neg c1, if_neg (by omega)]
      by_cases c2 : s' = s ∧ j' = i
      · rw [if_pos c2, if_pos (by omega)]
      · rw [if_neg c2, if_neg (by omega)]
  · rw [eL_uL, eL_uL]
    by_cases c1 : s' = s ∧ j' = i + 1
    · rw [if_pos c1, if_pos (by omega)]
    · rw [if_neg c1, if_neg (by omega)]
      by_cases c2 : s' = s ∧ j' = i
      · rw [if_pos c2, if_pos (by omega)]
      · rw [if_neg c2, if_neg (by omega), eL_uL, if_neg (by omega), eL_uL, if_neg (by omega)]
def bz (x : Int64) : Int64 := if x ≤ 0 then x else -x
theorem bz_p (x : Int64) : (bz x).toInt ≤ 0 ∧ (bz x).toInt.natAbs = x.toInt.natAbs := by
  have z : (0 : Int64).toInt = 0 := rfl
  unfold bz
  by_cases c : x ≤ 0
  · rw [if_pos c]
    rw [le64, z] at c
    exact ⟨c, rfl⟩
  · rw [if_neg c]
    rw [le64, z] at c
    rw [neg64 (by omega)]
    omega
theorem sign_q {x g : Int64} (hg : g.toInt < 0) (hm : ¬ g = -9223372036854775808) (hl : g.toInt.natAbs ≤ x.toInt.natAbs) : 0 ≤ x / -g ↔ 0 ≤ x := by
  have z : (0 : Int64).toInt = 0 := rfl
  have mm : (-9223372036854775808 : Int64).toInt = -9223372036854775808 := rfl
  have rg := r64 g
  have rx := r64 x
  have hm' : ¬ g.toInt = -9223372036854775808 := fun h => hm (eq64.mpr (h.trans mm.symm))
  rw [le64, le64, z, Int64.toInt_div, neg64 (by omega)]
  have q1 := Int.natAbs_tdiv_le_natAbs x.toInt (-g.toInt)
  have q2 : (x.toInt.tdiv (-g.toInt)).natAbs = x.toInt.natAbs / (-g.toInt).natAbs := Int.natAbs_tdiv _ _
  have q3 : 0 < x.toInt.natAbs / (-g.toInt).natAbs := Nat.div_pos (by omega) (by omega)
  by_cases c : 0 ≤ x.toInt
  · have := Int.tdiv_nonneg (a := x.toInt) (b := -g.toInt) c (by omega)
    rw [bm64 (by omega) (by omega)]
    omega
  · have := Int.tdiv_nonneg (a := -x.toInt) (b := -g.toInt) (by omega) (by omega)
    rw [Int.neg_tdiv] at this
    rw [bm64 (by omega) (by omega)]
    omega
theorem red_c {σ : ES} (h : RSh σ) {s i : Nat} (hs : s < 4) (hi : i < 39) (q : ff σ (nI s) (nI i) (nI i) = -1) {X XD g : Int64} (v1 : eL σ (62 + 2 * s) i = X) (v2 : eL σ (62 + 2 * s) (i + 1) = XD) (hg : e_X9_sharedBelowZero X XD = some g) (g0 : g.toInt < 0) (gl : g.toInt.natAbs ≤ XD.toInt.natAbs) : e_X9_reduce (nI s) (nI i) σ = if g = -9223372036854775808 then some (-4000000000000000001 - (nI 8).toInt64, fx 8 σ) else if 0 ≤ XD then some (-g, uL (uL σ (62 + 2 * s) i (nar (eI σ (61 + 2 * s) 0) (X / -g))) (62 + 2 * s) (i + 1) (nar (eI σ (61 + 2 * s) 0) (XD / -g))) else if X / -g = -9223372036854775808 then some (-4000000000000000001 - (nI 8).toInt64, fx 8 σ) else if XD / -g = -9223372036854775808 then some (-4000000000000000001 - (nI 8).toInt64, fx 8 σ) else some (-g, uL (uL σ (62 + 2 * s) i (nar (eI σ (61 + 2 * s) 0) (-(X / -g)))) (62 + 2 * s) (i + 1) (nar (eI σ (61 + 2 * s) 0) (-(XD / -g)))) := by
  have m0 : mib (nI s) 4 = true := mib_nI (by omega) (by decide)
  have m1 : mib (nI i) 40 = true := mib_nI (by omega) (by decide)
  have m3 : mib (nI (i + 1)) 40 = true := mib_nI (by omega) (by decide)
  have n0 : (nI s).toNatClampNeg = s := nIc (by omega)
  have n1 : (nI i).toNatClampNeg = i := nIc (by omega)
  have n3 : (nI (i + 1)).toNatClampNeg = i + 1 := nIc (by omega)
  have z : (0 : Int64).toInt = 0 := rfl
  have gn : ¬ g = 0 := fun e => by rw [e, z] at g0; omega
  have J : ∀ a b, e_X9_reduce_J141 (nI s) (nI i) (61 + 2 * s) g a b σ = some (-g, uL (uL σ (62 + 2 * s) i (nar (eI σ (61 + 2 * s) 0) a)) (62 + 2 * s) (i + 1) (nar (eI σ (61 + 2 * s) 0) b)) := by
    intro a b
    simp only [e_X9_reduce_J141, put_eq hs (show i < 40 by omega), put_eq hs (show i + 1 < 40 by omega), ob, msh_s hs, if_true, nI_1, eI_uL]
  simp only [e_X9_reduce, ffault_eq h, ob, q, if_true, nI_1, m0, m1, m3, n0, n1, n3, cell1, v1, v2, hg, lf8, J, gn, if_false]
  by_cases c : g = -9223372036854775808
  · rw [if_pos c, if_pos c]
  · rw [if_neg c, if_neg c]
    have rg := r64 g
    have gm : ¬ -g = 0 := fun e => by
      have := congrArg Int64.toInt e
      have mm : (-9223372036854775808 : Int64).toInt = -9223372036854775808 := rfl
      have hm' : ¬ g.toInt = -9223372036854775808 := fun h => c (eq64.mpr (h.trans mm.symm))
      rw [neg64 (by omega), z] at this
      omega
    rw [if_neg gm, if_neg gm]
    have sg := sign_q g0 c gl
    by_cases c1 : 0 ≤ XD
    · rw [if_pos (sg.mpr c1), if_pos c1]
    · rw [if_neg (fun x => c1 (sg.mp x)), if_neg c1]
theorem red_m {τ : ES} (hτ : ∀ s, s < 4 → ∃ n, n ≤ 40 ∧ eI τ 76 s = nI n) {s i : Nat} (hs : s < 4) (hi : i < 39) (q : ff τ (nI s) (nI i) (nI i) = -1) {X XD g : Int64} (v1 : eL τ 77 (40 * s + i) = X) (v2 : eL τ 77 (40 * s + i + 1) = XD) (hg : e_X10_reduce_L80 (nI s) (nI i) mN (nI (40 * s + i)) X XD (bz X) (bz XD) τ = e_X10_reduce_L80 (nI s) (nI i) 1 (nI (40 * s + i)) X XD g 0 τ) (g0 : g.toInt < 0) : e_X10_reduce (nI s) (nI i) τ = if g = -9223372036854775808 then some (-4000000000000000001 - (nI 8).toInt64, gx 8 τ) else if 0 ≤ XD then some (-g, uL (uL τ 77 (40 * s + i) (nar (eI τ 75 s) (X / -g))) 77 (40 * s + i + 1) (nar (eI τ 75 s) (XD / -g))) else if X / -g = -9223372036854775808 then some (-4000000000000000001 - (nI 8).toInt64, gx 8 τ) else if XD / -g = -9223372036854775808 then some (-4000000000000000001 - (nI 8).toInt64, gx 8 τ) else some (-g, uL (uL τ 77 (40 * s + i) (nar (eI τ 75 s) (-(X / -g)))) 77 (40 * s + i + 1) (nar (eI τ 75 s) (-(XD / -g)))) := by
  have a1 : (40 : Int32) * nI s + nI i = nI (40 * s + i) := forty hs (by omega)
  have m0 : mib (nI s) 4 = true := mib_nI (by omega) (by decide)
  have m1 : mib (nI (40 * s + i)) 160 = true := mib_nI (by omega) (by decide)
  have m3 : mib (nI (40 * s + i + 1)) 160 = true := mib_nI (by omega) (by decide)
  have n0 : (nI s).toNatClampNeg = s := nIc (by omega)
  have n1 : (nI (40 * s + i)).toNatClampNeg = 40 * s + i := nIc (by omega)
  have n3 : (nI (40 * s + i + 1)).toNatClampNeg = 40 * s + i + 1 := nIc (by omega)
  have z : (0 : Int64).toInt = 0 := rfl
  have lz : (-1 : Int32) < 0 := by decide
  have J61 : (if X ≤ 0 then e_X10_reduce_J61 (nI s) (nI i) (nI (40 * s + i)) X XD X τ else e_X10_reduce_J61 (nI s) (nI i) (nI (40 * s + i)) X XD (-X) τ) = e_X10_reduce_L80 (nI s) (nI i) mN (nI (40 * s + i)) X XD (bz X) (bz XD) τ := by
    unfold e_X10_reduce_J61 bz
    split
    · split <;> rfl
    · split <;> rfl
  have E : e_X10_reduce (nI s) (nI i) τ = e_X10_reduce_L80 (nI s) (nI i) 1 (nI (40 * s + i)) X XD g 0 τ := by
    rw [← hg, ← J61]
    simp only [e_X10_reduce, wrong_eq' hτ, ob, q, lz, if_true, a1, nI_1, m1, m3, n1, n3, v1, v2]
  rw [E]
  simp only [e_X10_reduce_L80, e_X10_reduce_J172, e_X10_reduce_J199, m0, n0, m1, m3, n1, n3, nI_1, narrow_eq, ob, eI_uL, if_true, lg8]
  by_cases c : g = -9223372036854775808
  · rw [if_pos c, if_pos c]
  · rw [if_neg c, if_neg c]
    have rg := r64 g
    have gm : ¬ -g = 0 := fun e => by
      have := congrArg Int64.toInt e
      have mm : (-9223372036854775808 : Int64).toInt = -9223372036854775808 := rfl
      have hm' : ¬ g.toInt = -9223372036854775808 := fun h => c (eq64.mpr (h.trans mm.symm))
      rw [neg64 (by omega), z] at this
      omega
    rw [if_neg gm, if_neg gm]
    by_cases c1 : 0 ≤ XD
    · simp only [c1, if_true]
    · simp only [c1, if_false]
theorem sim_reduce : Sim_reduce Rel := by
  intro σ h a b
  have hR := h
  have h4 := hR.2.2.2.1
  have hz : ¬ (0 : Int32) < 0 := by decide
  have h5' : ¬ (5 : Int32) < 0 := by decide
  have h7' : ¬ (7 : Int32) < 0 := by decide
  have k0 : ¬ (0 : Int32) = -1 := by decide
  have k5 : ¬ (5 : Int32) = -1 := by decide
  have k7 : ¬ (7 : Int32) = -1 := by decide
  rcases ff_cases σ a b b with e | e | e | e
  · obtain ⟨s, i, j, hs, hi, hj, rfl, rfl, ej, d1, d2⟩ := ff_ok h4 e
    obtain ⟨s1, s2, s3, s4, L⟩ := h4 s hs
    generalize hX : eL σ (62 + 2 * s) i = X
    generalize hXD : eL σ (62 + 2 * s) (i + 1) = XD at d1
    have bx := bz_p X
    have by' := bz_p XD
    have rX := r64 XD
    have nz : ¬ bz XD = 0 := fun x => d1 (eq64.mpr (by have := congrArg Int64.toInt x; rw [this] at by'; show XD.toInt = 0; have z : (0 : Int64).toInt = 0 := rfl; rw [z] at by'; omega))
    have G : ∀ τ, ∃ g, e_X9_sharedBelowZero X XD = some g ∧ e_X10_reduce_L80 (nI s) (nI i) mN (nI (40 * s + i)) X XD (bz X) (bz XD) τ = e_X10_reduce_L80 (nI s) (nI i) 1 (nI (40 * s + i)) X XD g 0 τ ∧ g.toInt < 0 ∧ g.toInt.natAbs ≤ XD.toInt.natAbs := by
      intro τ
      obtain ⟨g, g1, g2, g3, g4, g5⟩ := gcd_L X XD (nI s) (nI i) (nI (40 * s + i)) X XD τ 64 (bz X) (bz XD) 0 mN mN (by rw [by'.2]; omega) bx.1 by'.1 (by omega) (mN_big (by omega)) (mN_big (by omega))
      rw [nI_lit0] at g1
      have := g5 nz
      refine ⟨g, ?_, g2, by omega, by omega⟩
      rw [← g1]
      unfold e_X9_sharedBelowZero e_X9_sharedBelowZero_J12 bz
      split
      · split <;> rfl
      · split <;> rfl
    obtain ⟨g, g1, g2, g3, g4⟩ := G σ
    have C := red_c h4 hs hi e hX hXD g1 g3 g4
    have M : ∀ τ, (∀ s, s < 4 → ∃ n, n ≤ 40 ∧ eI τ 76 s = nI n) → ff τ (nI s) (nI i) (nI i) = -1 → (∀ x, eL τ 77 x = eL σ 77 x) → _ := fun τ t1 t2 t3 => red_m (τ := τ) (g := g) t1 hs hi t2 ((t3 _).trans ((L i (by omega)).trans hX)) ((t3 _).trans ((L (i + 1) (by omega)).trans hXD)) (by
      obtain ⟨g', g1', g2', _, _⟩ := G τ
      have : g' = g := Option.some.inj (g1'.symm.trans g1)
      rw [← this]
      exact g2') g3
    have fail : e_X9_reduce (nI s) (nI i) σ = some (-4000000000000000001 - (nI 8).toInt64, fx 8 σ) → e_X10_reduce (nI s) (nI i) (fx 8 σ) = some (-4000000000000000001 - (nI 8).toInt64, gx 8 (fx 8 σ)) → ∃ (r : Int64) (σ1 : ES) (σ2 : ES), e_X9_reduce (nI s) (nI i) σ = some (r, σ1) ∧ e_X10_reduce (nI s) (nI i) σ1 = some (r, σ2) ∧ Rel σ2 := fun q1 q2 => ⟨_, _, _, q1, q2, Rel_find 8 hR⟩
    have good : ∀ V1 V2, e_X9_reduce (nI s) (nI i) σ = some (-g, uL (uL σ (62 + 2 * s) i V1) (62 + 2 * s) (i + 1) V2) → (∀ τ, (∀ s, s < 4 → ∃ n, n ≤ 40 ∧ eI τ 76 s = nI n) → ff τ (nI s) (nI i) (nI i) = -1 → (∀ x, eL τ 77 x = eL σ 77 x) → eI τ 75 s = eI σ (61 + 2 * s) 0 → e_X10_reduce (nI s) (nI i) τ = some (-g, uL (uL τ 77 (40 * s + i) V1) 77 (40 * s + i + 1) V2)) → ∃ (r : Int64) (σ1 : ES) (σ2 : ES), e_X9_reduce (nI s) (nI i) σ = some (r, σ1) ∧ e_X10_reduce (nI s) (nI i) σ1 = some (r, σ2) ∧ Rel σ2 := by
      intro V1 V2 q1 q2
      have n77 : ∀ x, eL (uL (uL σ (62 + 2 * s) i V1) (62 + 2 * s) (i + 1) V2) 77 x = eL σ 77 x := by
        intro x
        rw [eL_uL, if_neg (by omega), eL_uL, if_neg (by omega)]
      refine ⟨_, _, _, q1, q2 _ (fun s' hs' => szs h4 s' hs') ?_ n77 s1, Rel_put2 hR hs hi V1 V2⟩
      unfold ff at e ⊢
      simp only [n77, eI_uL]
      exact e
    by_cases c1 : g = -9223372036854775808
    · exact fail (C.trans (if_pos c1)) ((M (fx 8 σ) (szs (RSh_fx 8 h4)) e (fun _ => rfl)).trans (if_pos c1))
    · by_cases c2 : 0 ≤ XD
      · refine good _ _ (C.trans ((if_neg c1).trans (if_pos c2))) (fun τ t1 t2 t3 t4 => ?_)
        rw [M τ t1 t2 t3, if_neg c1, if_pos c2, t4]
      · by_cases c3 : X / -g = -9223372036854775808
        · exact fail (C.trans ((if_neg c1).trans ((if_neg c2).trans (if_pos c3)))) ((M (fx 8 σ) (szs (RSh_fx 8 h4)) e (fun _ => rfl)).trans ((if_neg c1).trans ((if_neg c2).trans (if_pos c3))))
        · by_cases c4 : XD / -g = -9223372036854775808
          · exact fail (C.trans ((if_neg c1).trans ((if_neg c2).trans ((if_neg c3).trans (if_pos c4))))) ((M (fx 8 σ) (szs (RSh_fx 8 h4)) e (fun _ => rfl)).trans ((if_neg c1).trans ((if_neg c2).trans ((if_neg c3).trans (if_pos c4)))))
          · refine good _ _ (C.trans ((if_neg c1).trans ((if_neg c2).trans ((if_neg c3).trans (if_neg c4))))) (fun τ t1 t2 t3 t4 => ?_)
            rw [M τ t1 t2 t3, if_neg c1, if_neg c2, if_neg c3, if_neg c4, t4]
  · refine ⟨-4000000000000000001 - (nI 0).toInt64, fx 0 σ, gx 0 (fx 0 σ), ?_, ?_, Rel_find 0 hR⟩
    · simp only [e_X9_reduce, ffault_eq h4, ob, e, k0, if_false, lf0]
    · simp only [e_X10_reduce, wrong_eq (RSh_fx 0 h4), ff_fx, ob, e, hz, if_false, lg0]
  · refine ⟨-4000000000000000001 - (nI 5).toInt64, fx 5 σ, gx 5 (fx 5 σ), ?_, ?_, Rel_find 5 hR⟩
    · simp only [e_X9_reduce, ffault_eq h4, ob, e, k5, if_false, lf5]
    · simp only [e_X10_reduce, wrong_eq (RSh_fx 5 h4), ff_fx, ob, e, h5', if_false, lg5]
  · refine ⟨-4000000000000000001 - (nI 7).toInt64, fx 7 σ, gx 7 (fx 7 σ), ?_, ?_, Rel_find 7 hR⟩
    · simp only [e_X9_reduce, ffault_eq h4, ob, e, k7, if_false, lf7]
    · simp only [e_X10_reduce, wrong_eq (RSh_fx 7 h4), ff_fx, ob, e, h7', if_false, lg7]
