/-! ===== raise: the reference ===== -/
theorem nd_iff {c r : Rg} {gain g : Int} (hq : 0 < c.2.2.toInt) : nd (some c) gain r ≤ g ↔ c.2.1.toInt * r.2.2.toInt ≤ (r.2.1.toInt - gain + g) * c.2.2.toInt := by
  show -(((r.2.1.toInt - gain) * c.2.2.toInt - c.2.1.toInt * r.2.2.toInt) / c.2.2.toInt) ≤ g ↔ _
  have h := Int.le_ediv_iff_mul_le (a := -g) (b := (r.2.1.toInt - gain) * c.2.2.toInt - c.2.1.toInt * r.2.2.toInt) hq
  rw [Int.add_mul]
  rw [Int.neg_mul] at h
  revert h
  generalize (r.2.1.toInt - gain) * c.2.2.toInt = u
  generalize c.2.1.toInt * r.2.2.toInt = v
  generalize g * c.2.2.toInt = z
  generalize (u - v) / c.2.2.toInt = y
  intro h
  omega
theorem isRaised_m {d : CD} (ok : okD d) {w : Nat} (hw : w < dN d) {O : Nat} (hO : O < 16384) {c : Rg} (okc : okR c) (hne : ((al d O.testBit).filter fun r => r.1.testBit w) ≠ []) {g : Int32} (g1 : -999999999 ≤ g.toInt) (g2 : g.toInt ≤ 999999999) {τ : ES} {v : Int32} (hm : mdl τ (setW d w 3 v)) : ∃ τ', e_X10_isRaised (nI w) g (nI O) c.2.1 c.2.2 τ = some (if ml (some c) (dw d w 3).toInt w 1000000000 (al d O.testBit) ≤ g.toInt then 1 else 0, τ') ∧ rf τ τ' ∧ ∃ v, mdl τ' (setW d w 3 v) := by
  have h14 := ok.2.2.1
  have o := ok.2.2.2.2.1 w hw
  have okd : okD (setW d w 3 g) := ok_setW ok ⟨o.1, o.2.1, o.2.2.1, o.2.2.2.1, ⟨g1, g2⟩, o.2.2.2.2.2⟩
  have hm1 := mdl_setW hm w 3 g (by decide)
  rw [setW_ww] at hm1
  obtain ⟨τ', r1, r2, r3⟩ := rings_f okd (O := O) (m := 2 ^ w) hO (p2_14 (by omega)) hm1
  have el := al_gain ok hw g1 g2 O.testBit
  have okA := al_ok okd O.testBit
  rw [fil_ye] at r1 r3
  rw [el] at r1 r3 okA
  have ff : (((al d O.testBit).map (shf w (g.toInt64 - (dw d w 3).toInt64))).filter fun r => r.1.testBit w) = ((al d O.testBit).filter fun r => r.1.testBit w).map (shf w (g.toInt64 - (dw d w 3).toInt64)) := by
    rw [List.filter_map]
    rfl
  rw [ff] at r1 r3
  have okL := al_ok ok O.testBit
  have s1 : (g.toInt64 - (dw d w 3).toInt64).toInt = g.toInt - (dw d w 3).toInt := by
    have := o.2.2.2.2.1
    rw [sub64, t64, t64] <;> rw [t64, t64] <;> omega
  have val : ∀ r, r ∈ al d O.testBit → r.1.testBit w = true → (shf w (g.toInt64 - (dw d w 3).toInt64) r).2.1.toInt = r.2.1.toInt - (dw d w 3).toInt + g.toInt := by
    intro r hr hb
    have okr := (okL r hr).2.1
    have := o.2.2.2.2.1
    show (if r.1.testBit w = true then r.2.1 + (g.toInt64 - (dw d w 3).toInt64) else r.2.1).toInt = _
    rw [if_pos hb, add64, s1] <;> (try rw [s1]) <;> omega
  have okF : ∀ q, q ∈ ((al d O.testBit).filter fun r => r.1.testBit w).map (shf w (g.toInt64 - (dw d w 3).toInt64)) → okR q := by
    intro q hq
    obtain ⟨r, hr, e⟩ := List.mem_map.mp hq
    exact okA q (List.mem_map.mpr ⟨r, (List.mem_filter.mp hr).1, e⟩)
  have q0 : 0 < c.2.2.toInt := by have := okc.2.2; omega
  rcases bst_top _ okF with ⟨_, e⟩ | ⟨b, e1, e2, e3⟩
  · rw [List.map_eq_nil_iff] at e
    exact absurd e hne
  · obtain ⟨t1, t2, _⟩ := r3 b e1
    have okb := okF b e2
    have b0 : 0 < b.2.2.toInt := by have := okb.2.2; omega
    have six : (6 : Int32) * nI w + 3 = nI (6 * w + 3) := six_nI 3 (by omega) (by omega)
    refine ⟨τ', ?_, rf_71.trans (rf_mrf r2), g, mdl_mrf hm1 r2⟩
    unfold e_X10_isRaised
    rw [six, if_pos (mib_nI (by omega) (by decide)), nIc (by omega), shl_nI w (by omega), r1, ob]
    show (if eL τ' 69 11 * c.2.2 - c.2.1 * eL τ' 69 12 < 0 then some (0, τ') else some (1, τ')) = _
    rw [t1, t2]
    have sg := ro_s okb okc
    have z : (0 : Int64).toInt = 0 := rfl
    have key : ml (some c) (dw d w 3).toInt w 1000000000 (al d O.testBit) ≤ g.toInt ↔ c.2.1.toInt * b.2.2.toInt ≤ b.2.1.toInt * c.2.2.toInt := by
      rw [ml_le]
      constructor
      · rintro (h | ⟨r, hr, hb, hn⟩)
        · omega
        · rw [nd_iff q0, ← val r hr hb] at hn
          have mem : shf w (g.toInt64 - (dw d w 3).toInt64) r ∈ ((al d O.testBit).filter fun r => r.1.testBit w).map (shf w (g.toInt64 - (dw d w 3).toInt64)) := List.mem_map.mpr ⟨r, List.mem_filter.mpr ⟨hr, hb⟩, rfl⟩
          have okr := okF _ mem
          have top := gtr_f.mp (e3 _ mem)
          exact fr_le' (x := c.2.1.toInt) (y := c.2.2.toInt) (u := (shf w (g.toInt64 - (dw d w 3).toInt64) r).2.1.toInt) (v := (shf w (g.toInt64 - (dw d w 3).toInt64) r).2.2.toInt) (p := b.2.1.toInt) (q := b.2.2.toInt) q0 (by have := okr.2.2; omega) b0 hn top
      · intro h
        obtain ⟨r, hr, e⟩ := List.mem_map.mp e2
        obtain ⟨hr, hb⟩ := List.mem_filter.mp hr
        refine Or.inr ⟨r, hr, hb, ?_⟩
        rw [nd_iff q0, ← val r hr hb, e]
        have : b.2.2 = r.2.2 := by rw [← e]; rfl
        rw [← this]
        exact h
    by_cases q : ml (some c) (dw d w 3).toInt w 1000000000 (al d O.testBit) ≤ g.toInt
    · have := key.mp q
      rw [if_pos q, if_neg (by rw [lt64, sg, z]; omega)]
    · have : ¬ c.2.1.toInt * b.2.2.toInt ≤ b.2.1.toInt * c.2.2.toInt := fun x => q (key.mpr x)
      rw [if_neg q, if_pos (by rw [lt64, sg, z]; omega)]
theorem search {d : CD} {w : Nat} {x2 : Int32} {p q : Int64} {m : Int} (H : ∀ (g : Int32) τ, -999999999 ≤ g.toInt → g.toInt ≤ 999999999 → (∃ v, mdl τ (setW d w 3 v)) → ∃ τ', e_X10_isRaised (nI w) g x2 p q τ = some (if m ≤ g.toInt then 1 else 0, τ') ∧ rf τ τ' ∧ ∃ v, mdl τ' (setW d w 3 v)) : ∀ f (lo hi : Int32) τ, -999999999 ≤ lo.toInt → hi.toInt ≤ 999999999 → lo.toInt ≤ (if -999999999 < m then m else -999999999) → (if -999999999 < m then m else -999999999) ≤ hi.toInt → (hi.toInt - lo.toInt).toNat < f → (∃ v, mdl τ (setW d w 3 v)) → ∃ τ', e_X10_raised_L83 (nI w) f x2 p q lo hi τ = some (Int32.ofInt (if -999999999 < m then m else -999999999), τ') ∧ rf τ τ' ∧ ∃ v, mdl τ' (setW d w 3 v) := by
  intro f
  induction f with
  | zero => intro lo hi τ h1 h2 h3 h4 h5; omega
  | succ f ih =>
    intro lo hi τ h1 h2 h3 h4 h5 hm
    simp only [e_X10_raised_L83]
    by_cases c : hi ≤ lo
    · rw [if_pos c]
      rw [le32] at c
      refine ⟨τ, ?_, rf.refl τ, hm⟩
      have : lo = Int32.ofInt (if -999999999 < m then m else -999999999) := by
        rw [eq32, Int32.toInt_ofInt, bm32] <;> omega
      rw [← this]
    · rw [if_neg c]
      rw [le32] at c
      have e1 : (hi - lo).toInt = hi.toInt - lo.toInt := sub32 (by omega) (by omega)
      have e2 : ((hi - lo) / 2).toInt = (hi.toInt - lo.toInt) / 2 := by
        rw [Int32.toInt_div, e1, show (2 : Int32).toInt = 2 from rfl, Int.tdiv_eq_ediv_of_nonneg (by omega), bm32 (by omega) (by omega)]
      have e3 : (lo + (hi - lo) / 2).toInt = lo.toInt + (hi.toInt - lo.toInt) / 2 := by
        rw [add32, e2] <;> rw [e2] <;> omega
      obtain ⟨τ1, r1, r2, r3⟩ := H (lo + (hi - lo) / 2) τ (by rw [e3]; omega) (by rw [e3]; omega) hm
      rw [r1, ob]
      have e4 : (lo + (hi - lo) / 2 + 1).toInt = lo.toInt + (hi.toInt - lo.toInt) / 2 + 1 := by
        rw [add32, e3, show (1 : Int32).toInt = 1 from rfl] <;> rw [e3, show (1 : Int32).toInt = 1 from rfl] <;> omega
      by_cases q : m ≤ (lo + (hi - lo) / 2).toInt
      · rw [if_pos q]
        show ∃ τ', (if (1 : Int32) = 0 then _ else _) = _ ∧ _
        rw [if_neg (by decide)]
        rw [e3] at q
        obtain ⟨τ', s1, s2, s3⟩ := ih lo (lo + (hi - lo) / 2) τ1 h1 (by rw [e3]; omega) h3 (by rw [e3]; split <;> omega) (by rw [e3]; omega) r3
        exact ⟨τ', s1, r2.trans s2, s3⟩
      · rw [if_neg q]
        show ∃ τ', (if (0 : Int32) = 0 then _ else _) = _ ∧ _
        rw [if_pos rfl]
        rw [e3] at q
        obtain ⟨τ', s1, s2, s3⟩ := ih (lo + (hi - lo) / 2 + 1) hi τ1 (by rw [e4]; omega) h2 (by rw [e4]; rw [if_pos (by omega)]; omega) h4 (by rw [e4]; omega) r3
        exact ⟨τ', s1, r2.trans s2, s3⟩
theorem g3' (σ : ES) : e_X10_finds 3 σ = some (-2000000001 - nI 3, gx 3 σ) := g3 σ
theorem rf_gx {σ σ' : ES} {k : Nat} (h : rf σ σ') : rf (gx k σ) (gx k σ') := by
  refine ⟨fun a b q r => ?_, fun a b q => h.2 a b q⟩
  simp only [gx, eI_uI]
  rw [h.1 a b q r, h.1 70 k (by omega) (by omega)]
theorem mdl_gx (k : Nat) {σ : ES} {d : CD} (h : mdl σ d) : mdl (gx k σ) d := mdl_c h (fun _ _ => rfl) (fun _ => rfl) (fun _ => rfl) (fun _ => rfl)
theorem sim_raise : Sim_raise Rel := by
  intro σ h a
  have hR := h
  obtain ⟨⟨d, ok, hc, hm⟩, h2, h3, h4, h5, h6⟩ := h
  have h14 := ok.2.2.1
  by_cases q0 : ir 0 ((dN d : Int) - 1) a = true
  · obtain ⟨w, hw, hw', rfl⟩ := nI_ir q0
    obtain ⟨σ1, g1, g2, g3, g4⟩ := gather1 ok (nI w) hc
    obtain ⟨O, hO'⟩ : ∃ O, O = om d (dN d) ||| 2 ^ w := ⟨_, rfl⟩
    have oml : om d (dN d) < 16384 := om_14 d h14
    have hO : O < 16384 := by rw [hO']; exact or14 oml (by omega)
    have opE : ∀ u, u < dN d → opn d (nI w) u = O.testBit u := by
      intro u hu
      rw [hO', Nat.testBit_or, om_bit d (dN d) u hu, Nat.testBit_two_pow]
      unfold opn
      have : nI u = nI w ↔ w = u := by
        rw [nI_i (by omega) (by omega)]
        exact eq_comm
      by_cases x : dw d u 5 = 0 <;> by_cases y : w = u <;> simp [x, y, this]
    have eL' : al d (opn d (nI w)) = al d O.testBit := al_congr opE
    rw [eL'] at g3
    have len := al_len ok O.testBit
    have okL := al_ok ok O.testBit
    have R1 : Rel σ1 := Rel_kp hR (kp_gf g2)
    have c1 : cls σ1 1 d := cls_gf (by decide) hc g2
    have m1 : mdl σ1 d := mdl_gf hm g2
    obtain ⟨x, y1, y2⟩ := best_c g3 (by omega) okL (m := 2 ^ w) (p2_14 (by omega))
    rw [fil_no] at y2
    have cc := raise_C ok hw c1 g3 (by omega) okL y2 mN 0 1000000000 (by omega) (mN_big (by omega)) (by decide) (by decide)
    have C : e_X9_raise (nI w) σ = e_X9_raise_L50 (nI w) mN (nI (2 ^ w)) x 1000000000 (nI 0) σ1 := by
      simp only [e_X9_raise, c_isWay ok hc, q0, ob, bi_0, Bool.true_eq_false, if_false, g1]
      rw [shl_nI w (by omega), y1, ob]
      rfl
    have t9 : (1000000000 : Int64).toInt = 1000000000 := rfl
    rw [t9, show (al d O.testBit).drop 0 = al d O.testBit from rfl] at cc
    rw [← C] at cc
    have six : (6 : Int32) * nI w + 3 = nI (6 * w + 3) := six_nI 3 (by omega) (by omega)
    have RM : ∀ τ, mdl τ d → e_X10_raise (nI w) τ = (e_X10_raised (nI w) τ).bind fun r5 => some (r5.1, uI r5.2 71 (6 * w + 3) (dw d w 3)) := by
      intro τ ht
      simp only [e_X10_raise, m_isWay ok ht, q0, ob, bi_0, Bool.true_eq_false, if_false, m_at ok ht hw 3 (by decide) 3 rfl, six, mib_nI (show 6 * w + 3 < 84 by omega) (by decide), if_true, nIc (show 6 * w + 3 < 2147483648 by omega)]
    have back : ∀ τ v, mdl τ (setW d w 3 v) → mdl (uI τ 71 (6 * w + 3) (dw d w 3)) d := by
      intro τ v ht
      have := mdl_setW ht w 3 (dw d w 3) (by decide)
      rw [setW_ww, setW_self] at this
      exact this
    have none' : e_X9_raise (nI w) σ = some (-2000000001 - nI 3, fx 3 σ1) → (∃ τ v, e_X10_raised (nI w) (fx 3 σ1) = some (-2000000001 - nI 3, gx 3 τ) ∧ rf (fx 3 σ1) τ ∧ mdl τ (setW d w 3 v)) → ∃ (r : Int32) (σ1 : ES) (σ2 : ES), e_X9_raise (nI w) σ = some (r, σ1) ∧ e_X10_raise (nI w) σ1 = some (r, σ2) ∧ Rel σ2 := by
      rintro k1 ⟨τ, v, k2, k3, k4⟩
      refine ⟨_, _, uI (gx 3 τ) 71 (6 * w + 3) (dw d w 3), k1, ?_, ?_⟩
      · rw [RM _ (mdl_fx 3 m1), k2, ob]
      · have cc : cls (gx 3 (fx 3 σ1)) 1 d := cls_c c1 (fun k j h1 h2 => by simp only [gx, fx, eI_uI]; rw [if_neg (by omega), if_neg (by omega)])
        exact Rel_rf (Rel_find 3 R1) ok cc ((rf_gx k3).trans rf_71) (back _ v (mdl_gx 3 k4))
    have some' : ∀ r, e_X9_raise (nI w) σ = some (r, σ1) → (∃ τ v, e_X10_raised (nI w) σ1 = some (r, τ) ∧ rf σ1 τ ∧ mdl τ (setW d w 3 v)) → ∃ (r : Int32) (σ1 : ES) (σ2 : ES), e_X9_raise (nI w) σ = some (r, σ1) ∧ e_X10_raise (nI w) σ1 = some (r, σ2) ∧ Rel σ2 := by
      rintro r k1 ⟨τ, v, k2, k3, k4⟩
      refine ⟨_, _, uI τ 71 (6 * w + 3) (dw d w 3), k1, ?_, ?_⟩
      · rw [RM _ m1, k2, ob]
      · exact Rel_rf R1 ok c1 (k3.trans rf_71) (back _ v k4)
    have sho : nI (om d (dN d)) ||| ((1 : Int32) <<< (nI w &&& 31)) = nI O := by
      have := p2_14 (t := w) (by omega)
      rw [shl_nI w (by omega), or_nI (by omega) (by omega), hO']
    have self : ∀ τ, mdl τ d → mdl τ (setW d w 3 (dw d w 3)) := fun τ ht => by rw [setW_self]; exact ht
    by_cases e0 : ((al d O.testBit).filter fun r => r.1.testBit w) = []
    · have big : ¬ ml (bst ((al d O.testBit).filter fun r => !r.1.testBit w)) (dw d w 3).toInt w 1000000000 (al d O.testBit) ≤ 999999999 := by
        rw [ml_le]
        rintro (hh | ⟨r, hr, hb, _⟩)
        · omega
        · have : r ∈ ((al d O.testBit).filter fun r => r.1.testBit w) := List.mem_filter.mpr ⟨hr, hb⟩
          rw [e0] at this
          cases this
      rw [if_neg big] at cc
      refine none' cc ?_
      obtain ⟨τ, r1, r2, r3⟩ := rings_f ok (O := O) (m := 2 ^ w) hO (p2_14 (by omega)) (mdl_fx 3 m1)
      rw [fil_ye, e0] at r1
      refine ⟨τ, dw d w 3, ?_, rf_mrf r2, self _ (mdl_mrf (mdl_fx 3 m1) r2)⟩
      unfold e_X10_raised
      rw [open_eq ok (mdl_fx 3 m1), ob, sho, shl_nI w (by omega), r1, ob]
      show (if bi false = 0 then _ else _) = _
      rw [if_pos bi_f, g3', ob]
    · have first : ∀ τ, mdl τ d → ∃ τ1, mdl τ1 d ∧ mrf τ τ1 ∧ e_X10_raised (nI w) τ = ((e_X10_rings (nI (wo O w)) (0 : Int32) τ1).bind (fun r5 => if r5.1 = 0 then (some ((-999999999 : Int32), r5.2)) else ((e_X10_isRaised (nI w) (999999999 : Int32) (nI O) (eL r5.2 69 11) (eL r5.2 69 12) r5.2).bind (fun r7 => if r7.1 = 0 then ((e_X10_finds (3 : Int32) r7.2).bind (fun r9 => some (r9.1, r9.2))) else (e_X10_raised_L83 (nI w) mN (nI O) (eL r5.2 69 11) (eL r5.2 69 12) (-999999999 : Int32) (999999999 : Int32) r7.2))))) := by
        intro τ ht
        obtain ⟨τ1, r1, r2, r3⟩ := rings_f ok (O := O) (m := 2 ^ w) hO (p2_14 (by omega)) ht
        rw [fil_ye] at r1
        refine ⟨τ1, mdl_mrf ht r2, r2, ?_⟩
        have ss : (bst ((al d O.testBit).filter fun r => r.1.testBit w)).isSome = true := by
          rcases bst_top _ (fun r hr => okL r (List.mem_filter.mp hr).1 : ∀ r, r ∈ ((al d O.testBit).filter fun r => r.1.testBit w) → okR r) with ⟨_, e⟩ | ⟨b, e, _⟩
          · exact absurd e e0
          · rw [e]
            rfl
        rw [ss] at r1
        unfold e_X10_raised
        rw [open_eq ok ht, ob, sho, wo_nI hO (by omega), shl_nI w (by omega), r1, ob]
        show (if bi true = 0 then _ else _) = _
        rw [if_neg (by decide)]
      have elw : al d (wo O w).testBit = (al d O.testBit).filter fun r => !r.1.testBit w := by
        rw [← al_without]
        refine al_congr (fun u hu => ?_)
        rw [wo_bit hO]
      obtain ⟨rw0, hrw⟩ : ∃ r, r ∈ ((al d O.testBit).filter fun r => r.1.testBit w) := by
        cases hh : ((al d O.testBit).filter fun r => r.1.testBit w) with
        | nil => exact absurd hh e0
        | cons r _ => exact ⟨r, List.mem_cons_self ..⟩
      rcases bst_top _ (fun r hr => okL r (List.mem_filter.mp hr).1 : ∀ r, r ∈ ((al d O.testBit).filter fun r => !r.1.testBit w) → okR r) with ⟨rv, _⟩ | ⟨c, rv, hcm, _⟩
      · rw [rv] at cc
        have e1 : ml none (dw d w 3).toInt w 1000000000 (al d O.testBit) ≤ -999999999 := by
          rw [ml_le]
          exact Or.inr ⟨rw0, (List.mem_filter.mp hrw).1, (List.mem_filter.mp hrw).2, Int.le_refl _⟩
        rw [if_pos (by omega), if_neg (by omega)] at cc
        refine some' _ cc ?_
        obtain ⟨τ1, t1, t2, t3⟩ := first σ1 m1
        obtain ⟨τ2, r1, r2, r3⟩ := rings_f ok (O := wo O w) (m := 0) (wo_lt hO) (by omega) t1
        rw [fil_0', elw, rv] at r1
        have r1' : e_X10_rings (nI (wo O w)) 0 τ1 = some (bi false, τ2) := r1
        refine ⟨τ2, dw d w 3, ?_, (rf_mrf t2).trans (rf_mrf r2), self _ (mdl_mrf t1 r2)⟩
        rw [t3, r1', ob]
        show (if bi false = 0 then _ else _) = _
        rw [if_pos bi_f]
        rfl
      · have okc := okL c (List.mem_filter.mp hcm).1
        rw [rv] at cc
        have H : ∀ (g : Int32) τ, -999999999 ≤ g.toInt → g.toInt ≤ 999999999 → (∃ v, mdl τ (setW d w 3 v)) → ∃ τ', e_X10_isRaised (nI w) g (nI O) c.2.1 c.2.2 τ = some (if ml (some c) (dw d w 3).toInt w 1000000000 (al d O.testBit) ≤ g.toInt then 1 else 0, τ') ∧ rf τ τ' ∧ ∃ v, mdl τ' (setW d w 3 v) := fun g τ g1 g2 ⟨v, hv⟩ => isRaised_m ok hw hO okc e0 g1 g2 hv
        have second : ∀ τ, mdl τ d → ∃ τ3 v, rf τ τ3 ∧ mdl τ3 (setW d w 3 v) ∧ e_X10_raised (nI w) τ = (if (if ml (some c) (dw d w 3).toInt w 1000000000 (al d O.testBit) ≤ 999999999 then (1 : Int32) else 0) = 0 then ((e_X10_finds (3 : Int32) τ3).bind (fun r9 => some (r9.1, r9.2))) else (e_X10_raised_L83 (nI w) mN (nI O) c.2.1 c.2.2 (-999999999 : Int32) (999999999 : Int32) τ3)) := by
          intro τ ht
          obtain ⟨τ1, t1, t2, t3⟩ := first τ ht
          obtain ⟨τ2, r1, r2, r3⟩ := rings_f ok (O := wo O w) (m := 0) (wo_lt hO) (by omega) t1
          rw [fil_0', elw] at r1 r3
          obtain ⟨p1, p2, _⟩ := r3 c rv
          rw [rv] at r1
          have r1' : e_X10_rings (nI (wo O w)) 0 τ1 = some (bi true, τ2) := r1
          obtain ⟨τ3, s1, s2, v, s3⟩ := H 999999999 τ2 (by decide) (by decide) ⟨_, self _ (mdl_mrf t1 r2)⟩
          refine ⟨τ3, v, ((rf_mrf t2).trans (rf_mrf r2)).trans s2, s3, ?_⟩
          rw [t3, r1', ob]
          show (if bi true = 0 then _ else _) = _
          rw [if_neg (by decide)]
          show (e_X10_isRaised (nI w) 999999999 (nI O) (eL τ2 69 11) (eL τ2 69 12) τ2).bind _ = _
          rw [p1, p2, s1, ob]
          rfl
        by_cases q : ml (some c) (dw d w 3).toInt w 1000000000 (al d O.testBit) ≤ 999999999
        · rw [if_pos q] at cc
          refine some' _ cc ?_
          obtain ⟨τ3, v, s1, s2, s3⟩ := second σ1 m1
          rw [if_pos q, if_neg (by decide)] at s3
          obtain ⟨τ4, u1, u2, v', u3⟩ := search H mN (-999999999) 999999999 τ3 (by decide) (by decide) (by show -999999999 ≤ _; split <;> omega) (by show _ ≤ (999999999 : Int); split <;> omega) (mN_big (by decide)) ⟨v, s2⟩
          exact ⟨τ4, v', s3.trans u1, s1.trans u2, u3⟩
        · rw [if_neg q] at cc
          refine none' cc ?_
          obtain ⟨τ3, v, s1, s2, s3⟩ := second (fx 3 σ1) (mdl_fx 3 m1)
          rw [if_neg q, if_pos rfl, g3', ob] at s3
          exact ⟨τ3, v, s3, s1, s2⟩
  · have q0 : ir 0 ((dN d : Int) - 1) a = false := by simpa using q0
    refine ⟨-2000000001 - nI 0, fx 0 σ, gx 0 (fx 0 σ), ?_, ?_, Rel_find 0 hR⟩
    · simp only [e_X9_raise, c_isWay ok hc, q0, ob, bi_0, f0, if_true]
    · simp only [e_X10_raise, m_isWay ok (mdl_fx 0 hm), q0, ob, bi_0, g0, if_true]
