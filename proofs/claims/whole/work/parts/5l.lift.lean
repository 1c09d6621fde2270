/-! ===== lift: the reference; both ===== -/
def lrf (σ σ' : ES) : Prop := (∀ a b, eI σ' a b = eI σ a b) ∧ ∀ a b, a ≠ 74 → eL σ' a b = eL σ a b
theorem lrf.refl (σ : ES) : lrf σ σ := ⟨fun _ _ => rfl, fun _ _ _ => rfl⟩
theorem lrf.trans {σ τ υ : ES} (h : lrf σ τ) (g : lrf τ υ) : lrf σ υ := ⟨fun a b => (g.1 a b).trans (h.1 a b), fun a b q => (g.2 a b q).trans (h.2 a b q)⟩
theorem mdl_lrf {σ σ' : ES} {d : CD} (h : mdl σ d) (g : lrf σ σ') : mdl σ' d := mdl_c h (fun j _ => g.1 69 j) (fun j => g.1 71 j) (fun j => g.1 72 j) (fun j => g.1 73 j)
section
variable {d : CD} {a b : Int64}
theorem rl6 (ok : okD d) (a1 : -9000000000 ≤ a.toInt) (a2 : a.toInt ≤ 9000000000) (b1 : 0 ≤ b.toInt) (b2 : b.toInt ≤ 20000000) : ∀ f k σ z M x5, k ≤ dN d → dN d - k < f → mdl σ d → er σ (dP d) z → bd z M → M + 42000000000000000 * ((dN d - k : Nat) : Int) ≤ 5000000000000000000 → (x5 = 0 ∨ x5 = 1) → ∃ y σ', e_X10_lifts_L6 a b f x5 (nI k) σ = some (y, σ') ∧ lrf σ σ' ∧ er σ' (dP d) ((List.range' k (dN d - k)).foldl (rz d a.toInt b.toInt) z) ∧ (y = 0 ∨ y = 1) ∧ (y = 0 → x5 = 0 ∧ (List.range' k (dN d - k)).foldl (rz d a.toInt b.toInt) z = z ∧ ∀ u, k ≤ u → u < dN d → cnd d a.toInt b.toInt z u) ∧ (x5 = 0 → (∀ u, k ≤ u → u < dN d → cnd d a.toInt b.toInt z u) → y = 0) := by
  have h14 := ok.2.2.1
  have P6 := ok.1
  intro f
  induction f with
  | zero => intro k σ z M x5 h1 h2; omega
  | succ f ih =>
    intro k σ z M x5 h1 h2 hm he hb hM h5
    have le : nI (dN d) ≤ nI k ↔ dN d ≤ k := nLe (by omega) (by omega)
    simp only [e_X10_lifts_L6, hm.2.2.1]
    by_cases c0 : dN d ≤ k
    · rw [if_pos (le.mpr c0), if_pos h5, show dN d - k = 0 by omega]
      exact ⟨x5, σ, rfl, lrf.refl σ, he, h5, fun e => ⟨e, rfl, fun u u1 u2 => by omega⟩, fun e _ => e⟩
    · have hk : k < dN d := by omega
      obtain ⟨ew, lw⟩ := wf_eq ok hk
      obtain ⟨et, lt⟩ := wt_eq ok hk
      obtain ⟨w1, w2, w3, w4, w5⟩ := Wg_b ok a1 a2 b1 b2 hk
      rw [if_neg (fun x => c0 (le.mp x)), m_at ok hm hk 1 (by decide) 1 rfl, ob, ew, if_pos (mib_nI (by omega) (by decide)), nIc (by omega), m_at ok hm hk 5 (by decide) 5 rfl, ob, nI_1, show dN d - k = (dN d - (k + 1)) + 1 by omega, List.range'_succ, List.foldl_cons]
      have skip : rz d a.toInt b.toInt z k = z → cnd d a.toInt b.toInt z k → ∃ y σ', e_X10_lifts_L6 a b f x5 (nI (k + 1)) σ = some (y, σ') ∧ lrf σ σ' ∧ er σ' (dP d) ((List.range' (k + 1) (dN d - (k + 1))).foldl (rz d a.toInt b.toInt) (rz d a.toInt b.toInt z k)) ∧ (y = 0 ∨ y = 1) ∧ (y = 0 → x5 = 0 ∧ (List.range' (k + 1) (dN d - (k + 1))).foldl (rz d a.toInt b.toInt) (rz d a.toInt b.toInt z k) = z ∧ ∀ u, k ≤ u → u < dN d → cnd d a.toInt b.toInt z u) ∧ (x5 = 0 → (∀ u, k ≤ u → u < dN d → cnd d a.toInt b.toInt z u) → y = 0) := by
        intro e1 e2
        rw [e1]
        obtain ⟨y, σ', r1, r2, r3, r4, r5, r6⟩ := ih (k + 1) σ z M x5 (by omega) (by omega) hm he hb (by omega) h5
        refine ⟨y, σ', r1, r2, r3, r4, fun e => ?_, fun e g => r6 e (fun u u1 u2 => g u (by omega) u2)⟩
        obtain ⟨s1, s2, s3⟩ := r5 e
        refine ⟨s1, s2, fun u u1 u2 => ?_⟩
        by_cases cu : u = k
        · rw [cu]
          exact e2
        · exact s3 u (by omega) u2
      by_cases c1 : dw d k 5 = 0
      · have ho : opw d k = true := decide_eq_true c1
        rw [if_pos c1]
        rcases he (wf d k) lw with ⟨z1, r1⟩ | ⟨x, z1, r1⟩
        · rw [if_pos (show eL σ 74 (wf d k) = -9223372036854775808 from r1)]
          exact skip (rz_none z1) (fun _ x hx => by rw [z1] at hx; cases hx)
        · have bx := hb _ x z1
          have nm : ¬ eL σ 74 (wf d k) = -9223372036854775808 := by
            intro q
            have := eq64.mp q
            have e : (-9223372036854775808 : Int64).toInt = -9223372036854775808 := rfl
            rw [r1, e] at this
            omega
          have v1 : (eL σ 74 (wf d k) + b * bR d k).toInt = x + b.toInt * (bR d k).toInt := by
            have p1 := ab_le (a := 1100000000) (b := 20000000) (x := (bR d k).toInt) (y := b.toInt) (bR_b ok hk).1 (bR_b ok hk).2 b1 b2
            rw [Int.mul_comm (bR d k).toInt b.toInt] at p1
            rw [add64, r1, w1] <;> rw [r1, w1] <;> omega
          have v2 : (eL σ 74 (wf d k) + b * bR d k - a * lR d k).toInt = x + Wg d a.toInt b.toInt k := by
            unfold Wg at w4 w5 ⊢
            rw [sub64, v1, w2] <;> (try rw [v1, w2]) <;> omega
          rw [if_neg nm, m_brings ok hm hk, ob, m_lasts ok hm hk, ob, m_at ok hm hk 2 (by decide) 2 rfl, ob, et, if_pos (mib_nI (by omega) (by decide)), nIc (show wt d k < 2147483648 by omega), ob, if_pos (mib_nI (by omega) (by decide)), nIc (show wt d k < 2147483648 by omega), show (brv (dw d k 0) (dw d k 3) (nI (dW d))).toInt64 = bR d k from rfl, show (lsv (dw d k 0) (dw d k 4) (nI (dW d))).toInt64 = lR d k from rfl]
          have up : isLow (z (wt d k)) (x + Wg d a.toInt b.toInt k) = true → ∃ y σ', e_X10_lifts_L6 a b f 1 (nI (k + 1)) (uL σ 74 (wt d k) (eL σ 74 (wf d k) + b * bR d k - a * lR d k)) = some (y, σ') ∧ lrf σ σ' ∧ er σ' (dP d) ((List.range' (k + 1) (dN d - (k + 1))).foldl (rz d a.toInt b.toInt) (rz d a.toInt b.toInt z k)) ∧ (y = 0 ∨ y = 1) ∧ (y = 0 → x5 = 0 ∧ (List.range' (k + 1) (dN d - (k + 1))).foldl (rz d a.toInt b.toInt) (rz d a.toInt b.toInt z k) = z ∧ ∀ u, k ≤ u → u < dN d → cnd d a.toInt b.toInt z u) ∧ (x5 = 0 → (∀ u, k ≤ u → u < dN d → cnd d a.toInt b.toInt z u) → y = 0) := by
            intro lo
            have e1 : er (uL σ 74 (wt d k) (eL σ 74 (wf d k) + b * bR d k - a * lR d k)) (dP d) (rz d a.toInt b.toInt z k) := by
              rw [rz_yes ho z1 lo]
              intro p hp
              show ((if p = wt d k then some (x + Wg d a.toInt b.toInt k) else z p) = none ∧ _) ∨ ∃ x', (if p = wt d k then some (x + Wg d a.toInt b.toInt k) else z p) = some x' ∧ _
              rw [eL_uL]
              by_cases c : p = wt d k
              · rw [if_pos c, if_pos ⟨rfl, c⟩]
                exact Or.inr ⟨_, rfl, v2⟩
              · rw [if_neg c, if_neg (fun x => c x.2)]
                exact he p hp
            have f1 : lrf σ (uL σ 74 (wt d k) (eL σ 74 (wf d k) + b * bR d k - a * lR d k)) := ⟨fun _ _ => rfl, fun p q n => by rw [eL_uL, if_neg (by omega)]⟩
            obtain ⟨y, σ', s1, s2, s3, s4, s5, s6⟩ := ih (k + 1) _ (rz d a.toInt b.toInt z k) (M + 42000000000000000) 1 (by omega) (by omega) (mdl_lrf hm f1) e1 (rz_bd hk (fun u hu => (Wg_b ok a1 a2 b1 b2 hu).2.2.2) hb) (by omega) (Or.inr rfl)
            refine ⟨y, σ', s1, f1.trans s2, s3, s4, fun e => absurd (s5 e).1 (by decide), fun _ g => ?_⟩
            obtain ⟨t, g1, g2⟩ := g k (Nat.le_refl _) hk ho x z1
            rw [g1] at lo
            have : t < x + Wg d a.toInt b.toInt k := of_decide_eq_true lo
            omega
          rcases he (wt d k) lt with ⟨z2, s1⟩ | ⟨t, z2, s1⟩
          · have : ¬ eL σ 74 (wf d k) + b * bR d k - a * lR d k ≤ eL σ 74 (wt d k) := by
              rw [le64, v2, s1, MINL_t]
              omega
            rw [if_neg this]
            exact up (by rw [z2]; rfl)
          · by_cases c : x + Wg d a.toInt b.toInt k ≤ t
            · rw [if_pos (show eL σ 74 (wf d k) + b * bR d k - a * lR d k ≤ eL σ 74 (wt d k) by rw [le64, v2, s1]; exact c)]
              refine skip (rz_no z1 ?_) (fun _ x' hx => ?_)
              · rw [z2]
                exact fun q => by
                  have : t < x + Wg d a.toInt b.toInt k := of_decide_eq_true q
                  omega
              · rw [z1] at hx
                have : x = x' := Option.some.inj hx
                subst this
                exact ⟨t, z2, c⟩
            · rw [if_neg (show ¬ eL σ 74 (wf d k) + b * bR d k - a * lR d k ≤ eL σ 74 (wt d k) by rw [le64, v2, s1]; exact c)]
              exact up (by rw [z2]; exact decide_eq_true (by omega))
      · rw [if_neg c1]
        have ho : ¬ opw d k = true := fun x => c1 (of_decide_eq_true x)
        exact skip (rz_shut ho) (fun x => absurd x ho)
theorem rl103 (ok : okD d) (a1 : -9000000000 ≤ a.toInt) (a2 : a.toInt ≤ 9000000000) (b1 : 0 ≤ b.toInt) (b2 : b.toInt ≤ 20000000) (H : ∀ r, r ∈ rn d → b.toInt * r.2.1.toInt - a.toInt * r.2.2.toInt ≤ 0) {s e : Nat} (hs : s < dP d) (he6 : e < 6) (q : Int32) : ∀ f j σ, j ≤ dP d - 1 → dP d - j + 1 < f → mdl σ d → er σ (dP d) (rds d a.toInt b.toInt j (hz0 s)) → ∃ σ', e_X10_lift_L103 q (nI e) f a b 1 σ = (if eL σ' 74 e = MINL then ((e_X10_farFinds (3 : Int32) σ').bind (fun r2 => some (r2.1, r2.2))) else (some ((eL σ' 74 e), σ'))) ∧ lrf σ σ' ∧ er σ' (dP d) (rds d a.toInt b.toInt (dP d - 1) (hz0 s)) := by
  have h14 := ok.2.2.1
  have P6 := ok.1
  intro f
  induction f with
  | zero => intro j σ h1 h2; omega
  | succ f ih =>
    intro j σ h1 h2 hm he
    simp only [e_X10_lift_L103]
    rw [if_neg (by decide)]
    have bb := rds_bd (a := a.toInt) (b := b.toInt) ok (fun u hu => (Wg_b ok a1 a2 b1 b2 hu).2.2.2) s j
    obtain ⟨y, σ1, r1, r2, r3, r4, r5, r6⟩ := rl6 ok a1 a2 b1 b2 mN 0 σ _ _ 0 (by omega) (mN_big (by omega)) hm he bb (by omega) (Or.inl rfl)
    have r1' : e_X10_lifts a b σ = some (y, σ1) := r1
    have rdE : (List.range' 0 (dN d - 0)).foldl (rz d a.toInt b.toInt) (rds d a.toInt b.toInt j (hz0 s)) = rds d a.toInt b.toInt (j + 1) (hz0 s) := by
      show _ = rd d a.toInt b.toInt (rds d a.toInt b.toInt j (hz0 s))
      unfold rd
      rw [List.range_eq_range']
      rfl
    rw [rdE] at r3 r5
    rw [r1', ob]
    rcases r4 with y0 | y1
    · obtain ⟨_, fx', st⟩ := r5 y0
      have st' : stb d a.toInt b.toInt (rds d a.toInt b.toInt j (hz0 s)) := fun u hu => st u (by omega) hu
      have fin := rds_fix st' (dP d - 1 - j)
      rw [show j + (dP d - 1 - j) = dP d - 1 by omega] at fin
      obtain ⟨f, rfl⟩ : ∃ f', f = f' + 1 := ⟨f - 1, by omega⟩
      refine ⟨σ1, ?_, r2, by rw [fin, ← fx']; exact r3⟩
      show e_X10_lift_L103 q (nI e) (f + 1) a b y σ1 = _
      simp only [e_X10_lift_L103]
      rw [if_pos y0, if_pos (mib_nI he6 (by decide)), nIc (by omega)]
      rfl
    · have nj : j < dP d - 1 := by
        by_cases c : j < dP d - 1
        · exact c
        · have st := top_stb (a := a.toInt) (b := b.toInt) ok H hs (k := j) (by omega)
          have := r6 rfl (fun u _ hu => st u hu)
          rw [y1] at this
          exact absurd this (by decide)
      obtain ⟨σ', t1, t2, t3⟩ := ih (j + 1) σ1 (by omega) (by omega) (mdl_lrf hm r2) r3
      refine ⟨σ', ?_, r2.trans t2, t3⟩
      rw [← t1, y1]
theorem rl65 (ok : okD d) {s : Nat} (hs : s < 6) (e : Int32) : ∀ f k σ, k ≤ dP d → dP d - k < f → mdl σ d → (∀ p, p < k → eL σ 74 p = if p = s then 0 else MINL) → ∃ σ', e_X10_lift_L65 (nI s) e f a b (nI k) σ = e_X10_lift_L103 (nI s) e mN a b 1 σ' ∧ lrf σ σ' ∧ ∀ p, p < dP d → eL σ' 74 p = if p = s then 0 else MINL := by
  have P6 := ok.1
  intro f
  induction f with
  | zero => intro k σ h1 h2; omega
  | succ f ih =>
    intro k σ h1 h2 hm h
    have le : nI (dP d) ≤ nI k ↔ dP d ≤ k := nLe (by omega) (by omega)
    simp only [e_X10_lift_L65, hm.1]
    by_cases c : dP d ≤ k
    · rw [if_pos (le.mpr c)]
      exact ⟨σ, rfl, lrf.refl σ, fun p hp => h p (by omega)⟩
    · rw [if_neg (fun x => c (le.mp x)), if_pos (mib_nI (show k < 6 by omega) (by decide)), if_pos (mib_nI (show k < 6 by omega) (by decide)), nIc (by omega), nI_1]
      have go : ∀ v : Int64, v = (if k = s then 0 else MINL) → ∃ σ', e_X10_lift_L65 (nI s) e f a b (nI (k + 1)) (uL σ 74 k v) = e_X10_lift_L103 (nI s) e mN a b 1 σ' ∧ lrf σ σ' ∧ ∀ p, p < dP d → eL σ' 74 p = if p = s then 0 else MINL := by
        intro v hv
        have f1 : lrf σ (uL σ 74 k v) := ⟨fun _ _ => rfl, fun p q n => by rw [eL_uL, if_neg (by omega)]⟩
        obtain ⟨σ', r1, r2, r3⟩ := ih (k + 1) (uL σ 74 k v) (by omega) (by omega) (mdl_lrf hm f1) (fun p hp => by
          rw [eL_uL]
          by_cases e : p = k
          · rw [if_pos (show 74 = 74 ∧ p = k from ⟨rfl, e⟩), e]
            exact hv
          · rw [if_neg (show ¬ (74 = 74 ∧ p = k) from fun x => e x.2)]
            exact h p (by omega))
        exact ⟨σ', r1, f1.trans r2, r3⟩
      by_cases e1 : k = s
      · rw [if_pos ((nI_i (by omega) (by omega)).mpr e1)]
        exact go 0 (if_pos e1).symm
      · rw [if_neg (fun x => e1 ((nI_i (by omega) (by omega)).mp x))]
        exact go (-9223372036854775808) (if_neg e1).symm
end
theorem kp_lfr {σ σ' : ES} (g : lfr σ σ') : kp σ σ' := by
  refine ⟨fun k j q => g.1 k j ?_, fun k j q => g.2 k j ?_⟩
  · rintro rfl
    simp [qK, qI, qT, qS, qF] at q
  · rintro rfl
    simp [qL, qB] at q
theorem kp_lrf {σ σ' : ES} (g : lrf σ σ') : kp σ σ' := by
  refine ⟨fun k j q => g.1 k j, fun k j q => g.2 k j ?_⟩
  rintro rfl
  simp [qL, qB] at q
theorem mdl_lfr {σ σ' : ES} {d : CD} (h : mdl σ d) (g : lfr σ σ') : mdl σ' d := mdl_c h (fun j _ => g.1 69 j (by omega)) (fun j => g.1 71 j (by omega)) (fun j => g.1 72 j (by omega)) (fun j => g.1 73 j (by omega))
theorem sim_lift : Sim_lift Rel := by
  intro σ h x1 x2
  have hR := h
  obtain ⟨⟨d, ok, hc, hm⟩, h2, h3, h4, h5, h6⟩ := h
  have h14 := ok.2.2.1
  have P6 := ok.1
  have bey : e_X9_lift x1 x2 σ = some (-4000000000000000001 - (nI 0).toInt64, fx 0 σ) → e_X10_lift x1 x2 (fx 0 σ) = some (-4000000000000000001 - (nI 0).toInt64, gx 0 (fx 0 σ)) → ∃ (r : Int64) (σ1 : ES) (σ2 : ES), e_X9_lift x1 x2 σ = some (r, σ1) ∧ e_X10_lift x1 x2 σ1 = some (r, σ2) ∧ Rel σ2 := fun q1 q2 => ⟨_, _, _, q1, q2, Rel_find 0 hR⟩
  have mf0 := mdl_fx 0 hm
  by_cases q1 : ir 0 ((dP d : Int) - 1) x1 = true
  · by_cases q2 : ir 0 ((dP d : Int) - 1) x2 = true
    · obtain ⟨s, hs, hs', rfl⟩ := nI_ir q1
      obtain ⟨e, he, he', rfl⟩ := nI_ir q2
      obtain ⟨x, σ1, y1, y2, y3, y4, y5⟩ := both ok hc hm
      have R1 : Rel σ1 := Rel_kp hR (kp_gf y2)
      have c1 : cls σ1 1 d := cls_gf (by decide) hc y2
      have m1 : mdl σ1 d := mdl_gf hm y2
      rcases y5 with ⟨x0, b0⟩ | ⟨j, t, x0, hj, gj, b0, okb, s1, s2⟩
      · obtain ⟨σ', n1, n2, n3⟩ := ringsNow_m ok (mdl_fx 3 m1)
        refine ⟨-4000000000000000001 - (nI 3).toInt64, fx 3 σ1, gx 3 σ', ?_, ?_, Rel_kp (Rel_find 3 R1) (kp_gx (kp_mrf n2))⟩
        · simp only [e_X9_lift, c_isPlace ok hc, q1, q2, ob, bi_0, Bool.true_eq_false, if_false, y1]
          rw [if_pos x0, lf3, ob]
        · simp only [e_X10_lift, m_isPlace ok (mdl_fx 3 m1), q1, q2, ob, bi_0, Bool.true_eq_false, if_false, n1]
          rw [b0]
          show (if Option.isSome none = false then _ else _) = _
          rw [if_pos (show Option.isSome (none : Option Rg) = false from rfl), lg3, ob]
      · obtain ⟨a, b, l1, l2, l3, g, gp, gA, gB⟩ := low_R okb
        have l3' := l3 1 (by decide)
        have tA := okb.2.1
        have tB := okb.2.2
        have b1 : 1 ≤ b.toInt := by
          by_cases c : 1 ≤ b.toInt
          · exact c
          · have : b.toInt * g ≤ 0 * g := Int.mul_le_mul_of_nonneg_right (by omega) (by omega)
            omega
        have b2 : b.toInt ≤ 20000000 := by
          have : b.toInt * 1 ≤ b.toInt * g := Int.mul_le_mul_of_nonneg_left gp (by omega)
          omega
        have a12 : -9000000000 ≤ a.toInt ∧ a.toInt ≤ 9000000000 := by
          by_cases c : 0 ≤ a.toInt
          · have : a.toInt * 1 ≤ a.toInt * g := Int.mul_le_mul_of_nonneg_left gp c
            omega
          · have : a.toInt * g ≤ a.toInt * 1 := Int.mul_le_mul_of_nonpos_left (by omega) gp
            omega
        have H : ∀ r, r ∈ rn d → b.toInt * r.2.1.toInt - a.toInt * r.2.2.toInt ≤ 0 := by
          intro r hr
          rcases bst_top (rn d) (rn_ok ok) with ⟨n, _⟩ | ⟨b', n1, _, n3⟩
          · rw [b0] at n
            cases n
          · rw [b0] at n1
            have : t = b' := Option.some.inj n1
            subst this
            have g0 := gtr_f.mp (n3 r hr)
            rw [gA, gB] at g0
            have e1 : r.2.1.toInt * (b.toInt * g) = (b.toInt * r.2.1.toInt) * g := by rw [← Int.mul_assoc, Int.mul_comm r.2.1.toInt]
            have e2 : a.toInt * g * r.2.2.toInt = (a.toInt * r.2.2.toInt) * g := by rw [Int.mul_assoc, Int.mul_comm g, ← Int.mul_assoc]
            rw [e1, e2] at g0
            have := Int.le_of_mul_le_mul_right g0 (by omega)
            omega
        obtain ⟨σ2, k1, k2, k3⟩ := lifts_c ok (op := opn d (-1)) (a := a) (b := b) a12.1 a12.2 (by omega) b2 (show s < 6 by omega) (show e < 6 by omega) c1 y4
        have C : e_X9_lift (nI s) (nI e) σ = if eI σ2 33 e = 0 then ((e_X9_longFinding (3 : Int32) σ2).bind (fun r17 => some (r17.1, r17.2))) else some (eL σ2 32 e, σ2) := by
          simp only [e_X9_lift, c_isPlace ok hc, q1, q2, ob, bi_0, Bool.true_eq_false, if_false, y1]
          rw [x0, if_neg (nI_m1 (by omega)), if_pos (mib_nI hj (by decide)), nIc (by omega), s1, s2, l1, ob, l3'.1, ob, k1, ob, if_pos (mib_nI (show e < 6 by omega) (by decide)), nIc (by omega)]
        have R2 : Rel σ2 := Rel_kp R1 (kp_lfr k2)
        have m2 := mdl_lfr m1 k2
        have M : ∀ τ, mdl τ d → ∃ σ', kp τ σ' ∧ er σ' (dP d) (rds d a.toInt b.toInt (dP d - 1) (hz0 s)) ∧ e_X10_lift (nI s) (nI e) τ = (if eL σ' 74 e = MINL then ((e_X10_farFinds (3 : Int32) σ').bind (fun r2 => some (r2.1, r2.2))) else (some ((eL σ' 74 e), σ'))) := by
          intro τ ht
          obtain ⟨τ1, n1, n2, n3⟩ := ringsNow_m ok ht
          obtain ⟨p1, p2, _⟩ := n3 t b0
          have t1 := mdl_mrf ht n2
          obtain ⟨τ2, u1, u2, u3⟩ := rl65 ok (a := a) (b := b) (show s < 6 by omega) (nI e) mN 0 τ1 (by omega) (mN_big (by omega)) t1 (fun p hp => by omega)
          have e0 : er τ2 (dP d) (rds d a.toInt b.toInt 0 (hz0 s)) := by
            intro p hp
            show ((if p = s then some (0 : Int) else none) = none ∧ _) ∨ ∃ x, (if p = s then some (0 : Int) else none) = some x ∧ _
            rw [u3 p hp]
            by_cases c : p = s
            · rw [if_pos c, if_pos c]
              exact Or.inr ⟨0, rfl, rfl⟩
            · rw [if_neg c, if_neg c]
              exact Or.inl ⟨rfl, rfl⟩
          obtain ⟨τ3, v1, v2, v3⟩ := rl103 ok a12.1 a12.2 (by omega) b2 H hs (show e < 6 by omega) (nI s) mN 0 τ2 (by omega) (mN_big (by omega)) (mdl_lrf t1 u2) e0
          refine ⟨τ3, ((kp_mrf n2).trans (kp_lrf u2)).trans (kp_lrf v2), v3, ?_⟩
          simp only [e_X10_lift, m_isPlace ok ht, q1, q2, ob, bi_0, Bool.true_eq_false, if_false, n1]
          rw [b0]
          show (if Option.isSome (some t) = false then _ else _) = _
          rw [if_neg (show ¬ Option.isSome (some t) = false from fun x => Bool.noConfusion x), p1, p2, l2, ob, l3'.2, ob, ← v1]
          exact u1
        rcases k3 e (by omega) with ⟨z1, r1⟩ | ⟨v, z1, r1, r2⟩
        · obtain ⟨σ', w1, w2, w3⟩ := M (fx 3 σ2) (mdl_fx 3 m2)
          have em : eL σ' 74 e = MINL := by
            rcases w2 e he with ⟨_, q⟩ | ⟨v, q, _⟩
            · exact q
            · rw [z1] at q
              cases q
          refine ⟨-4000000000000000001 - (nI 3).toInt64, fx 3 σ2, gx 3 σ', ?_, ?_, Rel_kp (Rel_find 3 R2) (kp_gx w1)⟩
          · rw [C, if_pos r1, lf3, ob]
          · rw [w3, if_pos em, lg3, ob]
        · obtain ⟨σ', w1, w2, w3⟩ := M σ2 m2
          have bb := rds_bd (a := a.toInt) (b := b.toInt) ok (fun u hu => (Wg_b ok a12.1 a12.2 (show 0 ≤ b.toInt by omega) b2 hu).2.2.2) s (dP d - 1) e v z1
          have em : eL σ' 74 e = eL σ2 32 e := by
            rcases w2 e he with ⟨q, _⟩ | ⟨v', q, q'⟩
            · rw [z1] at q
              cases q
            · rw [z1] at q
              have : v = v' := Option.some.inj q
              rw [eq64, q', r2, this]
          have nm : ¬ eL σ2 32 e = MINL := by
            intro q
            have := eq64.mp q
            rw [r2, MINL_t] at this
            omega
          refine ⟨eL σ2 32 e, σ2, σ', ?_, ?_, Rel_kp R2 w1⟩
          · rw [C, r1, if_neg (by decide)]
          · rw [w3, em, if_neg nm]
    · have q2 : ir 0 ((dP d : Int) - 1) x2 = false := by simpa using q2
      apply bey
      · simp only [e_X9_lift, c_isPlace ok hc, q1, q2, ob, bi_0, lf0, Bool.true_eq_false, if_false, if_true]
      · simp only [e_X10_lift, m_isPlace ok mf0, q1, q2, ob, bi_0, lg0, Bool.true_eq_false, if_false, if_true]
  · have q1 : ir 0 ((dP d : Int) - 1) x1 = false := by simpa using q1
    apply bey
    · simp only [e_X9_lift, c_isPlace ok hc, q1, ob, bi_0, lf0, if_true]
    · simp only [e_X10_lift, m_isPlace ok mf0, q1, ob, bi_0, lg0, if_true]
