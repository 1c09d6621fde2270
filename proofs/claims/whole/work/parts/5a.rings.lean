/-! ===== rings on both sides; ring, ringWays, worth ===== -/
theorem fm_congr {β : Type} {f g : Nat → List β} {l : List Nat} (h : ∀ w, w ∈ l → f w = g w) : l.flatMap f = l.flatMap g := by
  induction l with
  | nil => rfl
  | cons w l ih =>
    rw [List.flatMap_cons, List.flatMap_cons, h w (List.mem_cons_self ..), ih (fun v hv => h v (List.mem_cons_of_mem _ hv))]
theorem rl_congr {d : CD} {op op' : Nat → Bool} (h : ∀ w, w < dN d → op w = op' w) : ∀ n s a p k A B, rl d op n s a p k A B = rl d op' n s a p k A B := by
  intro n
  induction n with
  | zero =>
    intro s a p k A B
    rfl
  | succ n ih =>
    intro s a p k A B
    rw [rl_succ, rl_succ]
    refine fm_congr (fun w hw => ?_)
    have hw := List.mem_range.mp hw
    unfold rc
    rw [h w hw, ih]
theorem al_congr {d : CD} {op op' : Nat → Bool} (h : ∀ w, w < dN d → op w = op' w) : al d op = al d op' := by
  unfold al
  refine fm_congr (fun s _ => ?_)
  rw [rl_congr h]
theorem om_bit (d : CD) : ∀ n w, w < n → (om d n).testBit w = decide (dw d w 5 = 0) := by
  intro n
  induction n with
  | zero => intro w h; omega
  | succ n ih =>
    intro w h
    have st : om d (n + 1) = om d n + (if dw d n 5 = 0 then 2 ^ n else 0) := rfl
    rw [st]
    have lt := om_lt d n
    by_cases c : dw d n 5 = 0
    · rw [if_pos c, ← or_top lt, Nat.testBit_or, Nat.testBit_two_pow]
      by_cases e : w = n
      · subst e
        rw [decide_eq_true rfl, Bool.or_true, decide_eq_true c]
      · rw [ih w (by omega), decide_eq_false (show ¬ n = w by omega), Bool.or_false]
    · rw [if_neg c, Nat.add_zero]
      by_cases e : w = n
      · subst e
        rw [Nat.testBit_lt_two_pow lt, decide_eq_false c]
      · exact ih w (by omega)
def opw (d : CD) (w : Nat) : Bool := decide (dw d w 5 = 0)
theorem opn_m1 {d : CD} (ok : okD d) : ∀ w, w < dN d → opn d (-1) w = opw d w := by
  have h14 := ok.2.2.1
  intro w hw
  unfold opn opw
  have : ¬ nI w = -1 := nI_m1 (by omega)
  simp [this]
theorem om_op {d : CD} : ∀ w, w < dN d → (om d (dN d)).testBit w = opw d w := om_bit d (dN d)
theorem mdl_gf {σ σ' : ES} {d : CD} (h : mdl σ d) (g : gf σ σ') : mdl σ' d := mdl_c h (fun j hj => g.1 69 j (by omega) (by omega) (by omega) (by omega) (by omega)) (fun j => g.1 71 j (by omega) (by omega) (by omega) (by omega) (by omega)) (fun j => g.1 72 j (by omega) (by omega) (by omega) (by omega) (by omega)) (fun j => g.1 73 j (by omega) (by omega) (by omega) (by omega) (by omega))
theorem kp_gf {σ σ' : ES} (g : gf σ σ') : kp σ σ' := by
  refine ⟨fun k j q => g.1 k j ?_ ?_ ?_ ?_ ?_, fun k j q => g.2 k j ?_ ?_ ?_ ?_⟩
  · rintro ⟨rfl, rfl⟩
    simp [qK, qI, qT, qS, qF] at q
  · rintro rfl
    simp [qK, qI, qT, qS, qF] at q
  · rintro rfl
    simp [qK, qI, qT, qS, qF] at q
  · rintro rfl
    simp [qK, qI, qT, qS, qF] at q
  · rintro rfl
    simp [qK, qI, qT, qS, qF] at q
  · rintro rfl
    simp [qL, qB] at q
  · rintro rfl
    simp [qL, qB] at q
  · rintro rfl
    simp [qL, qB] at q
  · rintro rfl
    simp [qL, qB] at q
theorem kp_mrf {σ σ' : ES} (g : mrf σ σ') : kp σ σ' := by
  refine ⟨fun k j q => g.1 k j ?_, fun k j q => g.2 k j ?_⟩
  · rintro ⟨rfl, e | e | e | e⟩ <;> subst e <;> simp [qK, qI, qT, qS, qF] at q
  · rintro ⟨rfl, _⟩
    simp [qL, qB] at q
theorem kp_gx {σ σ' : ES} {k : Nat} (h : kp σ σ') : kp (gx k σ) (gx k σ') := by
  refine ⟨fun a b q => ?_, fun a b q => h.2 a b q⟩
  simp only [gx, eI_uI]
  rw [h.1 a b q, h.1 70 k (by simp [qF])]
theorem fil_0 (L : List Rg) : (L.filter fun r => decide (r.1 &&& 0 = 0)) = L := by
  rw [List.filter_eq_self]
  intro r _
  exact decide_eq_true (Nat.and_zero _)
theorem fil_0' (L : List Rg) : (L.filter fun r => decide (0 &&& r.1 = 0)) = L := by
  rw [List.filter_eq_self]
  intro r _
  exact decide_eq_true (Nat.zero_and _)
theorem rings_f {d : CD} (ok : okD d) {O m : Nat} (hO : O < 16384) (hm : m < 16384) {τ : ES} (h : mdl τ d) : ∃ σ', e_X10_rings (nI O) (nI m) τ = some (bi (bst ((al d O.testBit).filter fun r => decide (m &&& r.1 = m))).isSome, σ') ∧ mrf τ σ' ∧ ∀ b, bst ((al d O.testBit).filter fun r => decide (m &&& r.1 = m)) = some b → eL σ' 69 11 = b.2.1 ∧ eL σ' 69 12 = b.2.2 ∧ eI σ' 69 13 = nI (ow ((al d O.testBit).filter fun r => decide (m &&& r.1 = m)) b) := by
  obtain ⟨σ', x1, x2, x3⟩ := rings_m ok hO hm h
  rcases acs_fold m (al d O.testBit) (al_ok ok _) with ⟨e1, e2⟩ | ⟨b, e1, e2⟩
  · rw [e2] at x1
    refine ⟨σ', ?_, x2, fun b hb => ?_⟩
    · rw [e1, x1]
      rfl
    · rw [e1] at hb
      cases hb
  · rw [e2] at x1 x3
    refine ⟨σ', ?_, x2, fun b' hb => ?_⟩
    · rw [e1, x1]
      rfl
    · rw [e1] at hb
      have : b = b' := Option.some.inj hb
      subst this
      obtain ⟨q1, q2, q3, q4⟩ := x3
      obtain ⟨q5, q6⟩ := q4 rfl
      exact ⟨q5, q6, q2⟩
/-- the rings that are now -/
def rn (d : CD) : List Rg := al d (opw d)
theorem rn_ok {d : CD} (ok : okD d) : ∀ r, r ∈ rn d → okR r := al_ok ok _
theorem rn_len {d : CD} (ok : okD d) : (rn d).length ≤ 1295 := al_len ok _
theorem bestRing_c {σ : ES} {d : CD} (ok : okD d) (hc : cls σ 1 d) : ∃ x σ1, e_X9_bestRing σ = some (x, σ1) ∧ gf σ σ1 ∧ sto σ1 (rn d) ∧ tb σ1 d (opn d (-1)) ∧ rp (rn d) x (bst (rn d)) := by
  obtain ⟨σ1, g1, g2, g3, g4⟩ := gather1 ok (-1) hc
  have e : al d (opn d (-1)) = rn d := al_congr (opn_m1 ok)
  rw [e] at g3
  have len := rn_len ok
  obtain ⟨x, y1, y2⟩ := best_c g3 (by omega) (rn_ok ok) (m := 0) (by omega)
  rw [fil_0] at y2
  refine ⟨x, σ1, ?_, g2, g3, g4, y2⟩
  unfold e_X9_bestRing
  have y1' : e_X4_best σ1 0 = some x := y1
  rw [g1, ob, y1', ob]
theorem ringsNow_m {τ : ES} {d : CD} (ok : okD d) (h : mdl τ d) : ∃ σ', e_X10_ringsNow τ = some (bi (bst (rn d)).isSome, σ') ∧ mrf τ σ' ∧ ∀ b, bst (rn d) = some b → eL σ' 69 11 = b.2.1 ∧ eL σ' 69 12 = b.2.2 ∧ eI σ' 69 13 = nI (ow (rn d) b) := by
  have e : al d (om d (dN d)).testBit = rn d := al_congr om_op
  obtain ⟨σ', x1, x2, x3⟩ := rings_f ok (O := om d (dN d)) (m := 0) (om_14 d ok.2.2.1) (by omega) h
  rw [fil_0', e] at x1 x3
  refine ⟨σ', ?_, x2, x3⟩
  unfold e_X10_ringsNow
  have x1' : e_X10_rings (nI (om d (dN d))) 0 τ = some (bi (bst (rn d)).isSome, σ') := x1
  rw [open_eq ok h, ob, x1', ob, if_pos (bi_d _)]
theorem mdl_fx (k : Nat) {σ : ES} {d : CD} (h : mdl σ d) : mdl (fx k σ) d := mdl_c h (fun _ _ => rfl) (fun _ => rfl) (fun _ => rfl) (fun _ => rfl)
/-- what both sides say of the best ring -/
theorem both {σ : ES} {d : CD} (ok : okD d) (hc : cls σ 1 d) (hm : mdl σ d) : ∃ x σ1, e_X9_bestRing σ = some (x, σ1) ∧ gf σ σ1 ∧ sto σ1 (rn d) ∧ tb σ1 d (opn d (-1)) ∧ ((x = -1 ∧ bst (rn d) = none) ∨ ∃ j b, x = nI j ∧ j < 1296 ∧ (rn d)[j]? = some b ∧ bst (rn d) = some b ∧ okR b ∧ eL σ1 30 j = b.2.1 ∧ eL σ1 31 j = b.2.2) := by
  obtain ⟨x, σ1, y1, y2, y3, y4, y5⟩ := bestRing_c ok hc
  refine ⟨x, σ1, y1, y2, y3, y4, ?_⟩
  rcases y5 with y | ⟨j, b, e1, e2, e3, e4⟩
  · exact Or.inl y
  · obtain ⟨_, s1, s2⟩ := y3.2 j b e3
    exact Or.inr ⟨j, b, e1, e2, e3, e4, rn_ok ok b (List.mem_of_getElem? e3), s1, s2⟩
theorem low_R {b : Rg} (h : okR b) : ∃ x y : Int64, e_X9_lowest b.2.1 b.2.2 0 = some x ∧ e_X10_lowest b.2.1 b.2.2 0 = some x ∧ (∀ v, ¬ v = 0 → e_X9_lowest b.2.1 b.2.2 v = some y ∧ e_X10_lowest b.2.1 b.2.2 v = some y) ∧ ∃ g : Int, 1 ≤ g ∧ b.2.1.toInt = x.toInt * g ∧ b.2.2.toInt = y.toInt * g := by
  obtain ⟨h0, h1, h2⟩ := h
  exact low_eq (by omega) (by omega) (by omega) (by omega)
theorem sim_ring : Sim_ring Rel := by
  intro σ h a
  have hR := h
  obtain ⟨⟨d, ok, hc, hm⟩, h2, h3, h4, h5, h6⟩ := h
  have e1 : ir (0 : Int32).toInt (1 : Int32).toInt a = ir 0 1 a := rfl
  have e2 : ir (0 : Int64).toInt (1 : Int64).toInt a = ir 0 1 a := rfl
  by_cases q0 : ir 0 1 a = true
  · obtain ⟨x, σ1, y1, y2, y3, y4, y5⟩ := both ok hc hm
    have R1 : Rel σ1 := Rel_kp hR (kp_gf y2)
    have C : e_X9_ring a σ = (if x = (-1 : Int32) then ((e_X9_longFinding (3 : Int32) σ1).bind (fun r8 => some (r8.1, r8.2))) else (if mib x 1296 = true then ((e_X9_lowest (eL σ1 30 x.toNatClampNeg) (eL σ1 31 x.toNatClampNeg) a).bind (fun r6 => some (r6, σ1))) else none)) := by
      simp only [e_X9_ring, within_eq, e1, q0, ob, bi_0, Bool.true_eq_false, if_false, y1]
    have M : ∀ τ, mdl τ d → ∃ σ', mrf τ σ' ∧ e_X10_ring a τ = (if bi (bst (rn d)).isSome = 0 then ((e_X10_farFinds (3 : Int32) σ').bind (fun r5 => some (r5.1, r5.2))) else ((e_X10_lowest (eL σ' 69 11) (eL σ' 69 12) a).bind (fun r7 => some (r7, σ')))) ∧ ∀ b, bst (rn d) = some b → eL σ' 69 11 = b.2.1 ∧ eL σ' 69 12 = b.2.2 ∧ eI σ' 69 13 = nI (ow (rn d) b) := by
      intro τ ht
      obtain ⟨σ', x1, x2, x3⟩ := ringsNow_m ok ht
      refine ⟨σ', x2, ?_, x3⟩
      simp only [e_X10_ring, min_eq, e2, q0, ob, bi_0, Bool.true_eq_false, if_false, x1]
    rcases y5 with ⟨x0, b0⟩ | ⟨j, b, x0, hj, gj, b0, okb, s1, s2⟩
    · obtain ⟨σ', m1, m2, m3⟩ := M (fx 3 σ1) (RK_u (v := eI σ1 60 3 + 1) ⟨ok, cls_gf (by decide) hc y2, mdl_gf hm y2⟩ rfl).2.2
      refine ⟨-4000000000000000001 - (nI 3).toInt64, fx 3 σ1, gx 3 σ', ?_, ?_, Rel_kp (Rel_find 3 R1) (kp_gx (kp_mrf m1))⟩
      · rw [C, if_pos x0, lf3, ob]
      · rw [m2, b0]
        show (if bi false = 0 then _ else _) = _
        rw [if_pos bi_f, lg3, ob]
    · obtain ⟨σ', m1, m2, m3⟩ := M σ1 (mdl_gf hm y2)
      obtain ⟨u, v, l1, l2, l3, _⟩ := low_R okb
      obtain ⟨p1, p2, _⟩ := m3 b b0
      have fin : ∀ r, e_X9_lowest b.2.1 b.2.2 a = some r → e_X10_lowest b.2.1 b.2.2 a = some r → ∃ (r : Int64) (σ1 : ES) (σ2 : ES), e_X9_ring a σ = some (r, σ1) ∧ e_X10_ring a σ1 = some (r, σ2) ∧ Rel σ2 := by
        intro r r1 r2
        refine ⟨r, σ1, σ', ?_, ?_, Rel_kp R1 (kp_mrf m1)⟩
        · rw [C, x0, if_neg (nI_m1 (by omega)), if_pos (mib_nI hj (by decide)), nIc (by omega), s1, s2, r1, ob]
        · rw [m2, b0, p1, p2]
          show (if bi true = 0 then _ else _) = _
          rw [if_neg (by decide), r2, ob]
      by_cases c : a = 0
      · subst c
        exact fin u l1 l2
      · exact fin v (l3 a c).1 (l3 a c).2
  · have q0 : ir 0 1 a = false := by simpa using q0
    refine ⟨-4000000000000000001 - (nI 0).toInt64, fx 0 σ, gx 0 (fx 0 σ), ?_, ?_, Rel_find 0 hR⟩
    · simp only [e_X9_ring, within_eq, e1, q0, ob, bi_0, lf0, if_true]
    · simp only [e_X10_ring, min_eq, e2, q0, ob, bi_0, lg0, if_true]
theorem sim_ringWays : Sim_ringWays Rel := by
  intro σ h
  have hR := h
  obtain ⟨⟨d, ok, hc, hm⟩, h2, h3, h4, h5, h6⟩ := h
  obtain ⟨x, σ1, y1, y2, y3, y4, y5⟩ := both ok hc hm
  have R1 : Rel σ1 := Rel_kp hR (kp_gf y2)
  have len := rn_len ok
  rcases y5 with ⟨x0, b0⟩ | ⟨j, b, x0, hj, gj, b0, okb, s1, s2⟩
  · obtain ⟨σ', m1, m2, m3⟩ := ringsNow_m ok (mdl_fx 3 (mdl_gf hm y2))
    refine ⟨-2000000001 - nI 3, fx 3 σ1, gx 3 σ', ?_, ?_, Rel_kp (Rel_find 3 R1) (kp_gx (kp_mrf m2))⟩
    · unfold e_X9_ringWays
      rw [y1, ob, if_pos x0, f3, ob]
    · unfold e_X10_ringWays
      rw [m1, ob, b0]
      show (if bi false = 0 then _ else _) = _
      rw [if_pos bi_f, g3, ob]
  · obtain ⟨σ', m1, m2, m3⟩ := ringsNow_m ok (mdl_gf hm y2)
    obtain ⟨_, _, p3⟩ := m3 b b0
    have w := rw_L y3 (by omega) (rn_ok ok) gj mN 0 0 (by omega) (mN_big (by omega)) (by omega)
    refine ⟨nI (ow (rn d) b), σ1, σ', ?_, ?_, Rel_kp R1 (kp_mrf m2)⟩
    · unfold e_X9_ringWays
      rw [y1, ob, x0, if_neg (nI_m1 (by omega))]
      exact w
    · unfold e_X10_ringWays
      rw [m1, ob, b0, p3]
      show (if bi true = 0 then _ else _) = _
      rw [if_neg (by decide)]
theorem kp_uq {σ : ES} {k j : Nat} {v : Int32} (h : (qK k j || qI k j || qT k j || qS k || qF k || k == 80) = false) : kp σ (uI σ k j v) := by
  refine ⟨fun a b q => ?_, fun a b _ => rfl⟩
  rw [eI_uI, if_neg]
  rintro ⟨rfl, rfl⟩
  rw [h] at q
  cases q
theorem sim_worth : Sim_worth Rel := by
  intro σ h a
  have hR := h
  obtain ⟨⟨d, ok, hc, hm⟩, h2, h3, h4, h5, h6⟩ := h
  obtain ⟨x, σ1, y1, y2, y3, y4, y5⟩ := both ok hc hm
  have R1 : Rel σ1 := Rel_kp hR (kp_gf y2)
  have z : (0 : Int64).toInt = 0 := rfl
  have o : (1 : Int64).toInt = 1 := rfl
  rcases y5 with ⟨x0, b0⟩ | ⟨j, b, x0, hj, gj, b0, okb, s1, s2⟩
  · obtain ⟨σ', m1, m2, m3⟩ := ringsNow_m ok (mdl_fx 3 (mdl_gf hm y2))
    refine ⟨-4000000000000000001 - (nI 3).toInt64, fx 3 σ1, gx 3 σ', ?_, ?_, Rel_kp (Rel_find 3 R1) (kp_gx (kp_mrf m2))⟩
    · unfold e_X9_worth
      rw [y1, ob, if_pos x0, lf3, ob]
    · unfold e_X10_worth
      rw [m1, ob, b0]
      show (if bi false = 0 then _ else _) = _
      rw [if_pos bi_f, lg3, ob]
  · obtain ⟨u, v, l1, l2, l3, g, gp, gA, gB⟩ := low_R okb
    have l3' := l3 1 (by decide)
    have vp : 1 ≤ v.toInt := by
      have hb : 1 ≤ b.2.2.toInt := okb.2.2.1
      rw [gB] at hb
      by_cases c : 1 ≤ v.toInt
      · exact c
      · have : v.toInt * g ≤ 0 * g := Int.mul_le_mul_of_nonneg_right (by omega) (by omega)
        omega
    have v0 : ¬ v = 0 := fun e => by
      have := eq64.mp e
      omega
    have C : e_X9_worth a σ = (if bi (fit a u) = 0 then ((e_X9_longFinding (8 : Int32) σ1).bind (fun r10 => some (r10.1, r10.2))) else (if (-4000000000000000001 : Int64) < ((a * u) / v) then (some (((a * u) / v), σ1)) else ((e_X9_longFinding (8 : Int32) σ1).bind (fun r13 => some (r13.1, r13.2))))) := by
      unfold e_X9_worth
      rw [y1, ob, x0, if_neg (nI_m1 (by omega)), if_pos (mib_nI hj (by decide)), nIc (by omega), s1, s2, l1, ob, l3'.1, ob, pfits, ob, if_pos (show (1 : Int64) ≤ v by rw [le64, o]; exact vp), if_neg v0]
    have M : ∀ τ, mdl τ d → ∃ σ', kp τ σ' ∧ e_X10_worth a τ = (if bi (fit a u) = 0 then ((e_X10_farFinds (8 : Int32) σ').bind (fun r10 => some (r10.1, r10.2))) else (if ((a * u) / v) < (-4000000000000000000 : Int64) then ((e_X10_farFinds (8 : Int32) σ').bind (fun r12 => some (r12.1, r12.2))) else (some (((a * u) / v), σ')))) := by
      intro τ ht
      obtain ⟨σ', m1, m2, m3⟩ := ringsNow_m ok ht
      obtain ⟨p1, p2, _⟩ := m3 b b0
      refine ⟨uI (uI σ' 69 15 1) 69 15 (bi (fit a u)), (kp_mrf m2).trans ((kp_uq rfl).trans (kp_uq rfl)), ?_⟩
      have e1 : ∀ w, eL (uI σ' 69 15 w) 69 11 = b.2.1 := fun _ => p1
      have e2 : ∀ w, eL (uI σ' 69 15 w) 69 12 = b.2.2 := fun _ => p2
      have e1' : ∀ w w', eL (uI (uI σ' 69 15 w) 69 15 w') 69 11 = b.2.1 := fun _ _ => p1
      have e2' : ∀ w w', eL (uI (uI σ' 69 15 w) 69 15 w') 69 12 = b.2.2 := fun _ _ => p2
      have e3 : ∀ w w', eI (uI (uI σ' 69 15 w) 69 15 w') 69 15 = w' := fun _ _ => rfl
      unfold e_X10_worth
      rw [m1, ob, b0]
      show (if bi true = 0 then _ else _) = _
      rw [if_neg (by decide), e1, e2, l2, ob, prod_eq a u (uI σ' 69 15 1) true rfl, ob, Bool.true_and, e1', e2', l3'.2, ob, if_neg v0, e3]
    have over : e_X9_worth a σ = some (-4000000000000000001 - (nI 8).toInt64, fx 8 σ1) → (∀ τ, mdl τ d → ∃ σ', kp τ σ' ∧ e_X10_worth a τ = some (-4000000000000000001 - (nI 8).toInt64, gx 8 σ')) → ∃ (r : Int64) (σ1 : ES) (σ2 : ES), e_X9_worth a σ = some (r, σ1) ∧ e_X10_worth a σ1 = some (r, σ2) ∧ Rel σ2 := by
      intro q1 q2
      obtain ⟨σ', k1, k2⟩ := q2 (fx 8 σ1) (mdl_fx 8 (mdl_gf hm y2))
      exact ⟨_, _, _, q1, k2, Rel_kp (Rel_find 8 R1) (kp_gx k1)⟩
    by_cases c : fit a u = true
    · rw [c] at C M
      rw [if_neg (by decide)] at C
      have le : (-4000000000000000001 : Int64) < ((a * u) / v) ↔ ¬ ((a * u) / v) < (-4000000000000000000 : Int64) := by
        rw [lt64, lt64, show (-4000000000000000001 : Int64).toInt = -4000000000000000001 from rfl, show (-4000000000000000000 : Int64).toInt = -4000000000000000000 from rfl]
        omega
      by_cases c1 : ((a * u) / v) < (-4000000000000000000 : Int64)
      · apply over
        · rw [C, if_neg (fun x => le.mp x c1), lf8, ob]
        · intro τ ht
          obtain ⟨σ', k1, k2⟩ := M τ ht
          refine ⟨σ', k1, ?_⟩
          rw [k2, if_neg (by decide), if_pos c1, lg8, ob]
      · obtain ⟨σ', k1, k2⟩ := M σ1 (mdl_gf hm y2)
        refine ⟨(a * u) / v, σ1, σ', ?_, ?_, Rel_kp R1 k1⟩
        · rw [C, if_pos (le.mpr c1)]
        · rw [k2, if_neg (by decide), if_neg c1]
    · have c : fit a u = false := by simpa using c
      rw [c] at C M
      apply over
      · rw [C, if_pos bi_f, lf8, ob]
      · intro τ ht
        obtain ⟨σ', k1, k2⟩ := M τ ht
        refine ⟨σ', k1, ?_⟩
        rw [k2, if_pos bi_f, lg8, ob]
