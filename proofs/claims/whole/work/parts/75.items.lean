/-! ===== texts: items, both sides in step ===== -/
def gC (σ σ' : ES) : Prop := (∀ a c, ¬ (19 ≤ a ∧ a ≤ 27) → ¬ (a = 57 ∧ (3 ≤ c ∧ c ≤ 8)) → eI σ' a c = eI σ a c) ∧ (∀ a c, eL σ' a c = eL σ a c) ∧ ∀ a, eT σ' a = eT σ a
theorem gC.refl (σ : ES) : gC σ σ := ⟨fun _ _ _ _ => rfl, fun _ _ => rfl, fun _ => rfl⟩
theorem gC.trans {σ τ υ : ES} (h : gC σ τ) (g : gC τ υ) : gC σ υ := ⟨fun a b q r => (g.1 a b q r).trans (h.1 a b q r), fun a b => (g.2.1 a b).trans (h.2.1 a b), fun a => (g.2.2 a).trans (h.2.2 a)⟩
theorem gC_f {σ σ' : ES} (h : fC σ σ') : gC σ σ' := ⟨fun a c _ q => h.1 a c q, h.2.1, h.2.2⟩
theorem gC_u {σ : ES} {k c : Nat} {v : Int32} (h : 19 ≤ k ∧ k ≤ 27) : gC σ (uI σ k c v) := ⟨fun a e q _ => by rw [eI_uI, if_neg (by omega)], fun _ _ => rfl, fun _ => rfl⟩
def hM (a c : Nat) : Prop := a = 71 ∨ a = 72 ∨ (a = 69 ∧ (c = 1 ∨ c = 2 ∨ c = 3 ∨ c = 5 ∨ (26 ≤ c ∧ c ≤ 33)))
def gM (σ σ' : ES) : Prop := (∀ a c, ¬ hM a c → eI σ' a c = eI σ a c) ∧ (∀ a c, eL σ' a c = eL σ a c) ∧ ∀ a, eT σ' a = eT σ a
theorem gM.refl (σ : ES) : gM σ σ := ⟨fun _ _ _ => rfl, fun _ _ => rfl, fun _ => rfl⟩
theorem gM.trans {σ τ υ : ES} (h : gM σ τ) (g : gM τ υ) : gM σ υ := ⟨fun a b q => (g.1 a b q).trans (h.1 a b q), fun a b => (g.2.1 a b).trans (h.2.1 a b), fun a => (g.2.2 a).trans (h.2.2 a)⟩
theorem gM_f {σ σ' : ES} (h : fM σ σ') : gM σ σ' := ⟨fun a c q => h.1 a c (fun x => q (Or.inr (Or.inr ⟨x.1, Or.inr (Or.inr (Or.inr (Or.inr x.2)))⟩))), h.2.1, h.2.2⟩
theorem gM_u {σ : ES} {k c : Nat} {v : Int32} (h : hM k c) : gM σ (uI σ k c v) := ⟨fun a e q => by rw [eI_uI, if_neg (fun x => q (by rw [x.1, x.2]; exact h))], fun _ _ => rfl, fun _ => rfl⟩
theorem cls_f {σ σ' : ES} {d : CD} (h : cls σ 19 d) (g : fC σ σ') : cls σ' 19 d := cls_c h (fun k j _ _ => g.1 k j (by omega))
theorem mdl_f {σ σ' : ES} {d : CD} (h : mdl σ d) (g : fM σ σ') : mdl σ' d := mdl_c h (fun j _ => g.1 69 j (by omega)) (fun j => g.1 71 j (by omega)) (fun j => g.1 72 j (by omega)) (fun j => g.1 73 j (by omega))
/-- the tape and the token are no part of the country -/
theorem two_g {b : Nat → Int32} {n : Nat} {σ τ σ' τ' : ES} {t : Tok} (h : two b n σ τ t) (c : ∀ a e, ¬ (19 ≤ a ∧ a ≤ 27) → eI σ' a e = eI σ a e) (m : ∀ a e, a ≠ 71 → a ≠ 72 → ¬ (a = 69 ∧ (e = 1 ∨ e = 2 ∨ e = 3 ∨ e = 5)) → eI τ' a e = eI τ a e) : two b n σ' τ' t := by
  obtain ⟨⟨a1, a2, a3⟩, ⟨b1, b2, b3, b4⟩, ⟨c1, c2, c3, c4⟩, ⟨d1, d2, d3, d4⟩, h5⟩ := h
  refine ⟨⟨a1, (c 57 0 (by omega)).trans a2, fun i hi => ?_⟩, ⟨b1, (m 69 25 (by omega) (by omega) (by omega)).trans b2, fun i hi => ?_, fun k hk => (m 80 k (by omega) (by omega) (by omega)).trans (b4 k hk)⟩, ⟨(c 57 3 (by omega)).trans c1, (c 57 4 (by omega)).trans c2, (c 57 5 (by omega)).trans c3, fun x => (c 57 6 (by omega)).trans (c4 x)⟩, ⟨(m 69 28 (by omega) (by omega) (by omega)).trans d1, (m 69 27 (by omega) (by omega) (by omega)).trans d2, (m 69 26 (by omega) (by omega) (by omega)).trans d3, fun x y => (m 69 29 (by omega) (by omega) (by omega)).trans (d4 x y)⟩, h5⟩
  · rw [c 58 i (by omega)]
    exact a3 i hi
  · rw [m 79 i (by omega) (by omega) (by omega)]
    exact b3 i hi
def ext (d d' : CD) : Prop := dN d ≤ dN d' ∧ dT d ≤ dT d' ∧ (∀ w, w < dN d → ∀ j, dw d' w j = dw d w j) ∧ ∀ t, t ≤ dT d → ∀ j, dt d' t j = dt d t j
theorem ext.refl (d : CD) : ext d d := ⟨Nat.le_refl _, Nat.le_refl _, fun _ _ _ => rfl, fun _ _ _ => rfl⟩
theorem ext.trans {d e f : CD} (h : ext d e) (g : ext e f) : ext d f := ⟨Nat.le_trans h.1 g.1, Nat.le_trans h.2.1 g.2.1, fun w hw j => (g.2.2.1 w (Nat.lt_of_lt_of_le hw h.1) j).trans (h.2.2.1 w hw j), fun t ht j => (g.2.2.2 t (Nat.le_trans ht h.2.1) j).trans (h.2.2.2 t ht j)⟩
def setP (d : CD) (p : Nat) : CD := ((p, dW d, dN d, dT d), d.2)
theorem ok_setP {d : CD} (ok : okD d) {p : Nat} (h1 : dP d ≤ p) (h2 : p ≤ 6) : okD (setP d p) := by
  refine ⟨⟨Nat.le_trans ok.1.1 h1, h2⟩, ok.2.1, ok.2.2.1, ok.2.2.2.1, fun w hw => ?_, ok.2.2.2.2.2⟩
  obtain ⟨a, b, c, e⟩ := ok.2.2.2.2.1 w hw
  have b2 : (dw d w 1).toInt < dP d := b.2
  have c2 : (dw d w 2).toInt < dP d := c.2
  exact ⟨a, ⟨b.1, by show (dw d w 1).toInt < (p : Int); omega⟩, ⟨c.1, by show (dw d w 2).toInt < (p : Int); omega⟩, e⟩
section
variable {b : Nat → Int32} {n : Nat}
/-- both sides look at one token and hold one country -/
def itm (b : Nat → Int32) (n : Nat) (σ τ : ES) (t : Tok) (d : CD) : Prop := two b n σ τ t ∧ eT σ 2 = some 19 ∧ cls σ 19 d ∧ mdl τ d ∧ okD d
/-- what an item does -/
def did (b : Nat → Int32) (n : Nat) (σ τ : ES) (t : Tok) (d : CD) (A B : Option (Int32 × ES)) : Prop := ∃ y t' d' σ' τ', A = some (bi y, σ') ∧ B = some (bi y, τ') ∧ itm b n σ' τ' t' d' ∧ ext d d' ∧ gC σ σ' ∧ gM τ τ' ∧ t.2.1 ≤ t'.2.1
theorem did_c {σ τ σ0 τ0 : ES} {t t0 : Tok} {d : CD} {A B : Option (Int32 × ES)} (h : did b n σ τ t d A B) (g1 : gC σ0 σ) (g2 : gM τ0 τ) (ht : t0.2.1 ≤ t.2.1) : did b n σ0 τ0 t0 d A B := by
  obtain ⟨y, t', d', σ', τ', h1, h2, h3, h4, h5, h6, h7⟩ := h
  exact ⟨y, t', d', σ', τ', h1, h2, h3, h4, g1.trans h5, g2.trans h6, Nat.le_trans ht h7⟩
theorem itm_f {σ τ σ' τ' : ES} {t t' : Tok} {d : CD} (h : itm b n σ τ t d) (g1 : fC σ σ') (g2 : fM τ τ') (g3 : two b n σ' τ' t') : itm b n σ' τ' t' d := ⟨g3, (g1.2.2 2).trans h.2.1, cls_f h.2.2.1 g1, mdl_f h.2.2.2.1 g2, h.2.2.2.2⟩
theorem weather_2 {σ τ : ES} {t : Tok} {d : CD} (h : itm b n σ τ t d) : did b n σ τ t d (e_X6_weatherItem σ) (e_X10_readsItem_J82 8 0 5 τ) := by
  obtain ⟨h1, h2, h3, h4, h5⟩ := h
  have b1 := two_b h1
  unfold e_X6_weatherItem e_X10_readsItem_J82
  rw [num_c b1.2.1 b1.2.2.2.2.1 h1.2.2.1 0 5, ob]
  rcases num_m h1.2.1 b1.2.2.2.1 b1.2.2.2.2.1 h1.2.2.2.1 (lo := 0) (hi := 5) (by decide) with ⟨q1, q2⟩ | ⟨q1, τ2, q2, q3, q4, q5, q6, q7, q8⟩
  · rw [q1, if_pos bi_f, q2, ob, if_pos rfl]
    exact ⟨false, t, d, σ, τ, rfl, rfl, ⟨h1, h2, h3, h4, h5⟩, ext.refl d, gC.refl σ, gM.refl τ, Nat.le_refl _⟩
  · have v := (of_decide_eq_true q1 : _ ∧ _)
    have e6 := h1.2.2.1.2.2.2 v.1
    have v2 : (t.2.2.2 : Int) ≤ 5 := v.2.2
    rw [q1, if_neg (by decide), if_pos h2, q2, ob, if_neg (show ¬ (1 : Int32) = 0 by decide), if_neg (show ¬ (8 : Int32) = 7 by decide), e6, q4]
    have h1' : two b n (uI σ 19 1 (nI t.2.2.2)) (uI τ2 69 2 (nI t.2.2.2)) t → True := fun _ => trivial
    have w1 : tpC (uI σ 19 1 (nI t.2.2.2)) b n := h1.1
    obtain ⟨σ2, s1, s2, s3⟩ := next_c b1.2.2.2.1 w1 (show eI (uI σ 19 1 (nI t.2.2.2)) 57 5 = nI t.2.2.1 from h1.2.2.1.2.2.1)
    rw [s1, ob]
    refine ⟨true, tkn b n t.2.2.1, setZ d t.2.2.2, σ2, _, rfl, rfl, ⟨⟨tpC_nf w1 s2, q7, s3, q8, _, b1.2.2.2.1, rfl⟩, (s2.2.2 2).trans h2, cls_f (cls_setZ h3 _) (fC_n s2), mdl_setZ (mdl_f h4 q3) _, ok_setZ h5 (by omega)⟩, ⟨Nat.le_refl _, Nat.le_refl _, fun _ _ _ => rfl, fun _ _ _ => rfl⟩, (gC_u (by omega)).trans (gC_f (fC_n s2)), (gM_f q3).trans (gM_u (Or.inr (Or.inr ⟨rfl, by omega⟩))), (nx_ge h1).1⟩
theorem cls_setP {σ : ES} {o : Nat} {d : CD} (h : cls σ o d) (p : Nat) : cls (uI σ o 0 (nI p)) o (setP d p) := by
  obtain ⟨h1, h2, h3, h4, h5, h6⟩ := h
  refine ⟨?_, ?_, ?_, ?_, fun w hw j hj => ?_, fun t ht j hj => ?_⟩
  · rw [eI_uI, if_pos ⟨rfl, rfl⟩]
    rfl
  · rw [eI_uI, if_neg (by omega)]
    exact h2
  · rw [eI_uI, if_neg (by omega)]
    exact h3
  · rw [eI_uI, if_neg (by omega)]
    exact h4
  · rw [eI_uI, if_neg (by omega)]
    exact h5 w hw j hj
  · rw [eI_uI, if_neg (by omega)]
    exact h6 t ht j hj
theorem mdl_setP {σ : ES} {d : CD} (h : mdl σ d) (p : Nat) : mdl (uI σ 69 1 (nI p)) (setP d p) := ⟨rfl, h.2.1, h.2.2.1, h.2.2.2.1, h.2.2.2.2.1, h.2.2.2.2.2.1, h.2.2.2.2.2.2⟩
theorem places_2 {σ τ : ES} {t : Tok} {d : CD} (h : itm b n σ τ t d) : did b n σ τ t d (e_X6_placesItem σ) (e_X10_readsItem_J82 7 (eI τ 69 1) 6 τ) := by
  obtain ⟨h1, h2, h3, h4, h5⟩ := h
  have b1 := two_b h1
  have p6 := h5.1.2
  unfold e_X6_placesItem e_X10_readsItem_J82
  rw [if_pos h2, h3.1, h4.1, num_c b1.2.1 b1.2.2.2.2.1 h1.2.2.1 (nI (dP d)) 6, ob]
  rcases num_m h1.2.1 b1.2.2.2.1 b1.2.2.2.2.1 h1.2.2.2.1 (lo := nI (dP d)) (hi := 6) (by decide) with ⟨q1, q2⟩ | ⟨q1, τ2, q2, q3, q4, q5, q6, q7, q8⟩
  · rw [q1, if_pos bi_f, q2, ob, if_pos rfl]
    exact ⟨false, t, d, σ, τ, rfl, rfl, ⟨h1, h2, h3, h4, h5⟩, ext.refl d, gC.refl σ, gM.refl τ, Nat.le_refl _⟩
  · have v := (of_decide_eq_true q1 : _ ∧ _)
    have e6 := h1.2.2.1.2.2.2 v.1
    have v2 : (t.2.2.2 : Int) ≤ 6 := v.2.2
    have v1 := v.2.1
    rw [nIt (by omega)] at v1
    rw [q1, if_neg (by decide), q2, ob, if_neg (show ¬ (1 : Int32) = 0 by decide), if_pos rfl, e6, q4]
    have w1 : tpC (uI σ 19 0 (nI t.2.2.2)) b n := h1.1
    obtain ⟨σ2, s1, s2, s3⟩ := next_c b1.2.2.2.1 w1 (show eI (uI σ 19 0 (nI t.2.2.2)) 57 5 = nI t.2.2.1 from h1.2.2.1.2.2.1)
    rw [s1, ob]
    refine ⟨true, tkn b n t.2.2.1, setP d t.2.2.2, σ2, _, rfl, rfl, ⟨⟨tpC_nf w1 s2, q7, s3, q8, _, b1.2.2.2.1, rfl⟩, (s2.2.2 2).trans h2, cls_f (cls_setP h3 _) (fC_n s2), mdl_setP (mdl_f h4 q3) _, ok_setP h5 (by omega) (by omega)⟩, ⟨Nat.le_refl _, Nat.le_refl _, fun _ _ _ => rfl, fun _ _ _ => rfl⟩, (gC_u (by omega)).trans (gC_f (fC_n s2)), (gM_f q3).trans (gM_u (Or.inr (Or.inr ⟨rfl, by omega⟩))), (nx_ge h1).1⟩
theorem thing_2 {σ τ : ES} {t : Tok} {d : CD} (h : itm b n σ τ t d) : did b n σ τ t d (e_X6_thingItem σ) (e_X10_readsThing τ) := by
  have hh := h
  obtain ⟨h1, h2, h3, h4, h5⟩ := h
  have h12 := h5.2.2.2.1
  unfold e_X6_thingItem e_X10_readsThing
  have l12 : nI (dT d) < nI 12 ↔ dT d < 12 := nLt (by omega) (by omega)
  have l12' : nI (dT d) < 12 ↔ dT d < 12 := l12
  have e12 : nI (dT d) = 12 ↔ dT d = 12 := nI_i (b := 12) (by omega) (by omega)
  rw [if_pos h2, h3.2.2.2.1, h4.2.2.2.1]
  by_cases c : dT d < 12
  · rw [if_pos (l12'.mpr c), if_neg (fun x => by have := e12.mp x; omega)]
    obtain ⟨σ1, τ1, r1, r2, r3, r4, r5⟩ := two_next h1
    have i1 := itm_f hh (fC_n r4) (fM_n r5) r3
    rw [r1, ob, r2, ob]
    obtain ⟨y, t', g, tm, σ2, τ2, u1, u2, u3, u4, u5, u6, u7⟩ := gain_2 r3
    have i2 := itm_f i1 u3 u4 u5
    have tt : t.2.1 ≤ t'.2.1 := Nat.le_trans (nx_ge h1).1 u6
    rw [u1, ob, u2, ob]
    by_cases cy : y = true
    · obtain ⟨a1, a2, a3, a4, a5, a6, a7, a8⟩ := u7 cy
      subst cy
      have ne : ¬ (bi true, σ2).1 = 0 := by show ¬ bi true = 0; decide
      have ne' : ¬ (bi true, τ2).1 = 0 := by show ¬ bi true = 0; decide
      rw [if_neg ne, if_neg ne', if_pos i2.2.1]
      simp only []
      have e5 : eI τ2 69 5 = nI (dT d) := i2.2.2.2.1.2.2.2.1
      have k1 : ∀ i v, eI (uI τ2 72 i v) 69 5 = eI τ2 69 5 := fun _ _ => rfl
      have k2 : ∀ i v, eI (uI τ2 72 i v) 69 33 = eI τ2 69 33 := fun _ _ => rfl
      have k3 : ∀ i v i' v', eI (uI (uI τ2 72 i v) 72 i' v') 69 5 = eI τ2 69 5 := fun _ _ _ _ => rfl
      rw [a1, a2, newThing19_eq h5 i2.2.2.1 c, ob, k1, k3, k2, e5, a3, a4, show (2 : Int32) * nI (dT d) + 1 = nI (2 * dT d + 1) from two_nI (dT d) 1, two_nI0, if_pos (mib_nI (by omega) (by decide)), if_pos (mib_nI (by omega) (by decide)), nIc (by omega), nIc (by omega), nI_1]
      refine ⟨true, t', addT d (fT g tm), nT 19 σ2 (dT d) g tm, mT τ2 (dT d) g tm, rfl, rfl, ⟨two_g u5 ?_ ?_, i2.2.1, cls_nT i2.2.2.1 g tm, mdl_mT i2.2.2.2.1 g tm, ok_addT h5 c ?_⟩, ⟨Nat.le_refl _, Nat.le_succ _, fun _ _ _ => rfl, fun k hk j => ?_⟩, ?_, ?_, tt⟩
      · intro a e q
        simp only [nT, eI_uI]
        rw [if_neg (by omega), if_neg (by omega), if_neg (by omega)]
      · intro a e q1 q2 q3
        simp only [mT, eI_uI]
        rw [if_neg (by omega), if_neg (by omega), if_neg (by omega)]
      · exact ⟨⟨by show (-999999999 : Int) ≤ g.toInt; omega, by show g.toInt ≤ 999999999; omega⟩, ⟨a7, a8⟩⟩
      · show (if k = dT d + 1 then _ else _) = _
        rw [if_neg (by omega)]
      · exact ((gC_f (fC_n r4)).trans (gC_f u3)).trans (((gC_u (by omega)).trans (gC_u (by omega))).trans (gC_u (by omega)))
      · exact ((gM_f (fM_n r5)).trans (gM_f u4)).trans (((gM_u (Or.inr (Or.inl rfl))).trans (gM_u (Or.inr (Or.inl rfl)))).trans (gM_u (Or.inr (Or.inr ⟨rfl, by omega⟩))))
    · have cy' : y = false := by simpa using cy
      subst cy'
      rw [if_pos (show (bi false, σ2).1 = 0 from bi_f), if_pos (show (bi false, τ2).1 = 0 from bi_f)]
      exact ⟨false, t', d, σ2, τ2, rfl, rfl, i2, ext.refl d, (gC_f (fC_n r4)).trans (gC_f u3), (gM_f (fM_n r5)).trans (gM_f u4), tt⟩
  · rw [if_neg (fun x => c (l12'.mp x)), if_pos (e12.mpr (by omega))]
    exact ⟨false, t, d, σ, τ, rfl, rfl, hh, ext.refl d, gC.refl σ, gM.refl τ, Nat.le_refl _⟩
theorem pr_nI {P : Nat} (h : 1 ≤ P) : nI P - 1 = nI (P - 1) := by
  obtain ⟨k, rfl⟩ : ∃ k, P = k + 1 := ⟨P - 1, by omega⟩
  rw [nI_pred]
  rfl
/-- perhaps the word shut -/
theorem shut_2 {σ τ : ES} {t : Tok} {d d0 : CD} {N : Nat} (h : itm b n σ τ t d) (hN : dN d = N + 1) (e0 : ext d0 d) (hd : dN d0 ≤ N) : did b n σ τ t d0 ((e_X6_isWord σ (1000 + 12)).bind (fun r19 => if r19 = 0 then (some ((1 : Int32), σ)) else (if eT σ 2 = some 19 then (if mib (nI N) 14 = true then ((e_X6_next (uI σ 25 (nI N).toNatClampNeg (1 : Int32))).bind (fun r23 => some ((1 : Int32), r23))) else none) else none))) ((e_X10_isWord τ (12 : Int32)).bind (fun r7 => if r7 = 0 then (some ((1 : Int32), τ)) else (if mib (((6 : Int32) * ((eI τ 69 3) - (1 : Int32))) + (5 : Int32)) 84 = true then ((e_X10_next (uI τ 71 (((6 : Int32) * ((eI τ 69 3) - (1 : Int32))) + (5 : Int32)).toNatClampNeg (1 : Int32))).bind (fun r10 => some ((1 : Int32), r10))) else none))) := by
  have hh := h
  obtain ⟨h1, h2, h3, h4, h5⟩ := h
  have h14 := h5.2.2.1
  have wc := two_wc h1 (k := 12) (by omega)
  have wm : e_X10_isWord τ 12 = some (bi (wk b t 12)) := two_wm h1 (w := 12) (by omega)
  rw [wc, ob, wm, ob, show wmap.getD 12 0 = 12 from rfl]
  by_cases c : wk b t 12 = true
  · have six : (6 : Int32) * nI N + 5 = nI (6 * N + 5) := six_nI (w := N) 5 (by omega) (by omega)
    rw [c, if_neg (show ¬ bi true = 0 by decide), if_neg (show ¬ bi true = 0 by decide), if_pos h2, if_pos (mib_nI (by omega) (by decide)), nIc (by omega), h4.2.2.1, hN, nI_pred, six, if_pos (mib_nI (by omega) (by decide)), nIc (by omega)]
    have tw : two b n (uI σ 25 N 1) (uI τ 71 (6 * N + 5) 1) t := by
      refine two_g h1 (fun a e q => ?_) (fun a e q1 q2 q3 => ?_)
      · rw [eI_uI, if_neg (by omega)]
      · rw [eI_uI, if_neg (by omega)]
    obtain ⟨σ1, τ1, r1, r2, r3, r4, r5⟩ := two_next tw
    rw [r1, ob, r2, ob]
    have o5 : okD (setW d N 5 1) := by
      apply ok_setW h5
      obtain ⟨a1, a2, a3, a4, a5, a6, a7⟩ := h5.2.2.2.2.1 N (by omega)
      exact ⟨a1, a2, a3, a4, a5, a6, Or.inr rfl⟩
    have k1 : cls (uI σ 25 N 1) 19 (setW d N 5 1) := cls_setWo h3 N 5 1 (by omega)
    have k2 : mdl (uI τ 71 (6 * N + 5) 1) (setW d N 5 1) := mdl_setW h4 N 5 1 (by omega)
    refine ⟨true, _, setW d N 5 1, σ1, τ1, rfl, rfl, ⟨r3, (r4.2.2 2).trans h2, cls_f k1 (fC_n r4), mdl_f k2 (fM_n r5), o5⟩, ⟨e0.1, e0.2.1, fun w hw j => ?_, e0.2.2.2⟩, (gC_u (by omega)).trans (gC_f (fC_n r4)), (gM_u (Or.inl rfl)).trans (gM_f (fM_n r5)), (nx_ge h1).1⟩
    show (if w = N ∧ j = 5 then _ else _) = _
    rw [if_neg (by omega)]
    exact e0.2.2.1 w hw j
  · have c' : wk b t 12 = false := by simpa using c
    rw [c', if_pos bi_f, if_pos bi_f]
    exact ⟨true, t, d, σ, τ, rfl, rfl, hh, e0, gC.refl σ, gM.refl τ, Nat.le_refl _⟩
theorem way_2 {σ τ : ES} {t : Tok} {d : CD} (h : itm b n σ τ t d) {k : Nat} (hk : k < 6) : did b n σ τ t d (e_X6_wayItem (nI k) σ) (e_X10_readsWay (nI k) τ) := by
  have hh := h
  obtain ⟨h1, h2, h3, h4, h5⟩ := h
  have h14 := h5.2.2.1
  have p2 := h5.1.1
  have p6 := h5.1.2
  unfold e_X6_wayItem e_X10_readsWay
  have l14 : nI (dN d) < 14 ↔ dN d < 14 := nLt (a := dN d) (b := 14) (by omega) (by omega)
  have e14 : nI (dN d) = 14 ↔ dN d = 14 := nI_i (b := 14) (by omega) (by omega)
  have k0 : ¬ nI k < 0 := fun x => by
    have := (nLt (a := k) (b := 0) (by omega) (by omega)).mp x
    omega
  rw [if_neg k0, if_pos h2, h3.2.2.1, h4.2.2.1]
  by_cases c : dN d < 14
  · rw [if_pos (l14.mpr c), if_neg (fun x => by have := e14.mp x; omega)]
    obtain ⟨σ1, τ1, r1, r2, r3, r4, r5⟩ := two_next h1
    have i1 := itm_f hh (fC_n r4) (fM_n r5) r3
    have b1 := two_b r3
    have t1 := (nx_ge h1).1
    generalize tkn b n t.2.2.1 = ta at r3 i1 b1 t1
    have pI : (nI (dP d - 1)).toInt = (dP d : Int) - 1 := by
      rw [nIt (by omega)]
      omega
    rw [r1, ob, r2, ob, if_pos i1.2.1, i1.2.2.1.1, i1.2.2.2.1.1, pr_nI (by omega), num_c b1.2.1 b1.2.2.2.2.1 r3.2.2.1 0 (nI (dP d - 1)), ob]
    rcases num_m r3.2.1 b1.2.2.2.1 b1.2.2.2.2.1 r3.2.2.2.1 (lo := 0) (hi := nI (dP d - 1)) (by omega) with ⟨q1, q2⟩ | ⟨q1, τ2, q2, q3, q4, q5, q6, q7, q8⟩
    · rw [q1, if_pos bi_f, q2, ob, if_pos rfl]
      exact ⟨false, ta, d, σ1, τ1, rfl, rfl, i1, ext.refl d, gC_f (fC_n r4), gM_f (fM_n r5), t1⟩
    · have v := (of_decide_eq_true q1 : _ ∧ _)
      have e6 := r3.2.2.1.2.2.2 v.1
      have v2 := v.2.2
      rw [pI] at v2
      obtain ⟨σ2, s1, s2, s3⟩ := next_c b1.2.2.2.1 r3.1 r3.2.2.1.2.2.1
      have tw2 : two b n σ2 τ2 (tkn b n ta.2.2.1) := ⟨tpC_nf r3.1 s2, q7, s3, q8, _, b1.2.2.2.1, rfl⟩
      have i2 := itm_f i1 (fC_n s2) q3 tw2
      have t2 := Nat.le_trans t1 (nx_ge r3).1
      have b2 := two_b tw2
      have GC2 : gC σ σ2 := (gC_f (fC_n r4)).trans (gC_f (fC_n s2))
      have GM2 : gM τ τ2 := (gM_f (fM_n r5)).trans (gM_f q3)
      generalize tkn b n ta.2.2.1 = tb at tw2 i2 t2 b2
      rw [q1, if_neg (by decide), q2, ob, if_neg (show ¬ (1 : Int32) = 0 by decide), s1, ob, if_pos i2.2.1, i2.2.2.1.1, pr_nI (by omega), num_c b2.2.1 b2.2.2.2.2.1 tw2.2.2.1 0 (nI (dP d - 1)), ob, e6]
      simp only []
      rw [q4]
      have J : did b n σ τ t d (if bi (nok tb (0 : Int32).toInt (nI (dP d - 1)).toInt) = 0 then (some ((0 : Int32), σ2)) else (if (eI σ2 57 6) = nI ta.2.2.2 then (some ((0 : Int32), σ2)) else ((e_X6_next σ2).bind (fun r12 => (e_X6_gainAndTime r12).bind (fun r14 => if r14.1 = 0 then (some ((0 : Int32), r14.2)) else (if eT r14.2 2 = some 19 then ((e_X1_newWay_19 (nI k) (nI ta.2.2.2) (eI σ2 57 6) (eI r14.2 57 7) (eI r14.2 57 8) r14.2).bind (fun r17 => (e_X6_isWord r17.2 (1000 + 12)).bind (fun r19 => if r19 = 0 then (some ((1 : Int32), r17.2)) else (if eT r17.2 2 = some 19 then (if mib r17.1 14 = true then ((e_X6_next (uI r17.2 25 r17.1.toNatClampNeg (1 : Int32))).bind (fun r23 => some ((1 : Int32), r23))) else none) else none)))) else none)))))) (if (eI τ2 69 28) = (1 : Int32) then (if (eI τ2 69 29) = nI ta.2.2.2 then (some ((0 : Int32), τ2)) else (e_X10_readsWay_J52 (nI k) (nI ta.2.2.2) τ2)) else (e_X10_readsWay_J52 (nI k) (nI ta.2.2.2) τ2)) := by
        have F : ∀ X, X = some ((0 : Int32), τ2) → ∀ Y, Y = some ((0 : Int32), σ2) → did b n σ τ t d Y X := fun X hX Y hY => ⟨false, tb, d, σ2, τ2, hY, hX, i2, ext.refl d, GC2, GM2, t2⟩
        rcases num_m tw2.2.1 b2.2.2.2.1 b2.2.2.2.2.1 tw2.2.2.2.1 (lo := 0) (hi := nI (dP d - 1)) (by omega) with ⟨z1, z2⟩ | ⟨z1, τ3, z2, z3, z4, z5, z6, z7, z8⟩
        · apply F
          · have Jn : e_X10_readsWay_J52 (nI k) (nI ta.2.2.2) τ2 = some (0, τ2) := by
              unfold e_X10_readsWay_J52
              rw [i2.2.2.2.1.1, pr_nI (by omega), z2, ob, if_pos rfl]
            rw [Jn]
            by_cases g1 : eI τ2 69 28 = 1
            · rw [if_pos g1]
              by_cases g2 : eI τ2 69 29 = nI ta.2.2.2
              · rw [if_pos g2]
              · rw [if_neg g2]
            · rw [if_neg g1]
          · rw [z1, if_pos bi_f]
        · have v' := (of_decide_eq_true z1 : _ ∧ _)
          have e6' := tw2.2.2.1.2.2.2 v'.1
          have v2' := v'.2.2
          rw [pI] at v2'
          have m28 : eI τ2 69 28 = 1 := tw2.2.2.2.1.1.trans (tok1.mpr ⟨v'.1, by omega⟩)
          have m29 : eI τ2 69 29 = nI tb.2.2.2 := tw2.2.2.2.1.2.2.2 v'.1 (by omega)
          rw [z1, if_neg (show ¬ bi true = 0 by decide), if_pos m28, m29, e6']
          by_cases eq : tb.2.2.2 = ta.2.2.2
          · rw [eq, if_pos rfl, if_pos rfl]
            exact F _ rfl _ rfl
          · have ne : ¬ nI tb.2.2.2 = nI ta.2.2.2 := fun x => eq ((nI_i (by omega) (by omega)).mp x)
            rw [if_neg ne, if_neg ne]
            unfold e_X10_readsWay_J52
            obtain ⟨σ3, s1, s2, s3⟩ := next_c b2.2.2.2.1 tw2.1 tw2.2.2.1.2.2.1
            have tw3 : two b n σ3 τ3 (tkn b n tb.2.2.1) := ⟨tpC_nf tw2.1 s2, z7, s3, z8, _, b2.2.2.2.1, rfl⟩
            have i3 := itm_f i2 (fC_n s2) z3 tw3
            have t3 := Nat.le_trans t2 (nx_ge tw2).1
            obtain ⟨y, t', g, tm, σ4, τ4, u1, u2, u3, u4, u5, u6, u7⟩ := gain_2 tw3
            have i4 := itm_f i3 u3 u4 u5
            have GC4 : gC σ σ4 := (GC2.trans (gC_f (fC_n s2))).trans (gC_f u3)
            have GM4 : gM τ τ4 := (GM2.trans (gM_f z3)).trans (gM_f u4)
            have t4 := Nat.le_trans t3 u6
            rw [i2.2.2.2.1.1, pr_nI (by omega), z2, ob, if_neg (show ¬ (1 : Int32) = 0 by decide), s1, ob, u1, ob]
            simp only []
            rw [u2, ob, z4]
            by_cases cy : y = true
            · obtain ⟨a1, a2, a3, a4, a5, a6, a7, a8⟩ := u7 cy
              subst cy
              have ne : ¬ (bi true, σ4).1 = 0 := by show ¬ bi true = 0; decide
              have ne' : ¬ (bi true, τ4).1 = 0 := by show ¬ bi true = 0; decide
              rw [if_neg ne, if_neg ne', if_pos i4.2.1]
              simp only []
              rw [a1, a2, a3, a4, newWay19_eq h5 i4.2.2.1 c, ob, addWay_eq h5 i4.2.2.2.1 c, ob]
              have okw : okW (dP d) (fW (nI k) (nI ta.2.2.2) (nI tb.2.2.2) g tm 0) := by
                refine ⟨⟨?_, ?_⟩, ⟨?_, ?_⟩, ⟨?_, ?_⟩, fun x => eq ((nI_i (by omega) (by omega)).mp (Eq.symm x)), ⟨?_, ?_⟩, ⟨a7, a8⟩, Or.inl rfl⟩
                · show (0 : Int) ≤ (nI k).toInt
                  rw [nIt (by omega)]
                  omega
                · show (nI k).toInt ≤ 5
                  rw [nIt (by omega)]
                  omega
                · show (0 : Int) ≤ (nI ta.2.2.2).toInt
                  rw [nIt (by omega)]
                  omega
                · show (nI ta.2.2.2).toInt < (dP d : Int)
                  rw [nIt (by omega)]
                  omega
                · show (0 : Int) ≤ (nI tb.2.2.2).toInt
                  rw [nIt (by omega)]
                  omega
                · show (nI tb.2.2.2).toInt < (dP d : Int)
                  rw [nIt (by omega)]
                  omega
                · show (-999999999 : Int) ≤ g.toInt
                  omega
                · show g.toInt ≤ 999999999
                  omega
              have tw5 : two b n (nW 19 σ4 (dN d) (nI k) (nI ta.2.2.2) (nI tb.2.2.2) g tm) (mW τ4 (dN d) (nI k) (nI ta.2.2.2) (nI tb.2.2.2) g tm) t' := by
                refine two_g u5 (fun a e q => ?_) (fun a e q1 q2 q3 => ?_)
                · simp only [nW, eI_uI]
                  rw [if_neg (by omega), if_neg (by omega), if_neg (by omega), if_neg (by omega), if_neg (by omega), if_neg (by omega), if_neg (by omega)]
                · simp only [mW, eI_uI]
                  rw [if_neg (by omega), if_neg (by omega), if_neg (by omega), if_neg (by omega), if_neg (by omega), if_neg (by omega), if_neg (by omega)]
              have i5 : itm b n (nW 19 σ4 (dN d) (nI k) (nI ta.2.2.2) (nI tb.2.2.2) g tm) (mW τ4 (dN d) (nI k) (nI ta.2.2.2) (nI tb.2.2.2) g tm) t' (addW d (fW (nI k) (nI ta.2.2.2) (nI tb.2.2.2) g tm 0)) := ⟨tw5, i4.2.1, cls_nW i4.2.2.1 _ _ _ _ _, mdl_mW i4.2.2.2.1 _ _ _ _ _, ok_addW h5 c okw⟩
              have ex : ext d (addW d (fW (nI k) (nI ta.2.2.2) (nI tb.2.2.2) g tm 0)) := ⟨Nat.le_succ _, Nat.le_refl _, fun w hw j => by
                show (if w = dN d then _ else _) = _
                rw [if_neg (by omega)], fun _ _ _ => rfl⟩
              have D := shut_2 i5 (N := dN d) rfl ex (Nat.le_refl _)
              have l71 : hM 71 0 ∧ True := ⟨Or.inl rfl, trivial⟩
              have h71 : ∀ j, hM 71 j := fun j => Or.inl rfl
              refine did_c D (GC4.trans ?_) (GM4.trans ?_) t4
              · exact (((((((gC_u (by omega)).trans (gC_u (by omega))).trans (gC_u (by omega))).trans (gC_u (by omega))).trans (gC_u (by omega))).trans (gC_u (by omega))).trans (gC_u (by omega)))
              · exact (((((((gM_u (h71 _)).trans (gM_u (h71 _))).trans (gM_u (h71 _))).trans (gM_u (h71 _))).trans (gM_u (h71 _))).trans (gM_u (h71 _))).trans (gM_u (Or.inr (Or.inr ⟨rfl, by omega⟩))))
            · have cy' : y = false := by simpa using cy
              subst cy'
              rw [if_pos (show (bi false, σ4).1 = 0 from bi_f), if_pos (show (bi false, τ4).1 = 0 from bi_f)]
              exact ⟨false, t', d, σ4, τ4, rfl, rfl, i4, ext.refl d, GC4, GM4, t4⟩
      exact J
  · rw [if_neg (fun x => c (l14.mp x)), if_pos (e14.mpr (by omega))]
    exact ⟨false, t, d, σ, τ, rfl, rfl, hh, ext.refl d, gC.refl σ, gM.refl τ, Nat.le_refl _⟩
end
