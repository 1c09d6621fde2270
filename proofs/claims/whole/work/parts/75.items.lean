/-! ===== texts: items, both sides in step ===== -/
def gC (σ σ' : ES) : Prop := (∀ a c, ¬ (19 ≤ a ∧ a ≤ 27) → ¬ (a = 57 ∧ (3 ≤ c ∧ c ≤ 8)) → eI σ' a c = eI σ a c) ∧ (∀ a c, eL σ' a c = eL σ a c) ∧ ∀ a, eT σ' a = eT σ a
theorem gC.refl (σ : ES) : gC σ σ := ⟨fun _ _ _ _ => rfl, fun _ _ => rfl, fun _ => rfl⟩
theorem gC.trans {σ τ υ : ES} (h : gC σ τ) (g : gC τ υ) : gC σ υ := ⟨fun a b q r => (g.1 a b q r).trans (h.1 a b q r), fun a b => (g.2.1 a b).trans (h.2.1 a b), fun a => (g.2.2 a).trans (h.2.2 a)⟩
theorem gC_f {σ σ' : ES} (h : fC σ σ') : gC σ σ' := ⟨fun a c _ q => h.1 a c q, h.2.1, h.2.2⟩
theorem gC_u {σ : ES} {k c : Nat} {v : Int32} (h : 19 ≤ k ∧ k ≤ 27) : gC σ (uI σ k c v) := ⟨fun a e q _ => by rw [eI_uI, if_neg (by omega)], fun _ _ => rfl, fun _ => rfl⟩
def hM (a c : Nat) : Prop := a = 71 ∨ a = 72 ∨ (a = 69 ∧ (c = 1 ∨ c = 2 ∨ c = 3 ∨ c = 5 ∨ (26 ≤ c ∧ c ≤ 33)))
def gM (σ σ' : ES) : Prop := (∀ a c, ¬ hM a c → eI σ' a c = eI σ a c) ∧ (∀ a c, eL σ' a c = eL σ a c) ∧ ∀ a, eT σ' a = eT σ a
theorem gM.refl (σ : ES) : gM σ σ := ⟨fun _ _ _ => rfl, fun _ _ => rfl, fun _ => rfl⟩
theorem gM.trans {σ τ υ : ES} (h : gM σ τ) (g : gM τ υ) : gM σ υ := ⟨fun a b q => (g.1 a b q).trans (h.1 a b q), fun a b => (g.2.1 a b).trans (h.2.1 a b), fun a => (g.2.2 a).trans (h.2.2 a)⟩
theorem gM_f {σ σ' : ES} (h : fM σ σ') : gM σ σ' := ⟨fun a c q => h.1 a c (fun x => q (Or.inr (Or.inr ⟨x.1, Or.inr (Or.inr (Or.inr (Or.inr x.2)))⟩))), h.2.1, h.2.2⟩
theorem gM_u {σ : ES} {k c : Nat} {v : Int32} (h : hM k c) : gM σ (uI σ k c v) := ⟨fun a e q => by rw [eI_uI, if_neg (fun x => q (by rw [x.1, x.2]; exact h))], fun _ _ => rfl, fun _ => rfl⟩
theorem cls_f {σ σ' : ES} {d : CD} (h : cls σ 19 d) (g : fC σ σ') : cls σ' 19 d := cls_c h (fun k j _ _ => g.1 k j (by omega))
theorem mdl_f {σ σ' : ES} {d : CD} (h : mdl σ d) (g : fM σ σ') : mdl σ' d := mdl_c h (fun j _ => g.1 69 j (by omega)) (fun j => g.1 71 j (by omega)) (fun j => g.1 72 j (by omega)) (fun j => g.1 73 j (by omega))
/-- the tape and the token are no part of the country -/
theorem two_g {b : Nat → Int32} {n : Nat} {σ τ σ' τ' : ES} {t : Tok} (h : two b n σ τ t) (c : ∀ a e, ¬ (19 ≤ a ∧ a ≤ 27) → eI σ' a e = eI σ a e) (m : ∀ a e, a ≠ 71 → a ≠ 72 → ¬ (a = 69 ∧ (e = 1 ∨ e = 2 ∨ e = 3 ∨ e = 5)) → eI τ' a e = eI τ a e) : two b n σ' τ' t := by
  obtain ⟨⟨a1, a2, a3⟩, ⟨b1, b2, b3, b4⟩, ⟨c1, c2, c3, c4⟩, ⟨d1, d2, d3, d4⟩, h5⟩ := h
  refine ⟨⟨a1, (c 57 0 (by omega)).trans a2, fun i hi => ?_⟩, ⟨b1, (m 69 25 (by omega) (by omega) (by omega)).trans b2, fun i hi => ?_, fun k hk => (m 80 k (by omega) (by omega) (by omega)).trans (b4 k hk)⟩, ⟨(c 57 3 (by omega)).trans c1, (c 57 4 (by omega)).trans c2, (c 57 5 (by omega)).trans c3, fun x => (c 57 6 (by omega)).trans (c4 x)⟩, ⟨(m 69 28 (by omega) (by omega) (by omega)).trans d1, (m 69 27 (by omega) (by omega) (by omega)).trans d2, (m 69 26 (by omega) (by omega) (by omega)).trans d3, fun x y => (m 69 29 (by omega) (by omega) (by omega)).trans (d4 x y)⟩, h5⟩
  · rw [c 58 i (by omega)]
    exact a3 i hi
  · rw [m 79 i (by omega) (by omega) (by omega)]
    exact b3 i hi
def ext (d d' : CD) : Prop := dN d ≤ dN d' ∧ dT d ≤ dT d' ∧ (∀ w, w < dN d → ∀ j, dw d' w j = dw d w j) ∧ ∀ t, t ≤ dT d → ∀ j, dt d' t j = dt d t j
theorem ext.refl (d : CD) : ext d d := ⟨Nat.le_refl _, Nat.le_refl _, fun _ _ _ => rfl, fun _ _ _ => rfl⟩
theorem ext.trans {d e f : CD} (h : ext d e) (g : ext e f) : ext d f := ⟨Nat.le_trans h.1 g.1, Nat.le_trans h.2.1 g.2.1, fun w hw j => (g.2.2.1 w (Nat.lt_of_lt_of_le hw h.1) j).trans (h.2.2.1 w hw j), fun t ht j => (g.2.2.2 t (Nat.le_trans ht h.2.1) j).trans (h.2.2.2 t ht j)⟩
def setP (d : CD) (p : Nat) : CD := ((p, dW d, dN d, dT d), d.2)
theorem ok_setP {d : CD} (ok : okD d) {p : Nat} (h1 : dP d ≤ p) (h2 : p ≤ 6) : okD (setP d p) := by
  refine ⟨⟨Nat.le_trans ok.1.1 h1, h2⟩, ok.2.1, ok.2.2.1, ok.2.2.2.1, fun w hw => ?_, ok.2.2.2.2.2⟩
  obtain ⟨a, b, c, e⟩ := ok.2.2.2.2.1 w hw
  have b2 : (dw d w 1).toInt < dP d := b.2
  have c2 : (dw d w 2).toInt < dP d := c.2
  exact ⟨a, ⟨b.1, by show (dw d w 1).toInt < (p : Int); omega⟩, ⟨c.1, by show (dw d w 2).toInt < (p : Int); omega⟩, e⟩
section
variable {b : Nat → Int32} {n : Nat}
/-- both sides look at one token and hold one country -/
def itm (b : Nat → Int32) (n : Nat) (σ τ : ES) (t : Tok) (d : CD) : Prop := two b n σ τ t ∧ eT σ 2 = some 19 ∧ cls σ 19 d ∧ mdl τ d ∧ okD d
/-- what an item does -/
def did (b : Nat → Int32) (n : Nat) (σ τ : ES) (t : Tok) (d : CD) (A B : Option (Int32 × ES)) : Prop := ∃ y t' d' σ' τ', A = some (bi y, σ') ∧ B = some (bi y, τ') ∧ itm b n σ' τ' t' d' ∧ ext d d' ∧ gC σ σ' ∧ gM τ τ' ∧ t.2.1 ≤ t'.2.1
theorem did_c {σ τ σ0 τ0 : ES} {t t0 : Tok} {d : CD} {A B : Option (Int32 × ES)} (h : did b n σ τ t d A B) (g1 : gC σ0 σ) (g2 : gM τ0 τ) (ht : t0.2.1 ≤ t.2.1) : did b n σ0 τ0 t0 d A B := by
  obtain ⟨y, t', d', σ', τ', h1, h2, h3, h4, h5, h6, h7⟩ := h
  exact ⟨y, t', d', σ', τ', h1, h2, h3, h4, g1.trans h5, g2.trans h6, Nat.le_trans ht h7⟩
theorem itm_f {σ τ σ' τ' : ES} {t t' : Tok} {d : CD} (h : itm b n σ τ t d) (g1 : fC σ σ') (g2 : fM τ τ') (g3 : two b n σ' τ' t') : itm b n σ' τ' t' d := ⟨g3, (g1.2.2 2).trans h.2.1, cls_f h.2.2.1 g1, mdl_f h.2.2.2.1 g2, h.2.2.2.2⟩
theorem weather_2 {σ τ : ES} {t : Tok} {d : CD} (h : itm b n σ τ t d) : did b n σ τ t d (e_X6_weatherItem σ) (e_X10_readsItem_J82 8 0 5 τ) := by
  obtain ⟨h1, h2, h3, h4, h5⟩ := h
  have b1 := two_b h1
  unfold e_X6_weatherItem e_X10_readsItem_J82
  rw [num_c b1.2.1 b1.2.2.2.2.1 h1.2.2.1 0 5, ob]
  rcases num_m h1.2.1 b1.2.2.2.1 b1.2.2.2.2.1 h1.2.2.2.1 (lo := 0) (hi := 5) (by decide) with ⟨q1, q2⟩ | ⟨q1, τ2, q2, q3, q4, q5, q6, q7, q8⟩
  · rw [q1, if_pos bi_f, q2, ob, if_pos rfl]
    exact ⟨false, t, d, σ, τ, rfl, rfl, ⟨h1, h2, h3, h4, h5⟩, ext.refl d, gC.refl σ, gM.refl τ, Nat.le_refl _⟩
  · have v := (of_decide_eq_true q1 : _ ∧ _)
    have e6 := h1.2.2.1.2.2.2 v.1
    have v2 : (t.2.2.2 : Int) ≤ 5 := v.2.2
    rw [q1, if_neg (by decide), if_pos h2, q2, ob, if_neg (show ¬ (1 : Int32) = 0 by decide), if_neg (show ¬ (8 : Int32) = 7 by decide), e6, q4]
    have h1' : two b n (uI σ 19 1 (nI t.2.2.2)) (uI τ2 69 2 (nI t.2.2.2)) t → True := fun _ => trivial
    have w1 : tpC (uI σ 19 1 (nI t.2.2.2)) b n := h1.1
    obtain ⟨σ2, s1, s2, s3⟩ := next_c b1.2.2.2.1 w1 (show eI (uI σ 19 1 (nI t.2.2.2)) 57 5 = nI t.2.2.1 from h1.2.2.1.2.2.1)
    rw [s1, ob]
    refine ⟨true, tkn b n t.2.2.1, setZ d t.2.2.2, σ2, _, rfl, rfl, ⟨⟨tpC_nf w1 s2, q7, s3, q8, _, b1.2.2.2.1, rfl⟩, (s2.2.2 2).trans h2, cls_f (cls_setZ h3 _) (fC_n s2), mdl_setZ (mdl_f h4 q3) _, ok_setZ h5 (by omega)⟩, ⟨Nat.le_refl _, Nat.le_refl _, fun _ _ _ => rfl, fun _ _ _ => rfl⟩, (gC_u (by omega)).trans (gC_f (fC_n s2)), (gM_f q3).trans (gM_u (Or.inr (Or.inr ⟨rfl, by omega⟩))), (nx_ge h1).1⟩
theorem cls_setP {σ : ES} {o : Nat} {d : CD} (h : cls σ o d) (p : Nat) : cls (uI σ o 0 (nI p)) o (setP d p) := by
  obtain ⟨h1, h2, h3, h4, h5, h6⟩ := h
  refine ⟨?_, ?_, ?_, ?_, fun w hw j hj => ?_, fun t ht j hj => ?_⟩
  · rw [eI_uI, if_pos ⟨rfl, rfl⟩]
    rfl
  · rw [eI_uI, if_neg (by omega)]
    exact h2
  · rw [eI_uI, if_neg (by omega)]
    exact h3
  · rw [eI_uI, if_neg (by omega)]
    exact h4
  · rw [eI_uI, if_neg (by omega)]
    exact h5 w hw j hj
  · rw [eI_uI, if_neg (by omega)]
    exact h6 t ht j hj
theorem mdl_setP {σ : ES} {d : CD} (h : mdl σ d) (p : Nat) : mdl (uI σ 69 1 (nI p)) (setP d p) := ⟨rfl, h.2.1, h.2.2.1, h.2.2.2.1, h.2.2.2.2.1, h.2.2.2.2.2.1, h.2.2.2.2.2.2⟩
theorem places_2 {σ τ : ES} {t : Tok} {d : CD} (h : itm b n σ τ t d) : did b n σ τ t d (e_X6_placesItem σ) (e_X10_readsItem_J82 7 (eI τ 69 1) 6 τ) := by
  obtain ⟨h1, h2, h3, h4, h5⟩ := h
  have b1 := two_b h1
  have p6 := h5.1.2
  unfold e_X6_placesItem e_X10_readsItem_J82
  rw [if_pos h2, h3.1, h4.1, num_c b1.2.1 b1.2.2.2.2.1 h1.2.2.1 (nI (dP d)) 6, ob]
  rcases num_m h1.2.1 b1.2.2.2.1 b1.2.2.2.2.1 h1.2.2.2.1 (lo := nI (dP d)) (hi := 6) (by decide) with ⟨q1, q2⟩ | ⟨q1, τ2, q2, q3, q4, q5, q6, q7, q8⟩
  · rw [q1, if_pos bi_f, q2, ob, if_pos rfl]
    exact ⟨false, t, d, σ, τ, rfl, rfl, ⟨h1, h2, h3, h4, h5⟩, ext.refl d, gC.refl σ, gM.refl τ, Nat.le_refl _⟩
  · have v := (of_decide_eq_true q1 : _ ∧ _)
    have e6 := h1.2.2.1.2.2.2 v.1
    have v2 : (t.2.2.2 : Int) ≤ 6 := v.2.2
    have v1 := v.2.1
    rw [nIt (by omega)] at v1
    rw [q1, if_neg (by decide), q2, ob, if_neg (show ¬ (1 : Int32) = 0 by decide), if_pos rfl, e6, q4]
    have w1 : tpC (uI σ 19 0 (nI t.2.2.2)) b n := h1.1
    obtain ⟨σ2, s1, s2, s3⟩ := next_c b1.2.2.2.1 w1 (show eI (uI σ 19 0 (nI t.2.2.2)) 57 5 = nI t.2.2.1 from h1.2.2.1.2.2.1)
    rw [s1, ob]
    refine ⟨true, tkn b n t.2.2.1, setP d t.2.2.2, σ2, _, rfl, rfl, ⟨⟨tpC_nf w1 s2, q7, s3, q8, _, b1.2.2.2.1, rfl⟩, (s2.2.2 2).trans h2, cls_f (cls_setP h3 _) (fC_n s2), mdl_setP (mdl_f h4 q3) _, ok_setP h5 (by omega) (by omega)⟩, ⟨Nat.le_refl _, Nat.le_refl _, fun _ _ _ => rfl, fun _ _ _ => rfl⟩, (gC_u (by omega)).trans (gC_f (fC_n s2)), (gM_f q3).trans (gM_u (Or.inr (Or.inr ⟨rfl, by omega⟩))), (nx_ge h1).1⟩
theorem thing_2 {σ τ : ES} {t : Tok} {d : CD} (h : itm b n σ τ t d) : did b n σ τ t d (e_X6_thingItem σ) (e_X10_readsThing τ) := by
  have hh := h
  obtain ⟨h1, h2, h3, h4, h5⟩ := h
  have h12 := h5.2.2.2.1
  unfold e_X6_thingItem e_X10_readsThing
  have l12 : nI (dT d) < nI 12 ↔ dT d < 12 := nLt (by omega) (by omega)
  have l12' : nI (dT d) < 12 ↔ dT d < 12 := l12
  have e12 : nI (dT d) = 12 ↔ dT d = 12 := nI_i (b := 12) (by omega) (by omega)
  rw [if_pos h2, h3.2.2.2.1, h4.2.2.2.1]
  by_cases c : dT d < 12
  · rw [if_pos (l12'.mpr c), if_neg (fun x => by have := e12.mp x; omega)]
    obtain ⟨σ1, τ1, r1, r2, r3, r4, r5⟩ := two_next h1
    have i1 := itm_f hh (fC_n r4) (fM_n r5) r3
    rw [r1, ob, r2, ob]
    obtain ⟨y, t', g, tm, σ2, τ2, u1, u2, u3, u4, u5, u6, u7⟩ := gain_2 r3
    have i2 := itm_f i1 u3 u4 u5
    have tt : t.2.1 ≤ t'.2.1 := Nat.le_trans (nx_ge h1).1 u6
    rw [u1, ob, u2, ob]
    by_cases cy : y = true
    · obtain ⟨a1, a2, a3, a4, a5, a6, a7, a8⟩ := u7 cy
      subst cy
      have ne : ¬ (bi true, σ2).1 = 0 := by show ¬ bi true = 0; decide
      have ne' : ¬ (bi true, τ2).1 = 0 := by show ¬ bi true = 0; decide
      rw [if_neg ne, if_neg ne', if_pos i2.2.1]
      simp only []
      have e5 : eI τ2 69 5 = nI (dT d) := i2.2.2.2.1.2.2.2.1
      have k1 : ∀ i v, eI (uI τ2 72 i v) 69 5 = eI τ2 69 5 := fun _ _ => rfl
      have k2 : ∀ i v, eI (uI τ2 72 i v) 69 33 = eI τ2 69 33 := fun _ _ => rfl
      have k3 : ∀ i v i' v', eI (uI (uI τ2 72 i v) 72 i' v') 69 5 = eI τ2 69 5 := fun _ _ _ _ => rfl
      rw [a1, a2, newThing19_eq h5 i2.2.2.1 c, ob, k1, k3, k2, e5, a3, a4, show (2 : Int32) * nI (dT d) + 1 = nI (2 * dT d + 1) from two_nI (dT d) 1, two_nI0, if_pos (mib_nI (by omega) (by decide)), if_pos (mib_nI (by omega) (by decide)), nIc (by omega), nIc (by omega), nI_1]
      refine ⟨true, t', addT d (fT g tm), nT 19 σ2 (dT d) g tm, mT τ2 (dT d) g tm, rfl, rfl, ⟨two_g u5 ?_ ?_, i2.2.1, cls_nT i2.2.2.1 g tm, mdl_mT i2.2.2.2.1 g tm, ok_addT h5 c ?_⟩, ⟨Nat.le_refl _, Nat.le_succ _, fun _ _ _ => rfl, fun k hk j => ?_⟩, ?_, ?_, tt⟩
      · intro a e q
        simp only [nT, eI_uI]
        rw [if_neg (by omega), if_neg (by omega), if_neg (by omega)]
      · intro a e q1 q2 q3
        simp only [mT, eI_uI]
        rw [if_neg (by omega), if_neg (by omega), if_neg (by omega)]
      · exact ⟨⟨by show (-999999999 : Int) ≤ g.toInt; omega, by show g.toInt ≤ 999999999; omega⟩, ⟨a7, a8⟩⟩
      · show (if k = dT d + 1 then _ else _) = _
        rw [if_neg (by omega)]
      · exact ((gC_f (fC_n r4)).trans (gC_f u3)).trans (((gC_u (by omega)).trans (gC_u (by omega))).trans (gC_u (by omega)))
      · exact ((gM_f (fM_n r5)).trans (gM_f u4)).trans (((gM_u (Or.inr (Or.inl rfl))).trans (gM_u (Or.inr (Or.inl rfl)))).trans (gM_u (Or.inr (Or.inr ⟨rfl, by omega⟩))))
    · have cy' : y = false := by simpa using cy
      subst cy'
      rw [if_pos (show (bi false, σ2).1 = 0 from bi_f), if_pos (show (bi false, τ2).1 = 0 from bi_f)]
      exact ⟨false, t', d, σ2, τ2, rfl, rfl, i2, ext.refl d, (gC_f (fC_n r4)).trans (gC_f u3), (gM_f (fM_n r5)).trans (gM_f u4), tt⟩
  · rw [if_neg (fun x => c (l12'.mp x)), if_pos (e12.mpr (by omega))]
    exact ⟨false, t, d, σ, τ, rfl, rfl, hh, ext.refl d, gC.refl σ, gM.refl τ, Nat.le_refl _⟩
end
