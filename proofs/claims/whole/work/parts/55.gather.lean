/-! ===== gathering, for the country that is now and for the draft ===== -/
theorem c_brings1 {σ : ES} {d : CD} (ok : okD d) (h : cls σ 1 d) {w : Nat} (hw : w < dN d) : e_X1_bringsOf_1 σ (nI w) = some (brv (dw d w 0) (dw d w 3) (nI (dW d))) := c_brings ok h hw
theorem c_lasts1 {σ : ES} {d : CD} (ok : okD d) (h : cls σ 1 d) {w : Nat} (hw : w < dN d) : e_X1_lastsOf_1 σ (nI w) = some (lsv (dw d w 0) (dw d w 4) (nI (dW d))) := c_lasts ok h hw
theorem c_brings19 {σ : ES} {d : CD} (ok : okD d) (h : cls σ 19 d) {w : Nat} (hw : w < dN d) : e_X1_bringsOf_19 σ (nI w) = some (brv (dw d w 0) (dw d w 3) (nI (dW d))) := by
  have h14 := ok.2.2.1
  have hk := (ok.2.2.2.2.1 w hw).1
  have e1 : eI σ 20 w = dw d w 0 := h.2.2.2.2.1 w hw 0 (by decide)
  have e2 : eI σ 23 w = dw d w 3 := h.2.2.2.2.1 w hw 3 (by decide)
  simp only [e_X1_bringsOf_19, mib_nI (show w < 14 by omega) (by decide), if_true, nIc (show w < 2147483648 by omega), e1, e2, h.2.1, cbr hk.1 hk.2, ob]
theorem c_lasts19 {σ : ES} {d : CD} (ok : okD d) (h : cls σ 19 d) {w : Nat} (hw : w < dN d) : e_X1_lastsOf_19 σ (nI w) = some (lsv (dw d w 0) (dw d w 4) (nI (dW d))) := by
  have h14 := ok.2.2.1
  have hk := (ok.2.2.2.2.1 w hw).1
  have e1 : eI σ 20 w = dw d w 0 := h.2.2.2.2.1 w hw 0 (by decide)
  have e2 : eI σ 24 w = dw d w 4 := h.2.2.2.2.1 w hw 4 (by decide)
  simp only [e_X1_lastsOf_19, mib_nI (show w < 14 by omega) (by decide), if_true, nIc (show w < 2147483648 by omega), e1, e2, h.2.1, cls' hk.1 hk.2, ob]
section
theorem gaZ1 (a2 : Int32) : ∀ f k σ, k ≤ 6 → 6 - k < f → ∃ σ', e_X4_gather_1_L7 a2 f (nI k) σ = e_X4_gather_1_L28 a2 mN 0 σ' ∧ (∀ a b, eI σ' a b = if a = 34 ∧ k ≤ b ∧ b < 6 then 0 else eI σ a b) ∧ ∀ a b, eL σ' a b = eL σ a b := by
  intro f
  induction f with
  | zero => intro k σ h1 h2; omega
  | succ f ih =>
    intro k σ h1 h2
    have le : (6 : Int32) ≤ nI k ↔ 6 ≤ k := nLe (a := 6) (by omega) (by omega)
    simp only [e_X4_gather_1_L7]
    by_cases c : 6 ≤ k
    · rw [if_pos (le.mpr c)]
      refine ⟨σ, rfl, fun a b => ?_, fun _ _ => rfl⟩
      rw [if_neg (by omega)]
    · rw [if_neg (fun x => c (le.mp x)), if_pos (mib_nI (by omega) (by decide)), nIc (by omega), nI_1]
      obtain ⟨σ', e, e1, e2⟩ := ih (k + 1) (uI σ 34 k 0) (by omega) (by omega)
      refine ⟨σ', e, fun a b => ?_, e2⟩
      rw [e1, eI_uI]
      by_cases c1 : a = 34 ∧ k ≤ b ∧ b < 6
      · rw [if_pos c1]
        by_cases c2 : a = 34 ∧ k + 1 ≤ b ∧ b < 6
        · rw [if_pos c2]
        · rw [if_neg c2, if_pos (by omega)]
      · rw [if_neg c1, if_neg (by omega), if_neg (by omega)]
theorem gaW1 {d : CD} (ok : okD d) (a2 : Int32) : ∀ f n σ, n ≤ dN d → dN d - n < f → cls σ 1 d → tk σ d (opn d a2) n → ∃ σ', e_X4_gather_1_L28 a2 f (nI n) σ = e_X4_gather_1_L132 a2 mN 0 σ' ∧ gf σ σ' ∧ eI σ' 28 0 = eI σ 28 0 ∧ tk σ' d (opn d a2) (dN d) := by
  have h14 := ok.2.2.1
  have P6 := ok.1
  intro f
  induction f with
  | zero => intro n σ h1 h2; omega
  | succ f ih =>
    intro n σ h1 h2 hc ht
    have le : nI (dN d) ≤ nI n ↔ dN d ≤ n := nLe (by omega) (by omega)
    simp only [e_X4_gather_1_L28, hc.2.2.1]
    by_cases c0 : dN d ≤ n
    · rw [if_pos (le.mpr c0)]
      refine ⟨σ, rfl, gf.refl σ, rfl, ?_⟩
      rw [show dN d = n by omega]
      exact ht
    · have hw : n < dN d := by omega
      obtain ⟨ew, lw⟩ := wf_eq ok hw
      have eT : eI σ 4 n = dw d n 2 := hc.2.2.2.2.1 n hw 2 (by decide)
      have eF : eI σ 3 n = dw d n 1 := hc.2.2.2.2.1 n hw 1 (by decide)
      have eS : eI σ 7 n = dw d n 5 := hc.2.2.2.2.1 n hw 5 (by decide)
      have hc1 : cls (uI σ 36 n (dw d n 2)) 1 d := cls_c hc (fun k j h1 h2 => by rw [eI_uI, if_neg (by omega)])
      have hc2 : ∀ v, cls (uL (uI σ 36 n (dw d n 2)) 37 n v) 1 d := fun v => cls_c hc (fun k j h1 h2 => by rw [eI_uL, eI_uI, if_neg (by omega)])
      rw [if_neg (fun x => c0 (le.mp x)), if_pos (mib_nI (by omega) (by decide)), nIc (by omega), eT, c_brings1 ok hc1 hw, ob, c_lasts1 ok (hc2 _) hw, ob, show (brv (dw d n 0) (dw d n 3) (nI (dW d))).toInt64 = bR d n from rfl, show (lsv (dw d n 0) (dw d n 4) (nI (dW d))).toInt64 = lR d n from rfl]
      obtain ⟨τ, hτ⟩ : ∃ τ, τ = uL (uL (uI σ 36 n (dw d n 2)) 37 n (bR d n)) 38 n (lR d n) := ⟨_, rfl⟩
      rw [← hτ]
      have oI : ∀ a b, a ≠ 36 → eI τ a b = eI σ a b := by
        intro a b q
        rw [hτ, eI_uL, eI_uL, eI_uI, if_neg (by omega)]
      have oL : ∀ a b, a ≠ 37 → a ≠ 38 → eL τ a b = eL σ a b := by
        intro a b q r
        rw [hτ, eL_uL, if_neg (by omega), eL_uL, if_neg (by omega), eL_uI]
      have gτ : gf σ τ := ⟨fun a b _ _ _ _ q => oI a b q, fun a b _ _ q r => oL a b q r⟩
      have cτ : cls τ 1 d := cls_gf (by decide) hc gτ
      rw [oI 7 n (by decide), eS]
      have no : opn d a2 n = false → ∃ σ', e_X4_gather_1_L28 a2 f (nI n + 1) τ = e_X4_gather_1_L132 a2 mN 0 σ' ∧ gf σ σ' ∧ eI σ' 28 0 = eI σ 28 0 ∧ tk σ' d (opn d a2) (dN d) := by
        intro e
        have t1 := tk_no ht e
        rw [← hτ] at t1
        obtain ⟨σ', x1, x2, x3, x4⟩ := ih (n + 1) τ (by omega) (by omega) cτ t1
        rw [nI_1]
        exact ⟨σ', x1, gτ.trans x2, x3.trans (oI 28 0 (by decide)), x4⟩
      have yes : opn d a2 n = true → ∃ σ', e_X4_gather_1_J86 a2 (e_X4_gather_1_L28 a2 f) (nI n) τ = e_X4_gather_1_L132 a2 mN 0 σ' ∧ gf σ σ' ∧ eI σ' 28 0 = eI σ 28 0 ∧ tk σ' d (opn d a2) (dN d) := by
        intro e
        have t1 := tk_yes ht e (by omega) (by omega)
        rw [← hτ] at t1
        have lb := outk_len d (opn d a2) n (wf d n)
        have e34 : eI τ 34 (wf d n) = nI (outk d (opn d a2) n (wf d n)).length := (oI 34 _ (by decide)).trans (ht.1 _ (by omega))
        unfold e_X4_gather_1_J86
        rw [if_pos (mib_nI (by omega) (by decide)), nIc (by omega), oI 3 n (by decide), eF, ew, if_pos (mib_nI (by omega) (by decide)), nIc (show wf d n < 2147483648 by omega), e34, a14, if_pos (mib_nI (by omega) (by decide)), nIc (show 14 * wf d n + (outk d (opn d a2) n (wf d n)).length < 2147483648 by omega), eI_uI, if_neg (by omega), e34, nI_1, nI_1]
        obtain ⟨υ, hυ⟩ : ∃ υ, υ = uI (uI τ 35 (14 * wf d n + (outk d (opn d a2) n (wf d n)).length) (nI n)) 34 (wf d n) (nI ((outk d (opn d a2) n (wf d n)).length + 1)) := ⟨_, rfl⟩
        rw [← hυ] at t1 ⊢
        have gυ : gf τ υ := by
          refine ⟨fun a b _ _ q r _ => ?_, fun a b _ _ _ _ => ?_⟩
          · rw [hυ, eI_uI, if_neg (by omega), eI_uI, if_neg (by omega)]
          · rw [hυ]
            rfl
        obtain ⟨σ', x1, x2, x3, x4⟩ := ih (n + 1) υ (by omega) (by omega) (cls_gf (by decide) cτ gυ) t1
        refine ⟨σ', x1, (gτ.trans gυ).trans x2, x3.trans ?_, x4⟩
        rw [hυ, eI_uI, if_neg (by omega), eI_uI, if_neg (by omega)]
        exact oI 28 0 (by decide)
      by_cases c1 : dw d n 5 = 0
      · rw [if_pos c1]
        exact yes (decide_eq_true (Or.inl c1))
      · rw [if_neg c1]
        by_cases c2 : nI n = a2
        · rw [if_pos c2]
          exact yes (decide_eq_true (Or.inr c2))
        · rw [if_neg c2]
          refine no (decide_eq_false ?_)
          rintro (x | x)
          · exact c1 x
          · exact c2 x
theorem gaP1 {d : CD} (ok : okD d) (op : Nat → Bool) (a2 : Int32) : ∀ f s σ L, s ≤ dP d → dP d - s < f → eI σ 1 0 = nI (dP d) → tb σ d op → sto σ L → L.length + ((List.range' s (dP d - s)).flatMap fun s => rl d op 8 s s (2 ^ s) 0 0 0).length ≤ 1296 → ∃ σ', e_X4_gather_1_L132 a2 f (nI s) σ = some σ' ∧ cf σ σ' ∧ sto σ' (L ++ (List.range' s (dP d - s)).flatMap fun s => rl d op 8 s s (2 ^ s) 0 0 0) := by
  have P6 := ok.1
  intro f
  induction f with
  | zero => intro s σ L h1 h2; omega
  | succ f jh =>
    intro s σ L h1 h2 h ht hst hb
    have le : nI (dP d) ≤ nI s ↔ dP d ≤ s := nLe (by omega) (by omega)
    simp only [e_X4_gather_1_L132, h]
    by_cases c0 : dP d ≤ s
    · rw [if_pos (le.mpr c0), show dP d - s = 0 by omega]
      refine ⟨σ, rfl, cf.refl σ, ?_⟩
      rw [List.range'_zero, List.flatMap_nil, List.append_nil]
      exact hst
    · have l2 : 2 ^ s < 64 := Nat.pow_lt_pow_right (n := 6) (by decide) (by omega)
      rw [fm_step (show s < dP d by omega), List.length_append] at hb
      rw [fm_step (show s < dP d by omega), ← List.append_assoc]
      obtain ⟨σ1, y1, y2, y3⟩ := goOn_c ok (op := op) (show s < dP d by omega) 8 s (2 ^ s) 0 0 0 σ L (by omega) l2 (by omega) (fr_0 s (by omega)) ht hst (by omega)
      obtain ⟨σ', x1, x2, x3⟩ := jh (s + 1) σ1 _ (by omega) (by omega) ((y2.1 1 0 (by omega) (by omega)).trans h) (tb_cf ht y2) y3 (by rw [List.length_append]; omega)
      have y1' : e_X4_goOn 8 (nI s) (nI s) (nI (2 ^ s)) 0 0 0 σ = some σ1 := y1
      rw [if_neg (fun x => c0 (le.mp x)), shl_nI s (by omega), y1', ob, nI_1]
      exact ⟨σ', x1, y2.trans x2, x3⟩
theorem gather1 {d : CD} (ok : okD d) (a2 : Int32) {σ : ES} (hc : cls σ 1 d) : ∃ σ', e_X4_gather_1 a2 σ = some σ' ∧ gf σ σ' ∧ sto σ' (al d (opn d a2)) ∧ tb σ' d (opn d a2) := by
  have h14 := ok.2.2.1
  have P6 := ok.1
  obtain ⟨σ1, a1, b1, b2⟩ := gaZ1 a2 mN 0 (uI σ 28 0 0) (by omega) (mN_big (by omega))
  have g1 : gf σ σ1 := by
    refine ⟨fun a b q1 _ q3 _ _ => ?_, fun a b _ _ _ _ => b2 a b⟩
    rw [b1, if_neg (by omega), eI_uI, if_neg q1]
  have t0 : tk σ1 d (opn d a2) 0 := by
    refine ⟨fun a ha => ?_, fun a i w ha q => ?_, fun w hw => by omega⟩
    · rw [b1, if_pos ⟨rfl, by omega, ha⟩]
      rfl
    · have : (outk d (opn d a2) 0 a)[i]? = none := rfl
      rw [this] at q
      cases q
  obtain ⟨σ2, c1, g2, z2, t2⟩ := gaW1 ok a2 mN 0 σ1 (by omega) (mN_big (by omega)) (cls_gf (by decide) hc g1) t0
  have t2' : tb σ2 d (opn d a2) := ⟨fun a ha => t2.1 a (by omega), fun a i w ha q => t2.2.1 a i w (by omega) q, t2.2.2⟩
  have z1 : eI σ1 28 0 = 0 := by
    rw [b1, if_neg (by omega), eI_uI, if_pos ⟨rfl, rfl⟩]
  have s2 : sto σ2 [] := ⟨z2.trans z1, fun i r q => by cases q⟩
  have len := al_len ok (opn d a2)
  unfold al at len
  rw [List.range_eq_range'] at len
  obtain ⟨σ3, x1, x2, x3⟩ := gaP1 ok (opn d a2) a2 mN 0 σ2 [] (by omega) (mN_big (by omega)) (cls_gf (by decide) (cls_gf (by decide) hc g1) g2).1 t2' s2 (by
    rw [List.length_nil, Nat.zero_add]
    exact Nat.le_trans len (by decide))
  refine ⟨σ3, ?_, (g1.trans g2).trans (gf_cf x2), ?_, tb_cf t2' x2⟩
  · unfold e_X4_gather_1
    exact a1.trans (c1.trans x1)
  · unfold al
    rw [List.range_eq_range']
    exact x3
end
section
theorem gaZ19 (a2 : Int32) : ∀ f k σ, k ≤ 6 → 6 - k < f → ∃ σ', e_X4_gather_19_L7 a2 f (nI k) σ = e_X4_gather_19_L28 a2 mN 0 σ' ∧ (∀ a b, eI σ' a b = if a = 34 ∧ k ≤ b ∧ b < 6 then 0 else eI σ a b) ∧ ∀ a b, eL σ' a b = eL σ a b := by
  intro f
  induction f with
  | zero => intro k σ h1 h2; omega
  | succ f ih =>
    intro k σ h1 h2
    have le : (6 : Int32) ≤ nI k ↔ 6 ≤ k := nLe (a := 6) (by omega) (by omega)
    simp only [e_X4_gather_19_L7]
    by_cases c : 6 ≤ k
    · rw [if_pos (le.mpr c)]
      refine ⟨σ, rfl, fun a b => ?_, fun _ _ => rfl⟩
      rw [if_neg (by omega)]
    · rw [if_neg (fun x => c (le.mp x)), if_pos (mib_nI (by omega) (by decide)), nIc (by omega), nI_1]
      obtain ⟨σ', e, e1, e2⟩ := ih (k + 1) (uI σ 34 k 0) (by omega) (by omega)
      refine ⟨σ', e, fun a b => ?_, e2⟩
      rw [e1, eI_uI]
      by_cases c1 : a = 34 ∧ k ≤ b ∧ b < 6
      · rw [if_pos c1]
        by_cases c2 : a = 34 ∧ k + 1 ≤ b ∧ b < 6
        · rw [if_pos c2]
        · rw [if_neg c2, if_pos (by omega)]
      · rw [if_neg c1, if_neg (by omega), if_neg (by omega)]
theorem gaW19 {d : CD} (ok : okD d) (a2 : Int32) : ∀ f n σ, n ≤ dN d → dN d - n < f → cls σ 19 d → tk σ d (opn d a2) n → ∃ σ', e_X4_gather_19_L28 a2 f (nI n) σ = e_X4_gather_19_L132 a2 mN 0 σ' ∧ gf σ σ' ∧ eI σ' 28 0 = eI σ 28 0 ∧ tk σ' d (opn d a2) (dN d) := by
  have h14 := ok.2.2.1
  have P6 := ok.1
  intro f
  induction f with
  | zero => intro n σ h1 h2; omega
  | succ f ih =>
    intro n σ h1 h2 hc ht
    have le : nI (dN d) ≤ nI n ↔ dN d ≤ n := nLe (by omega) (by omega)
    simp only [e_X4_gather_19_L28, hc.2.2.1]
    by_cases c0 : dN d ≤ n
    · rw [if_pos (le.mpr c0)]
      refine ⟨σ, rfl, gf.refl σ, rfl, ?_⟩
      rw [show dN d = n by omega]
      exact ht
    · have hw : n < dN d := by omega
      obtain ⟨ew, lw⟩ := wf_eq ok hw
      have eT : eI σ 22 n = dw d n 2 := hc.2.2.2.2.1 n hw 2 (by decide)
      have eF : eI σ 21 n = dw d n 1 := hc.2.2.2.2.1 n hw 1 (by decide)
      have eS : eI σ 25 n = dw d n 5 := hc.2.2.2.2.1 n hw 5 (by decide)
      have hc1 : cls (uI σ 36 n (dw d n 2)) 19 d := cls_c hc (fun k j h1 h2 => by rw [eI_uI, if_neg (by omega)])
      have hc2 : ∀ v, cls (uL (uI σ 36 n (dw d n 2)) 37 n v) 19 d := fun v => cls_c hc (fun k j h1 h2 => by rw [eI_uL, eI_uI, if_neg (by omega)])
      rw [if_neg (fun x => c0 (le.mp x)), if_pos (mib_nI (by omega) (by decide)), nIc (by omega), eT, c_brings19 ok hc1 hw, ob, c_lasts19 ok (hc2 _) hw, ob, show (brv (dw d n 0) (dw d n 3) (nI (dW d))).toInt64 = bR d n from rfl, show (lsv (dw d n 0) (dw d n 4) (nI (dW d))).toInt64 = lR d n from rfl]
      obtain ⟨τ, hτ⟩ : ∃ τ, τ = uL (uL (uI σ 36 n (dw d n 2)) 37 n (bR d n)) 38 n (lR d n) := ⟨_, rfl⟩
      rw [← hτ]
      have oI : ∀ a b, a ≠ 36 → eI τ a b = eI σ a b := by
        intro a b q
        rw [hτ, eI_uL, eI_uL, eI_uI, if_neg (by omega)]
      have oL : ∀ a b, a ≠ 37 → a ≠ 38 → eL τ a b = eL σ a b := by
        intro a b q r
        rw [hτ, eL_uL, if_neg (by omega), eL_uL, if_neg (by omega), eL_uI]
      have gτ : gf σ τ := ⟨fun a b _ _ _ _ q => oI a b q, fun a b _ _ q r => oL a b q r⟩
      have cτ : cls τ 19 d := cls_gf (by decide) hc gτ
      rw [oI 25 n (by decide), eS]
      have no : opn d a2 n = false → ∃ σ', e_X4_gather_19_L28 a2 f (nI n + 1) τ = e_X4_gather_19_L132 a2 mN 0 σ' ∧ gf σ σ' ∧ eI σ' 28 0 = eI σ 28 0 ∧ tk σ' d (opn d a2) (dN d) := by
        intro e
        have t1 := tk_no ht e
        rw [← hτ] at t1
        obtain ⟨σ', x1, x2, x3, x4⟩ := ih (n + 1) τ (by omega) (by omega) cτ t1
        rw [nI_1]
        exact ⟨σ', x1, gτ.trans x2, x3.trans (oI 28 0 (by decide)), x4⟩
      have yes : opn d a2 n = true → ∃ σ', e_X4_gather_19_J86 a2 (e_X4_gather_19_L28 a2 f) (nI n) τ = e_X4_gather_19_L132 a2 mN 0 σ' ∧ gf σ σ' ∧ eI σ' 28 0 = eI σ 28 0 ∧ tk σ' d (opn d a2) (dN d) := by
        intro e
        have t1 := tk_yes ht e (by omega) (by omega)
        rw [← hτ] at t1
        have lb := outk_len d (opn d a2) n (wf d n)
        have e34 : eI τ 34 (wf d n) = nI (outk d (opn d a2) n (wf d n)).length := (oI 34 _ (by decide)).trans (ht.1 _ (by omega))
        unfold e_X4_gather_19_J86
        rw [if_pos (mib_nI (by omega) (by decide)), nIc (by omega), oI 21 n (by decide), eF, ew, if_pos (mib_nI (by omega) (by decide)), nIc (show wf d n < 2147483648 by omega), e34, a14, if_pos (mib_nI (by omega) (by decide)), nIc (show 14 * wf d n + (outk d (opn d a2) n (wf d n)).length < 2147483648 by omega), eI_uI, if_neg (by omega), e34, nI_1, nI_1]
        obtain ⟨υ, hυ⟩ : ∃ υ, υ = uI (uI τ 35 (14 * wf d n + (outk d (opn d a2) n (wf d n)).length) (nI n)) 34 (wf d n) (nI ((outk d (opn d a2) n (wf d n)).length + 1)) := ⟨_, rfl⟩
        rw [← hυ] at t1 ⊢
        have gυ : gf τ υ := by
          refine ⟨fun a b _ _ q r _ => ?_, fun a b _ _ _ _ => ?_⟩
          · rw [hυ, eI_uI, if_neg (by omega), eI_uI, if_neg (by omega)]
          · rw [hυ]
            rfl
        obtain ⟨σ', x1, x2, x3, x4⟩ := ih (n + 1) υ (by omega) (by omega) (cls_gf (by decide) cτ gυ) t1
        refine ⟨σ', x1, (gτ.trans gυ).trans x2, x3.trans ?_, x4⟩
        rw [hυ, eI_uI, if_neg (by omega), eI_uI, if_neg (by omega)]
        exact oI 28 0 (by decide)
      by_cases c1 : dw d n 5 = 0
      · rw [if_pos c1]
        exact yes (decide_eq_true (Or.inl c1))
      · rw [if_neg c1]
        by_cases c2 : nI n = a2
        · rw [if_pos c2]
          exact yes (decide_eq_true (Or.inr c2))
        · rw [if_neg c2]
          refine no (decide_eq_false ?_)
          rintro (x | x)
          · exact c1 x
          · exact c2 x
theorem gaP19 {d : CD} (ok : okD d) (op : Nat → Bool) (a2 : Int32) : ∀ f s σ L, s ≤ dP d → dP d - s < f → eI σ 19 0 = nI (dP d) → tb σ d op → sto σ L → L.length + ((List.range' s (dP d - s)).flatMap fun s => rl d op 8 s s (2 ^ s) 0 0 0).length ≤ 1296 → ∃ σ', e_X4_gather_19_L132 a2 f (nI s) σ = some σ' ∧ cf σ σ' ∧ sto σ' (L ++ (List.range' s (dP d - s)).flatMap fun s => rl d op 8 s s (2 ^ s) 0 0 0) := by
  have P6 := ok.1
  intro f
  induction f with
  | zero => intro s σ L h1 h2; omega
  | succ f jh =>
    intro s σ L h1 h2 h ht hst hb
    have le : nI (dP d) ≤ nI s ↔ dP d ≤ s := nLe (by omega) (by omega)
    simp only [e_X4_gather_19_L132, h]
    by_cases c0 : dP d ≤ s
    · rw [if_pos (le.mpr c0), show dP d - s = 0 by omega]
      refine ⟨σ, rfl, cf.refl σ, ?_⟩
      rw [List.range'_zero, List.flatMap_nil, List.append_nil]
      exact hst
    · have l2 : 2 ^ s < 64 := Nat.pow_lt_pow_right (n := 6) (by decide) (by omega)
      rw [fm_step (show s < dP d by omega), List.length_append] at hb
      rw [fm_step (show s < dP d by omega), ← List.append_assoc]
      obtain ⟨σ1, y1, y2, y3⟩ := goOn_c ok (op := op) (show s < dP d by omega) 8 s (2 ^ s) 0 0 0 σ L (by omega) l2 (by omega) (fr_0 s (by omega)) ht hst (by omega)
      obtain ⟨σ', x1, x2, x3⟩ := jh (s + 1) σ1 _ (by omega) (by omega) ((y2.1 19 0 (by omega) (by omega)).trans h) (tb_cf ht y2) y3 (by rw [List.length_append]; omega)
      have y1' : e_X4_goOn 8 (nI s) (nI s) (nI (2 ^ s)) 0 0 0 σ = some σ1 := y1
      rw [if_neg (fun x => c0 (le.mp x)), shl_nI s (by omega), y1', ob, nI_1]
      exact ⟨σ', x1, y2.trans x2, x3⟩
theorem gather19 {d : CD} (ok : okD d) (a2 : Int32) {σ : ES} (hc : cls σ 19 d) : ∃ σ', e_X4_gather_19 a2 σ = some σ' ∧ gf σ σ' ∧ sto σ' (al d (opn d a2)) ∧ tb σ' d (opn d a2) := by
  have h14 := ok.2.2.1
  have P6 := ok.1
  obtain ⟨σ1, a1, b1, b2⟩ := gaZ19 a2 mN 0 (uI σ 28 0 0) (by omega) (mN_big (by omega))
  have g1 : gf σ σ1 := by
    refine ⟨fun a b q1 _ q3 _ _ => ?_, fun a b _ _ _ _ => b2 a b⟩
    rw [b1, if_neg (by omega), eI_uI, if_neg q1]
  have t0 : tk σ1 d (opn d a2) 0 := by
    refine ⟨fun a ha => ?_, fun a i w ha q => ?_, fun w hw => by omega⟩
    · rw [b1, if_pos ⟨rfl, by omega, ha⟩]
      rfl
    · have : (outk d (opn d a2) 0 a)[i]? = none := rfl
      rw [this] at q
      cases q
  obtain ⟨σ2, c1, g2, z2, t2⟩ := gaW19 ok a2 mN 0 σ1 (by omega) (mN_big (by omega)) (cls_gf (by decide) hc g1) t0
  have t2' : tb σ2 d (opn d a2) := ⟨fun a ha => t2.1 a (by omega), fun a i w ha q => t2.2.1 a i w (by omega) q, t2.2.2⟩
  have z1 : eI σ1 28 0 = 0 := by
    rw [b1, if_neg (by omega), eI_uI, if_pos ⟨rfl, rfl⟩]
  have s2 : sto σ2 [] := ⟨z2.trans z1, fun i r q => by cases q⟩
  have len := al_len ok (opn d a2)
  unfold al at len
  rw [List.range_eq_range'] at len
  obtain ⟨σ3, x1, x2, x3⟩ := gaP19 ok (opn d a2) a2 mN 0 σ2 [] (by omega) (mN_big (by omega)) (cls_gf (by decide) (cls_gf (by decide) hc g1) g2).1 t2' s2 (by
    rw [List.length_nil, Nat.zero_add]
    exact Nat.le_trans len (by decide))
  refine ⟨σ3, ?_, (g1.trans g2).trans (gf_cf x2), ?_, tb_cf t2' x2⟩
  · unfold e_X4_gather_19
    exact a1.trans (c1.trans x1)
  · unfold al
    rw [List.range_eq_range']
    exact x3
end
