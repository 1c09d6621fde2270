/-! ===== lift: both codes ===== -/
theorem nar1 : vp_nar .boolean (1 : Int32) = 1 := by decide
theorem nar0 : vp_nar .boolean (0 : Int32) = 0 := by decide
def MINL : Int64 := -9223372036854775808
theorem MINL_t : MINL.toInt = -9223372036854775808 := rfl
def ec (σ : ES) (z : Hz) : Prop := ∀ p, p < 6 → (z p = none ∧ eI σ 33 p = 0) ∨ ∃ x, z p = some x ∧ eI σ 33 p = 1 ∧ (eL σ 32 p).toInt = x
def er (σ : ES) (P : Nat) (z : Hz) : Prop := ∀ p, p < P → (z p = none ∧ eL σ 74 p = MINL) ∨ ∃ x, z p = some x ∧ (eL σ 74 p).toInt = x
def lfr (σ σ' : ES) : Prop := (∀ a b, a ≠ 33 → eI σ' a b = eI σ a b) ∧ ∀ a b, a ≠ 32 → eL σ' a b = eL σ a b
theorem lfr.refl (σ : ES) : lfr σ σ := ⟨fun _ _ _ => rfl, fun _ _ _ => rfl⟩
theorem lfr.trans {σ τ υ : ES} (h : lfr σ τ) (g : lfr τ υ) : lfr σ υ := ⟨fun a b q => (g.1 a b q).trans (h.1 a b q), fun a b q => (g.2 a b q).trans (h.2 a b q)⟩
section
variable {d : CD} {a b : Int64}
theorem Wg_b (ok : okD d) (a1 : -9000000000 ≤ a.toInt) (a2 : a.toInt ≤ 9000000000) (b1 : 0 ≤ b.toInt) (b2 : b.toInt ≤ 20000000) {u : Nat} (hu : u < dN d) : (b * bR d u).toInt = b.toInt * (bR d u).toInt ∧ (a * lR d u).toInt = a.toInt * (lR d u).toInt ∧ (b * bR d u - a * lR d u).toInt = Wg d a.toInt b.toInt u ∧ -42000000000000000 ≤ Wg d a.toInt b.toInt u ∧ Wg d a.toInt b.toInt u ≤ 42000000000000000 := by
  have h1 := bR_b ok hu
  have h2 := lR_b ok hu
  have p1 := ab_le (a := 1100000000) (b := 20000000) (x := (bR d u).toInt) (y := b.toInt) h1.1 h1.2 b1 b2
  have p2 := ab_le (a := 9000000000) (b := 2100000) (x := a.toInt) (y := (lR d u).toInt) a1 a2 (by omega) h2.2
  rw [Int.mul_comm (bR d u).toInt b.toInt] at p1
  have e1 : (b * bR d u).toInt = b.toInt * (bR d u).toInt := mul64 (by omega) (by omega)
  have e2 : (a * lR d u).toInt = a.toInt * (lR d u).toInt := mul64 (by omega) (by omega)
  have e3 : (b * bR d u - a * lR d u).toInt = Wg d a.toInt b.toInt u := by
    unfold Wg
    rw [sub64, e1, e2] <;> rw [e1, e2] <;> omega
  refine ⟨e1, e2, e3, ?_⟩
  unfold Wg
  omega
theorem step_c {σ : ES} {z : Hz} {M : Int} {u : Nat} (h : ec σ z) (hb : bd z M) (hM : M ≤ 5000000000000000000) (ho : opw d u = true) (hf : wf d u < 6) (ht : wt d u < 6) {up : Int64} (hu : up.toInt = Wg d a.toInt b.toInt u) (w1 : -42000000000000000 ≤ Wg d a.toInt b.toInt u) (w2 : Wg d a.toInt b.toInt u ≤ 42000000000000000) : ∃ σ', e_X4_step (nI (wf d u)) (nI (wt d u)) up σ = some σ' ∧ lfr σ σ' ∧ ec σ' (rz d a.toInt b.toInt z u) := by
  unfold e_X4_step
  rw [if_pos (mib_nI hf (by decide)), nIc (by omega)]
  rcases h (wf d u) hf with ⟨z1, r1⟩ | ⟨x, z1, r1, r2⟩
  · rw [r1, if_pos rfl]
    refine ⟨σ, rfl, lfr.refl σ, ?_⟩
    rw [rz_none z1]
    exact h
  · have bx := hb _ x z1
    rw [r1, if_neg (by decide), if_pos (mib_nI ht (by decide)), nIc (by omega)]
    have sum : (eL σ 32 (wf d u) + up).toInt = x + Wg d a.toInt b.toInt u := by
      rw [add64, r2, hu] <;> rw [r2, hu] <;> omega
    have J : isLow (z (wt d u)) (x + Wg d a.toInt b.toInt u) = true → ∃ σ', e_X4_step_J36 (nI (wf d u)) (nI (wt d u)) up σ = some σ' ∧ lfr σ σ' ∧ ec σ' (rz d a.toInt b.toInt z u) := by
      intro lo
      unfold e_X4_step_J36
      rw [if_pos (mib_nI ht (by decide)), if_pos (mib_nI hf (by decide)), nIc (by omega), nIc (by omega), nar1]
      refine ⟨_, rfl, ⟨fun p q n => ?_, fun p q n => ?_⟩, ?_⟩
      · rw [eI_uL, eI_uI, if_neg (by omega)]
      · rw [eL_uL, if_neg (by omega), eL_uI]
      · rw [rz_yes ho z1 lo]
        intro p hp
        show ((if p = wt d u then some (x + Wg d a.toInt b.toInt u) else z p) = none ∧ _) ∨ ∃ x', (if p = wt d u then some (x + Wg d a.toInt b.toInt u) else z p) = some x' ∧ _
        rw [eI_uL, eI_uI, eL_uL, eL_uI, eL_uI]
        by_cases c : p = wt d u
        · rw [if_pos c, if_pos ⟨rfl, c⟩, if_pos ⟨rfl, c⟩]
          exact Or.inr ⟨_, rfl, rfl, sum⟩
        · rw [if_neg c, if_neg (fun x => c x.2), if_neg (fun x => c x.2)]
          exact h p hp
    rcases h (wt d u) ht with ⟨z2, s1⟩ | ⟨t, z2, s1, s2⟩
    · rw [s1, if_pos rfl]
      exact J (by rw [z2]; rfl)
    · rw [s1, if_neg (by decide)]
      by_cases c : x + Wg d a.toInt b.toInt u ≤ t
      · rw [if_pos (by rw [le64, sum, s2]; exact c)]
        refine ⟨σ, rfl, lfr.refl σ, ?_⟩
        rw [rz_no z1 (by rw [z2]; exact fun q => by have : t < x + Wg d a.toInt b.toInt u := of_decide_eq_true q; omega)]
        exact h
      · rw [if_neg (by rw [le64, sum, s2]; exact c)]
        exact J (by rw [z2]; exact decide_eq_true (by omega))
theorem cls_lfr {σ σ' : ES} (h : cls σ 1 d) (g : lfr σ σ') : cls σ' 1 d := cls_c h (fun k j h1 h2 => g.1 k j (by omega))
theorem tb_lfr {σ σ' : ES} {op : Nat → Bool} (h : tb σ d op) (g : lfr σ σ') : tb σ' d op := by
  obtain ⟨h1, h2, h3⟩ := h
  refine ⟨fun a ha => (g.1 34 a (by omega)).trans (h1 a ha), fun a i w ha e => (g.1 35 _ (by omega)).trans (h2 a i w ha e), fun w hw => ?_⟩
  rw [g.1 36 w (by omega), g.2 37 w (by omega), g.2 38 w (by omega)]
  exact h3 w hw
theorem lift57 (ok : okD d) {op : Nat → Bool} (a1 : -9000000000 ≤ a.toInt) (a2 : a.toInt ≤ 9000000000) (b1 : 0 ≤ b.toInt) (b2 : b.toInt ≤ 20000000) (s e : Int32) (k45 : Int32 → ES → Option (Int32 × ES)) (x8 : Int32) : ∀ f k σ z M, k ≤ dN d → dN d - k < f → cls σ 1 d → tb σ d op → ec σ z → bd z M → M + 42000000000000000 * ((dN d - k : Nat) : Int) ≤ 5000000000000000000 → ∃ σ', e_X4_lifts_1_L57 s e a b k45 f x8 (nI k) σ = k45 (x8 + 1) σ' ∧ lfr σ σ' ∧ ec σ' ((List.range' k (dN d - k)).foldl (rz d a.toInt b.toInt) z) := by
  have h14 := ok.2.2.1
  have P6 := ok.1
  intro f
  induction f with
  | zero => intro k σ z M h1 h2; omega
  | succ f ih =>
    intro k σ z M h1 h2 hc ht he hb hM
    have le : nI (dN d) ≤ nI k ↔ dN d ≤ k := nLe (by omega) (by omega)
    simp only [e_X4_lifts_1_L57, hc.2.2.1]
    by_cases c0 : dN d ≤ k
    · rw [if_pos (le.mpr c0), show dN d - k = 0 by omega]
      exact ⟨σ, rfl, lfr.refl σ, he⟩
    · have hk : k < dN d := by omega
      obtain ⟨ew, lw⟩ := wf_eq ok hk
      obtain ⟨et, lt⟩ := wt_eq ok hk
      have e7 : eI σ 7 k = dw d k 5 := hc.2.2.2.2.1 k hk 5 (by decide)
      have e3 : eI σ 3 k = dw d k 1 := hc.2.2.2.2.1 k hk 1 (by decide)
      have e4 : eI σ 4 k = dw d k 2 := hc.2.2.2.2.1 k hk 2 (by decide)
      obtain ⟨t6, t7, t8⟩ := ht.2.2 k hk
      obtain ⟨w1, w2, w3, w4, w5⟩ := Wg_b ok a1 a2 b1 b2 hk
      rw [if_neg (fun x => c0 (le.mp x)), if_pos (mib_nI (by omega) (by decide)), nIc (by omega), e7, e3, e4, t7, t8, ew, et, nI_1, show dN d - k = (dN d - (k + 1)) + 1 by omega, List.range'_succ, List.foldl_cons]
      have hM' : M + 42000000000000000 + 42000000000000000 * ((dN d - (k + 1) : Nat) : Int) ≤ 5000000000000000000 := by omega
      by_cases c1 : dw d k 5 = 0
      · have ho : opw d k = true := decide_eq_true c1
        rw [if_pos c1]
        obtain ⟨σ1, q1, q2, q3⟩ := step_c (a := a) (b := b) he hb (by omega) ho (by omega) (by omega) w3 w4 w5
        rw [q1, ob]
        obtain ⟨σ', r1, r2, r3⟩ := ih (k + 1) σ1 _ _ (by omega) (by omega) (cls_lfr hc q2) (tb_lfr ht q2) q3 (rz_bd hk (fun u hu => (Wg_b ok a1 a2 b1 b2 hu).2.2.2) hb) hM'
        exact ⟨σ', r1, q2.trans r2, r3⟩
      · rw [if_neg c1, rz_shut (fun x => c1 (of_decide_eq_true x))]
        exact ih (k + 1) σ z M (by omega) (by omega) hc ht he hb (by omega)
theorem lift45 (ok : okD d) {op : Nat → Bool} (a1 : -9000000000 ≤ a.toInt) (a2 : a.toInt ≤ 9000000000) (b1 : 0 ≤ b.toInt) (b2 : b.toInt ≤ 20000000) (s : Nat) (q : Int32) {e : Nat} (he6 : e < 6) : ∀ f k σ, 1 ≤ k → k ≤ dP d → dP d - k < f → cls σ 1 d → tb σ d op → ec σ (rds d a.toInt b.toInt (k - 1) (hz0 s)) → ∃ σ', e_X4_lifts_1_L45 q (nI e) a b f (nI k) σ = some (eI σ' 33 e, σ') ∧ lfr σ σ' ∧ ec σ' (rds d a.toInt b.toInt (dP d - 1) (hz0 s)) := by
  have h14 := ok.2.2.1
  have P6 := ok.1
  intro f
  induction f with
  | zero => intro k σ h1 h2 h3; omega
  | succ f ih =>
    intro k σ h1 h2 h3 hc ht he
    have le : nI (dP d) ≤ nI k ↔ dP d ≤ k := nLe (by omega) (by omega)
    simp only [e_X4_lifts_1_L45, hc.1]
    by_cases c0 : dP d ≤ k
    · rw [if_pos (le.mpr c0), if_pos (mib_nI he6 (by decide)), nIc (by omega)]
      have hd : eI σ 33 e = 0 ∨ eI σ 33 e = 1 := by
        rcases he e he6 with ⟨_, r⟩ | ⟨_, _, r, _⟩
        · exact Or.inl r
        · exact Or.inr r
      rw [if_pos hd]
      refine ⟨σ, rfl, lfr.refl σ, ?_⟩
      rw [show dP d = k by omega]
      exact he
    · rw [if_neg (fun x => c0 (le.mp x))]
      have bb := rds_bd (a := a.toInt) (b := b.toInt) ok (fun u hu => (Wg_b ok a1 a2 b1 b2 hu).2.2.2) s (k - 1)
      obtain ⟨σ1, q1, q2, q3⟩ := lift57 ok (op := op) a1 a2 b1 b2 q (nI e) (e_X4_lifts_1_L45 q (nI e) a b f) (nI k) mN 0 σ _ _ (by omega) (mN_big (by omega)) hc ht he bb (by omega)
      have q1' : e_X4_lifts_1_L57 q (nI e) a b (e_X4_lifts_1_L45 q (nI e) a b f) mN (nI k) 0 σ = e_X4_lifts_1_L45 q (nI e) a b f (nI k + 1) σ1 := q1
      rw [q1', nI_1]
      have q3' : ec σ1 (rds d a.toInt b.toInt (k + 1 - 1) (hz0 s)) := by
        rw [show k + 1 - 1 = (k - 1) + 1 by omega]
        show ec σ1 (rd d a.toInt b.toInt (rds d a.toInt b.toInt (k - 1) (hz0 s)))
        unfold rd
        rw [List.range_eq_range']
        exact q3
      obtain ⟨σ', r1, r2, r3⟩ := ih (k + 1) σ1 (by omega) (by omega) (by omega) (cls_lfr hc q2) (tb_lfr ht q2) q3'
      exact ⟨σ', r1, q2.trans r2, r3⟩
theorem lift3 {s : Nat} (hs : s < 6) (e : Int32) : ∀ f k σ, k ≤ 6 → 6 - k < f → (∀ p, p < k → eI σ 33 p = (if p = s then 1 else 0) ∧ eL σ 32 p = 0) → ∃ σ', e_X4_lifts_1_L3 (nI s) e a b f (nI k) σ = e_X4_lifts_1_L45 (nI s) e a b mN 1 σ' ∧ lfr σ σ' ∧ ∀ p, p < 6 → eI σ' 33 p = (if p = s then 1 else 0) ∧ eL σ' 32 p = 0 := by
  intro f
  induction f with
  | zero => intro k σ h1 h2; omega
  | succ f ih =>
    intro k σ h1 h2 h
    have le : (6 : Int32) ≤ nI k ↔ 6 ≤ k := nLe (a := 6) (by omega) (by omega)
    simp only [e_X4_lifts_1_L3, e_X4_lifts_1_J27]
    by_cases c : 6 ≤ k
    · rw [if_pos (le.mpr c)]
      exact ⟨σ, rfl, lfr.refl σ, fun p hp => h p (by omega)⟩
    · rw [if_neg (fun x => c (le.mp x)), if_pos (mib_nI (show k < 6 by omega) (by decide)), if_pos (mib_nI (show k < 6 by omega) (by decide)), nIc (by omega), nar1, nar0, nI_1]
      have go : ∀ v : Int32, v = (if k = s then 1 else 0) → ∃ σ', e_X4_lifts_1_L3 (nI s) e a b f (nI (k + 1)) (uL (uI σ 33 k v) 32 k 0) = e_X4_lifts_1_L45 (nI s) e a b mN 1 σ' ∧ lfr σ σ' ∧ ∀ p, p < 6 → eI σ' 33 p = (if p = s then 1 else 0) ∧ eL σ' 32 p = 0 := by
        intro v hv
        obtain ⟨σ', r1, r2, r3⟩ := ih (k + 1) (uL (uI σ 33 k v) 32 k 0) (by omega) (by omega) (fun p hp => by
          rw [eI_uL, eI_uI, eL_uL, eL_uI]
          by_cases e : p = k
          · rw [if_pos (show 33 = 33 ∧ p = k from ⟨rfl, e⟩), if_pos (show 32 = 32 ∧ p = k from ⟨rfl, e⟩), e]
            exact ⟨hv, rfl⟩
          · rw [if_neg (show ¬ (33 = 33 ∧ p = k) from fun x => e x.2), if_neg (show ¬ (32 = 32 ∧ p = k) from fun x => e x.2)]
            exact h p (by omega))
        refine ⟨σ', r1, ?_, r3⟩
        refine lfr.trans ⟨fun p q n => ?_, fun p q n => ?_⟩ r2
        · rw [eI_uL, eI_uI, if_neg (by omega)]
        · rw [eL_uL, if_neg (by omega), eL_uI]
      by_cases e1 : k = s
      · rw [if_pos ((nI_i (by omega) (by omega)).mpr e1)]
        exact go 1 (if_pos e1).symm
      · rw [if_neg (fun x => e1 ((nI_i (by omega) (by omega)).mp x)), if_pos (mib_nI (show k < 6 by omega) (by decide)), if_pos (mib_nI (show k < 6 by omega) (by decide))]
        exact go 0 (if_neg e1).symm
theorem lifts_c (ok : okD d) {op : Nat → Bool} (a1 : -9000000000 ≤ a.toInt) (a2 : a.toInt ≤ 9000000000) (b1 : 0 ≤ b.toInt) (b2 : b.toInt ≤ 20000000) {s e : Nat} (hs : s < 6) (he6 : e < 6) {σ : ES} (hc : cls σ 1 d) (ht : tb σ d op) : ∃ σ', e_X4_lifts_1 (nI s) (nI e) a b σ = some (eI σ' 33 e, σ') ∧ lfr σ σ' ∧ ec σ' (rds d a.toInt b.toInt (dP d - 1) (hz0 s)) := by
  have P6 := ok.1
  obtain ⟨σ1, q1, q2, q3⟩ := lift3 (a := a) (b := b) hs (nI e) mN 0 σ (by omega) (mN_big (by omega)) (fun p hp => by omega)
  have e1 : ec σ1 (rds d a.toInt b.toInt (1 - 1) (hz0 s)) := by
    intro p hp
    obtain ⟨x1, x2⟩ := q3 p hp
    show ((if p = s then some (0 : Int) else none) = none ∧ _) ∨ ∃ x, (if p = s then some (0 : Int) else none) = some x ∧ _
    rw [x1, x2]
    by_cases c : p = s
    · rw [if_pos c, if_pos c]
      exact Or.inr ⟨0, rfl, rfl, rfl⟩
    · rw [if_neg c, if_neg c]
      exact Or.inl ⟨rfl, rfl⟩
  obtain ⟨σ2, r1, r2, r3⟩ := lift45 ok (op := op) a1 a2 b1 b2 s (nI s) he6 mN 1 σ1 (by omega) (by omega) (mN_big (by omega)) (cls_lfr hc q2) (tb_lfr ht q2) e1
  exact ⟨σ2, q1.trans r1, q2.trans r2, r3⟩
end
