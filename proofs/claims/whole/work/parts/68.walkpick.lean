/-! ===== the class's walks: the code ===== -/
def wrep (σ : ES) (W : Nat → Int) (n s : Nat) (B : Bz) : Prop := ∀ v, v < 6 → (B v = none ∧ eI σ 50 v = 0) ∨ ∃ S, B v = some S ∧ S < 2 ^ n ∧ (S = 0 → v = s) ∧ eI σ 50 v = nI S ∧ (eL σ 49 v).toInt = sgm W S n
def WI (d : CD) (W : Nat → Int) (σ : ES) : Prop := cls σ 1 d ∧ eT σ 1 = some 1 ∧ eI σ 45 4 = nI (dN d) ∧ ∀ i, i < dN d → (eL σ 48 i).toInt = W i
theorem WI_pf {d : CD} {W : Nat → Int} {σ σ' : ES} (h : WI d W σ) (g : pf σ σ') : WI d W σ' := by
  obtain ⟨h1, h2, h3, h4⟩ := h
  refine ⟨cls_c h1 (fun k j _ _ => g.1 k j (by omega) (by omega)), (g.2.2 1).trans h2, (g.1 45 4 (by omega) (by omega)).trans h3, fun i hi => ?_⟩
  rw [g.2.1 48 i (by omega)]
  exact h4 i hi
section
variable {d : CD} {W : Nat → Int} {s : Nat}
theorem leave_c (ok : okD d) (hW : ∀ i, i < dN d → -100000000000000000 ≤ W i ∧ W i ≤ 100000000000000000) {p Sp : Nat} (hp : p < 6) : ∀ f k σ B, k ≤ dN d → dN d - k < f → WI d W σ → wrep σ W (dN d) s B → att2 d s B → B p = some Sp → ∃ σ' B', e_X8_leave_L2 (nI p) f (nI k) σ = some σ' ∧ pf σ σ' ∧ wrep σ' W (dN d) s B' ∧ att2 d s B' ∧ (∀ v, v ≤ p → B' v = B v) ∧ (dom d W s p k B → dom d W s p (dN d) B') := by
  have h14 := ok.2.2.1
  have P6 := ok.1
  have pw : 2 ^ dN d ≤ 16384 := Nat.pow_le_pow_right (n := 2) (by decide) h14
  intro f
  induction f with
  | zero => intro k σ B h1 h2; omega
  | succ f ih =>
    intro k σ B h1 h2 hI hw ha hb
    obtain ⟨hc, hT, h4, hV⟩ := id hI
    have le : nI (dN d) ≤ nI k ↔ dN d ≤ k := nLe (by omega) (by omega)
    simp only [e_X8_leave_L2, h4]
    by_cases q : dN d ≤ k
    · rw [if_pos (le.mpr q)]
      have ek : k = dN d := by omega
      subst ek
      exact ⟨σ, B, rfl, pf.refl σ, hw, ha, fun _ _ => rfl, fun x => x⟩
    · have hk : k < dN d := by omega
      obtain ⟨ew, lw⟩ := wf_eq ok hk
      obtain ⟨et, lt⟩ := wt_eq ok hk
      have e7 : eI σ 7 k = dw d k 5 := hc.2.2.2.2.1 k hk 5 (by decide)
      have e3 : eI σ 3 k = dw d k 1 := hc.2.2.2.2.1 k hk 1 (by decide)
      have e4 : eI σ 4 k = dw d k 2 := hc.2.2.2.2.1 k hk 2 (by decide)
      rw [if_neg (fun y => q (le.mp y)), if_pos hT, if_pos (mib_nI (by omega) (by decide)), nIc (by omega), e7, e3, e4, ew, et, nI_1]
      have skip : lvs d W p Sp B k = B → ∃ σ' B', e_X8_leave_L2 (nI p) f (nI (k + 1)) σ = some σ' ∧ pf σ σ' ∧ wrep σ' W (dN d) s B' ∧ att2 d s B' ∧ (∀ v, v ≤ p → B' v = B v) ∧ (dom d W s p k B → dom d W s p (dN d) B') := by
        intro e
        obtain ⟨σ', B', r1, r2, r3, r4, r5, r6⟩ := ih (k + 1) σ B (by omega) (by omega) hI hw ha hb
        refine ⟨σ', B', r1, r2, r3, r4, r5, fun x => r6 ?_⟩
        have := dom_step hk ha hb x
        rw [e] at this
        exact this
      have stay : ¬ goes d p k = true → lvs d W p Sp B k = B := fun x => if_neg (fun y => x y.1)
      by_cases c1 : dw d k 5 = 0
      · rw [if_pos c1]
        by_cases c2 : wf d k = p
        · rw [if_pos ((nI_i (by omega) (by omega)).mpr c2)]
          by_cases c3 : wt d k ≤ p
          · rw [if_pos ((nLe (by omega) (by omega)).mpr c3)]
            exact skip (stay (fun x => by have := (goes_iff.mp x).2.2; omega))
          · have g : goes d p k = true := goes_iff.mpr ⟨decide_eq_true c1, c2, by omega⟩
            rw [if_neg (fun y => c3 ((nLe (by omega) (by omega)).mp y)), if_pos (mib_nI hp (by decide)), if_pos (mib_nI (by omega) (by decide)), nIc (by omega), nIc (show wt d k < 2147483648 by omega)]
            obtain ⟨l, l1, l2⟩ := ha p Sp hb
            have sp := (rwk_le l1).1
            have free := sp_free ha hb c2
            rcases hw p hp with ⟨x, _⟩ | ⟨S0, w1, w2, w3, w4, w5⟩
            · rw [hb] at x
              cases x
            · rw [hb] at w1
              have : Sp = S0 := Option.some.inj w1
              subst this
              have lR' : Sp ||| 2 ^ k < 2 ^ dN d := or_lt w2 hk
              have pk := p2_14 (t := k) (by omega)
              have eR : nI Sp ||| ((1 : Int32) <<< (nI k &&& 31)) = nI (Sp ||| 2 ^ k) := by
                rw [shl_nI k (by omega), or_nI (by omega) (by omega)]
              have sb := sgm_b (g := W) (lo := -100000000000000000) (hi := 100000000000000000) (by omega) (by omega) Sp (dN d) hW
              have wk := hW k hk
              have eH : (eL σ 49 p + eL σ 48 k).toInt = sgm W (Sp ||| 2 ^ k) (dN d) := by
                rw [sgm_or free, if_pos hk, add64, w5, hV k hk] <;> (try rw [w5, hV k hk]) <;> omega
              rw [w4, eR]
              obtain ⟨H, hH⟩ : ∃ H, H = eL σ 49 p + eL σ 48 k := ⟨_, rfl⟩
              rw [← hH] at eH ⊢
              have nz : Sp ||| 2 ^ k ≠ 0 := by
                intro z
                have : (Sp ||| 2 ^ k).testBit k = true := bit_self
                rw [z, Nat.zero_testBit] at this
                cases this
              have yes : btr W (dN d) (B (wt d k)) (Sp ||| 2 ^ k) = true → ∃ σ' B', e_X8_leave_J133 (nI p) (e_X8_leave_L2 (nI p) f) (nI k) (nI (wt d k)) H (nI (Sp ||| 2 ^ k)) σ = some σ' ∧ pf σ σ' ∧ wrep σ' W (dN d) s B' ∧ att2 d s B' ∧ (∀ v, v ≤ p → B' v = B v) ∧ (dom d W s p k B → dom d W s p (dN d) B') := by
                intro b
                have eB : lvs d W p Sp B k = fun v => if v = wt d k then some (Sp ||| 2 ^ k) else B v := if_pos ⟨g, b⟩
                unfold e_X8_leave_J133
                rw [if_pos (mib_nI (by omega) (by decide)), nIc (by omega), nI_1]
                have pf1 : pf σ (uI (uL σ 49 (wt d k) H) 50 (wt d k) (nI (Sp ||| 2 ^ k))) := ⟨fun a b _ x => by rw [eI_uI, if_neg (by omega), eI_uL], fun a b x => by rw [eL_uI, eL_uL, if_neg (by omega)], fun _ => rfl⟩
                have w' : wrep (uI (uL σ 49 (wt d k) H) 50 (wt d k) (nI (Sp ||| 2 ^ k))) W (dN d) s (lvs d W p Sp B k) := by
                  intro v hv
                  rw [eB, eI_uI, eI_uL, eL_uI, eL_uL]
                  show ((if v = wt d k then some (Sp ||| 2 ^ k) else B v) = none ∧ _) ∨ ∃ S, (if v = wt d k then some (Sp ||| 2 ^ k) else B v) = some S ∧ _
                  by_cases e : v = wt d k
                  · rw [if_pos e, if_pos (show 50 = 50 ∧ v = wt d k from ⟨rfl, e⟩), if_pos (show 49 = 49 ∧ v = wt d k from ⟨rfl, e⟩)]
                    exact Or.inr ⟨_, rfl, lR', fun z => absurd z nz, rfl, eH⟩
                  · rw [if_neg e, if_neg (show ¬ (50 = 50 ∧ v = wt d k) from fun x => e x.2), if_neg (show ¬ (49 = 49 ∧ v = wt d k) from fun x => e x.2)]
                    exact hw v hv
                obtain ⟨σ', B', r1, r2, r3, r4, r5, r6⟩ := ih (k + 1) _ (lvs d W p Sp B k) (by omega) (by omega) (WI_pf hI pf1) w' (lvs_att hk ha hb) (lvs_p hb)
                refine ⟨σ', B', r1, pf1.trans r2, r3, r4, fun v hv => ?_, fun x => r6 (dom_step hk ha hb x)⟩
                rw [r5 v hv, eB]
                exact if_neg (by omega)
              have no : ¬ btr W (dN d) (B (wt d k)) (Sp ||| 2 ^ k) = true → ∃ σ' B', e_X8_leave_L2 (nI p) f (nI (k + 1)) σ = some σ' ∧ pf σ σ' ∧ wrep σ' W (dN d) s B' ∧ att2 d s B' ∧ (∀ v, v ≤ p → B' v = B v) ∧ (dom d W s p k B → dom d W s p (dN d) B') := fun x => skip (if_neg (fun y => x y.2))
              have mi : mib (nI (wt d k)) 6 = true := mib_nI (by omega) (by decide)
              rcases hw (wt d k) (by omega) with ⟨z1, z2⟩ | ⟨S2, z1, z2, z3, z4, z5⟩
              · have J5 : ∀ s0, e_X8_leave_J105 (nI p) (e_X8_leave_L2 (nI p) f) (nI k) (nI (wt d k)) H (nI (Sp ||| 2 ^ k)) s0 σ = e_X8_leave_J133 (nI p) (e_X8_leave_L2 (nI p) f) (nI k) (nI (wt d k)) H (nI (Sp ||| 2 ^ k)) σ := by
                  intro s0
                  unfold e_X8_leave_J105
                  rw [if_pos mi, nIc (by omega), if_pos z2]
                have J4 : e_X8_leave_J104 (nI p) (e_X8_leave_L2 (nI p) f) (nI k) (nI (wt d k)) H (nI (Sp ||| 2 ^ k)) σ = e_X8_leave_J133 (nI p) (e_X8_leave_L2 (nI p) f) (nI k) (nI (wt d k)) H (nI (Sp ||| 2 ^ k)) σ := J5 0
                rw [J5, J4]
                have y := yes (by rw [z1]; rfl)
                by_cases a1 : H = eL σ 49 (wt d k)
                · rw [if_pos a1]
                  by_cases a2 : eI σ 50 (wt d k) ≤ nI (Sp ||| 2 ^ k)
                  · rw [if_pos a2]
                    exact y
                  · rw [if_neg a2]
                    exact y
                · rw [if_neg a1]
                  exact y
              · have s2nz : S2 ≠ 0 := fun z => by have := z3 z; omega
                have n2 : ¬ nI S2 = 0 := fun y => s2nz ((nI_i (by omega) (by omega)).mp y)
                have x2 := sgm_W2 W z2
                have xR := sgm_W2 W lR'
                have bt : btr W (dN d) (B (wt d k)) (Sp ||| 2 ^ k) = true ↔ sgm (W2 W) S2 (dN d) < sgm (W2 W) (Sp ||| 2 ^ k) (dN d) := by
                  rw [z1]
                  exact decide_eq_true_iff
                have J5 : ∀ s0, e_X8_leave_J105 (nI p) (e_X8_leave_L2 (nI p) f) (nI k) (nI (wt d k)) H (nI (Sp ||| 2 ^ k)) s0 σ = if eL σ 49 (wt d k) < H then e_X8_leave_J133 (nI p) (e_X8_leave_L2 (nI p) f) (nI k) (nI (wt d k)) H (nI (Sp ||| 2 ^ k)) σ else if s0 = 0 then e_X8_leave_L2 (nI p) f (nI (k + 1)) σ else e_X8_leave_J133 (nI p) (e_X8_leave_L2 (nI p) f) (nI k) (nI (wt d k)) H (nI (Sp ||| 2 ^ k)) σ := by
                  intro s0
                  unfold e_X8_leave_J105
                  rw [if_pos mi, nIc (by omega), z4, if_neg n2, nI_1]
                have J4 : e_X8_leave_J104 (nI p) (e_X8_leave_L2 (nI p) f) (nI k) (nI (wt d k)) H (nI (Sp ||| 2 ^ k)) σ = if eL σ 49 (wt d k) < H then e_X8_leave_J133 (nI p) (e_X8_leave_L2 (nI p) f) (nI k) (nI (wt d k)) H (nI (Sp ||| 2 ^ k)) σ else e_X8_leave_L2 (nI p) f (nI (k + 1)) σ := by
                  have := J5 0
                  rw [if_pos (show (0 : Int32) = 0 from rfl)] at this
                  exact this
                rw [J5, J4, z4]
                have lt : eL σ 49 (wt d k) < H ↔ sgm W S2 (dN d) < sgm W (Sp ||| 2 ^ k) (dN d) := by
                  rw [lt64, z5, eH]
                have eq : H = eL σ 49 (wt d k) ↔ sgm W (Sp ||| 2 ^ k) (dN d) = sgm W S2 (dN d) := by
                  rw [eq64, z5, eH]
                by_cases a1 : H = eL σ 49 (wt d k)
                · rw [if_pos a1]
                  have a1' := eq.mp a1
                  have nl : ¬ eL σ 49 (wt d k) < H := fun y => by have := lt.mp y; omega
                  rw [if_neg nl, if_neg nl, if_neg (show ¬ (1 : Int32) = 0 by decide)]
                  by_cases a2 : S2 ≤ Sp ||| 2 ^ k
                  · rw [if_pos ((nLe (by omega) (by omega)).mpr a2)]
                    exact no (fun y => by have := bt.mp y; omega)
                  · rw [if_neg (fun y => a2 ((nLe (by omega) (by omega)).mp y))]
                    exact yes (bt.mpr (by omega))
                · rw [if_neg a1]
                  have a1' : ¬ sgm W (Sp ||| 2 ^ k) (dN d) = sgm W S2 (dN d) := fun y => a1 (eq.mpr y)
                  by_cases a2 : eL σ 49 (wt d k) < H
                  · have := lt.mp a2
                    rw [if_pos a2]
                    exact yes (bt.mpr (by omega))
                  · have : ¬ sgm W S2 (dN d) < sgm W (Sp ||| 2 ^ k) (dN d) := fun y => a2 (lt.mpr y)
                    rw [if_neg a2]
                    exact no (fun y => by have := bt.mp y; omega)
        · rw [if_neg (fun y => c2 ((nI_i (by omega) (by omega)).mp y))]
          exact skip (stay (fun x => c2 (goes_iff.mp x).2.1))
      · rw [if_neg c1]
        exact skip (stay (fun x => c1 (of_decide_eq_true (goes_iff.mp x).1)))
theorem dom_none_all {p : Nat} {B : Bz} (hb : B p = none) (h : dom d W s p 0 B) : ∀ k, dom d W s p k B := by
  intro k
  induction k with
  | zero => exact h
  | succ k ih => exact dom_none hb ih
theorem pick33 (ok : okD d) (hW : ∀ i, i < dN d → -100000000000000000 ≤ W i ∧ W i ≤ 100000000000000000) {e : Nat} (hs : s < e) (he : e < 6) : ∀ f p σ B, s ≤ p → p ≤ e → e - p < f → WI d W σ → eI σ 45 13 = nI s → eI σ 45 14 = nI e → wrep σ W (dN d) s B → att2 d s B → B s = some 0 → dom d W s p 0 B → ∃ N σ', e_X8_pick_L33 f (nI p) σ = some (nI N, σ') ∧ pf σ σ' ∧ ((N = 0 ∧ noC (cWy d (isWk d s e))) ∨ (isL (cWy d (isWk d s e)) (fun S => sgm W S (cN (cWy d (isWk d s e)))) N ∧ N ≠ 0)) := by
  intro f
  induction f with
  | zero => intro p σ B h1 h2 h3; omega
  | succ f ih =>
    intro p σ B h1 h2 h3 hI h13 h14 hw ha hbs hd
    have le : nI e ≤ nI p ↔ e ≤ p := nLe (by omega) (by omega)
    simp only [e_X8_pick_L33, h13, h14]
    by_cases q : e ≤ p
    · have ep : p = e := by omega
      subst ep
      rw [if_pos (le.mpr q), if_pos (mib_nI he (by decide)), nIc (by omega)]
      rcases dom_is ok hs he ha hd with ⟨d1, d2⟩ | ⟨S, d1, d2, d3⟩
      · refine ⟨0, σ, ?_, pf.refl σ, Or.inl ⟨rfl, d2⟩⟩
        rcases hw p he with ⟨_, z⟩ | ⟨S, z, _⟩
        · rw [z]
          rfl
        · rw [d1] at z
          cases z
      · refine ⟨S, σ, ?_, pf.refl σ, Or.inr ⟨d2, d3⟩⟩
        rcases hw p he with ⟨z, _⟩ | ⟨S', z1, z2, z3, z4, z5⟩
        · rw [d1] at z
          cases z
        · rw [d1] at z1
          have : S = S' := Option.some.inj z1
          rw [z4, this]
    · rw [if_neg (fun y => q (le.mp y)), nI_1]
      have go : ∀ Sp, B p = some Sp → ∃ N σ', (e_X8_leave (nI p) σ).bind (fun r2 => e_X8_pick_L33 f (nI (p + 1)) r2) = some (nI N, σ') ∧ pf σ σ' ∧ ((N = 0 ∧ noC (cWy d (isWk d s e))) ∨ (isL (cWy d (isWk d s e)) (fun S => sgm W S (cN (cWy d (isWk d s e)))) N ∧ N ≠ 0)) := by
        intro Sp hb
        obtain ⟨σ1, B1, r1, r2, r3, r4, r5, r6⟩ := leave_c ok hW (s := s) (show p < 6 by omega) mN 0 σ B (Nat.zero_le _) (mN_big (by have := ok.2.2.1; omega)) hI hw ha hb
        have r1' : e_X8_leave (nI p) σ = some σ1 := r1
        rw [r1', ob]
        obtain ⟨N, σ2, t1, t2, t3⟩ := ih (p + 1) σ1 B1 (by omega) (by omega) (by omega) (WI_pf hI r2) ((r2.1 45 13 (by omega) (by omega)).trans h13) ((r2.1 45 14 (by omega) (by omega)).trans h14) r3 r4 ((r5 s h1).trans hbs) (dom_next (r6 hd))
        exact ⟨N, σ2, t1, r2.trans t2, t3⟩
      by_cases c : p = s
      · rw [if_pos ((nI_i (by omega) (by omega)).mpr c)]
        exact go 0 (by rw [c]; exact hbs)
      · rw [if_neg (fun y => c ((nI_i (by omega) (by omega)).mp y)), if_pos (mib_nI (show p < 6 by omega) (by decide)), nIc (by omega)]
        rcases hw p (by omega) with ⟨z1, z2⟩ | ⟨S, z1, z2, z3, z4, z5⟩
        · rw [if_pos z2]
          exact ih (p + 1) σ B (by omega) (by omega) (by omega) hI h13 h14 hw ha hbs (dom_next (dom_none_all z1 hd (dN d)))
        · have nz : S ≠ 0 := fun z => c (z3 z)
          have pw : 2 ^ dN d ≤ 16384 := Nat.pow_le_pow_right (n := 2) (by decide) ok.2.2.1
          rw [z4, if_neg (show ¬ nI S = 0 from fun y => nz ((nI_i (by omega) (by omega)).mp y))]
          exact go S z1
theorem pick2 {s' e' : Int32} : ∀ f k σ, k ≤ 6 → 6 - k < f → (∀ v, v < k → eI σ 50 v = 0 ∧ eL σ 49 v = 0) → ∃ σ', e_X8_pick_L2 f (nI k) σ = e_X8_pick_L33 mN (eI σ' 45 13) σ' ∧ pf σ σ' ∧ ∀ v, v < 6 → eI σ' 50 v = 0 ∧ eL σ' 49 v = 0 := by
  intro f
  induction f with
  | zero => intro k σ h1 h2; omega
  | succ f ih =>
    intro k σ h1 h2 h
    have le : (6 : Int32) ≤ nI k ↔ 6 ≤ k := nLe (a := 6) (by omega) (by omega)
    simp only [e_X8_pick_L2]
    by_cases c : 6 ≤ k
    · rw [if_pos (le.mpr c)]
      exact ⟨σ, rfl, pf.refl σ, fun v hv => h v (by omega)⟩
    · rw [if_neg (fun x => c (le.mp x)), if_pos (mib_nI (show k < 6 by omega) (by decide)), nIc (by omega), nI_1]
      have pf1 : pf σ (uI (uL σ 49 k 0) 50 k 0) := ⟨fun a b _ x => by rw [eI_uI, if_neg (by omega), eI_uL], fun a b x => by rw [eL_uI, eL_uL, if_neg (by omega)], fun _ => rfl⟩
      obtain ⟨σ', r1, r2, r3⟩ := ih (k + 1) (uI (uL σ 49 k 0) 50 k 0) (by omega) (by omega) (fun v hv => by
        rw [eI_uI, eI_uL, eL_uI, eL_uL]
        by_cases e : v = k
        · rw [if_pos (show 50 = 50 ∧ v = k from ⟨rfl, e⟩), if_pos (show 49 = 49 ∧ v = k from ⟨rfl, e⟩)]
          exact ⟨rfl, rfl⟩
        · rw [if_neg (show ¬ (50 = 50 ∧ v = k) from fun x => e x.2), if_neg (show ¬ (49 = 49 ∧ v = k) from fun x => e x.2)]
          exact h v (by omega))
      exact ⟨σ', r1, pf1.trans r2, r3⟩
theorem sgm_z (W : Nat → Int) : ∀ n, sgm W 0 n = 0 := by
  intro n
  induction n with
  | zero => rfl
  | succ n ih => rw [sgm_s, ih, Nat.zero_testBit, if_neg (by decide), Int.add_zero]
theorem walk_pick (ok : okD d) (hW : ∀ i, i < dN d → -100000000000000000 ≤ W i ∧ W i ≤ 100000000000000000) {e : Nat} (hs : s < e) (he : e < 6) {σ : ES} (hI : WI d W σ) (h13 : eI σ 45 13 = nI s) (h14 : eI σ 45 14 = nI e) : ∃ N σ', e_X8_pick σ = some (nI N, σ') ∧ pf σ σ' ∧ ((N = 0 ∧ noC (cWy d (isWk d s e))) ∨ (isL (cWy d (isWk d s e)) (fun S => sgm W S (cN (cWy d (isWk d s e)))) N ∧ N ≠ 0)) := by
  obtain ⟨σ1, r1, r2, r3⟩ := pick2 (s' := 0) (e' := 0) mN 0 σ (by omega) (mN_big (by omega)) (fun v hv => by omega)
  have a13 := (r2.1 45 13 (by omega) (by omega)).trans h13
  obtain ⟨N, σ2, t1, t2, t3⟩ := pick33 ok hW hs he mN s σ1 (b0 s) (Nat.le_refl _) (by omega) (mN_big (by omega)) (WI_pf hI r2) a13 ((r2.1 45 14 (by omega) (by omega)).trans h14) (fun v hv => by
    obtain ⟨x1, x2⟩ := r3 v hv
    show ((if v = s then some 0 else none) = none ∧ _) ∨ ∃ S, (if v = s then some 0 else none) = some S ∧ _
    rw [x1, x2]
    by_cases c : v = s
    · rw [if_pos c]
      exact Or.inr ⟨0, rfl, Nat.pow_pos (by decide), fun _ => c, rfl, (sgm_z W (dN d)).symm⟩
    · rw [if_neg c]
      exact Or.inl ⟨rfl, rfl⟩) b0_att (if_pos rfl) b0_dom
  refine ⟨N, σ2, ?_, r2.trans t2, t3⟩
  unfold e_X8_pick
  have r1' : e_X8_pick_L2 mN 0 σ = e_X8_pick_L33 mN (eI σ1 45 13) σ1 := r1
  rw [r1', a13]
  exact t1
end
