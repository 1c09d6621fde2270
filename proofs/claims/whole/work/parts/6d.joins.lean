/-! ===== the class's joins ===== -/
def lrep43 (σ : ES) (lab : Lb) : Prop := ∀ p, p < 6 → eI σ 44 p = nI (lab p)
def jf43 (σ σ' : ES) : Prop := (∀ a b, a ≠ 44 → eI σ' a b = eI σ a b) ∧ (∀ a b, eL σ' a b = eL σ a b) ∧ ∀ a, eT σ' a = eT σ a
theorem jf43.refl (σ : ES) : jf43 σ σ := ⟨fun _ _ _ => rfl, fun _ _ => rfl, fun _ => rfl⟩
theorem jf43.trans {σ τ υ : ES} (h : jf43 σ τ) (g : jf43 τ υ) : jf43 σ υ := ⟨fun a b q => (g.1 a b q).trans (h.1 a b q), fun a b => (g.2.1 a b).trans (h.2.1 a b), fun a => (g.2.2 a).trans (h.2.2 a)⟩
theorem part43 (σ : ES) : ∃ σ', e_X2_part_43 σ = some σ' ∧ jf43 σ σ' ∧ lrep43 σ' idl := by
  have key : ∀ f k σ, k ≤ 6 → 6 - k < f → (∀ p, p < k → eI σ 44 p = nI p) → ∃ σ', e_X2_part_43_L2 f (nI k) σ = some σ' ∧ jf43 σ σ' ∧ lrep43 σ' idl := by
    intro f
    induction f with
    | zero => intro k σ h1 h2; omega
    | succ f ih =>
      intro k σ h1 h2 h
      have le : (6 : Int32) ≤ nI k ↔ 6 ≤ k := nLe (a := 6) (by omega) (by omega)
      simp only [e_X2_part_43_L2]
      by_cases c : 6 ≤ k
      · rw [if_pos (le.mpr c)]
        exact ⟨σ, rfl, jf43.refl σ, fun p hp => h p (by omega)⟩
      · rw [if_neg (fun x => c (le.mp x)), if_pos (mib_nI (show k < 6 by omega) (by decide)), nIc (by omega), nI_1]
        have f1 : jf43 σ (uI σ 44 k (nI k)) := ⟨fun a b q => by rw [eI_uI, if_neg (by omega)], fun _ _ => rfl, fun _ => rfl⟩
        obtain ⟨σ', r1, r2, r3⟩ := ih (k + 1) (uI σ 44 k (nI k)) (by omega) (by omega) (fun p hp => by
          rw [eI_uI]
          by_cases e : p = k
          · rw [if_pos (show 44 = 44 ∧ p = k from ⟨rfl, e⟩), e]
          · rw [if_neg (show ¬ (44 = 44 ∧ p = k) from fun x => e x.2)]
            exact h p (by omega))
        exact ⟨σ', r1, f1.trans r2, r3⟩
  exact key mN 0 σ (by omega) (mN_big (by omega)) (fun p hp => by omega)
theorem apart43 {σ : ES} {lab : Lb} (h : lrep43 σ lab) (hl : ∀ p, p < 6 → lab p < 6) {a b : Nat} (ha : a < 6) (hb : b < 6) : e_X2_apart_43 σ (nI a) (nI b) = some (if lab a = lab b then 0 else 1) := by
  have la := hl a ha
  have lb := hl b hb
  unfold e_X2_apart_43
  rw [if_pos (mib_nI ha (by decide)), if_pos (mib_nI hb (by decide)), nIc (by omega), nIc (by omega), h a ha, h b hb]
  by_cases c : lab a = lab b
  · rw [if_pos ((nI_i (by omega) (by omega)).mpr c), if_pos c]
  · rw [if_neg (fun y => c ((nI_i (by omega) (by omega)).mp y)), if_neg c]
theorem join43 {d : CD} {σ : ES} {lab : Lb} (h : lrep43 σ lab) (hl : ∀ p, p < 6 → lab p < 6) {u : Nat} (ha : wf d u < 6) (hb : wt d u < 6) : ∃ σ', e_X2_join_43 (nI (wf d u)) (nI (wt d u)) σ = some σ' ∧ jf43 σ σ' ∧ lrep43 σ' (jn d lab u) := by
  have la := hl _ ha
  have lb := hl _ hb
  have key : ∀ f k σ, k ≤ 6 → 6 - k < f → (∀ p, p < 6 → eI σ 44 p = if p < k then nI (jn d lab u p) else nI (lab p)) → ∃ σ', e_X2_join_43_L18 (nI (wf d u)) (nI (wt d u)) f (nI (lab (wf d u))) (nI (lab (wt d u))) (nI k) σ = some σ' ∧ jf43 σ σ' ∧ lrep43 σ' (jn d lab u) := by
    intro f
    induction f with
    | zero => intro k σ h1 h2; omega
    | succ f ih =>
      intro k σ h1 h2 h
      have le : (6 : Int32) ≤ nI k ↔ 6 ≤ k := nLe (a := 6) (by omega) (by omega)
      simp only [e_X2_join_43_L18]
      by_cases c : 6 ≤ k
      · rw [if_pos (le.mpr c)]
        exact ⟨σ, rfl, jf43.refl σ, fun p hp => by rw [h p hp, if_pos (by omega)]⟩
      · have hk : k < 6 := by omega
        have lk := hl k hk
        rw [if_neg (fun x => c (le.mp x)), if_pos (mib_nI hk (by decide)), nIc (by omega), h k hk, if_neg (show ¬ k < k by omega), nI_1]
        by_cases e : lab k = lab (wf d u)
        · rw [if_pos ((nI_i (by omega) (by omega)).mpr e)]
          have f1 : jf43 σ (uI σ 44 k (nI (lab (wt d u)))) := ⟨fun a b q => by rw [eI_uI, if_neg (by omega)], fun _ _ => rfl, fun _ => rfl⟩
          obtain ⟨σ', r1, r2, r3⟩ := ih (k + 1) (uI σ 44 k (nI (lab (wt d u)))) (by omega) (by omega) (fun p hp => by
            rw [eI_uI]
            by_cases x : p = k
            · rw [if_pos (show 44 = 44 ∧ p = k from ⟨rfl, x⟩), if_pos (show p < k + 1 by omega), x]
              unfold jn
              rw [if_pos e]
            · rw [if_neg (show ¬ (44 = 44 ∧ p = k) from fun y => x y.2), h p hp]
              by_cases y : p < k
              · rw [if_pos y, if_pos (show p < k + 1 by omega)]
              · rw [if_neg y, if_neg (show ¬ p < k + 1 by omega)])
          exact ⟨σ', r1, f1.trans r2, r3⟩
        · rw [if_neg (fun y => e ((nI_i (by omega) (by omega)).mp y))]
          refine ih (k + 1) σ (by omega) (by omega) (fun p hp => ?_)
          rw [h p hp]
          by_cases y : p < k
          · rw [if_pos y, if_pos (show p < k + 1 by omega)]
          · rw [if_neg y]
            by_cases x : p = k
            · rw [if_pos (show p < k + 1 by omega), x]
              unfold jn
              rw [if_neg e]
            · rw [if_neg (show ¬ p < k + 1 by omega)]
  obtain ⟨σ', r1, r2, r3⟩ := key mN 0 σ (by omega) (mN_big (by omega)) (fun p hp => by rw [if_neg (by omega)]; exact h p hp)
  refine ⟨σ', ?_, r2, r3⟩
  unfold e_X2_join_43
  rw [if_pos (mib_nI ha (by decide)), if_pos (mib_nI hb (by decide)), nIc (by omega), nIc (by omega), h _ ha, h _ hb]
  exact r1
def lrep55 (σ : ES) (lab : Lb) : Prop := ∀ p, p < 6 → eI σ 56 p = nI (lab p)
def jf55 (σ σ' : ES) : Prop := (∀ a b, a ≠ 56 → eI σ' a b = eI σ a b) ∧ (∀ a b, eL σ' a b = eL σ a b) ∧ ∀ a, eT σ' a = eT σ a
theorem jf55.refl (σ : ES) : jf55 σ σ := ⟨fun _ _ _ => rfl, fun _ _ => rfl, fun _ => rfl⟩
theorem jf55.trans {σ τ υ : ES} (h : jf55 σ τ) (g : jf55 τ υ) : jf55 σ υ := ⟨fun a b q => (g.1 a b q).trans (h.1 a b q), fun a b => (g.2.1 a b).trans (h.2.1 a b), fun a => (g.2.2 a).trans (h.2.2 a)⟩
theorem part55 (σ : ES) : ∃ σ', e_X2_part_55 σ = some σ' ∧ jf55 σ σ' ∧ lrep55 σ' idl := by
  have key : ∀ f k σ, k ≤ 6 → 6 - k < f → (∀ p, p < k → eI σ 56 p = nI p) → ∃ σ', e_X2_part_55_L2 f (nI k) σ = some σ' ∧ jf55 σ σ' ∧ lrep55 σ' idl := by
    intro f
    induction f with
    | zero => intro k σ h1 h2; omega
    | succ f ih =>
      intro k σ h1 h2 h
      have le : (6 : Int32) ≤ nI k ↔ 6 ≤ k := nLe (a := 6) (by omega) (by omega)
      simp only [e_X2_part_55_L2]
      by_cases c : 6 ≤ k
      · rw [if_pos (le.mpr c)]
        exact ⟨σ, rfl, jf55.refl σ, fun p hp => h p (by omega)⟩
      · rw [if_neg (fun x => c (le.mp x)), if_pos (mib_nI (show k < 6 by omega) (by decide)), nIc (by omega), nI_1]
        have f1 : jf55 σ (uI σ 56 k (nI k)) := ⟨fun a b q => by rw [eI_uI, if_neg (by omega)], fun _ _ => rfl, fun _ => rfl⟩
        obtain ⟨σ', r1, r2, r3⟩ := ih (k + 1) (uI σ 56 k (nI k)) (by omega) (by omega) (fun p hp => by
          rw [eI_uI]
          by_cases e : p = k
          · rw [if_pos (show 56 = 56 ∧ p = k from ⟨rfl, e⟩), e]
          · rw [if_neg (show ¬ (56 = 56 ∧ p = k) from fun x => e x.2)]
            exact h p (by omega))
        exact ⟨σ', r1, f1.trans r2, r3⟩
  exact key mN 0 σ (by omega) (mN_big (by omega)) (fun p hp => by omega)
theorem apart55 {σ : ES} {lab : Lb} (h : lrep55 σ lab) (hl : ∀ p, p < 6 → lab p < 6) {a b : Nat} (ha : a < 6) (hb : b < 6) : e_X2_apart_55 σ (nI a) (nI b) = some (if lab a = lab b then 0 else 1) := by
  have la := hl a ha
  have lb := hl b hb
  unfold e_X2_apart_55
  rw [if_pos (mib_nI ha (by decide)), if_pos (mib_nI hb (by decide)), nIc (by omega), nIc (by omega), h a ha, h b hb]
  by_cases c : lab a = lab b
  · rw [if_pos ((nI_i (by omega) (by omega)).mpr c), if_pos c]
  · rw [if_neg (fun y => c ((nI_i (by omega) (by omega)).mp y)), if_neg c]
theorem join55 {d : CD} {σ : ES} {lab : Lb} (h : lrep55 σ lab) (hl : ∀ p, p < 6 → lab p < 6) {u : Nat} (ha : wf d u < 6) (hb : wt d u < 6) : ∃ σ', e_X2_join_55 (nI (wf d u)) (nI (wt d u)) σ = some σ' ∧ jf55 σ σ' ∧ lrep55 σ' (jn d lab u) := by
  have la := hl _ ha
  have lb := hl _ hb
  have key : ∀ f k σ, k ≤ 6 → 6 - k < f → (∀ p, p < 6 → eI σ 56 p = if p < k then nI (jn d lab u p) else nI (lab p)) → ∃ σ', e_X2_join_55_L18 (nI (wf d u)) (nI (wt d u)) f (nI (lab (wf d u))) (nI (lab (wt d u))) (nI k) σ = some σ' ∧ jf55 σ σ' ∧ lrep55 σ' (jn d lab u) := by
    intro f
    induction f with
    | zero => intro k σ h1 h2; omega
    | succ f ih =>
      intro k σ h1 h2 h
      have le : (6 : Int32) ≤ nI k ↔ 6 ≤ k := nLe (a := 6) (by omega) (by omega)
      simp only [e_X2_join_55_L18]
      by_cases c : 6 ≤ k
      · rw [if_pos (le.mpr c)]
        exact ⟨σ, rfl, jf55.refl σ, fun p hp => by rw [h p hp, if_pos (by omega)]⟩
      · have hk : k < 6 := by omega
        have lk := hl k hk
        rw [if_neg (fun x => c (le.mp x)), if_pos (mib_nI hk (by decide)), nIc (by omega), h k hk, if_neg (show ¬ k < k by omega), nI_1]
        by_cases e : lab k = lab (wf d u)
        · rw [if_pos ((nI_i (by omega) (by omega)).mpr e)]
          have f1 : jf55 σ (uI σ 56 k (nI (lab (wt d u)))) := ⟨fun a b q => by rw [eI_uI, if_neg (by omega)], fun _ _ => rfl, fun _ => rfl⟩
          obtain ⟨σ', r1, r2, r3⟩ := ih (k + 1) (uI σ 56 k (nI (lab (wt d u)))) (by omega) (by omega) (fun p hp => by
            rw [eI_uI]
            by_cases x : p = k
            · rw [if_pos (show 56 = 56 ∧ p = k from ⟨rfl, x⟩), if_pos (show p < k + 1 by omega), x]
              unfold jn
              rw [if_pos e]
            · rw [if_neg (show ¬ (56 = 56 ∧ p = k) from fun y => x y.2), h p hp]
              by_cases y : p < k
              · rw [if_pos y, if_pos (show p < k + 1 by omega)]
              · rw [if_neg y, if_neg (show ¬ p < k + 1 by omega)])
          exact ⟨σ', r1, f1.trans r2, r3⟩
        · rw [if_neg (fun y => e ((nI_i (by omega) (by omega)).mp y))]
          refine ih (k + 1) σ (by omega) (by omega) (fun p hp => ?_)
          rw [h p hp]
          by_cases y : p < k
          · rw [if_pos y, if_pos (show p < k + 1 by omega)]
          · rw [if_neg y]
            by_cases x : p = k
            · rw [if_pos (show p < k + 1 by omega), x]
              unfold jn
              rw [if_neg e]
            · rw [if_neg (show ¬ p < k + 1 by omega)]
  obtain ⟨σ', r1, r2, r3⟩ := key mN 0 σ (by omega) (mN_big (by omega)) (fun p hp => by rw [if_neg (by omega)]; exact h p hp)
  refine ⟨σ', ?_, r2, r3⟩
  unfold e_X2_join_55
  rw [if_pos (mib_nI ha (by decide)), if_pos (mib_nI hb (by decide)), nIc (by omega), nIc (by omega), h _ ha, h _ hb]
  exact r1
