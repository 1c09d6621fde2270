/-! ===== kind, season ===== -/
def rf (σ σ' : ES) : Prop := (∀ a b, ¬ (a = 69 ∧ (b = 2 ∨ b = 8 ∨ b = 9 ∨ b = 10 ∨ b = 13)) → a ≠ 71 → eI σ' a b = eI σ a b) ∧ ∀ a b, ¬ (a = 69 ∧ (b = 11 ∨ b = 12)) → eL σ' a b = eL σ a b
theorem rf.refl (σ : ES) : rf σ σ := ⟨fun _ _ _ _ => rfl, fun _ _ _ => rfl⟩
theorem rf.trans {σ τ υ : ES} (h : rf σ τ) (g : rf τ υ) : rf σ υ := ⟨fun a b q r => (g.1 a b q r).trans (h.1 a b q r), fun a b q => (g.2 a b q).trans (h.2 a b q)⟩
theorem rf_mrf {σ σ' : ES} (h : mrf σ σ') : rf σ σ' := ⟨fun a b q _ => h.1 a b (by omega), fun a b q => h.2 a b q⟩
theorem rf_71 {σ : ES} {j : Nat} {v : Int32} : rf σ (uI σ 71 j v) := ⟨fun a b _ q => by rw [eI_uI, if_neg (by omega)], fun _ _ _ => rfl⟩
theorem rf_2 {σ : ES} {v : Int32} : rf σ (uI σ 69 2 v) := ⟨fun a b q _ => by rw [eI_uI, if_neg (by omega)], fun _ _ _ => rfl⟩
theorem Rel_rf {σ σ' : ES} {d : CD} (h : Rel σ) (ok : okD d) (hc : cls σ 1 d) (g : rf σ σ') (hm : mdl σ' d) : Rel σ' := by
  refine Rel_kk (d := d) h (fun k j q => g.1 k j ?_ ?_) (fun k j q => g.2 k j ?_) ⟨ok, cls_c hc (fun k j h1 h2 => g.1 k j (by omega) (by omega)), hm⟩
  · rintro ⟨rfl, e | e | e | e | e⟩ <;> subst e <;> simp [qI, qT, qS, qF] at q
  · rintro rfl
    simp [qI, qT, qS, qF] at q
  · rintro ⟨rfl, _⟩
    simp [qL, qB] at q
def pkM (x : Int32) (A B : Int64) (c : Option (Nat × Rg)) : Prop := (c = none ∧ x = -1) ∨ ∃ i b, c = some (i, b) ∧ i < 6 ∧ okR b ∧ x = nI i ∧ A = b.2.1 ∧ B = b.2.2
theorem kindC {d : CD} {w : Nat} (hw : w < dN d) (h14 : dN d ≤ 14) {F : Nat → Rg} (hF : ∀ k, k < 6 → okD (setW d w 0 (nI k)) ∧ bst (rn (setW d w 0 (nI k))) = some (F k) ∧ okR (F k)) : ∀ f k σ x, k ≤ 6 → 6 - k < f → (∃ v, cls σ 19 (setW d w 0 v)) → pkC σ x (ps F k) → ∃ y σ', e_X9_kind_L53 (nI w) f x (nI k) σ = some (y, σ') ∧ df σ σ' ∧ pkC σ' y (ps F 6) := by
  intro f
  induction f with
  | zero => intro k σ x h1 h2; omega
  | succ f ih =>
    intro k σ x h1 h2 hv hp
    have le : (6 : Int32) ≤ nI k ↔ 6 ≤ k := nLe (a := 6) (by omega) (by omega)
    simp only [e_X9_kind_L53]
    by_cases c : 6 ≤ k
    · rw [if_pos (le.mpr c)]
      have : k = 6 := by omega
      subst this
      exact ⟨x, σ, rfl, df.refl σ, hp⟩
    · obtain ⟨v, hv⟩ := hv
      obtain ⟨ok, hb, okb⟩ := hF k (by omega)
      have hc := cls_setWo hv w 0 (nI k) (by decide)
      rw [setW_ww] at hc
      obtain ⟨y, σ1, r1, r2, r3, r4⟩ := rises_c ok hc (show k < 6 by omega) hb okb (x := x) hp
      have r1' : e_X4_rises_19 (uI σ 20 w (nI k)) = some (y, σ1) := r1
      rw [if_neg (fun x => c (le.mp x)), if_pos (mib_nI (by omega) (by decide)), nIc (by omega), r1', ob, nI_1]
      have dd : df σ σ1 := (df_uI (by omega)).trans r2
      by_cases cy : y = 0
      · rw [if_pos cy] at r4
        obtain ⟨z, σ', q1, q2, q3⟩ := ih (k + 1) σ1 x (by omega) (by omega) ⟨_, r3⟩ r4
        rw [if_pos cy]
        exact ⟨z, σ', q1, dd.trans q2, q3⟩
      · rw [if_neg cy] at r4
        obtain ⟨z, σ', q1, q2, q3⟩ := ih (k + 1) σ1 (nI k) (by omega) (by omega) ⟨_, r3⟩ r4
        rw [if_neg cy]
        exact ⟨z, σ', q1, dd.trans q2, q3⟩
theorem seasonC {d : CD} {F : Nat → Rg} (hF : ∀ k, k < 6 → okD (setZ d k) ∧ bst (rn (setZ d k)) = some (F k) ∧ okR (F k)) : ∀ f k σ x, k ≤ 6 → 6 - k < f → (∃ v, cls σ 19 (setZ d v)) → pkC σ x (ps F k) → ∃ y σ', e_X9_season_L36 f x (nI k) σ = some (y, σ') ∧ df σ σ' ∧ pkC σ' y (ps F 6) := by
  intro f
  induction f with
  | zero => intro k σ x h1 h2; omega
  | succ f ih =>
    intro k σ x h1 h2 hv hp
    have lt : (5 : Int32) < nI k ↔ 5 < k := nLt (a := 5) (by omega) (by omega)
    simp only [e_X9_season_L36]
    by_cases c : 5 < k
    · rw [if_pos (lt.mpr c)]
      have : k = 6 := by omega
      subst this
      exact ⟨x, σ, rfl, df.refl σ, hp⟩
    · obtain ⟨v, hv⟩ := hv
      obtain ⟨ok, hb, okb⟩ := hF k (by omega)
      have hc := cls_setZ hv k
      rw [setZ_zz] at hc
      obtain ⟨y, σ1, r1, r2, r3, r4⟩ := rises_c ok hc (show k < 6 by omega) hb okb (x := x) hp
      rw [if_neg (fun x => c (lt.mp x)), r1, ob, nI_1]
      have dd : df σ σ1 := (df_uI (by omega)).trans r2
      by_cases cy : y = 0
      · rw [if_pos cy] at r4
        obtain ⟨z, σ', q1, q2, q3⟩ := ih (k + 1) σ1 x (by omega) (by omega) ⟨_, r3⟩ r4
        rw [if_pos cy]
        exact ⟨z, σ', q1, dd.trans q2, q3⟩
      · rw [if_neg cy] at r4
        obtain ⟨z, σ', q1, q2, q3⟩ := ih (k + 1) σ1 (nI k) (by omega) (by omega) ⟨_, r3⟩ r4
        rw [if_neg cy]
        exact ⟨z, σ', q1, dd.trans q2, q3⟩
theorem six0 (w : Nat) : (6 : Int32) * nI w = nI (6 * w) := (Int32.ofNat_mul 6 w).symm
/-- one step of the reference's choice -/
theorem pkM_step {F : Nat → Rg} {k : Nat} (hk : k < 6) (okb : okR (F k)) {x : Int32} {A B : Int64} (hp : pkM x A B (ps F k)) : (x < 0 → pkM (nI k) (F k).2.1 (F k).2.2 (ps F (k + 1))) ∧ (¬ x < 0 → ((F k).2.1 * B ≤ A * (F k).2.2 → pkM x A B (ps F (k + 1))) ∧ (¬ (F k).2.1 * B ≤ A * (F k).2.2 → pkM (nI k) (F k).2.1 (F k).2.2 (ps F (k + 1)))) := by
  rcases hp with ⟨p1, p2⟩ | ⟨i, c, p1, p2, p3, p4, p5, p6⟩
  · refine ⟨fun _ => Or.inr ⟨k, F k, ps_n p1, hk, okb, rfl, rfl, rfl⟩, fun n => ?_⟩
    rw [p2] at n
    exact absurd (by decide) n
  · subst p4 p5 p6
    have le : (F k).2.1 * c.2.2 ≤ c.2.1 * (F k).2.2 ↔ ¬ gtr (F k) c = true := by
      rw [← gtr_lt okb p3, le64, lt64]
      omega
    refine ⟨fun n => absurd n (nI_pos (by omega)), fun _ => ⟨fun q => ?_, fun q => ?_⟩⟩
    · refine Or.inr ⟨i, c, ?_, p2, p3, rfl, rfl, rfl⟩
      rw [ps_s p1]
      exact if_neg (le.mp q)
    · refine Or.inr ⟨k, F k, ?_, hk, okb, rfl, rfl, rfl⟩
      rw [ps_s p1]
      have : gtr (F k) c = true := by
        by_cases g : gtr (F k) c = true
        · exact g
        · exact absurd (le.mpr g) q
      exact if_pos this
theorem kindM {d : CD} {w : Nat} (hw : w < dN d) (h14 : dN d ≤ 14) {F : Nat → Rg} (hF : ∀ k, k < 6 → okD (setW d w 0 (nI k)) ∧ bst (rn (setW d w 0 (nI k))) = some (F k) ∧ okR (F k)) (x2 : Int32) : ∀ f k τ x A B, k ≤ 6 → 6 - k < f → (∃ v, mdl τ (setW d w 0 v)) → pkM x A B (ps F k) → ∃ y A' B' τ', e_X10_kind_L45 (nI w) f x2 x A B (nI k) τ = some (y, uI τ' 71 (6 * w) x2) ∧ rf τ τ' ∧ (∃ v, mdl τ' (setW d w 0 v)) ∧ pkM y A' B' (ps F 6) := by
  intro f
  induction f with
  | zero => intro k τ x A B h1 h2; omega
  | succ f ih =>
    intro k τ x A B h1 h2 hv hp
    have le : (6 : Int32) ≤ nI k ↔ 6 ≤ k := nLe (a := 6) (by omega) (by omega)
    simp only [e_X10_kind_L45, six0]
    rw [if_pos (mib_nI (show 6 * w < 84 by omega) (by decide)), nIc (by omega), if_pos (mib_nI (show 6 * w < 84 by omega) (by decide))]
    by_cases c : 6 ≤ k
    · rw [if_pos (le.mpr c)]
      have : k = 6 := by omega
      subst this
      exact ⟨x, A, B, τ, rfl, rf.refl τ, hv, hp⟩
    · obtain ⟨v, hv⟩ := hv
      obtain ⟨ok, hb, okb⟩ := hF k (by omega)
      have hm := mdl_setW hv w 0 (nI k) (by decide)
      rw [setW_ww] at hm
      obtain ⟨τ1, r1, r2, r3⟩ := ringsNow_m ok hm
      have r1' : e_X10_ringsNow (uI τ 71 (6 * w) (nI k)) = some (bi (bst (rn (setW d w 0 (nI k)))).isSome, τ1) := r1
      obtain ⟨t1, t2, _⟩ := r3 (F k) hb
      have st := pkM_step (show k < 6 by omega) okb hp
      have m1 : mdl τ1 (setW d w 0 (nI k)) := mdl_mrf hm r2
      have dd : rf τ τ1 := rf_71.trans (rf_mrf r2)
      rw [if_neg (fun x => c (le.mp x)), r1', ob]
      simp only [e_X10_kind_J90]
      rw [t1, t2, nI_1]
      have up : pkM (nI k) (F k).2.1 (F k).2.2 (ps F (k + 1)) → ∃ y A' B' τ', e_X10_kind_L45 (nI w) f x2 (nI k) (F k).2.1 (F k).2.2 (nI (k + 1)) τ1 = some (y, uI τ' 71 (6 * w) x2) ∧ rf τ τ' ∧ (∃ v, mdl τ' (setW d w 0 v)) ∧ pkM y A' B' (ps F 6) := by
        intro q
        obtain ⟨y, A', B', τ', z1, z2, z3, z4⟩ := ih (k + 1) τ1 (nI k) _ _ (by omega) (by omega) ⟨_, m1⟩ q
        exact ⟨y, A', B', τ', z1, dd.trans z2, z3, z4⟩
      by_cases cx : x < 0
      · rw [if_pos cx]
        exact up (st.1 cx)
      · rw [if_neg cx]
        by_cases cc : (F k).2.1 * B ≤ A * (F k).2.2
        · rw [if_pos cc]
          obtain ⟨y, A', B', τ', z1, z2, z3, z4⟩ := ih (k + 1) τ1 x A B (by omega) (by omega) ⟨_, m1⟩ ((st.2 cx).1 cc)
          exact ⟨y, A', B', τ', z1, dd.trans z2, z3, z4⟩
        · rw [if_neg cc]
          exact up ((st.2 cx).2 cc)
theorem seasonM {d : CD} {F : Nat → Rg} (hF : ∀ k, k < 6 → okD (setZ d k) ∧ bst (rn (setZ d k)) = some (F k) ∧ okR (F k)) (x2 : Int32) : ∀ f k τ x A B, k ≤ 6 → 6 - k < f → (∃ v, mdl τ (setZ d v)) → pkM x A B (ps F k) → ∃ y A' B' τ', e_X10_season_L28 f x2 x A B (nI k) τ = some (y, uI τ' 69 2 x2) ∧ rf τ τ' ∧ (∃ v, mdl τ' (setZ d v)) ∧ pkM y A' B' (ps F 6) := by
  intro f
  induction f with
  | zero => intro k τ x A B h1 h2; omega
  | succ f ih =>
    intro k τ x A B h1 h2 hv hp
    have le : (6 : Int32) ≤ nI k ↔ 6 ≤ k := nLe (a := 6) (by omega) (by omega)
    simp only [e_X10_season_L28]
    by_cases c : 6 ≤ k
    · rw [if_pos (le.mpr c)]
      have : k = 6 := by omega
      subst this
      exact ⟨x, A, B, τ, rfl, rf.refl τ, hv, hp⟩
    · obtain ⟨v, hv⟩ := hv
      obtain ⟨ok, hb, okb⟩ := hF k (by omega)
      have hm := mdl_setZ hv k
      rw [setZ_zz] at hm
      obtain ⟨τ1, r1, r2, r3⟩ := ringsNow_m ok hm
      obtain ⟨t1, t2, _⟩ := r3 (F k) hb
      have st := pkM_step (show k < 6 by omega) okb hp
      have m1 : mdl τ1 (setZ d k) := mdl_mrf hm r2
      have dd : rf τ τ1 := rf_2.trans (rf_mrf r2)
      rw [if_neg (fun x => c (le.mp x)), r1, ob]
      simp only [e_X10_season_J67]
      rw [t1, t2, nI_1]
      have up : pkM (nI k) (F k).2.1 (F k).2.2 (ps F (k + 1)) → ∃ y A' B' τ', e_X10_season_L28 f x2 (nI k) (F k).2.1 (F k).2.2 (nI (k + 1)) τ1 = some (y, uI τ' 69 2 x2) ∧ rf τ τ' ∧ (∃ v, mdl τ' (setZ d v)) ∧ pkM y A' B' (ps F 6) := by
        intro q
        obtain ⟨y, A', B', τ', z1, z2, z3, z4⟩ := ih (k + 1) τ1 (nI k) _ _ (by omega) (by omega) ⟨_, m1⟩ q
        exact ⟨y, A', B', τ', z1, dd.trans z2, z3, z4⟩
      by_cases cx : x < 0
      · rw [if_pos cx]
        exact up (st.1 cx)
      · rw [if_neg cx]
        by_cases cc : (F k).2.1 * B ≤ A * (F k).2.2
        · rw [if_pos cc]
          obtain ⟨y, A', B', τ', z1, z2, z3, z4⟩ := ih (k + 1) τ1 x A B (by omega) (by omega) ⟨_, m1⟩ ((st.2 cx).1 cc)
          exact ⟨y, A', B', τ', z1, dd.trans z2, z3, z4⟩
        · rw [if_neg cc]
          exact up ((st.2 cx).2 cc)
