/-! ===== the best of a row of countries: kind, season ===== -/
theorem setW_ww (d : CD) (w j : Nat) (x y : Int32) : setW (setW d w j x) w j y = setW d w j y := by
  unfold setW
  refine congrArg (fun f => (d.1, f, d.2.2)) ?_
  funext a b
  show (if a = w ∧ b = j then y else (if a = w ∧ b = j then x else dw d a b)) = _
  by_cases c : a = w ∧ b = j
  · rw [if_pos c, if_pos c]
  · rw [if_neg c, if_neg c, if_neg c]
theorem setW_self (d : CD) (w j : Nat) : setW d w j (dw d w j) = d := by
  unfold setW
  have : (fun a b => if a = w ∧ b = j then dw d w j else dw d a b) = d.2.1 := by
    funext a b
    by_cases c : a = w ∧ b = j
    · rw [if_pos c, c.1, c.2]
      rfl
    · rw [if_neg c]
      rfl
  rw [this]
theorem cls_setWo {σ : ES} {o : Nat} {d : CD} (h : cls σ o d) (w j : Nat) (v : Int32) (hj : j < 6) : cls (uI σ (o + 1 + j) w v) o (setW d w j v) := by
  obtain ⟨h1, h2, h3, h4, h5, h6⟩ := h
  have off : ∀ k, eI (uI σ (o + 1 + j) w v) o k = eI σ o k := fun k => by rw [eI_uI, if_neg (by omega)]
  refine ⟨(off 0).trans h1, (off 1).trans h2, (off 2).trans h3, (off 9).trans h4, fun a ha b hb => ?_, fun t ht b hb => ?_⟩
  · rw [eI_uI]
    show _ = if a = w ∧ b = j then v else dw d a b
    by_cases c : a = w ∧ b = j
    · rw [if_pos c, if_pos (by omega)]
    · rw [if_neg c, if_neg (by omega)]
      exact h5 a ha b hb
  · rw [eI_uI, if_neg (by omega)]
    exact h6 t ht b hb
def setZ (d : CD) (z : Nat) : CD := ((dP d, z, dN d, dT d), d.2)
theorem setZ_zz (d : CD) (x y : Nat) : setZ (setZ d x) y = setZ d y := rfl
theorem setZ_self (d : CD) : setZ d (dW d) = d := rfl
theorem cls_setZ {σ : ES} {o : Nat} {d : CD} (h : cls σ o d) (z : Nat) : cls (uI σ o 1 (nI z)) o (setZ d z) := by
  obtain ⟨h1, h2, h3, h4, h5, h6⟩ := h
  have off : ∀ k, k ≠ 1 → eI (uI σ o 1 (nI z)) o k = eI σ o k := fun k hk => by rw [eI_uI, if_neg (by omega)]
  refine ⟨(off 0 (by decide)).trans h1, ?_, (off 2 (by decide)).trans h3, (off 9 (by decide)).trans h4, fun a ha b hb => ?_, fun t ht b hb => ?_⟩
  · rw [eI_uI, if_pos ⟨rfl, rfl⟩]
    rfl
  · rw [eI_uI, if_neg (by omega)]
    exact h5 a ha b hb
  · rw [eI_uI, if_neg (by omega)]
    exact h6 t ht b hb
theorem mdl_setZ {σ : ES} {d : CD} (h : mdl σ d) (z : Nat) : mdl (uI σ 69 2 (nI z)) (setZ d z) := by
  obtain ⟨h1, h2, h3, h4, h5, h6, h7⟩ := h
  exact ⟨h1, rfl, h3, h4, h5, h6, h7⟩
theorem ok_setZ {d : CD} (ok : okD d) {z : Nat} (hz : z ≤ 5) : okD (setZ d z) := ⟨ok.1, hz, ok.2.2.1, ok.2.2.2.1, ok.2.2.2.2.1, ok.2.2.2.2.2⟩
/-- the same ways, but for what they bring and last: as many rings -/
theorem fm_leq {β : Type} {f g : Nat → List β} {l : List Nat} (h : ∀ w, w ∈ l → (f w).length = (g w).length) : (l.flatMap f).length = (l.flatMap g).length := by
  induction l with
  | nil => rfl
  | cons w l ih =>
    rw [List.flatMap_cons, List.flatMap_cons, List.length_append, List.length_append, h w (List.mem_cons_self ..), ih (fun v hv => h v (List.mem_cons_of_mem _ hv))]
theorem rl_leq {d d' : CD} {op op' : Nat → Bool} (hN : dN d' = dN d) (h : ∀ w, w < dN d → wf d' w = wf d w ∧ wt d' w = wt d w ∧ op' w = op w) : ∀ n s a p k A B k' A' B', (rl d' op' n s a p k' A' B').length = (rl d op n s a p k A B).length := by
  intro n
  induction n with
  | zero =>
    intro s a p k A B k' A' B'
    rfl
  | succ n ih =>
    intro s a p k A B k' A' B'
    rw [rl_succ, rl_succ, hN]
    refine fm_leq (fun w hw => ?_)
    obtain ⟨e1, e2, e3⟩ := h w (List.mem_range.mp hw)
    unfold rc
    rw [e1, e2, e3]
    by_cases c1 : op w = true ∧ wf d w = a
    · rw [if_pos c1, if_pos c1]
      by_cases c2 : wt d w = s
      · rw [if_pos c2, if_pos c2]
        rfl
      · rw [if_neg c2, if_neg c2]
        by_cases c3 : wt d w < s
        · rw [if_pos c3, if_pos c3]
        · rw [if_neg c3, if_neg c3]
          by_cases c4 : p.testBit (wt d w) = true
          · rw [if_pos c4, if_pos c4]
          · rw [if_neg c4, if_neg c4]
            exact ih _ _ _ _ _ _ _ _ _
    · rw [if_neg c1, if_neg c1]
theorem rn_leq {d d' : CD} (hP : dP d' = dP d) (hN : dN d' = dN d) (h : ∀ w, w < dN d → wf d' w = wf d w ∧ wt d' w = wt d w ∧ opw d' w = opw d w) : (rn d').length = (rn d).length := by
  unfold rn al
  rw [hP]
  exact fm_leq (fun s _ => rl_leq hN h _ _ _ _ _ _ _ _ _ _)
theorem bst_some {d d' : CD} (ok : okD d) (ok' : okD d') (hl : (rn d').length = (rn d).length) {b : Rg} (h : bst (rn d) = some b) : ∃ b', bst (rn d') = some b' ∧ okR b' := by
  rcases bst_top (rn d') (rn_ok ok') with ⟨_, e⟩ | ⟨b', e1, e2, _⟩
  · rw [e] at hl
    have : rn d = [] := List.eq_nil_of_length_eq_zero hl.symm
    rw [this] at h
    cases h
  · exact ⟨b', e1, rn_ok ok' b' e2⟩
/-- the first of the best of a row -/
def ps (F : Nat → Rg) : Nat → Option (Nat × Rg)
  | 0 => none
  | k + 1 => match ps F k with
    | none => some (k, F k)
    | some c => if gtr (F k) c.2 = true then some (k, F k) else some c
theorem ps_some (F : Nat → Rg) (k : Nat) : ∃ c, ps F (k + 1) = some c := by
  show ∃ c, (match ps F k with
    | none => some (k, F k)
    | some c => if gtr (F k) c.2 = true then some (k, F k) else some c) = some c
  cases ps F k with
  | none => exact ⟨_, rfl⟩
  | some c =>
    show ∃ c', (if gtr (F k) c.2 = true then some (k, F k) else some c) = some c'
    by_cases q : gtr (F k) c.2 = true
    · exact ⟨_, if_pos q⟩
    · exact ⟨_, if_neg q⟩
theorem ps_n {F : Nat → Rg} {k : Nat} (h : ps F k = none) : ps F (k + 1) = some (k, F k) := by
  show (match ps F k with
    | none => some (k, F k)
    | some c => if gtr (F k) c.2 = true then some (k, F k) else some c) = _
  rw [h]
theorem ps_s {F : Nat → Rg} {k : Nat} {c : Nat × Rg} (h : ps F k = some c) : ps F (k + 1) = if gtr (F k) c.2 = true then some (k, F k) else some c := by
  show (match ps F k with
    | none => some (k, F k)
    | some c => if gtr (F k) c.2 = true then some (k, F k) else some c) = _
  rw [h]
def df (σ σ' : ES) : Prop := (∀ a b, a < 19 ∨ 39 ≤ a → eI σ' a b = eI σ a b) ∧ ∀ a b, a < 19 ∨ 39 ≤ a → eL σ' a b = eL σ a b
theorem df.refl (σ : ES) : df σ σ := ⟨fun _ _ _ => rfl, fun _ _ _ => rfl⟩
theorem df.trans {σ τ υ : ES} (h : df σ τ) (g : df τ υ) : df σ υ := ⟨fun a b q => (g.1 a b q).trans (h.1 a b q), fun a b q => (g.2 a b q).trans (h.2 a b q)⟩
theorem df_gf {σ σ' : ES} (h : gf σ σ') : df σ σ' := ⟨fun a b q => h.1 a b (by omega) (by omega) (by omega) (by omega) (by omega), fun a b q => h.2 a b (by omega) (by omega) (by omega) (by omega)⟩
theorem df_uI {σ : ES} {k j : Nat} {v : Int32} (h : 19 ≤ k ∧ k < 39) : df σ (uI σ k j v) := ⟨fun a b q => by rw [eI_uI, if_neg (by omega)], fun _ _ _ => rfl⟩
theorem df_uL {σ : ES} {k j : Nat} {v : Int64} (h : 19 ≤ k ∧ k < 39) : df σ (uL σ k j v) := ⟨fun _ _ _ => rfl, fun a b q => by rw [eL_uL, if_neg (by omega)]⟩
theorem kp_df {σ σ' : ES} (h : df σ σ') : kp σ σ' := by
  refine ⟨fun k j q => h.1 k j ?_, fun k j q => h.2 k j ?_⟩
  · simp only [qK, qI, qT, qS, qF, Bool.or_eq_true, Bool.and_eq_true, beq_iff_eq, decide_eq_true_eq] at q
    omega
  · simp only [qL, qB, Bool.or_eq_true, Bool.and_eq_true, beq_iff_eq, decide_eq_true_eq] at q
    omega
theorem cls_df {σ σ' : ES} {o : Nat} {d : CD} (ho : o ≤ 10) (h : cls σ o d) (g : df σ σ') : cls σ' o d := cls_c h (fun k j h1 h2 => g.1 k j (by omega))
theorem mdl_df {σ σ' : ES} {d : CD} (h : mdl σ d) (g : df σ σ') : mdl σ' d := mdl_c h (fun j hj => g.1 69 j (by omega)) (fun j => g.1 71 j (by omega)) (fun j => g.1 72 j (by omega)) (fun j => g.1 73 j (by omega))
/-- the peak that the class holds -/
def pkC (σ : ES) (x : Int32) (c : Option (Nat × Rg)) : Prop := (c = none ∧ x = 0 ∧ eL σ 28 12 = 0) ∨ ∃ i b, c = some (i, b) ∧ i < 6 ∧ okR b ∧ x = nI i ∧ eL σ 28 11 = b.2.1 ∧ eL σ 28 12 = b.2.2
theorem rises_c {σ : ES} {d : CD} (ok : okD d) (hc : cls σ 19 d) {F : Nat → Rg} {k : Nat} (hk : k < 6) (hb : bst (rn d) = some (F k)) (okb : okR (F k)) {x : Int32} (hp : pkC σ x (ps F k)) : ∃ y σ1, e_X4_rises_19 σ = some (y, σ1) ∧ df σ σ1 ∧ cls σ1 19 d ∧ pkC σ1 (if y = 0 then x else nI k) (ps F (k + 1)) := by
  obtain ⟨σ1, g1, g2, g3, g4⟩ := gather19 ok (-1) hc
  have e : al d (opn d (-1)) = rn d := al_congr (opn_m1 ok)
  rw [e] at g3
  have len := rn_len ok
  obtain ⟨y, y1, y2⟩ := best_c g3 (by omega) (rn_ok ok) (m := 0) (by omega)
  rw [fil_0, hb] at y2
  have y1' : e_X4_best σ1 0 = some y := y1
  rcases y2 with ⟨_, y2⟩ | ⟨j, b, e1, e2, e3, e4⟩
  · cases y2
  · have e4 : F k = b := Option.some.inj e4
    obtain ⟨_, s1, s2⟩ := g3.2 j b e3
    have l1 : eL σ1 28 11 = eL σ 28 11 := g2.2 28 11 (by omega) (by omega) (by omega) (by omega)
    have l2 : eL σ1 28 12 = eL σ 28 12 := g2.2 28 12 (by omega) (by omega) (by omega) (by omega)
    have c1 : cls σ1 19 d := cls_gf (by decide) hc g2
    have J : e_X4_rises_19_J56 (nI j) σ1 = some (1, uL (uL σ1 28 11 (F k).2.1) 28 12 (F k).2.2) := by
      unfold e_X4_rises_19_J56
      rw [if_pos (mib_nI e2 (by decide)), nIc (by omega), s1, eL_uL, if_neg (by omega), s2, e4]
    have up : ∀ c, c = some (k, F k) → pkC (uL (uL σ1 28 11 (F k).2.1) 28 12 (F k).2.2) (nI k) c := fun c hc => Or.inr ⟨k, F k, hc, hk, okb, rfl, rfl, rfl⟩
    have yes : e_X4_rises_19 σ = e_X4_rises_19_J56 (nI j) σ1 → ps F (k + 1) = some (k, F k) → ∃ y σ1, e_X4_rises_19 σ = some (y, σ1) ∧ df σ σ1 ∧ cls σ1 19 d ∧ pkC σ1 (if y = 0 then x else nI k) (ps F (k + 1)) := by
      intro q1 q2
      refine ⟨1, _, q1.trans J, (df_gf g2).trans ((df_uL (by omega)).trans (df_uL (by omega))), cls_c c1 (fun _ _ _ _ => rfl), ?_⟩
      rw [if_neg (by decide)]
      exact up _ q2
    rcases hp with ⟨p1, p2, p3⟩ | ⟨i, c, p1, p2, p3, p4, p5, p6⟩
    · refine yes ?_ (ps_n p1)
      unfold e_X4_rises_19
      rw [g1, ob, y1', ob, e1, if_neg (nI_m1 (by omega)), l2, p3, if_pos rfl]
    · have nz : ¬ c.2.2 = 0 := by
        intro q
        have := eq64.mp q
        have z : (0 : Int64).toInt = 0 := rfl
        have := p3.2.2.1
        omega
      have st : e_X4_rises_19 σ = if c.2.1 * (F k).2.2 < (F k).2.1 * c.2.2 then e_X4_rises_19_J56 (nI j) σ1 else some (0, σ1) := by
        unfold e_X4_rises_19
        rw [g1, ob, y1', ob, e1, if_neg (nI_m1 (by omega)), l2, p6, if_neg nz, if_pos (mib_nI e2 (by decide)), nIc (by omega), s1, s2, l1, p5, e4]
      by_cases q : gtr (F k) c = true
      · refine yes ?_ ?_
        · rw [st, if_pos ((gtr_lt okb p3).mpr q)]
        · rw [ps_s p1]
          exact if_pos q
      · refine ⟨0, σ1, ?_, df_gf g2, c1, ?_⟩
        · rw [st, if_neg (fun z => q ((gtr_lt okb p3).mp z))]
        · rw [if_pos rfl, ps_s p1]
          have : (if gtr (F k) (i, c).2 = true then some (k, F k) else some (i, c)) = some (i, c) := if_neg q
          rw [this]
          exact Or.inr ⟨i, c, rfl, p2, p3, p4, l1.trans p5, l2.trans p6⟩
