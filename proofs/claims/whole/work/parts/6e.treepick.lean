/-! ===== the class's trees ===== -/
def TI (d : CD) (W : Nat → Int) (σ : ES) : Prop := cls σ 1 d ∧ eT σ 0 = some 1 ∧ eI σ 39 4 = nI (dN d) ∧ ∀ i, i < dN d → (eL σ 42 i).toInt = W i
theorem TI_jf {d : CD} {W : Nat → Int} {σ σ' : ES} (h : TI d W σ) (g : jf43 σ σ') : TI d W σ' := by
  obtain ⟨h1, h2, h3, h4⟩ := h
  refine ⟨cls_c h1 (fun k j _ _ => g.1 k j (by omega)), (g.2.2 0).trans h2, (g.1 39 4 (by omega)).trans h3, fun i hi => ?_⟩
  rw [g.2.1 42 i]
  exact h4 i hi
theorem pf_jf {σ σ' : ES} (h : jf43 σ σ') : pf σ σ' := ⟨fun a b q _ => h.1 a b q, fun a b _ => h.2.1 a b, h.2.2⟩
section
variable {d : CD} {W : Nat → Int}
theorem heavy (ok : okD d) {σ : ES} (hI : TI d W σ) {lab : Lb} (hr : lrep43 σ lab) (hl : ∀ p, p < 6 → lab p < 6) : ∀ f k x, k ≤ dN d → dN d - k < f → ((x = -1 ∧ ∀ v, v < k → opw d v = true → ¬ eff d lab v) ∨ ∃ j, j < k ∧ x = nI j ∧ opw d j = true ∧ eff d lab j ∧ ∀ v, v < k → opw d v = true → eff d lab v → W2 W v ≤ W2 W j) → ∃ y, e_X7_heaviestJoining_L4 σ f x (nI k) = some y ∧ ((y = -1 ∧ ∀ v, v < dN d → opw d v = true → ¬ eff d lab v) ∨ ∃ j, j < dN d ∧ y = nI j ∧ opw d j = true ∧ eff d lab j ∧ ∀ v, v < dN d → opw d v = true → eff d lab v → W2 W v ≤ W2 W j) := by
  have h14 := ok.2.2.1
  have P6 := ok.1
  obtain ⟨hc, hT, h4, hV⟩ := id hI
  intro f
  induction f with
  | zero => intro k x h1 h2; omega
  | succ f ih =>
    intro k x h1 h2 hx
    have le : nI (dN d) ≤ nI k ↔ dN d ≤ k := nLe (by omega) (by omega)
    simp only [e_X7_heaviestJoining_L4, h4]
    by_cases q : dN d ≤ k
    · have ek : k = dN d := by omega
      subst ek
      rw [if_pos (le.mpr q)]
      exact ⟨x, rfl, hx⟩
    · have hk : k < dN d := by omega
      obtain ⟨ew, lw⟩ := wf_eq ok hk
      obtain ⟨et, lt⟩ := wt_eq ok hk
      have e7 : eI σ 7 k = dw d k 5 := hc.2.2.2.2.1 k hk 5 (by decide)
      have e3 : eI σ 3 k = dw d k 1 := hc.2.2.2.2.1 k hk 1 (by decide)
      have e4 : eI σ 4 k = dw d k 2 := hc.2.2.2.2.1 k hk 2 (by decide)
      rw [if_neg (fun y => q (le.mp y)), if_pos hT, if_pos (mib_nI (by omega) (by decide)), nIc (by omega), e7, e3, e4, ew, et]
      have skip : ¬ (opw d k = true ∧ eff d lab k) → ∃ y, e_X7_heaviestJoining_L4 σ f x (nI (k + 1)) = some y ∧ ((y = -1 ∧ ∀ v, v < dN d → opw d v = true → ¬ eff d lab v) ∨ ∃ j, j < dN d ∧ y = nI j ∧ opw d j = true ∧ eff d lab j ∧ ∀ v, v < dN d → opw d v = true → eff d lab v → W2 W v ≤ W2 W j) := by
        intro n
        refine ih (k + 1) x (by omega) (by omega) ?_
        rcases hx with ⟨a, b⟩ | ⟨j, j1, j2, j3, j4, j5⟩
        · refine Or.inl ⟨a, fun v v1 v2 v3 => ?_⟩
          by_cases e : v = k
          · subst e
            exact n ⟨v2, v3⟩
          · exact b v (by omega) v2 v3
        · refine Or.inr ⟨j, by omega, j2, j3, j4, fun v v1 v2 v3 => ?_⟩
          by_cases e : v = k
          · subst e
            exact absurd ⟨v2, v3⟩ n
          · exact j5 v (by omega) v2 v3
      have J0 : e_X7_heaviestJoining_J57 σ (e_X7_heaviestJoining_L4 σ f) x (nI k) 0 = e_X7_heaviestJoining_L4 σ f x (nI (k + 1)) := by
        unfold e_X7_heaviestJoining_J57
        rw [if_pos rfl, nI_1]
      have J6 : e_X7_heaviestJoining_J56 σ (e_X7_heaviestJoining_L4 σ f) x (nI k) = e_X7_heaviestJoining_L4 σ f x (nI (k + 1)) := J0
      rw [J6]
      by_cases c1 : dw d k 5 = 0
      · have ho : opw d k = true := decide_eq_true c1
        rw [if_pos c1, apart43 hr hl (show wf d k < 6 by omega) (show wt d k < 6 by omega), ob]
        by_cases c2 : lab (wf d k) = lab (wt d k)
        · rw [if_pos c2, if_pos rfl]
          exact skip (fun y => y.2 c2)
        · rw [if_neg c2, if_neg (by decide)]
          have he : eff d lab k := c2
          unfold e_X7_heaviestJoining_J57
          rw [if_neg (by decide), nI_1]
          rcases hx with ⟨a, b⟩ | ⟨j, j1, j2, j3, j4, j5⟩
          · rw [if_pos a]
            refine ih (k + 1) (nI k) (by omega) (by omega) (Or.inr ⟨k, by omega, rfl, ho, he, fun v v1 v2 v3 => ?_⟩)
            by_cases e : v = k
            · rw [e]
              exact Int.le_refl _
            · exact absurd v3 (b v (by omega) v2)
          · have w := W2_le (W := W) (i := j) (j := k) (by omega) j1
            rw [j2, if_neg (nI_m1 (by omega)), if_pos (mib_nI (by omega) (by decide)), if_pos (mib_nI (by omega) (by decide)), nIc (by omega), nIc (by omega)]
            by_cases l : W k ≤ W j
            · rw [if_pos (by rw [le64, hV k hk, hV j (by omega)]; exact l)]
              refine ih (k + 1) (nI j) (by omega) (by omega) (Or.inr ⟨j, by omega, rfl, j3, j4, fun v v1 v2 v3 => ?_⟩)
              by_cases e : v = k
              · rw [e]
                exact w.1 l
              · exact j5 v (by omega) v2 v3
            · rw [if_neg (by rw [le64, hV k hk, hV j (by omega)]; exact l)]
              refine ih (k + 1) (nI k) (by omega) (by omega) (Or.inr ⟨k, by omega, rfl, ho, he, fun v v1 v2 v3 => ?_⟩)
              by_cases e : v = k
              · rw [e]
                exact Int.le_refl _
              · have := j5 v (by omega) v2 v3
                have := w.2 l
                omega
      · rw [if_neg c1]
        exact skip (fun y => c1 (of_decide_eq_true y.1))
theorem lbs6 (ok : okD d) : ∀ (es : List Nat) {lab : Lb}, (∀ p, p < 6 → lab p < 6) → (∀ u, u ∈ es → u < dN d) → ∀ p, p < 6 → lbs d lab es p < 6 := by
  have P6 := ok.1
  intro es
  induction es with
  | nil => exact fun h _ => h
  | cons u es ih =>
    intro lab h hu
    have lt := (wt_eq ok (hu u (List.mem_cons_self ..))).2
    refine ih (lab := jn d lab u) (fun p hp => ?_) (fun v hv => hu v (List.mem_cons_of_mem _ hv))
    unfold jn
    by_cases c : lab p = lab (wf d u)
    · rw [if_pos c]
      exact h _ (by omega)
    · rw [if_neg c]
      exact h p hp
theorem tree_L (ok : okD d) : ∀ f σ gs, gs.length + 1 ≤ dP d → dP d - gs.length < f → TI d W σ → grd d W gs idl → lrep43 σ (lbs d idl gs) → ∃ N σ', e_X7_pick_L11 f (nI (st gs)) (nI (gs.length + 1)) σ = some (nI N, σ') ∧ jf43 σ σ' ∧ ((N = 0 ∧ noC (cWy d (isTr d))) ∨ (isL (cWy d (isTr d)) (fun S => sgm W S (cN (cWy d (isTr d)))) N ∧ N ≠ 0)) := by
  have h14 := ok.2.2.1
  have P6 := ok.1
  intro f
  induction f with
  | zero => intro σ gs h1 h2; omega
  | succ f ih =>
    intro σ gs h1 h2 hI hg hr
    obtain ⟨hc, hT, h4, hV⟩ := id hI
    obtain ⟨nd, al⟩ := grd_all gs idl hg
    have hu : ∀ u, u ∈ gs → u < dN d := fun u h => (al u h).1
    have stl := st_lt gs hu
    have pw : 2 ^ dN d ≤ 16384 := Nat.pow_le_pow_right (n := 2) (by decide) h14
    have hl := lbs6 ok gs (lab := idl) (fun p hp => hp) hu
    have le : nI (dP d) ≤ nI (gs.length + 1) ↔ dP d ≤ gs.length + 1 := nLe (by omega) (by omega)
    simp only [e_X7_pick_L11, hc.1]
    rw [if_pos hT]
    by_cases q : dP d ≤ gs.length + 1
    · rw [if_pos (le.mpr q)]
      exact ⟨st gs, σ, rfl, jf43.refl σ, Or.inr (tree_is ok hg (by omega))⟩
    · rw [if_neg (fun y => q (le.mp y))]
      obtain ⟨y, y1, y2⟩ := heavy ok hI hr hl mN 0 (-1) (Nat.zero_le _) (mN_big (by omega)) (Or.inl ⟨rfl, fun v hv => by omega⟩)
      have y1' : e_X7_heaviestJoining σ = some y := y1
      rw [y1', ob]
      rcases y2 with ⟨a, b⟩ | ⟨j, j1, j2, j3, j4, j5⟩
      · rw [if_pos a]
        exact ⟨0, σ, rfl, jf43.refl σ, Or.inl ⟨rfl, tree_no ok hg (by omega) b⟩⟩
      · obtain ⟨ew, lw⟩ := wf_eq ok j1
        obtain ⟨et, lt⟩ := wt_eq ok j1
        have e3 : eI σ 3 j = dw d j 1 := hc.2.2.2.2.1 j j1 1 (by decide)
        have e4 : eI σ 4 j = dw d j 2 := hc.2.2.2.2.1 j j1 2 (by decide)
        obtain ⟨σ1, s1, s2, s3⟩ := join43 (d := d) hr hl (u := j) (by omega) (by omega)
        have pj := p2_14 (t := j) (by omega)
        rw [j2, if_neg (nI_m1 (by omega)), if_pos (mib_nI (by omega) (by decide)), nIc (by omega), e3, e4, ew, et, s1, ob, nI_1, shl_nI j (by omega), or_nI (by omega) (by omega)]
        have sg : st (gs ++ [j]) = st gs ||| 2 ^ j := by
          rw [st_app]
          show st gs ||| (2 ^ j ||| 0) = _
          rw [Nat.or_zero]
        have lg : (gs ++ [j]).length = gs.length + 1 := by rw [List.length_append]; rfl
        have lb : lbs d idl (gs ++ [j]) = jn d (lbs d idl gs) j := by
          rw [lbs_app]
          rfl
        have g' := grd_snoc gs idl hg ⟨j1, j3, j4, j5⟩
        obtain ⟨N, σ2, t1, t2, t3⟩ := ih σ1 (gs ++ [j]) (by rw [lg]; omega) (by rw [lg]; omega) (TI_jf hI s2) g' (by rw [lb]; exact s3)
        rw [sg, lg] at t1
        exact ⟨N, σ2, t1, s2.trans t2, t3⟩
theorem tree_pick (ok : okD d) {σ : ES} (hI : TI d W σ) : ∃ N σ', e_X7_pick σ = some (nI N, σ') ∧ pf σ σ' ∧ ((N = 0 ∧ noC (cWy d (isTr d))) ∨ (isL (cWy d (isTr d)) (fun S => sgm W S (cN (cWy d (isTr d)))) N ∧ N ≠ 0)) := by
  have P6 := ok.1
  obtain ⟨σ1, s1, s2, s3⟩ := part43 σ
  obtain ⟨N, σ2, t1, t2, t3⟩ := tree_L ok mN σ1 [] (by show 0 + 1 ≤ dP d; omega) (mN_big (by show dP d - 0 < _; omega)) (TI_jf hI s2) trivial s3
  refine ⟨N, σ2, ?_, (pf_jf s2).trans (pf_jf t2), t3⟩
  unfold e_X7_pick
  rw [s1, ob]
  exact t1
theorem tr_nz : ∀ S, S < 2 ^ dN d → isTr d S = true → S ≠ 0 := fun S _ h => (isTr_iff.mp h).1
theorem tree_c (ok : okD d) {σ : ES} (hc : cls σ 1 d) (hB : RB σ) : ∃ σ', hfr σ σ' ∧ ((noC (cWy d (isTr d)) ∧ e_X7_climbs_1 σ = some (0, σ')) ∨ ∃ S r, ends (cWy d (isTr d)) S r ∧ e_X7_climbs_1 σ = some (1, σ') ∧ eI σ' 39 0 = nI r.2.2 ∧ eI σ' 39 1 = nI r.2.1 ∧ eL σ' 39 2 = cX (cWy d (isTr d)) r.1 ∧ eL σ' 39 3 = cY (cWy d (isTr d)) r.1) := by
  have okc := cWy_ok ok (f := isTr d) tr_nz
  have c1 : cls (uT σ 0 (some 1)) 1 d := cls_c hc (fun _ _ _ _ => rfl)
  obtain ⟨σ2, t1, t2, t3, t4, t5, t6⟩ := take39 ok c1
  have z5 : eL σ2 39 5 = 0 := by
    rw [t3 39 5 (by omega) (by omega)]
    exact hB 39 5 rfl
  have z6 : eL σ2 39 6 = 0 := by
    rw [t3 39 6 (by omega) (by omega)]
    exact hB 39 6 rfl
  have cm : CM39 σ2 (cWy d (isTr d)) := by
    refine ⟨t5, fun i hi => ?_, ?_, ?_⟩
    · obtain ⟨a, b⟩ := t6 i hi
      rw [a, b]
      exact ⟨rfl, rfl⟩
    · rw [z5]
      rfl
    · rw [z6]
      rfl
  have aT : eT σ2 0 = some 1 := by
    rw [t4]
    rfl
  have c2 : cls σ2 1 d := cls_c c1 (fun p q h1 h2 => t2 p q (by omega))
  have hr2 : hfr σ σ2 := by
    refine ⟨fun a b q => ?_, fun a b q => ?_⟩
    · rw [t2 a b (by omega)]
      rfl
    · have : a < 39 ∨ 57 ≤ a ∨ ((a = 39 ∨ a = 45) ∧ (b = 5 ∨ b = 6)) := by
        rcases q with q | q | q
        · exact Or.inl q
        · exact Or.inr (Or.inl q)
        · exact Or.inr (Or.inr (qB_k q))
      rw [t3 a b (by omega) (by omega)]
      rfl
  obtain ⟨σ3, q1, q2⟩ := run39 okc (PI := fun τ => cls τ 1 d ∧ eT τ 0 = some 1) (fun τ τ' g h => ⟨cls_c h.1 (fun k j h1 h2 => g.1 k j (by omega) (by omega) (by omega)), (g.2.2 0).trans h.2⟩) (fun τ W h h4 hW _ => tree_pick ok ⟨h.1, h.2, h4, hW⟩) ⟨c2, aT⟩ cm
  refine ⟨σ3, hr2.trans (hfr_39 q1), ?_⟩
  unfold e_X7_climbs_1
  rw [t1, ob]
  rcases q2 with ⟨n1, n2⟩ | ⟨S, r, n1, n2, n3⟩
  · left
    refine ⟨n1, ?_⟩
    rw [n2, ob, if_pos (show (0 : Int32) = 0 ∨ (0 : Int32) = 1 from Or.inl rfl)]
  · right
    refine ⟨S, r, n1, ?_, n3⟩
    rw [n2, ob, if_pos (show (1 : Int32) = 0 ∨ (1 : Int32) = 1 from Or.inr rfl)]
end
