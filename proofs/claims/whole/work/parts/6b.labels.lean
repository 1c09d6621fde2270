/-! ===== trees: which places are joined, told by labels ===== -/
abbrev Lb : Type := Nat → Nat
def jn (d : CD) (lab : Lb) (u : Nat) : Lb := fun p => if lab p = lab (wf d u) then lab (wt d u) else lab p
def lbs (d : CD) (lab : Lb) (es : List Nat) : Lb := es.foldl (jn d) lab
def us (P : Nat) (lab : Lb) (v : Nat) : Bool := (List.range P).any (fun p => decide (lab p = v))
def cc (P : Nat) (lab : Lb) : Nat := ((List.range 6).filter (us P lab)).length
theorem us_iff {P : Nat} {lab : Lb} {v : Nat} : us P lab v = true ↔ ∃ p, p < P ∧ lab p = v := by
  unfold us
  rw [List.any_eq_true]
  constructor
  · rintro ⟨p, h1, h2⟩
    exact ⟨p, List.mem_range.mp h1, of_decide_eq_true h2⟩
  · rintro ⟨p, h1, h2⟩
    exact ⟨p, List.mem_range.mpr h1, decide_eq_true h2⟩
def eff (d : CD) (lab : Lb) (u : Nat) : Prop := lab (wf d u) ≠ lab (wt d u)
theorem jn_no {d : CD} {lab : Lb} {u : Nat} (h : ¬ eff d lab u) : jn d lab u = lab := by
  have h : lab (wf d u) = lab (wt d u) := Classical.not_not.mp h
  funext p
  unfold jn
  by_cases c : lab p = lab (wf d u)
  · rw [if_pos c, c, h]
  · rw [if_neg c]
theorem fil_rm {q q' : Nat → Bool} {a : Nat} (hq : q a = true) (h : ∀ v, q' v = (q v && !decide (v = a))) : ∀ l : List Nat, l.Nodup → a ∈ l → (l.filter q').length + 1 = (l.filter q).length := by
  intro l
  induction l with
  | nil => intro _ h; cases h
  | cons x l ih =>
    intro nd ha
    obtain ⟨n1, n2⟩ := List.nodup_cons.mp nd
    rw [List.filter_cons, List.filter_cons]
    by_cases e : x = a
    · subst e
      have e1 : q' x = false := by rw [h x, decide_eq_true rfl]; simp
      have e2 : l.filter q' = l.filter q := List.filter_congr (fun v hv => by
        have nv : ¬ v = x := fun z => n1 (by rw [← z]; exact hv)
        rw [h v, decide_eq_false nv]
        simp)
      rw [if_neg (by rw [e1]; decide), if_pos hq, e2, List.length_cons]
    · have ha' : a ∈ l := by
        rcases List.mem_cons.mp ha with z | z
        · exact absurd z.symm e
        · exact z
      have i := ih n2 ha'
      have e1 : q' x = q x := by rw [h x, decide_eq_false e]; simp
      rw [e1]
      by_cases c : q x = true
      · rw [if_pos c, if_pos c, List.length_cons, List.length_cons]
        omega
      · rw [if_neg c, if_neg c]
        exact i
section
variable {d : CD} {P : Nat}
def okl (P : Nat) (lab : Lb) : Prop := ∀ p, p < P → lab p < 6
theorem jn_okl {lab : Lb} (h : okl P lab) {u : Nat} (h2 : wt d u < P) : okl P (jn d lab u) := by
  intro p hp
  unfold jn
  by_cases c : lab p = lab (wf d u)
  · rw [if_pos c]
    exact h _ h2
  · rw [if_neg c]
    exact h p hp
theorem cc_jn {lab : Lb} (h : okl P lab) {u : Nat} (h1 : wf d u < P) (h2 : wt d u < P) (he : eff d lab u) : cc P (jn d lab u) + 1 = cc P lab := by
  unfold cc
  refine fil_rm (a := lab (wf d u)) (us_iff.mpr ⟨_, h1, rfl⟩) (fun v => ?_) _ List.nodup_range (List.mem_range.mpr (h _ h1))
  apply Bool.eq_iff_iff.mpr
  rw [Bool.and_eq_true, us_iff, us_iff]
  constructor
  · rintro ⟨p, p1, p2⟩
    unfold jn at p2
    by_cases c : lab p = lab (wf d u)
    · rw [if_pos c] at p2
      refine ⟨⟨_, h2, p2⟩, ?_⟩
      rw [decide_eq_false (fun z => he (by rw [← z, p2]))]
      rfl
    · rw [if_neg c] at p2
      refine ⟨⟨p, p1, p2⟩, ?_⟩
      rw [decide_eq_false (fun z => c (by rw [p2, z]))]
      rfl
  · rintro ⟨⟨p, p1, p2⟩, q⟩
    have q : ¬ v = lab (wf d u) := by
      intro z
      rw [decide_eq_true z] at q
      cases q
    refine ⟨p, p1, ?_⟩
    unfold jn
    rw [if_neg (fun z => q (by rw [← p2, z]))]
    exact p2
def one (P : Nat) (lab : Lb) : Prop := ∀ p, p < P → lab p = lab 0
theorem cc_one {lab : Lb} (hP : 0 < P) (h : okl P lab) : cc P lab = 1 ↔ one P lab := by
  have m0 : lab 0 ∈ (List.range 6).filter (us P lab) := List.mem_filter.mpr ⟨List.mem_range.mpr (h 0 hP), us_iff.mpr ⟨0, hP, rfl⟩⟩
  constructor
  · intro e p hp
    have mp : lab p ∈ (List.range 6).filter (us P lab) := List.mem_filter.mpr ⟨List.mem_range.mpr (h p hp), us_iff.mpr ⟨p, hp, rfl⟩⟩
    unfold cc at e
    obtain ⟨x, hx⟩ := List.length_eq_one_iff.mp e
    rw [hx] at m0 mp
    rw [List.mem_singleton.mp m0, List.mem_singleton.mp mp]
  · intro e
    unfold cc
    have nd : ((List.range 6).filter (us P lab)).Nodup := List.nodup_range.filter _
    cases hl : (List.range 6).filter (us P lab) with
    | nil =>
      rw [hl] at m0
      cases m0
    | cons x l =>
      cases l with
      | nil => rfl
      | cons y l =>
        have all : ∀ z, z ∈ (List.range 6).filter (us P lab) → z = lab 0 := fun z hz => by
          obtain ⟨p, p1, p2⟩ := us_iff.mp (List.mem_filter.mp hz).2
          rw [← p2]
          exact e p p1
        rw [hl] at all nd
        have a := all x (List.mem_cons_self ..)
        have b := all y (List.mem_cons_of_mem _ (List.mem_cons_self ..))
        have := (List.nodup_cons.mp nd).1
        rw [a, b] at this
        exact absurd (List.mem_cons_self ..) this
theorem cc_pos {lab : Lb} (hP : 0 < P) (h : okl P lab) : 1 ≤ cc P lab := by
  have m0 : lab 0 ∈ (List.range 6).filter (us P lab) := List.mem_filter.mpr ⟨List.mem_range.mpr (h 0 hP), us_iff.mpr ⟨0, hP, rfl⟩⟩
  unfold cc
  cases hl : (List.range 6).filter (us P lab) with
  | nil =>
    rw [hl] at m0
    cases m0
  | cons x l =>
    rw [List.length_cons]
    omega
/-- coarser -/
def crs (lab lab' : Lb) : Prop := ∀ p q, lab p = lab q → lab' p = lab' q
theorem crs_jn (lab : Lb) (u : Nat) : crs lab (jn d lab u) := by
  intro p q h
  unfold jn
  rw [h]
theorem crs_lbs : ∀ (es : List Nat) (lab : Lb), crs lab (lbs d lab es) := by
  intro es
  induction es with
  | nil => exact fun lab p q h => h
  | cons u es ih => exact fun lab p q h => ih (jn d lab u) p q (crs_jn lab u p q h)
theorem jn_crs {lab lab' : Lb} (h : crs lab lab') (u : Nat) : crs (jn d lab u) (jn d lab' u) := by
  intro p q e
  unfold jn at e ⊢
  by_cases c1 : lab p = lab (wf d u)
  · have c1' := h _ _ c1
    rw [if_pos c1] at e
    rw [if_pos c1']
    by_cases c2 : lab q = lab (wf d u)
    · rw [if_pos (h _ _ c2)]
    · rw [if_neg c2] at e
      have e' := h _ _ e
      by_cases c3 : lab' q = lab' (wf d u)
      · rw [if_pos c3]
      · rw [if_neg c3]
        exact e'
  · rw [if_neg c1] at e
    by_cases c2 : lab q = lab (wf d u)
    · have c2' := h _ _ c2
      rw [if_pos c2] at e
      have e' := h _ _ e
      rw [if_pos c2']
      by_cases c3 : lab' p = lab' (wf d u)
      · rw [if_pos c3]
      · rw [if_neg c3]
        exact e'
    · rw [if_neg c2] at e
      rw [h _ _ e]
theorem lbs_crs : ∀ (es : List Nat) {lab lab' : Lb}, crs lab lab' → crs (lbs d lab es) (lbs d lab' es) := by
  intro es
  induction es with
  | nil => exact fun h => h
  | cons u es ih => exact fun h => ih (jn_crs h u)
theorem jn_in {lab L : Lb} (h : crs lab L) {u : Nat} (e : L (wf d u) = L (wt d u)) : crs (jn d lab u) L := by
  intro p q x
  unfold jn at x
  by_cases c1 : lab p = lab (wf d u)
  · rw [if_pos c1] at x
    have a := h _ _ c1
    by_cases c2 : lab q = lab (wf d u)
    · rw [a, h _ _ c2]
    · rw [if_neg c2] at x
      rw [a, e, h _ _ x]
  · rw [if_neg c1] at x
    by_cases c2 : lab q = lab (wf d u)
    · rw [if_pos c2] at x
      rw [h _ _ x, h _ _ c2, e]
    · rw [if_neg c2] at x
      exact h _ _ x
theorem lbs_in {L : Lb} : ∀ (es : List Nat) {lab : Lb}, crs lab L → (∀ u, u ∈ es → L (wf d u) = L (wt d u)) → crs (lbs d lab es) L := by
  intro es
  induction es with
  | nil => exact fun h _ => h
  | cons u es ih => exact fun h e => ih (jn_in h (e u (List.mem_cons_self ..))) (fun v hv => e v (List.mem_cons_of_mem _ hv))
theorem jn_eq (lab : Lb) (u : Nat) : jn d lab u (wf d u) = jn d lab u (wt d u) := by
  unfold jn
  rw [if_pos rfl]
  by_cases c : lab (wt d u) = lab (wf d u)
  · rw [if_pos c]
  · rw [if_neg c]
theorem lbs_eq : ∀ (es : List Nat) (lab : Lb) (u : Nat), u ∈ es → lbs d lab es (wf d u) = lbs d lab es (wt d u) := by
  intro es
  induction es with
  | nil => intro lab u h; cases h
  | cons x es ih =>
    intro lab u h
    rcases List.mem_cons.mp h with e | e
    · subst e
      exact crs_lbs es (jn d lab u) _ _ (jn_eq lab u)
    · exact ih (jn d lab x) u e
theorem lbs_app (lab : Lb) (es fs : List Nat) : lbs d lab (es ++ fs) = lbs d (lbs d lab es) fs := by
  unfold lbs
  rw [List.foldl_append]
theorem lbs_okl (ok : okD d) : ∀ (es : List Nat) {lab : Lb}, okl (dP d) lab → (∀ u, u ∈ es → u < dN d) → okl (dP d) (lbs d lab es) := by
  intro es
  induction es with
  | nil => exact fun h _ => h
  | cons u es ih => exact fun h hu => ih (jn_okl h (wt_eq ok (hu u (List.mem_cons_self ..))).2) (fun v hv => hu v (List.mem_cons_of_mem _ hv))
/-- either all steps join, or one doesn't; how many are left -/
theorem cc_lbs (ok : okD d) : ∀ (es : List Nat) {lab : Lb}, okl (dP d) lab → (∀ u, u ∈ es → u < dN d) → (cc (dP d) (lbs d lab es) + es.length = cc (dP d) lab ∧ ∀ fs u gs, es = fs ++ u :: gs → eff d (lbs d lab fs) u) ∨ (cc (dP d) lab < cc (dP d) (lbs d lab es) + es.length ∧ ∃ fs u gs, es = fs ++ u :: gs ∧ ¬ eff d (lbs d lab fs) u) := by
  intro es
  induction es with
  | nil => exact fun h _ => Or.inl ⟨rfl, fun fs u gs e => by cases fs <;> cases e⟩
  | cons u es ih =>
    intro lab h hu
    have lu := hu u (List.mem_cons_self ..)
    have w1 := (wf_eq ok lu).2
    have w2 := (wt_eq ok lu).2
    have hu' : ∀ v, v ∈ es → v < dN d := fun v hv => hu v (List.mem_cons_of_mem _ hv)
    by_cases c : eff d lab u
    · have e1 := cc_jn h w1 w2 c
      rcases ih (jn_okl h w2) hu' with ⟨a, b⟩ | ⟨a, fs, v, gs, b1, b2⟩
      · left
        refine ⟨?_, fun fs v gs e => ?_⟩
        · show cc (dP d) (lbs d (jn d lab u) es) + (es.length + 1) = _
          omega
        · cases fs with
          | nil =>
            have : u = v := (List.cons.inj e).1
            subst this
            exact c
          | cons x fs =>
            obtain ⟨e3, e4⟩ := List.cons.inj e
            subst e3
            exact b fs v gs e4
      · right
        refine ⟨?_, u :: fs, v, gs, by rw [b1]; rfl, b2⟩
        show _ < cc (dP d) (lbs d (jn d lab u) es) + (es.length + 1)
        omega
    · right
      have e0 : lbs d lab (u :: es) = lbs d lab es := by
        show lbs d (jn d lab u) es = _
        rw [jn_no c]
      refine ⟨?_, [], u, es, rfl, c⟩
      rw [e0, List.length_cons]
      rcases ih h hu' with ⟨a, _⟩ | ⟨a, _⟩
      · omega
      · omega
/-- a way that joins two parts may take the place of one that a completing row has -/
theorem swap (ok : okD d) {lab : Lb} (h : okl (dP d) lab) {es : List Nat} (hu : ∀ u, u ∈ es → u < dN d) (hl : es.length + 1 = cc (dP d) lab) (h1 : cc (dP d) (lbs d lab es) = 1) {e : Nat} (he : e < dN d) (hf : eff d lab e) : ∃ fs f gs, es = fs ++ f :: gs ∧ eff d lab f ∧ cc (dP d) (lbs d (jn d lab e) (fs ++ gs)) = 1 := by
  have P6 := ok.1
  have w1 := (wf_eq ok he).2
  have w2 := (wt_eq ok he).2
  have ce := cc_jn h w1 w2 hf
  have o1 := jn_okl (d := d) h w2 (u := e)
  have one1 := (cc_one (by omega) (lbs_okl ok es h hu)).mp h1
  have one2 : one (dP d) (lbs d (jn d lab e) es) := fun p hp => lbs_crs es (crs_jn lab e) _ _ (one1 p hp)
  have c2 := (cc_one (by omega) (lbs_okl ok es o1 hu)).mpr one2
  have all : ∀ fs u gs, es = fs ++ u :: gs → eff d (lbs d lab fs) u := by
    rcases cc_lbs ok es h hu with ⟨_, b⟩ | ⟨a, _⟩
    · exact b
    · omega
  rcases cc_lbs ok es o1 hu with ⟨a, _⟩ | ⟨_, fs, f, gs, b1, b2⟩
  · omega
  · refine ⟨fs, f, gs, b1, ?_, ?_⟩
    · intro x
      exact all fs f gs b1 (crs_lbs fs lab _ _ x)
    · have : lbs d (jn d lab e) es = lbs d (jn d lab e) (fs ++ gs) := by
        rw [b1, lbs_app, lbs_app]
        show lbs d (jn d (lbs d (jn d lab e) fs) f) gs = _
        rw [jn_no b2]
      rw [← this]
      exact c2
/-- the sum of weights over a row of ways -/
def wsum (W : Nat → Int) : List Nat → Int
  | [] => 0
  | u :: l => W u + wsum W l
theorem wsum_app (W : Nat → Int) (l m : List Nat) : wsum W (l ++ m) = wsum W l + wsum W m := by
  induction l with
  | nil =>
    show wsum W m = 0 + wsum W m
    omega
  | cons u l ih =>
    show W u + wsum W (l ++ m) = W u + wsum W l + wsum W m
    rw [ih]
    omega
/-- the greedy row -/
def grd (d : CD) (W : Nat → Int) : List Nat → Lb → Prop
  | [], _ => True
  | u :: l, lab => (u < dN d ∧ opw d u = true ∧ eff d lab u ∧ ∀ v, v < dN d → opw d v = true → eff d lab v → W2 W v ≤ W2 W u) ∧ grd d W l (jn d lab u)
theorem grd_best (ok : okD d) (W : Nat → Int) : ∀ (gs : List Nat) (lab : Lb) (es : List Nat), okl (dP d) lab → grd d W gs lab → gs.length + 1 = cc (dP d) lab → es.length = gs.length → (∀ u, u ∈ es → u < dN d ∧ opw d u = true) → cc (dP d) (lbs d lab es) = 1 → wsum (W2 W) es ≤ wsum (W2 W) gs := by
  intro gs
  induction gs with
  | nil =>
    intro lab es _ _ _ he _ _
    have : es = [] := List.eq_nil_of_length_eq_zero he
    subst this
    exact Int.le_refl _
  | cons g gs ih =>
    intro lab es hl hg hc he ho h1
    obtain ⟨⟨g1, g2, g3, g4⟩, g5⟩ := hg
    rw [List.length_cons] at hc he
    obtain ⟨fs, f, ks, s1, s2, s3⟩ := swap ok hl (fun u hu => (ho u hu).1) (by omega) h1 g1 g3
    have w1 := (wf_eq ok g1).2
    have w2 := (wt_eq ok g1).2
    have ce := cc_jn hl w1 w2 g3
    have fo := ho f (by rw [s1]; exact List.mem_append_right _ (List.mem_cons_self ..))
    have fw := g4 f fo.1 fo.2 s2
    have le := he
    rw [s1, List.length_append, List.length_cons] at le
    have i := ih (jn d lab g) (fs ++ ks) (jn_okl hl w2) g5 (by omega) (by rw [List.length_append]; omega) (fun u hu => ho u (by
      rw [s1]
      rcases List.mem_append.mp hu with x | x
      · exact List.mem_append_left _ x
      · exact List.mem_append_right _ (List.mem_cons_of_mem _ x))) s3
    rw [s1, wsum_app]
    rw [wsum_app] at i
    show wsum (W2 W) fs + (W2 W f + wsum (W2 W) ks) ≤ W2 W g + wsum (W2 W) gs
    omega
end
