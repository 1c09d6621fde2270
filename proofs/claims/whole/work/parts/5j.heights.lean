/-! ===== lift: heights, round by round ===== -/
abbrev Hz : Type := Nat → Option Int
def isLow (o : Option Int) (x : Int) : Bool := match o with
  | none => true
  | some t => decide (t < x)
def rz (d : CD) (a b : Int) (z : Hz) (u : Nat) : Hz := if opw d u = true then (match z (wf d u) with
  | none => z
  | some x => if isLow (z (wt d u)) (x + Wg d a b u) = true then (fun p => if p = wt d u then some (x + Wg d a b u) else z p) else z) else z
section
variable {d : CD} {a b : Int}
theorem rz_shut {z : Hz} {u : Nat} (h : ¬ opw d u = true) : rz d a b z u = z := by
  unfold rz
  rw [if_neg h]
theorem rz_none {z : Hz} {u : Nat} (h : z (wf d u) = none) : rz d a b z u = z := by
  unfold rz
  rw [h]
  by_cases c : opw d u = true
  · rw [if_pos c]
  · rw [if_neg c]
theorem rz_no {z : Hz} {u : Nat} {x : Int} (h : z (wf d u) = some x) (h2 : ¬ isLow (z (wt d u)) (x + Wg d a b u) = true) : rz d a b z u = z := by
  unfold rz
  rw [h]
  by_cases c : opw d u = true
  · rw [if_pos c]
    exact if_neg h2
  · rw [if_neg c]
theorem rz_yes {z : Hz} {u : Nat} {x : Int} (c : opw d u = true) (h : z (wf d u) = some x) (h2 : isLow (z (wt d u)) (x + Wg d a b u) = true) : rz d a b z u = fun p => if p = wt d u then some (x + Wg d a b u) else z p := by
  unfold rz
  rw [h, if_pos c]
  exact if_pos h2
theorem rz_cases (z : Hz) (u : Nat) : (rz d a b z u = z ∧ (¬ opw d u = true ∨ z (wf d u) = none ∨ ∃ x t, z (wf d u) = some x ∧ z (wt d u) = some t ∧ x + Wg d a b u ≤ t)) ∨ (opw d u = true ∧ ∃ x, z (wf d u) = some x ∧ isLow (z (wt d u)) (x + Wg d a b u) = true ∧ rz d a b z u = fun p => if p = wt d u then some (x + Wg d a b u) else z p) := by
  by_cases c : opw d u = true
  · cases h : z (wf d u) with
    | none => exact Or.inl ⟨rz_none h, Or.inr (Or.inl rfl)⟩
    | some x =>
      by_cases c2 : isLow (z (wt d u)) (x + Wg d a b u) = true
      · exact Or.inr ⟨c, x, rfl, c2, rz_yes c h c2⟩
      · refine Or.inl ⟨rz_no h c2, Or.inr (Or.inr ?_)⟩
        cases h3 : z (wt d u) with
        | none =>
          rw [h3] at c2
          exact absurd rfl c2
        | some t =>
          rw [h3] at c2
          have : ¬ t < x + Wg d a b u := fun y => c2 (decide_eq_true y)
          exact ⟨x, t, rfl, rfl, by omega⟩
  · exact Or.inl ⟨rz_shut c, Or.inl c⟩
def zle (z z' : Hz) : Prop := ∀ p t, z p = some t → ∃ t', z' p = some t' ∧ t ≤ t'
theorem zle.refl (z : Hz) : zle z z := fun _ t h => ⟨t, h, Int.le_refl _⟩
theorem zle.trans {x y z : Hz} (h : zle x y) (g : zle y z) : zle x z := by
  intro p t e
  obtain ⟨t1, e1, l1⟩ := h p t e
  obtain ⟨t2, e2, l2⟩ := g p t1 e1
  exact ⟨t2, e2, by omega⟩
theorem rz_le (z : Hz) (u : Nat) : zle z (rz d a b z u) := by
  rcases rz_cases (d := d) (a := a) (b := b) z u with ⟨e, _⟩ | ⟨_, x, h1, h2, e⟩
  · rw [e]
    exact zle.refl z
  · rw [e]
    intro p t hp
    show ∃ t', (if p = wt d u then some (x + Wg d a b u) else z p) = some t' ∧ t ≤ t'
    by_cases c : p = wt d u
    · rw [if_pos c]
      rw [← c, hp] at h2
      have : t < x + Wg d a b u := of_decide_eq_true h2
      exact ⟨_, rfl, by omega⟩
    · rw [if_neg c]
      exact ⟨t, hp, Int.le_refl _⟩
theorem rf_le : ∀ (l : List Nat) (z : Hz), zle z (l.foldl (rz d a b) z) := by
  intro l
  induction l with
  | nil => exact fun z => zle.refl z
  | cons u l ih => exact fun z => (rz_le z u).trans (ih _)
theorem rz_at {z : Hz} {u : Nat} {x : Int} (c : opw d u = true) (h : z (wf d u) = some x) : ∃ t, rz d a b z u (wt d u) = some t ∧ x + Wg d a b u ≤ t := by
  rcases rz_cases (d := d) (a := a) (b := b) z u with ⟨e, q | q | ⟨x', t, q1, q2, q3⟩⟩ | ⟨_, x', h1, h2, e⟩
  · exact absurd c q
  · rw [h] at q
    cases q
  · rw [h] at q1
    have : x = x' := Option.some.inj q1
    subst this
    exact ⟨t, by rw [e]; exact q2, q3⟩
  · rw [h] at h1
    have : x = x' := Option.some.inj h1
    subst this
    exact ⟨_, by rw [e]; exact if_pos rfl, Int.le_refl _⟩
theorem rf_step {u : Nat} (c : opw d u = true) : ∀ (l : List Nat) (z : Hz) (x : Int), u ∈ l → z (wf d u) = some x → ∃ t, l.foldl (rz d a b) z (wt d u) = some t ∧ x + Wg d a b u ≤ t := by
  intro l
  induction l with
  | nil => intro z x hu; cases hu
  | cons v l ih =>
    intro z x hu h
    show ∃ t, l.foldl (rz d a b) (rz d a b z v) (wt d u) = some t ∧ _
    by_cases e : u = v
    · subst e
      obtain ⟨t, h1, h2⟩ := rz_at (a := a) (b := b) c h
      obtain ⟨t', h3, h4⟩ := rf_le (d := d) (a := a) (b := b) l _ _ t h1
      exact ⟨t', h3, by omega⟩
    · have hu' : u ∈ l := by
        rcases List.mem_cons.mp hu with y | y
        · exact absurd y e
        · exact y
      obtain ⟨x', h1, h2⟩ := rz_le (d := d) (a := a) (b := b) z v _ x h
      obtain ⟨t, h3, h4⟩ := ih (rz d a b z v) x' hu' h1
      exact ⟨t, h3, by omega⟩
/-- each height is that of a walk -/
def att (d : CD) (a b : Int) (s : Nat) (z : Hz) : Prop := ∀ p t, z p = some t → ∃ l, pth d l s p ∧ wg d a b l = t
theorem rz_att {s : Nat} {z : Hz} {u : Nat} (hu : u < dN d) (h : att d a b s z) : att d a b s (rz d a b z u) := by
  rcases rz_cases (d := d) (a := a) (b := b) z u with ⟨e, _⟩ | ⟨c, x, h1, h2, e⟩
  · rw [e]
    exact h
  · rw [e]
    intro p t hp
    have hp : (if p = wt d u then some (x + Wg d a b u) else z p) = some t := hp
    by_cases cp : p = wt d u
    · rw [if_pos cp] at hp
      have et : x + Wg d a b u = t := Option.some.inj hp
      obtain ⟨l, l1, l2⟩ := h _ x h1
      refine ⟨l ++ [u], by rw [cp]; exact pth_snoc l1 hu c, ?_⟩
      rw [wg_app, l2, wg_cons, wg_nil]
      omega
    · rw [if_neg cp] at hp
      exact h p t hp
theorem rf_att {s : Nat} : ∀ (l : List Nat) (z : Hz), (∀ u, u ∈ l → u < dN d) → att d a b s z → att d a b s (l.foldl (rz d a b) z) := by
  intro l
  induction l with
  | nil => exact fun z _ h => h
  | cons u l ih => exact fun z hl h => ih _ (fun v hv => hl v (List.mem_cons_of_mem _ hv)) (rz_att (hl u (List.mem_cons_self ..)) h)
def rd (d : CD) (a b : Int) (z : Hz) : Hz := (List.range (dN d)).foldl (rz d a b) z
def rds (d : CD) (a b : Int) : Nat → Hz → Hz
  | 0, z => z
  | k + 1, z => rd d a b (rds d a b k z)
def hz0 (s : Nat) : Hz := fun p => if p = s then some 0 else none
theorem hz0_att (s : Nat) : att d a b s (hz0 s) := by
  intro p t h
  have h : (if p = s then some (0 : Int) else none) = some t := h
  by_cases c : p = s
  · rw [if_pos c] at h
    have : 0 = t := Option.some.inj h
    exact ⟨[], c.symm, by rw [wg_nil]; exact this⟩
  · rw [if_neg c] at h
    cases h
theorem rds_att (s k : Nat) : att d a b s (rds d a b k (hz0 s)) := by
  induction k with
  | zero => exact hz0_att s
  | succ k ih => exact rf_att _ _ (fun u hu => List.mem_range.mp hu) ih
theorem rds_le (z : Hz) (k : Nat) : zle z (rds d a b k z) := by
  induction k with
  | zero => exact zle.refl z
  | succ k ih => exact ih.trans (rf_le _ _)
theorem pth_un {u : Nat} : ∀ {l : List Nat} {s v : Nat}, pth d (l ++ [u]) s v → pth d l s (wf d u) ∧ u < dN d ∧ opw d u = true ∧ wt d u = v := by
  intro l
  induction l with
  | nil =>
    intro s v h
    obtain ⟨h1, h2, h3, h4⟩ := h
    exact ⟨h3.symm, h1, h2, h4⟩
  | cons x l ih =>
    intro s v h
    obtain ⟨h1, h2, h3, h4⟩ := h
    obtain ⟨g1, g2⟩ := ih h4
    exact ⟨⟨h1, h2, h3, g1⟩, g2⟩
theorem rds_ge (s : Nat) : ∀ (k : Nat) (l : List Nat) (v : Nat), pth d l s v → l.length ≤ k → ∃ t, rds d a b k (hz0 s) v = some t ∧ wg d a b l ≤ t := by
  intro k
  induction k with
  | zero =>
    intro l v h hl
    have : l = [] := List.eq_nil_of_length_eq_zero (by omega)
    subst this
    have e : s = v := h
    exact ⟨0, by rw [← e]; exact if_pos rfl, by rw [wg_nil]; exact Int.le_refl _⟩
  | succ k ih =>
    intro l v h hl
    by_cases c : l = []
    · subst c
      have e : s = v := h
      obtain ⟨t, h1, h2⟩ := rds_le (d := d) (a := a) (b := b) (hz0 s) (k + 1) s 0 (if_pos rfl)
      exact ⟨t, by rw [← e]; exact h1, by rw [wg_nil]; exact h2⟩
    · obtain ⟨m, u, rfl⟩ : ∃ m u, l = m ++ [u] := ⟨l.dropLast, l.getLast c, (List.dropLast_concat_getLast c).symm⟩
      obtain ⟨p1, p2, p3, p4⟩ := pth_un h
      rw [List.length_append] at hl
      have hl : m.length + 1 ≤ k + 1 := hl
      obtain ⟨t, h1, h2⟩ := ih m (wf d u) p1 (by omega)
      obtain ⟨t', h3, h4⟩ := rf_step (a := a) (b := b) p3 (List.range (dN d)) _ t (List.mem_range.mpr p2) h1
      refine ⟨t', by rw [← p4]; exact h3, ?_⟩
      rw [wg_app, wg_cons, wg_nil]
      omega
def cnd (d : CD) (a b : Int) (z : Hz) (u : Nat) : Prop := opw d u = true → ∀ x, z (wf d u) = some x → ∃ t, z (wt d u) = some t ∧ x + Wg d a b u ≤ t
def stb (d : CD) (a b : Int) (z : Hz) : Prop := ∀ u, u < dN d → cnd d a b z u
theorem cnd_no {z : Hz} {u : Nat} (h : cnd d a b z u) : rz d a b z u = z := by
  rcases rz_cases (d := d) (a := a) (b := b) z u with ⟨e, _⟩ | ⟨c, x, h1, h2, e⟩
  · exact e
  · obtain ⟨t, h3, h4⟩ := h c x h1
    rw [h3] at h2
    have : t < x + Wg d a b u := of_decide_eq_true h2
    omega
theorem stb_l {z : Hz} : ∀ l : List Nat, (∀ u, u ∈ l → cnd d a b z u) → l.foldl (rz d a b) z = z := by
  intro l
  induction l with
  | nil => exact fun _ => rfl
  | cons u l ih =>
    intro h
    rw [List.foldl_cons, cnd_no (h u (List.mem_cons_self ..))]
    exact ih (fun v hv => h v (List.mem_cons_of_mem _ hv))
theorem stb_fix {z : Hz} (h : stb d a b z) : rd d a b z = z := stb_l _ (fun u hu => h u (List.mem_range.mp hu))
/-- after as many rounds as places but one nothing rises any more -/
theorem top_stb (ok : okD d) (H : ∀ r, r ∈ rn d → b * r.2.1.toInt - a * r.2.2.toInt ≤ 0) {s : Nat} (hs : s < dP d) {k : Nat} (hk : dP d - 1 ≤ k) : stb d a b (rds d a b k (hz0 s)) := by
  intro u hu c x hx
  obtain ⟨l, l1, l2⟩ := rds_att (d := d) (a := a) (b := b) s k _ x hx
  have p := pth_snoc l1 hu c
  obtain ⟨l', q1, q2, q3⟩ := simple_ex ok H _ _ _ p
  have all : ∀ {l : List Nat} {s v : Nat}, pth d l s v → ∀ q, q ∈ l.map (wt d) → q < dP d := by
    intro l
    induction l with
    | nil => intro s v _ q hq; cases hq
    | cons y l ih =>
      intro s v h q hq
      rcases List.mem_cons.mp hq with e | e
      · rw [e]
        exact (wt_eq ok h.1).2
      · exact ih h.2.2.2 q e
  have len := pigeon (dP d) _ q2 (fun q hq => by
    rcases List.mem_cons.mp hq with e | e
    · omega
    · exact all q1 q e)
  rw [List.length_cons, List.length_map] at len
  obtain ⟨t, t1, t2⟩ := rds_ge (d := d) (a := a) (b := b) s k l' _ q1 (by omega)
  refine ⟨t, t1, ?_⟩
  rw [wg_app, wg_cons, wg_nil, l2] at q3
  omega
theorem rds_fix {z : Hz} {k : Nat} (h : stb d a b (rds d a b k z)) : ∀ j, rds d a b (k + j) z = rds d a b k z := by
  intro j
  induction j with
  | zero => rfl
  | succ j ih =>
    show rd d a b (rds d a b (k + j) z) = _
    rw [ih]
    exact stb_fix h
/-- no height is far from 0 -/
def bd (z : Hz) (M : Int) : Prop := ∀ p x, z p = some x → -M ≤ x ∧ x ≤ M
theorem rz_bd {z : Hz} {u : Nat} {M : Int} (hu : u < dN d) (hW : ∀ u, u < dN d → -42000000000000000 ≤ Wg d a b u ∧ Wg d a b u ≤ 42000000000000000) (h : bd z M) : bd (rz d a b z u) (M + 42000000000000000) := by
  have w := hW u hu
  rcases rz_cases (d := d) (a := a) (b := b) z u with ⟨e, _⟩ | ⟨c, x, h1, h2, e⟩
  · rw [e]
    intro p x hp
    have := h p x hp
    omega
  · rw [e]
    intro p t hp
    have hp : (if p = wt d u then some (x + Wg d a b u) else z p) = some t := hp
    by_cases cp : p = wt d u
    · rw [if_pos cp] at hp
      have et : x + Wg d a b u = t := Option.some.inj hp
      have := h _ x h1
      omega
    · rw [if_neg cp] at hp
      have := h p t hp
      omega
theorem rf_bd (hW : ∀ u, u < dN d → -42000000000000000 ≤ Wg d a b u ∧ Wg d a b u ≤ 42000000000000000) : ∀ (l : List Nat) (z : Hz) (M : Int), (∀ u, u ∈ l → u < dN d) → bd z M → bd (l.foldl (rz d a b) z) (M + 42000000000000000 * (l.length : Int)) := by
  intro l
  induction l with
  | nil =>
    intro z M _ h p x hp
    have := h p x hp
    show -(M + 42000000000000000 * ((0 : Nat) : Int)) ≤ x ∧ x ≤ M + 42000000000000000 * ((0 : Nat) : Int)
    omega
  | cons u l ih =>
    intro z M hl h p x hp
    have := ih (rz d a b z u) (M + 42000000000000000) (fun v hv => hl v (List.mem_cons_of_mem _ hv)) (rz_bd (hl u (List.mem_cons_self ..)) hW h) p x hp
    rw [List.length_cons]
    omega
theorem rds_bd (ok : okD d) (hW : ∀ u, u < dN d → -42000000000000000 ≤ Wg d a b u ∧ Wg d a b u ≤ 42000000000000000) (s : Nat) : ∀ k, bd (rds d a b k (hz0 s)) (588000000000000000 * (k : Int)) := by
  have h14 := ok.2.2.1
  intro k
  induction k with
  | zero =>
    intro p x hp
    have hp : (if p = s then some (0 : Int) else none) = some x := hp
    by_cases c : p = s
    · rw [if_pos c] at hp
      have : 0 = x := Option.some.inj hp
      omega
    · rw [if_neg c] at hp
      cases hp
  | succ k ih =>
    intro p x hp
    have := rf_bd hW (List.range (dN d)) _ _ (fun u hu => List.mem_range.mp hu) ih p x hp
    rw [List.length_range] at this
    omega
end
