/-! ===== walks that rise ===== -/
def rwk (d : CD) : List Nat → Nat → Nat → Prop
  | [], s, v => s = v
  | u :: l, s, v => u < dN d ∧ opw d u = true ∧ wf d u = s ∧ s < wt d u ∧ rwk d l (wt d u) v
def st : List Nat → Nat
  | [] => 0
  | u :: l => 2 ^ u ||| st l
theorem st_bit (i : Nat) : ∀ l, (st l).testBit i = true ↔ i ∈ l := by
  intro l
  induction l with
  | nil =>
    show (0 : Nat).testBit i = true ↔ i ∈ []
    rw [Nat.zero_testBit]
    simp
  | cons u l ih =>
    show (2 ^ u ||| st l).testBit i = true ↔ _
    rw [Nat.testBit_or, Nat.testBit_two_pow, Bool.or_eq_true, decide_eq_true_iff, ih, List.mem_cons]
    constructor
    · rintro (x | x)
      · exact Or.inl x.symm
      · exact Or.inr x
    · rintro (x | x)
      · exact Or.inl x.symm
      · exact Or.inr x
theorem st_app (l m : List Nat) : st (l ++ m) = st l ||| st m := by
  induction l with
  | nil =>
    show st m = 0 ||| st m
    rw [Nat.zero_or]
  | cons u l ih =>
    show 2 ^ u ||| st (l ++ m) = (2 ^ u ||| st l) ||| st m
    rw [ih, Nat.or_assoc]
theorem st_lt {n : Nat} : ∀ l, (∀ u, u ∈ l → u < n) → st l < 2 ^ n := by
  intro l
  induction l with
  | nil => exact fun _ => Nat.pow_pos (by decide)
  | cons u l ih =>
    intro h
    exact Nat.or_lt_two_pow (Nat.pow_lt_pow_right (by decide) (h u (List.mem_cons_self ..))) (ih (fun v hv => h v (List.mem_cons_of_mem _ hv)))
section
variable {d : CD}
theorem rwk_le : ∀ {l : List Nat} {s v : Nat}, rwk d l s v → s ≤ v ∧ (∀ u, u ∈ l → u < dN d ∧ opw d u = true ∧ s ≤ wf d u ∧ wf d u < v ∧ wf d u < wt d u ∧ wt d u ≤ v) := by
  intro l
  induction l with
  | nil =>
    intro s v h
    have e : s = v := h
    exact ⟨by omega, fun u hu => by cases hu⟩
  | cons u l ih =>
    intro s v h
    obtain ⟨h1, h2, h3, h4, h5⟩ := h
    obtain ⟨i1, i2⟩ := ih h5
    refine ⟨by omega, fun w hw => ?_⟩
    rcases List.mem_cons.mp hw with e | e
    · subst e
      exact ⟨h1, h2, by omega, by omega, by omega, i1⟩
    · obtain ⟨j1, j2, j3, j4, j5, j6⟩ := i2 w e
      exact ⟨j1, j2, by omega, j4, j5, j6⟩
theorem rwk_snoc {u : Nat} (hu : u < dN d) (ho : opw d u = true) (hr : wf d u < wt d u) : ∀ {l : List Nat} {s : Nat}, rwk d l s (wf d u) → rwk d (l ++ [u]) s (wt d u) := by
  intro l
  induction l with
  | nil =>
    intro s h
    have e : s = wf d u := h
    exact ⟨hu, ho, e.symm, by omega, rfl⟩
  | cons x l ih =>
    intro s h
    obtain ⟨h1, h2, h3, h4, h5⟩ := h
    exact ⟨h1, h2, h3, h4, ih h5⟩
theorem rwk_un {u : Nat} : ∀ {l : List Nat} {s v : Nat}, rwk d (l ++ [u]) s v → rwk d l s (wf d u) ∧ u < dN d ∧ opw d u = true ∧ wf d u < wt d u ∧ wt d u = v := by
  intro l
  induction l with
  | nil =>
    intro s v h
    obtain ⟨h1, h2, h3, h4, h5⟩ := h
    exact ⟨h3.symm, h1, h2, by omega, h5⟩
  | cons x l ih =>
    intro s v h
    obtain ⟨h1, h2, h3, h4, h5⟩ := h
    obtain ⟨g1, g2⟩ := ih h5
    exact ⟨⟨h1, h2, h3, h4, g1⟩, g2⟩
/-- the walk that a set tells, followed from place to place -/
def wfl (d : CD) (S p : Nat) : List Nat := (List.range (dN d)).filter (fun i => S.testBit i && decide (wf d i = p))
theorem wfl_mem {S p i : Nat} : i ∈ wfl d S p ↔ i < dN d ∧ S.testBit i = true ∧ wf d i = p := by
  unfold wfl
  rw [List.mem_filter, List.mem_range, Bool.and_eq_true, decide_eq_true_iff]
theorem wfl_one {S p i : Nat} (h1 : i < dN d) (h2 : S.testBit i = true) (h3 : wf d i = p) (h4 : ∀ j, j < dN d → S.testBit j = true → wf d j = p → j = i) : wfl d S p = [i] := by
  have nd : (wfl d S p).Nodup := List.nodup_range.filter _
  have mem : i ∈ wfl d S p := wfl_mem.mpr ⟨h1, h2, h3⟩
  cases hl : wfl d S p with
  | nil =>
    rw [hl] at mem
    cases mem
  | cons x l =>
    rw [hl] at mem nd
    have all : ∀ j, j ∈ x :: l → j = i := fun j hj => by
      rw [← hl] at hj
      obtain ⟨a, b, c⟩ := wfl_mem.mp hj
      exact h4 j a b c
    have ex := all x (List.mem_cons_self ..)
    cases l with
    | nil => rw [ex]
    | cons y l =>
      have ey := all y (List.mem_cons_of_mem _ (List.mem_cons_self ..))
      have := (List.nodup_cons.mp nd).1
      rw [ex, ey] at this
      exact absurd (List.mem_cons_self ..) this
def trv (d : CD) (S e : Nat) : Nat → Nat → Nat → Bool
  | 0, _, _ => false
  | f + 1, g, p => if p = e then decide (g = S) else match wfl d S p with
    | [i] => if wt d i ≤ p ∨ e < wt d i then false else trv d S e f (g ||| 2 ^ i) (wt d i)
    | _ => false
theorem trv_1 {S e f g p i : Nat} (hp : p ≠ e) (h : wfl d S p = [i]) : trv d S e (f + 1) g p = if wt d i ≤ p ∨ e < wt d i then false else trv d S e f (g ||| 2 ^ i) (wt d i) := by
  show (if p = e then decide (g = S) else match wfl d S p with
    | [i] => if wt d i ≤ p ∨ e < wt d i then false else trv d S e f (g ||| 2 ^ i) (wt d i)
    | _ => false) = _
  rw [if_neg hp, h]
theorem trv_0 {S e f g p : Nat} (hp : p ≠ e) (h : ∀ i, wfl d S p ≠ [i]) : trv d S e (f + 1) g p = false := by
  show (if p = e then decide (g = S) else match wfl d S p with
    | [i] => if wt d i ≤ p ∨ e < wt d i then false else trv d S e f (g ||| 2 ^ i) (wt d i)
    | _ => false) = _
  rw [if_neg hp]
  cases hl : wfl d S p with
  | nil => rfl
  | cons x l =>
    cases l with
    | nil => exact absurd hl (h x)
    | cons y l => rfl
theorem trv_e {S e f g : Nat} : trv d S e (f + 1) g e = decide (g = S) := if_pos rfl
theorem trv_fwd {S e : Nat} (hop : ∀ i, S.testBit i = true → opw d i = true) : ∀ f g p, trv d S e f g p = true → ∃ l, rwk d l p e ∧ g ||| st l = S := by
  intro f
  induction f with
  | zero =>
    intro g p h
    cases h
  | succ f ih =>
    intro g p h
    by_cases c : p = e
    · subst c
      rw [trv_e] at h
      refine ⟨[], rfl, ?_⟩
      show g ||| 0 = S
      rw [Nat.or_zero]
      exact of_decide_eq_true h
    · by_cases q : ∃ i, wfl d S p = [i]
      · obtain ⟨i, hi⟩ := q
        rw [trv_1 c hi] at h
        have m : i ∈ wfl d S p := by rw [hi]; exact List.mem_singleton.mpr rfl
        obtain ⟨i1, i2, i3⟩ := wfl_mem.mp m
        by_cases r : wt d i ≤ p ∨ e < wt d i
        · rw [if_pos r] at h
          cases h
        · rw [if_neg r] at h
          obtain ⟨l, l1, l2⟩ := ih _ _ h
          refine ⟨i :: l, ⟨i1, hop i i2, i3, by omega, l1⟩, ?_⟩
          show g ||| (2 ^ i ||| st l) = S
          rw [← Nat.or_assoc]
          exact l2
      · rw [trv_0 c (fun i hi => q ⟨i, hi⟩)] at h
        cases h
theorem trv_bwd {S e : Nat} : ∀ l p g f, rwk d l p e → (∀ i, i < dN d → S.testBit i = true → p ≤ wf d i → i ∈ l) → (∀ i, i ∈ l → S.testBit i = true) → g ||| st l = S → l.length < f → trv d S e f g p = true := by
  intro l
  induction l with
  | nil =>
    intro p g f h _ _ hg hf
    obtain ⟨f, rfl⟩ : ∃ f', f = f' + 1 := ⟨f - 1, by omega⟩
    have ep : p = e := h
    subst ep
    rw [trv_e]
    have hg : g ||| 0 = S := hg
    rw [Nat.or_zero] at hg
    exact decide_eq_true hg
  | cons u l ih =>
    intro p g f h h1 h2 hg hf
    obtain ⟨f, rfl⟩ : ∃ f', f = f' + 1 := ⟨f - 1, by omega⟩
    rw [List.length_cons] at hf
    obtain ⟨a1, a2, a3, a4, a5⟩ := h
    obtain ⟨b1, b2⟩ := rwk_le a5
    have w1 : wfl d S p = [u] := wfl_one a1 (h2 u (List.mem_cons_self ..)) a3 (fun j j1 j2 j3 => by
      rcases List.mem_cons.mp (h1 j j1 j2 (by omega)) with x | x
      · exact x
      · have := (b2 j x).2.2.1
        omega)
    rw [trv_1 (by omega) w1, if_neg (by omega)]
    refine ih (wt d u) (g ||| 2 ^ u) f a5 (fun i i1 i2 i3 => ?_) (fun i hi => h2 i (List.mem_cons_of_mem _ hi)) ?_ (by omega)
    · rcases List.mem_cons.mp (h1 i i1 i2 (by omega)) with x | x
      · rw [x] at i3
        omega
      · exact x
    · rw [Nat.or_assoc]
      exact hg
theorem rwk_len : ∀ {l : List Nat} {s v : Nat}, rwk d l s v → l.length ≤ v - s := by
  intro l
  induction l with
  | nil => intro s v _; exact Nat.zero_le _
  | cons u l ih =>
    intro s v h
    obtain ⟨h1, h2, h3, h4, h5⟩ := h
    have := ih h5
    have := (rwk_le h5).1
    rw [List.length_cons]
    omega
/-- the choices of walks -/
def isWk (d : CD) (s e S : Nat) : Bool := decide (S ≠ 0) && (decide (∀ i, i < dN d → S.testBit i = true → opw d i = true) && trv d S e 7 0 s)
theorem isWk_iff (ok : okD d) {s e S : Nat} (hs : s < e) (he : e < 6) (hS : S < 2 ^ dN d) : isWk d s e S = true ↔ ∃ l, rwk d l s e ∧ st l = S := by
  unfold isWk
  rw [Bool.and_eq_true, Bool.and_eq_true, decide_eq_true_iff, decide_eq_true_iff]
  constructor
  · rintro ⟨h1, h2, h3⟩
    obtain ⟨l, l1, l2⟩ := trv_fwd (fun i hi => by
      by_cases c : i < dN d
      · exact h2 i c hi
      · rw [Nat.testBit_lt_two_pow (Nat.lt_of_lt_of_le hS (Nat.pow_le_pow_right (by decide) (by omega)))] at hi
        cases hi) _ _ _ h3
    rw [Nat.zero_or] at l2
    exact ⟨l, l1, l2⟩
  · rintro ⟨l, l1, l2⟩
    obtain ⟨b1, b2⟩ := rwk_le l1
    have mem : ∀ i, S.testBit i = true ↔ i ∈ l := fun i => by rw [← l2, st_bit]
    have len := rwk_len l1
    refine ⟨?_, fun i _ hb => (b2 i ((mem i).mp hb)).2.1, ?_⟩
    · intro z
      cases l with
      | nil =>
        have : s = e := l1
        omega
      | cons u l =>
        have := (mem u).mpr (List.mem_cons_self ..)
        rw [z, Nat.zero_testBit] at this
        cases this
    · exact trv_bwd l s 0 7 l1 (fun i _ hb _ => (mem i).mp hb) (fun i hi => (mem i).mpr hi) (by rw [Nat.zero_or]; exact l2) (by omega)
end
