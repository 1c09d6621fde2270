/-! ===== walks and rings: none of them is higher than one that passes no place twice ===== -/
def pth (d : CD) : List Nat → Nat → Nat → Prop
  | [], s, v => s = v
  | u :: l, s, v => u < dN d ∧ opw d u = true ∧ wf d u = s ∧ pth d l (wt d u) v
def sb (d : CD) : List Nat → Int
  | [] => 0
  | u :: l => (bR d u).toInt + sb d l
def sl (d : CD) : List Nat → Int
  | [] => 0
  | u :: l => (lR d u).toInt + sl d l
def wg (d : CD) (a b : Int) (l : List Nat) : Int := b * sb d l - a * sl d l
def Wg (d : CD) (a b : Int) (u : Nat) : Int := b * (bR d u).toInt - a * (lR d u).toInt
theorem wg_cons (d : CD) (a b : Int) (u : Nat) (l : List Nat) : wg d a b (u :: l) = Wg d a b u + wg d a b l := by
  unfold wg Wg
  show b * ((bR d u).toInt + sb d l) - a * ((lR d u).toInt + sl d l) = _
  rw [Int.mul_add, Int.mul_add]
  omega
theorem wg_nil (d : CD) (a b : Int) : wg d a b [] = 0 := by
  unfold wg
  show b * 0 - a * 0 = 0
  omega
theorem wg_app (d : CD) (a b : Int) (l m : List Nat) : wg d a b (l ++ m) = wg d a b l + wg d a b m := by
  induction l with
  | nil => rw [wg_nil, List.nil_append, Int.zero_add]
  | cons u l ih => rw [List.cons_append, wg_cons, wg_cons, ih, Int.add_assoc]
theorem pth_app {d : CD} {l m : List Nat} {s v x : Nat} (h1 : pth d l s v) (h2 : pth d m v x) : pth d (l ++ m) s x := by
  induction l generalizing s with
  | nil =>
    have e : s = v := h1
    rw [e]
    exact h2
  | cons u l ih =>
    obtain ⟨a1, a2, a3, a4⟩ := h1
    exact ⟨a1, a2, a3, ih a4⟩
theorem pth_snoc {d : CD} {l : List Nat} {s u : Nat} (h1 : pth d l s (wf d u)) (h2 : u < dN d) (h3 : opw d u = true) : pth d (l ++ [u]) s (wt d u) := pth_app h1 ⟨h2, h3, rfl, rfl⟩
theorem pth_last {d : CD} : ∀ {l : List Nat} {s v : Nat}, pth d l s v → ∃ pre, s :: l.map (wt d) = pre ++ [v] := by
  intro l
  induction l with
  | nil =>
    intro s v h
    have e : s = v := h
    exact ⟨[], by rw [e]; rfl⟩
  | cons u l ih =>
    intro s v h
    obtain ⟨pre, e⟩ := ih h.2.2.2
    exact ⟨s :: pre, by rw [List.map_cons, e]; rfl⟩
theorem pth_split {d : CD} (q : Nat) : ∀ {l : List Nat} {s v : Nat}, pth d l s v → q ∈ s :: l.map (wt d) → ∃ α β, l = α ++ β ∧ pth d α s q ∧ pth d β q v := by
  intro l
  induction l with
  | nil =>
    intro s v h hq
    have e : s = v := h
    have : q = s := by simpa using hq
    exact ⟨[], [], rfl, this.symm, this.trans e⟩
  | cons u l ih =>
    intro s v h hq
    by_cases c : q = s
    · exact ⟨[], u :: l, rfl, c.symm, by rw [c]; exact h⟩
    · have hq' : q ∈ wt d u :: l.map (wt d) := by
        rcases List.mem_cons.mp hq with e | e
        · exact absurd e c
        · exact e
      obtain ⟨α, β, e, p1, p2⟩ := ih h.2.2.2 hq'
      exact ⟨u :: α, β, by rw [e]; rfl, ⟨h.1, h.2.1, h.2.2.1, p1⟩, p2⟩
theorem pth_end {d : CD} {l : List Nat} {s v : Nat} (h : pth d l s v) (hl : l ≠ []) : v ∈ l.map (wt d) := by
  obtain ⟨pre, e⟩ := pth_last h
  cases pre with
  | nil =>
    rw [List.nil_append] at e
    have := (List.cons.inj e).2
    rw [List.map_eq_nil_iff] at this
    exact absurd this hl
  | cons x pre =>
    have := (List.cons.inj e).2
    rw [this]
    exact List.mem_append_right _ (List.mem_singleton.mpr rfl)
/-- a ring that begins at its least place is found -/
theorem mem_rl {d : CD} (ok : okD d) (m : Nat) : ∀ (l : List Nat) (n a p k : Nat) (A B : Int64), pth d l a m → l ≠ [] → (l.map (wt d)).Nodup → (∀ q, q ∈ l.map (wt d) → q = m ∨ (m < q ∧ p.testBit q = false)) → p < 64 → fr p < n → n ≤ 8 → -(1100000000 * (8 - (n : Int))) ≤ A.toInt → A.toInt ≤ 1100000000 * (8 - (n : Int)) → 0 ≤ B.toInt → B.toInt ≤ 2100000 * (8 - (n : Int)) → ∃ r, r ∈ rl d (opw d) n m a p k A B ∧ r.2.1.toInt = A.toInt + sb d l ∧ r.2.2.toInt = B.toInt + sl d l := by
  have P6 := ok.1
  intro l
  induction l with
  | nil => intro n a p k A B _ h; exact absurd rfl h
  | cons u l ih =>
    intro n a p k A B hp _ hnd hq hp6 hf hn A1 A2 B1 B2
    obtain ⟨n, rfl⟩ : ∃ n', n = n' + 1 := ⟨n - 1, by omega⟩
    obtain ⟨hu, ho, hw, hl⟩ := hp
    have lt := (wt_eq ok hu).2
    have b1 := bR_b ok hu
    have l1 := lR_b ok hu
    have cn : ((n + 1 : Nat) : Int) = (n : Int) + 1 := by omega
    rw [cn] at A1 A2 B2
    have eA : (A + bR d u).toInt = A.toInt + (bR d u).toInt := add64 (by omega) (by omega)
    have eB : (B + lR d u).toInt = B.toInt + (lR d u).toInt := add64 (by omega) (by omega)
    have inn : ∀ r, r ∈ rc d (opw d) (rl d (opw d) n m) m a p k A B u → r ∈ rl d (opw d) (n + 1) m a p k A B := by
      intro r hr
      rw [rl_succ]
      exact List.mem_flatMap.mpr ⟨u, List.mem_range.mpr hu, hr⟩
    by_cases c : l = []
    · subst c
      have e : wt d u = m := hl
      refine ⟨(k ||| 2 ^ u, A + bR d u, B + lR d u), inn _ ?_, ?_, ?_⟩
      · unfold rc
        rw [if_pos ⟨ho, hw⟩, if_pos e]
        exact List.mem_singleton.mpr rfl
      · show (A + bR d u).toInt = A.toInt + ((bR d u).toInt + 0)
        rw [eA]
        omega
      · show (B + lR d u).toInt = B.toInt + ((lR d u).toInt + 0)
        rw [eB]
        omega
    · rw [List.map_cons] at hnd hq
      have nd := List.nodup_cons.mp hnd
      have em := pth_end hl c
      have ne : wt d u ≠ m := fun e => nd.1 (by rw [e]; exact em)
      rcases hq (wt d u) (List.mem_cons_self ..) with x | ⟨x1, x2⟩
      · exact absurd x ne
      · have fl := fr_lt p hp6 (wt d u) (by omega) x2
        obtain ⟨r, r1, r2, r3⟩ := ih n (wt d u) (p ||| 2 ^ wt d u) (k ||| 2 ^ u) (A + bR d u) (B + lR d u) hl c nd.2 (fun q hq' => by
          rcases hq q (List.mem_cons_of_mem _ hq') with y | ⟨y1, y2⟩
          · exact Or.inl y
          · refine Or.inr ⟨y1, ?_⟩
            rw [bit_ne (fun e => nd.1 (by rw [e]; exact hq'))]
            exact y2) (or64 hp6 (by omega)) (by omega) (by omega) (by rw [eA]; omega) (by rw [eA]; omega) (by rw [eB]; omega) (by rw [eB]; omega)
        refine ⟨r, inn r ?_, ?_, ?_⟩
        · unfold rc
          rw [if_pos ⟨ho, hw⟩, if_neg ne, if_neg (by omega), if_neg (by rw [x2]; decide)]
          exact r1
        · rw [r2, eA]
          show _ = A.toInt + ((bR d u).toInt + sb d l)
          omega
        · rw [r3, eB]
          show _ = B.toInt + ((lR d u).toInt + sl d l)
          omega
theorem least_ex : ∀ l : List Nat, l ≠ [] → ∃ m, m ∈ l ∧ ∀ q, q ∈ l → m ≤ q := by
  intro l
  induction l with
  | nil => intro h; exact absurd rfl h
  | cons x l ih =>
    intro _
    by_cases c : l = []
    · subst c
      refine ⟨x, List.mem_cons_self .., fun q hq => ?_⟩
      have : q = x := by simpa using hq
      omega
    · obtain ⟨m, h1, h2⟩ := ih c
      by_cases e : x ≤ m
      · refine ⟨x, List.mem_cons_self .., fun q hq => ?_⟩
        rcases List.mem_cons.mp hq with y | y
        · omega
        · have := h2 q y
          omega
      · refine ⟨m, List.mem_cons_of_mem _ h1, fun q hq => ?_⟩
        rcases List.mem_cons.mp hq with y | y
        · omega
        · exact h2 q y
section
variable {d : CD} {a b : Int}
/-- no ring that passes no place twice is above 0 -/
theorem cyc_le (ok : okD d) (H : ∀ r, r ∈ rn d → b * r.2.1.toInt - a * r.2.2.toInt ≤ 0) {c : List Nat} {s : Nat} (h : pth d c s s) (hc : c ≠ []) (hn : (c.map (wt d)).Nodup) : wg d a b c ≤ 0 := by
  have P6 := ok.1
  obtain ⟨m, m1, m2⟩ := least_ex (c.map (wt d)) (fun e => hc (List.map_eq_nil_iff.mp e))
  obtain ⟨α, β, e, p1, p2⟩ := pth_split m h (List.mem_cons_of_mem _ m1)
  have q1 : pth d (β ++ α) m m := pth_app p2 p1
  have pm : (β ++ α).map (wt d) = β.map (wt d) ++ α.map (wt d) := List.map_append
  have nd' : ((β ++ α).map (wt d)).Nodup := by
    rw [e, List.map_append] at hn
    rw [pm]
    obtain ⟨a1, a2, a3⟩ := List.nodup_append.mp hn
    exact List.nodup_append.mpr ⟨a2, a1, fun x hx y hy e => a3 y hy x hx e.symm⟩
  have mem' : ∀ q, q ∈ (β ++ α).map (wt d) → q ∈ c.map (wt d) := by
    intro q hq
    rw [pm] at hq
    rw [e, List.map_append]
    rcases List.mem_append.mp hq with x | x
    · exact List.mem_append_right _ x
    · exact List.mem_append_left _ x
  have ne : β ++ α ≠ [] := by
    intro x
    rw [List.append_eq_nil_iff] at x
    rw [x.1, x.2] at e
    exact hc e
  have mP : m < dP d := by
    obtain ⟨u, hu, e⟩ := List.mem_map.mp m1
    have : u < dN d := by
      have all : ∀ {l : List Nat} {s v : Nat}, pth d l s v → ∀ u, u ∈ l → u < dN d := by
        intro l
        induction l with
        | nil => intro s v _ u hu; cases hu
        | cons x l ih =>
          intro s v h u hu
          rcases List.mem_cons.mp hu with y | y
          · rw [y]
            exact h.1
          · exact ih h.2.2.2 u y
      exact all h u hu
    rw [← e]
    exact (wt_eq ok this).2
  have l2 : 2 ^ m < 64 := Nat.pow_lt_pow_right (n := 6) (by decide) (by omega)
  have z : (0 : Int64).toInt = 0 := rfl
  obtain ⟨r, r1, r2, r3⟩ := mem_rl ok m (β ++ α) 8 m (2 ^ m) 0 0 0 q1 ne nd' (fun q hq => by
    by_cases c : q = m
    · exact Or.inl c
    · have := m2 q (mem' q hq)
      refine Or.inr ⟨by omega, ?_⟩
      rw [Nat.testBit_two_pow]
      exact decide_eq_false (fun x => c x.symm)) l2 (fr_0 m (by omega)) (by omega) (by rw [z]; omega) (by rw [z]; omega) (by rw [z]; omega) (by rw [z]; omega)
  have rm : r ∈ rn d := by
    unfold rn al
    exact List.mem_flatMap.mpr ⟨m, List.mem_range.mpr mP, r1⟩
  have hr := H r rm
  rw [r2, r3, z, Int.zero_add, Int.zero_add] at hr
  have w1 : wg d a b (β ++ α) ≤ 0 := hr
  rw [wg_app] at w1
  rw [e, wg_app]
  omega
/-- what goes there goes there simply, and no lower -/
theorem simple_ex (ok : okD d) (H : ∀ r, r ∈ rn d → b * r.2.1.toInt - a * r.2.2.toInt ≤ 0) : ∀ (l : List Nat) (s v : Nat), pth d l s v → ∃ l', pth d l' s v ∧ (s :: l'.map (wt d)).Nodup ∧ wg d a b l ≤ wg d a b l' := by
  intro l
  induction l with
  | nil =>
    intro s v h
    exact ⟨[], h, List.nodup_cons.mpr ⟨(fun x => by cases x), List.nodup_nil⟩, Int.le_refl _⟩
  | cons u l ih =>
    intro s v h
    obtain ⟨h1, h2, h3, h4⟩ := h
    obtain ⟨l', p, nd, w⟩ := ih (wt d u) v h4
    by_cases c : s ∈ wt d u :: l'.map (wt d)
    · obtain ⟨α, β, e, p1, p2⟩ := pth_split s p c
      obtain ⟨pre, ep⟩ := pth_last p1
      have nd2 : (pre ++ (s :: β.map (wt d))).Nodup := by
        have : wt d u :: l'.map (wt d) = pre ++ (s :: β.map (wt d)) := by
          rw [e, List.map_append, ← List.cons_append, ep, List.append_assoc]
          rfl
        rw [← this]
        exact nd
      have ndc : ((u :: α).map (wt d)).Nodup := by
        rw [e, List.map_append, ← List.cons_append] at nd
        exact (List.nodup_append.mp nd).1
      have wc := cyc_le ok H (c := u :: α) (s := s) ⟨h1, h2, h3, p1⟩ (by simp) ndc
      refine ⟨β, p2, (List.nodup_append.mp nd2).2.1, ?_⟩
      rw [e, wg_app] at w
      rw [wg_cons] at wc ⊢
      omega
    · refine ⟨u :: l', ⟨h1, h2, h3, p⟩, List.nodup_cons.mpr ⟨c, nd⟩, ?_⟩
      rw [wg_cons, wg_cons]
      omega
end
theorem pigeon : ∀ (n : Nat) (l : List Nat), l.Nodup → (∀ x, x ∈ l → x < n) → l.length ≤ n := by
  intro n
  induction n with
  | zero =>
    intro l _ h
    cases l with
    | nil => exact Nat.le_refl _
    | cons x l => exact absurd (h x (List.mem_cons_self ..)) (by omega)
  | succ n ih =>
    intro l nd h
    by_cases c : n ∈ l
    · have e := List.length_erase_of_mem c
      have := ih (l.erase n) (nd.erase n) (fun x hx => by
        have m := (List.Nodup.mem_erase_iff nd).mp hx
        have := h x m.2
        have := m.1
        omega)
      omega
    · have := ih l nd (fun x hx => by
        have := h x hx
        have : x ≠ n := fun e => c (e ▸ hx)
        omega)
      omega
