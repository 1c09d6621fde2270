/-! ===== how many rings there may be ===== -/
def oq (d : CD) (op : Nat → Bool) (a w : Nat) : Bool := op w && decide (wf d w = a)
def outs (d : CD) (op : Nat → Bool) (a : Nat) : List Nat := (List.range (dN d)).filter (oq d op a)
theorem oq_iff {d : CD} {op : Nat → Bool} {a w : Nat} : oq d op a w = true ↔ op w = true ∧ wf d w = a := by
  unfold oq
  rw [Bool.and_eq_true, decide_eq_true_iff]
theorem outs_mem {d : CD} {op : Nat → Bool} {a w : Nat} (h : w ∈ outs d op a) : w < dN d ∧ op w = true ∧ wf d w = a := by
  unfold outs at h
  rw [List.mem_filter, List.mem_range, oq_iff] at h
  exact h
theorem outs_len (d : CD) (op : Nat → Bool) (a : Nat) : (outs d op a).length ≤ dN d := by
  have := List.length_filter_le (oq d op a) (List.range (dN d))
  rw [List.length_range] at this
  exact this
theorem fm_filter {β : Type} (q : Nat → Bool) (f : Nat → List β) (h : ∀ w, q w = false → f w = []) (l : List Nat) : (l.filter q).flatMap f = l.flatMap f := by
  induction l with
  | nil => rfl
  | cons w l ih =>
    rw [List.flatMap_cons, List.filter_cons]
    by_cases c : q w = true
    · rw [if_pos c, List.flatMap_cons, ih]
    · rw [if_neg c, ih, h w (by simpa using c), List.nil_append]
theorem rc_nil {d : CD} {op : Nat → Bool} {g : Nat → Nat → Nat → Int64 → Int64 → List Rg} {s a p k : Nat} {A B : Int64} {w : Nat} (h : oq d op a w = false) : rc d op g s a p k A B w = [] := by
  unfold rc
  rw [if_neg (fun x => by rw [oq_iff.mpr x] at h; exact absurd h (by decide))]
theorem rl_outs (d : CD) (op : Nat → Bool) (n s a p k : Nat) (A B : Int64) : rl d op (n + 1) s a p k A B = (outs d op a).flatMap (rc d op (rl d op n s) s a p k A B) := by
  rw [rl_succ]
  unfold outs
  rw [fm_filter (oq d op a) _ (fun w h => rc_nil h)]
def fp (D : Nat → Nat) (s p : Nat) : Nat → Nat
  | 0 => 1
  | m + 1 => fp D s p m * (if s < m ∧ p.testBit m = false then 1 + D m else 1)
theorem fp_pos (D : Nat → Nat) (s p : Nat) : ∀ m, 1 ≤ fp D s p m := by
  intro m
  induction m with
  | zero => exact Nat.le_refl _
  | succ m ih =>
    show 1 ≤ fp D s p m * (if s < m ∧ p.testBit m = false then 1 + D m else 1)
    have : 1 ≤ (if s < m ∧ p.testBit m = false then 1 + D m else 1) := by
      split
      · omega
      · omega
    exact Nat.mul_pos ih this
theorem fp_or {D : Nat → Nat} {s p t : Nat} (h1 : s < t) (h2 : p.testBit t = false) : ∀ m, fp D s p m = (if t < m then 1 + D t else 1) * fp D s (p ||| 2 ^ t) m := by
  intro m
  induction m with
  | zero =>
    rw [if_neg (by omega)]
    rfl
  | succ m ih =>
    show fp D s p m * (if s < m ∧ p.testBit m = false then 1 + D m else 1) = _ * (fp D s (p ||| 2 ^ t) m * (if s < m ∧ (p ||| 2 ^ t).testBit m = false then 1 + D m else 1))
    rw [ih]
    by_cases c : m = t
    · subst c
      rw [if_neg (by omega), if_pos ⟨h1, h2⟩, if_pos (by omega), if_neg (by
        rw [Nat.testBit_or, Nat.testBit_two_pow]
        simp), Nat.one_mul, Nat.mul_one, Nat.mul_comm]
    · have e : (p ||| 2 ^ t).testBit m = p.testBit m := by
        rw [Nat.testBit_or, Nat.testBit_two_pow, decide_eq_false (by omega), Bool.or_false]
      rw [e, ← Nat.mul_assoc]
      by_cases c1 : t < m
      · rw [if_pos c1, if_pos (show t < m + 1 by omega)]
      · rw [if_neg c1, if_neg (show ¬ t < m + 1 by omega)]
theorem fm_len {β : Type} {c : Nat} {f : Nat → List β} {l : List Nat} (h : ∀ w, w ∈ l → (f w).length ≤ c) : (l.flatMap f).length ≤ l.length * c := by
  induction l with
  | nil => exact Nat.zero_le _
  | cons w l ih =>
    rw [List.flatMap_cons, List.length_append, List.length_cons, Nat.succ_mul]
    have := h w (List.mem_cons_self ..)
    have := ih (fun v hv => h v (List.mem_cons_of_mem _ hv))
    omega
def dg (d : CD) (op : Nat → Bool) (q : Nat) : Nat := (outs d op q).length
theorem rl_len {d : CD} (ok : okD d) (op : Nat → Bool) : ∀ n s a p k A B, (rl d op n s a p k A B).length ≤ dg d op a * fp (dg d op) s p 6 := by
  intro n
  induction n with
  | zero =>
    intro s a p k A B
    exact Nat.zero_le _
  | succ n ih =>
    intro s a p k A B
    rw [rl_outs]
    refine fm_len (fun w hw => ?_)
    obtain ⟨hw, m1, m2⟩ := outs_mem hw
    obtain ⟨et, lt⟩ := wt_eq ok hw
    have P6 := ok.1
    have pos := fp_pos (dg d op) s p 6
    unfold rc
    rw [if_pos ⟨m1, m2⟩]
    by_cases c1 : wt d w = s
    · rw [if_pos c1]
      exact pos
    · rw [if_neg c1]
      by_cases c2 : wt d w < s
      · rw [if_pos c2]
        exact Nat.zero_le _
      · rw [if_neg c2]
        by_cases c3 : p.testBit (wt d w) = true
        · rw [if_pos c3]
          exact Nat.zero_le _
        · rw [if_neg c3]
          have i1 := ih s (wt d w) (p ||| 2 ^ wt d w) (k ||| 2 ^ w) (A + bR d w) (B + lR d w)
          have i2 := fp_or (D := dg d op) (s := s) (p := p) (t := wt d w) (by omega) (by simpa using c3) 6
          rw [if_pos (by omega), Nat.add_mul, Nat.one_mul] at i2
          omega
def gq (D : Nat → Nat) : Nat → Nat
  | 0 => 1
  | j + 1 => (1 + D (5 - j)) * gq D j
def sq (D : Nat → Nat) : Nat → Nat
  | 0 => 0
  | j + 1 => D (5 - j) + sq D j
theorem fp_0 (D : Nat → Nat) : ∀ s, s < 6 → fp D s (2 ^ s) 6 = gq D (5 - s) := by
  refine j6 ?_ ?_ ?_ ?_ ?_ ?_ <;> simp [fp, gq, Nat.mul_assoc, Nat.testBit]
theorem gq_pos (D : Nat → Nat) : ∀ j, 1 ≤ gq D j := by
  intro j
  induction j with
  | zero => exact Nat.le_refl _
  | succ j ih => exact Nat.mul_pos (by omega) ih
def tq (j S : Nat) : Nat := if j = 0 then 1 else ((j + S) / j + 1) ^ ((j + S) % j) * ((j + S) / j) ^ (j - (j + S) % j)
theorem tq_step : ∀ j, j < 6 → ∀ S, S < 15 → ∀ x, x < 15 → S + x < 15 → (1 + x) * tq j S ≤ tq (j + 1) (x + S) := by decide +kernel
theorem tq_6 : ∀ S, S < 15 → tq 6 S ≤ 1296 := by decide +kernel
theorem gq_le (D : Nat → Nat) : ∀ j, j ≤ 6 → sq D j ≤ 14 → gq D j ≤ tq j (sq D j) := by
  intro j
  induction j with
  | zero =>
    intro _ _
    exact Nat.le_refl _
  | succ j ih =>
    intro h1 h2
    have e : sq D (j + 1) = D (5 - j) + sq D j := rfl
    rw [e] at h2
    have i := ih (by omega) (by omega)
    have t := tq_step j (by omega) (sq D j) (by omega) (D (5 - j)) (by omega) (by omega)
    rw [e]
    exact Nat.le_trans (Nat.mul_le_mul_left _ i) t
theorem sq_le (d : CD) (op : Nat → Bool) : ∀ l : List Nat, sq (fun q => (l.filter (oq d op q)).length) 6 ≤ l.length := by
  intro l
  induction l with
  | nil => exact Nat.le_refl _
  | cons w l ih =>
    have st : ∀ q, ((w :: l).filter (oq d op q)).length ≤ (l.filter (oq d op q)).length + (if wf d w = q then 1 else 0) := by
      intro q
      rw [List.filter_cons]
      by_cases c : oq d op q w = true
      · rw [if_pos c, if_pos (oq_iff.mp c).2, List.length_cons]
        exact Nat.le_refl _
      · rw [if_neg c]
        exact Nat.le_add_right _ _
    have s0 := st 0
    have s1 := st 1
    have s2 := st 2
    have s3 := st 3
    have s4 := st 4
    have s5 := st 5
    show ((w :: l).filter (oq d op 0)).length + (((w :: l).filter (oq d op 1)).length + (((w :: l).filter (oq d op 2)).length + (((w :: l).filter (oq d op 3)).length + (((w :: l).filter (oq d op 4)).length + (((w :: l).filter (oq d op 5)).length + 0))))) ≤ l.length + 1
    have ih : (l.filter (oq d op 0)).length + ((l.filter (oq d op 1)).length + ((l.filter (oq d op 2)).length + ((l.filter (oq d op 3)).length + ((l.filter (oq d op 4)).length + ((l.filter (oq d op 5)).length + 0))))) ≤ l.length := ih
    have one : (if wf d w = 0 then 1 else 0) + (if wf d w = 1 then 1 else 0) + (if wf d w = 2 then 1 else 0) + (if wf d w = 3 then 1 else 0) + (if wf d w = 4 then 1 else 0) + (if wf d w = 5 then 1 else 0) ≤ 1 := by
      generalize wf d w = x
      rcases x with _ | _ | _ | _ | _ | _ | x <;> simp
    omega
theorem al_len {d : CD} (ok : okD d) (op : Nat → Bool) : (al d op).length ≤ 1295 := by
  have P6 := ok.1
  have h14 := ok.2.2.1
  have key : ∀ m, m ≤ 6 → ((List.range m).flatMap fun s => rl d op 8 s s (2 ^ s) 0 0 0).length + gq (dg d op) (6 - m) ≤ gq (dg d op) 6 := by
    intro m
    induction m with
    | zero =>
      intro _
      simp
    | succ m ih =>
      intro hm
      have i := ih (by omega)
      have r := rl_len ok op 8 m m (2 ^ m) 0 0 0
      rw [fp_0 _ m (by omega)] at r
      have e : gq (dg d op) (6 - m) = (1 + dg d op m) * gq (dg d op) (6 - (m + 1)) := by
        rw [show 6 - m = (6 - (m + 1)) + 1 by omega]
        show (1 + dg d op (5 - (6 - (m + 1)))) * _ = _
        rw [show 5 - (6 - (m + 1)) = m by omega]
      rw [Nat.add_mul, Nat.one_mul] at e
      rw [show 5 - m = 6 - (m + 1) by omega] at r
      rw [List.range_succ, List.flatMap_append, List.length_append, List.flatMap_cons, List.flatMap_nil, List.append_nil]
      omega
  have k := key (dP d) (by omega)
  have b := sq_le d op (List.range (dN d))
  rw [List.length_range] at b
  have b' : sq (dg d op) 6 ≤ dN d := b
  have g := gq_le (dg d op) 6 (by omega) (by omega)
  have t := tq_6 (sq (dg d op) 6) (by omega)
  have p := gq_pos (dg d op) (6 - dP d)
  unfold al
  omega
