/-! ===== the class's walks: from place to place ===== -/
abbrev Bz : Type := Nat → Option Nat
def btr (W : Nat → Int) (n : Nat) (o : Option Nat) (R : Nat) : Bool := match o with
  | none => true
  | some S => decide (sgm (W2 W) S n < sgm (W2 W) R n)
def goes (d : CD) (p w : Nat) : Bool := opw d w && (decide (wf d w = p) && decide (p < wt d w))
theorem goes_iff {d : CD} {p w : Nat} : goes d p w = true ↔ opw d w = true ∧ wf d w = p ∧ p < wt d w := by
  unfold goes
  rw [Bool.and_eq_true, Bool.and_eq_true, decide_eq_true_iff, decide_eq_true_iff]
def lvs (d : CD) (W : Nat → Int) (p Sp : Nat) (B : Bz) (w : Nat) : Bz := if goes d p w = true ∧ btr W (dN d) (B (wt d w)) (Sp ||| 2 ^ w) = true then (fun v => if v = wt d w then some (Sp ||| 2 ^ w) else B v) else B
section
variable {d : CD} {W : Nat → Int} {s : Nat}
def att2 (d : CD) (s : Nat) (B : Bz) : Prop := ∀ v S, B v = some S → ∃ l, rwk d l s v ∧ st l = S
def dom (d : CD) (W : Nat → Int) (s p k : Nat) (B : Bz) : Prop := ∀ l v, rwk d l s v → (∀ u, u ∈ l → wf d u < p ∨ (wf d u = p ∧ u < k)) → ∃ S, B v = some S ∧ sgm (W2 W) (st l) (dN d) ≤ sgm (W2 W) S (dN d)
theorem sp_free {p Sp w : Nat} {B : Bz} (ha : att2 d s B) (hb : B p = some Sp) (hw : wf d w = p) : Sp.testBit w = false := by
  obtain ⟨l, l1, l2⟩ := ha p Sp hb
  by_cases c : Sp.testBit w = true
  · rw [← l2, st_bit] at c
    have := (rwk_le l1).2 w c
    omega
  · simpa using c
theorem lvs_p {p Sp w : Nat} {B : Bz} (hb : B p = some Sp) : lvs d W p Sp B w p = some Sp := by
  unfold lvs
  by_cases c : goes d p w = true ∧ btr W (dN d) (B (wt d w)) (Sp ||| 2 ^ w) = true
  · rw [if_pos c]
    have := (goes_iff.mp c.1).2.2
    show (if p = wt d w then _ else _) = _
    rw [if_neg (by omega)]
    exact hb
  · rw [if_neg c]
    exact hb
theorem lvs_att {p Sp w : Nat} {B : Bz} (hw : w < dN d) (ha : att2 d s B) (hb : B p = some Sp) : att2 d s (lvs d W p Sp B w) := by
  unfold lvs
  by_cases c : goes d p w = true ∧ btr W (dN d) (B (wt d w)) (Sp ||| 2 ^ w) = true
  · rw [if_pos c]
    obtain ⟨g1, g2, g3⟩ := goes_iff.mp c.1
    intro v S h
    have h : (if v = wt d w then some (Sp ||| 2 ^ w) else B v) = some S := h
    by_cases e : v = wt d w
    · rw [if_pos e] at h
      have h : Sp ||| 2 ^ w = S := Option.some.inj h
      obtain ⟨l, l1, l2⟩ := ha p Sp hb
      refine ⟨l ++ [w], ?_, ?_⟩
      · rw [e]
        exact rwk_snoc hw g1 (by omega) (by rw [g2]; exact l1)
      · rw [st_app, l2]
        show Sp ||| (2 ^ w ||| 0) = S
        rw [Nat.or_zero]
        exact h
    · rw [if_neg e] at h
      exact ha v S h
  · rw [if_neg c]
    exact ha
theorem lvs_ge {p Sp w : Nat} {B : Bz} {v S : Nat} (h : B v = some S) : ∃ R, lvs d W p Sp B w v = some R ∧ sgm (W2 W) S (dN d) ≤ sgm (W2 W) R (dN d) := by
  unfold lvs
  by_cases c : goes d p w = true ∧ btr W (dN d) (B (wt d w)) (Sp ||| 2 ^ w) = true
  · rw [if_pos c]
    show ∃ R, (if v = wt d w then some (Sp ||| 2 ^ w) else B v) = some R ∧ _
    by_cases e : v = wt d w
    · rw [if_pos e]
      have b := c.2
      rw [← e, h] at b
      have : sgm (W2 W) S (dN d) < sgm (W2 W) (Sp ||| 2 ^ w) (dN d) := of_decide_eq_true b
      exact ⟨_, rfl, by omega⟩
    · rw [if_neg e]
      exact ⟨S, h, Int.le_refl _⟩
  · rw [if_neg c]
    exact ⟨S, h, Int.le_refl _⟩
theorem lvs_new {p Sp w : Nat} {B : Bz} (g : goes d p w = true) : ∃ R, lvs d W p Sp B w (wt d w) = some R ∧ sgm (W2 W) (Sp ||| 2 ^ w) (dN d) ≤ sgm (W2 W) R (dN d) := by
  unfold lvs
  by_cases c : btr W (dN d) (B (wt d w)) (Sp ||| 2 ^ w) = true
  · rw [if_pos ⟨g, c⟩]
    exact ⟨_, if_pos rfl, Int.le_refl _⟩
  · rw [if_neg (fun x => c x.2)]
    cases hB : B (wt d w) with
    | none =>
      rw [hB] at c
      exact absurd rfl c
    | some S =>
      rw [hB] at c
      have : ¬ sgm (W2 W) S (dN d) < sgm (W2 W) (Sp ||| 2 ^ w) (dN d) := fun x => c (decide_eq_true x)
      exact ⟨S, rfl, by omega⟩
/-- a walk that may use one way more uses it last, or not at all -/
theorem use_last {p k : Nat} {l : List Nat} {v : Nat} (h : rwk d l s v) (ha : ∀ u, u ∈ l → wf d u < p ∨ (wf d u = p ∧ u < k + 1)) : (∀ u, u ∈ l → wf d u < p ∨ (wf d u = p ∧ u < k)) ∨ ∃ m, l = m ++ [k] ∧ wf d k = p ∧ ∀ u, u ∈ m → wf d u < p := by
  by_cases c : ∃ m u, l = m ++ [u]
  · obtain ⟨m, u, e⟩ := c
    subst e
    obtain ⟨r1, r2, r3, r4, r5⟩ := rwk_un h
    have bm := (rwk_le r1).2
    have hu := ha u (List.mem_append_right _ (List.mem_singleton.mpr rfl))
    have low : ∀ x, x ∈ m → wf d x < p := by
      intro x hx
      have := bm x hx
      omega
    by_cases e : u = k ∧ wf d u = p
    · right
      obtain ⟨e1, e2⟩ := e
      subst e1
      exact ⟨m, rfl, e2, low⟩
    · left
      intro x hx
      rcases List.mem_append.mp hx with y | y
      · exact Or.inl (low x y)
      · have : x = u := by simpa using y
        subst this
        rcases hu with z | ⟨z1, z2⟩
        · exact Or.inl z
        · refine Or.inr ⟨z1, ?_⟩
          by_cases q : x = k
          · exact absurd ⟨q, z1⟩ e
          · omega
  · left
    intro u hu
    have ne : l ≠ [] := by
      intro x
      rw [x] at hu
      cases hu
    exact absurd ⟨l.dropLast, l.getLast ne, (List.dropLast_concat_getLast ne).symm⟩ c
theorem sgm_snoc {m : List Nat} {k : Nat} {g : Nat → Int} (hk : k < dN d) (hn : ¬ k ∈ m) : sgm g (st (m ++ [k])) (dN d) = sgm g (st m) (dN d) + g k := by
  rw [st_app, show st [k] = 2 ^ k from Nat.or_zero _, sgm_or (by
    by_cases c : (st m).testBit k = true
    · exact absurd ((st_bit k m).mp c) hn
    · simpa using c), if_pos hk]
theorem dom_step {p k Sp : Nat} {B : Bz} (hk : k < dN d) (ha : att2 d s B) (hb : B p = some Sp) (h : dom d W s p k B) : dom d W s p (k + 1) (lvs d W p Sp B k) := by
  intro l v r1 r2
  rcases use_last r1 r2 with q | ⟨m, e1, e2, e3⟩
  · obtain ⟨S, s1, s2⟩ := h l v r1 q
    obtain ⟨R, t1, t2⟩ := lvs_ge (d := d) (W := W) (p := p) (Sp := Sp) (w := k) s1
    exact ⟨R, t1, by omega⟩
  · subst e1
    obtain ⟨u1, u2, u3, u4, u5⟩ := rwk_un r1
    rw [e2] at u1 u4
    obtain ⟨S, s1, s2⟩ := h m p u1 (fun u hu => Or.inl (e3 u hu))
    rw [hb] at s1
    have : Sp = S := Option.some.inj s1
    subst this
    obtain ⟨R, t1, t2⟩ := lvs_new (d := d) (W := W) (p := p) (Sp := Sp) (w := k) (B := B) (goes_iff.mpr ⟨u3, e2, u4⟩)
    refine ⟨R, by rw [← u5]; exact t1, ?_⟩
    rw [sgm_snoc hk (fun x => by have := e3 k x; omega)]
    rw [sgm_or (sp_free ha hb e2), if_pos hk] at t2
    omega
theorem dom_none {p k : Nat} {B : Bz} (hb : B p = none) (h : dom d W s p k B) : dom d W s p (k + 1) B := by
  intro l v r1 r2
  rcases use_last r1 r2 with q | ⟨m, e1, e2, e3⟩
  · exact h l v r1 q
  · subst e1
    obtain ⟨u1, u2, u3, u4, u5⟩ := rwk_un r1
    rw [e2] at u1
    obtain ⟨S, s1, s2⟩ := h m p u1 (fun u hu => Or.inl (e3 u hu))
    rw [hb] at s1
    cases s1
theorem dom_next {p : Nat} {B : Bz} (h : dom d W s p (dN d) B) : dom d W s (p + 1) 0 B := by
  intro l v r1 r2
  refine h l v r1 (fun u hu => ?_)
  have a := (rwk_le r1).2 u hu
  rcases r2 u hu with x | x
  · by_cases c : wf d u < p
    · exact Or.inl c
    · exact Or.inr ⟨by omega, a.1⟩
  · omega
def b0 (s : Nat) : Bz := fun v => if v = s then some 0 else none
theorem b0_att : att2 d s (b0 s) := by
  intro v S h
  have h : (if v = s then some 0 else none) = some S := h
  by_cases c : v = s
  · rw [if_pos c] at h
    exact ⟨[], c.symm, Option.some.inj h⟩
  · rw [if_neg c] at h
    cases h
theorem b0_dom : dom d W s s 0 (b0 s) := by
  intro l v r1 r2
  cases l with
  | nil =>
    have e : s = v := r1
    exact ⟨0, by rw [← e]; exact if_pos rfl, Int.le_refl _⟩
  | cons u l =>
    have a := (rwk_le r1).2 u (List.mem_cons_self ..)
    have := r2 u (List.mem_cons_self ..)
    omega
theorem dom_is {e : Nat} (ok : okD d) (hs : s < e) (he : e < 6) {B : Bz} (ha : att2 d s B) (h : dom d W s e 0 B) : (B e = none ∧ noC (cWy d (isWk d s e))) ∨ ∃ S, B e = some S ∧ isL (cWy d (isWk d s e)) (fun S => sgm W S (cN (cWy d (isWk d s e)))) S ∧ S ≠ 0 := by
  have fwd : ∀ S, S < 2 ^ dN d → isWk d s e S = true → ∃ R, B e = some R ∧ sgm (W2 W) S (dN d) ≤ sgm (W2 W) R (dN d) := by
    intro S hS hc
    obtain ⟨l, l1, l2⟩ := (isWk_iff ok hs he hS).mp hc
    obtain ⟨R, r1, r2⟩ := h l e l1 (fun u hu => by have := (rwk_le l1).2 u hu; omega)
    rw [l2] at r2
    exact ⟨R, r1, r2⟩
  cases hB : B e with
  | none =>
    left
    refine ⟨rfl, fun S hS => ?_⟩
    by_cases c : isWk d s e S = true
    · obtain ⟨R, r1, _⟩ := fwd S hS c
      rw [hB] at r1
      cases r1
    · show isWk d s e S = false
      simpa using c
  | some S =>
    right
    obtain ⟨l, l1, l2⟩ := ha e S hB
    have hS : S < 2 ^ dN d := by
      rw [← l2]
      exact st_lt l (fun u hu => ((rwk_le l1).2 u hu).1)
    have hc : isWk d s e S = true := (isWk_iff ok hs he hS).mpr ⟨l, l1, l2⟩
    refine ⟨S, rfl, isL_W2 (c := cWy d (isWk d s e)) ok.2.2.1 hS hc (fun R r1 r2 => ?_), ?_⟩
    · obtain ⟨R', q1, q2⟩ := fwd R r1 r2
      rw [hB] at q1
      have : S = R' := Option.some.inj q1
      subst this
      exact q2
    · have := hc
      unfold isWk at this
      rw [Bool.and_eq_true, decide_eq_true_iff] at this
      exact this.1
end
