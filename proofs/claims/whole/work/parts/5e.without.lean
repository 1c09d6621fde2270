/-! ===== rings without a way, with a way ===== -/
theorem fm_fil {q : Rg → Bool} {f : Nat → List Rg} {l : List Nat} : (l.flatMap f).filter q = l.flatMap (fun w => (f w).filter q) := by
  induction l with
  | nil => rfl
  | cons w l ih => rw [List.flatMap_cons, List.flatMap_cons, List.filter_append, ih]
theorem bit_or2 {k w v : Nat} (h : k.testBit v = true) : (k ||| 2 ^ w).testBit v = true := by
  rw [Nat.testBit_or, h, Bool.true_or]
theorem bit_self {k w : Nat} : (k ||| 2 ^ w).testBit w = true := by
  rw [Nat.testBit_or, Nat.testBit_two_pow, decide_eq_true rfl, Bool.or_true]
theorem bit_ne {k w v : Nat} (h : ¬ w = v) : (k ||| 2 ^ w).testBit v = k.testBit v := by
  rw [Nat.testBit_or, Nat.testBit_two_pow, decide_eq_false h, Bool.or_false]
theorem rl_has {d : CD} (op : Nat → Bool) (v : Nat) : ∀ n s a p k A B, k.testBit v = true → ∀ r, r ∈ rl d op n s a p k A B → r.1.testBit v = true := by
  intro n
  induction n with
  | zero =>
    intro s a p k A B _ r hr
    cases hr
  | succ n ih =>
    intro s a p k A B hk r hr
    rw [rl_outs] at hr
    obtain ⟨w, hw, hr⟩ := List.mem_flatMap.mp hr
    obtain ⟨hw, m1, m2⟩ := outs_mem hw
    unfold rc at hr
    rw [if_pos ⟨m1, m2⟩] at hr
    by_cases c1 : wt d w = s
    · rw [if_pos c1] at hr
      have : r = (k ||| 2 ^ w, A + bR d w, B + lR d w) := by simpa using hr
      subst this
      exact bit_or2 hk
    · rw [if_neg c1] at hr
      by_cases c2 : wt d w < s
      · rw [if_pos c2] at hr
        cases hr
      · rw [if_neg c2] at hr
        by_cases c3 : p.testBit (wt d w) = true
        · rw [if_pos c3] at hr
          cases hr
        · rw [if_neg c3] at hr
          exact ih _ _ _ _ _ _ (bit_or2 hk) r hr
theorem rl_without {d : CD} (op : Nat → Bool) (v : Nat) : ∀ n s a p k A B, k.testBit v = false → rl d (fun u => op u && !decide (u = v)) n s a p k A B = (rl d op n s a p k A B).filter fun r => !r.1.testBit v := by
  intro n
  induction n with
  | zero =>
    intro s a p k A B _
    rfl
  | succ n ih =>
    intro s a p k A B hk
    rw [rl_succ, rl_succ, fm_fil]
    refine fm_congr (fun w _ => ?_)
    unfold rc
    by_cases c0 : w = v
    · subst c0
      rw [if_neg (by simp)]
      by_cases c : op w = true ∧ wf d w = a
      · rw [if_pos c]
        by_cases c1 : wt d w = s
        · rw [if_pos c1, List.filter_cons, if_neg (by rw [bit_self]; decide)]
          rfl
        · rw [if_neg c1]
          by_cases c2 : wt d w < s
          · rw [if_pos c2]
            rfl
          · rw [if_neg c2]
            by_cases c3 : p.testBit (wt d w) = true
            · rw [if_pos c3]
              rfl
            · rw [if_neg c3]
              symm
              rw [List.filter_eq_nil_iff]
              intro r hr
              rw [rl_has op w _ _ _ _ _ _ _ bit_self r hr]
              decide
      · rw [if_neg c]
        rfl
    · have e : ((fun u => op u && !decide (u = v)) w) = op w := by
        show (op w && !decide (w = v)) = op w
        rw [decide_eq_false c0, Bool.not_false, Bool.and_true]
      rw [e]
      by_cases c : op w = true ∧ wf d w = a
      · rw [if_pos c, if_pos c]
        have kb : (k ||| 2 ^ w).testBit v = false := by rw [bit_ne c0, hk]
        by_cases c1 : wt d w = s
        · rw [if_pos c1, if_pos c1, List.filter_cons, if_pos (by rw [kb]; rfl)]
          rfl
        · rw [if_neg c1, if_neg c1]
          by_cases c2 : wt d w < s
          · rw [if_pos c2, if_pos c2]
            rfl
          · rw [if_neg c2, if_neg c2]
            by_cases c3 : p.testBit (wt d w) = true
            · rw [if_pos c3, if_pos c3]
              rfl
            · rw [if_neg c3, if_neg c3]
              exact ih _ _ _ _ _ _ kb
      · rw [if_neg c, if_neg c]
        rfl
theorem al_without {d : CD} (op : Nat → Bool) (v : Nat) : al d (fun u => op u && !decide (u = v)) = (al d op).filter fun r => !r.1.testBit v := by
  unfold al
  rw [fm_fil]
  refine fm_congr (fun s _ => ?_)
  exact rl_without op v 8 s s (2 ^ s) 0 0 0 (Nat.zero_testBit v)
def wo (M w : Nat) : Nat := M &&& (16383 ^^^ 2 ^ w)
theorem b16383 (i : Nat) : (16383 : Nat).testBit i = decide (i < 14) := Nat.testBit_two_pow_sub_one 14 i
theorem wo_bit {M w : Nat} (hM : M < 16384) (i : Nat) : (wo M w).testBit i = (M.testBit i && !decide (i = w)) := by
  unfold wo
  rw [Nat.testBit_and, Nat.testBit_xor, Nat.testBit_two_pow, b16383]
  by_cases c : i < 14
  · rw [decide_eq_true c, Bool.true_xor]
    by_cases e : i = w
    · rw [decide_eq_true e, decide_eq_true e.symm]
    · rw [decide_eq_false e, decide_eq_false (fun x => e x.symm)]
  · have : M < 2 ^ i := Nat.lt_of_lt_of_le hM (by have := Nat.pow_le_pow_right (n := 2) (by decide) (show 14 ≤ i by omega); exact this)
    rw [Nat.testBit_lt_two_pow this, Bool.false_and, Bool.false_and]
theorem wo_lt {M w : Nat} (hM : M < 16384) : wo M w < 16384 := Nat.lt_of_le_of_lt Nat.and_le_left hM
theorem wo_nI {M w : Nat} (hM : M < 16384) (hw : w < 14) : nI M &&& (((1 : Int32) <<< (nI w &&& 31)) ^^^ (-1)) = nI (wo M w) := by
  rw [shl_nI w hw]
  apply Int32.toBitVec_inj.mp
  show BitVec.ofNat 32 M &&& (BitVec.ofNat 32 (2 ^ w) ^^^ BitVec.allOnes 32) = BitVec.ofNat 32 (wo M w)
  rw [BitVec.xor_allOnes]
  apply BitVec.eq_of_getLsbD_eq
  intro i hi
  simp only [BitVec.getLsbD_and, BitVec.getLsbD_not, BitVec.getLsbD_ofNat, hi, decide_true, Bool.true_and]
  rw [wo_bit hM, Nat.testBit_two_pow]
  by_cases e : i = w
  · rw [decide_eq_true e, decide_eq_true e.symm]
  · rw [decide_eq_false e, decide_eq_false (fun x => e x.symm)]
theorem and_pw {M w : Nat} : M &&& 2 ^ w = 0 ↔ M.testBit w = false := by
  constructor
  · intro h
    have := congrArg (fun x => Nat.testBit x w) h
    simpa [Nat.testBit_and, Nat.testBit_two_pow] using this
  · intro h
    apply Nat.eq_of_testBit_eq
    intro i
    rw [Nat.testBit_and, Nat.testBit_two_pow, Nat.zero_testBit]
    by_cases c : w = i
    · subst c
      rw [h]
      rfl
    · simp [c]
theorem pw_and {M w : Nat} : 2 ^ w &&& M = 2 ^ w ↔ M.testBit w = true := by
  constructor
  · intro h
    have := congrArg (fun x => Nat.testBit x w) h
    simpa [Nat.testBit_and, Nat.testBit_two_pow] using this
  · intro h
    apply Nat.eq_of_testBit_eq
    intro i
    rw [Nat.testBit_and, Nat.testBit_two_pow]
    by_cases c : w = i
    · subst c
      rw [h]
      simp
    · simp [c]
theorem fil_no (L : List Rg) (w : Nat) : (L.filter fun r => decide (r.1 &&& 2 ^ w = 0)) = L.filter fun r => !r.1.testBit w := by
  refine List.filter_congr (fun r _ => ?_)
  by_cases c : r.1.testBit w = true
  · rw [c, decide_eq_false (fun x => by rw [and_pw.mp x] at c; cases c)]
    rfl
  · have c : r.1.testBit w = false := by simpa using c
    rw [c, decide_eq_true (and_pw.mpr c)]
    rfl
theorem fil_ye (L : List Rg) (w : Nat) : (L.filter fun r => decide (2 ^ w &&& r.1 = 2 ^ w)) = L.filter fun r => r.1.testBit w := by
  refine List.filter_congr (fun r _ => ?_)
  by_cases c : r.1.testBit w = true
  · rw [c, decide_eq_true (pw_and.mpr c)]
  · have c' : r.1.testBit w = false := by simpa using c
    rw [c', decide_eq_false (fun x => c (pw_and.mp x))]
/-- lose: both sides go together -/
def lz (L : List Rg) (x1 x2 : Int32) (A B : Int64) : Prop := x1 = -1 ∨ ∃ i j c, x1 = nI i ∧ i < 14 ∧ x2 = nI j ∧ L[j]? = some c ∧ okR c ∧ A = c.2.1 ∧ B = c.2.2
theorem lose_L {d : CD} (ok : okD d) {σ : ES} (hc : cls σ 1 d) (hs : sto σ (rn d)) : ∀ f g w x1 x2 A B τ, w ≤ dN d → dN d - w < f → dN d - w + 1 < g → lz (rn d) x1 x2 A B → mdl τ d → ∃ y τ', e_X9_lose_L20 f x1 x2 (nI w) σ = some (y, σ) ∧ e_X10_lose_L31 g x1 0 A B (nI (om d (dN d))) (nI w) τ = some (y, τ') ∧ mrf τ τ' := by
  have h14 := ok.2.2.1
  have len := rn_len ok
  have oml : om d (dN d) < 16384 := om_14 d h14
  intro f
  induction f with
  | zero => intro g w x1 x2 A B τ h1 h2; omega
  | succ f ih =>
    intro g w x1 x2 A B τ h1 h2 h3 hz hm
    obtain ⟨g, rfl⟩ : ∃ g', g = g' + 1 := ⟨g - 1, by omega⟩
    have le : nI (dN d) ≤ nI w ↔ dN d ≤ w := nLe (by omega) (by omega)
    simp only [e_X9_lose_L20, e_X10_lose_L31, hc.2.2.1, hm.2.2.1]
    by_cases c0 : dN d ≤ w
    · rw [if_pos (le.mpr c0), if_pos (le.mpr c0)]
      exact ⟨x1, τ, rfl, rfl, fun _ _ _ => rfl, fun _ _ _ => rfl⟩
    · have hw : w < dN d := by omega
      have e7 : eI σ 7 w = dw d w 5 := hc.2.2.2.2.1 w hw 5 (by decide)
      have ob5 := om_bit d (dN d) w hw
      rw [if_neg (fun x => c0 (le.mp x)), if_neg (fun x => c0 (le.mp x)), if_pos (mib_nI (by omega) (by decide)), nIc (by omega), e7, if_pos trivial, nI_1]
      by_cases c1 : dw d w 5 = 0
      · rw [if_pos c1, if_pos ((bit_1 (by omega) (by omega)).mpr (by rw [ob5]; exact decide_eq_true c1)), wo_nI oml (by omega), shl_nI w (by omega)]
        obtain ⟨y, y1, y2⟩ := best_c hs (by omega) (rn_ok ok) (m := 2 ^ w) (p2_14 (by omega))
        rw [fil_no] at y2
        obtain ⟨τ1, r1, r2, r3⟩ := rings_f ok (O := wo (om d (dN d)) w) (m := 0) (wo_lt oml) (by omega) hm
        have el : al d (wo (om d (dN d)) w).testBit = (rn d).filter fun r => !r.1.testBit w := by
          rw [show rn d = al d (opw d) from rfl, ← al_without]
          refine al_congr (fun u hu => ?_)
          rw [wo_bit oml, om_bit d (dN d) u hu]
          rfl
        rw [fil_0', el] at r1 r3
        have r1' : e_X10_rings (nI (wo (om d (dN d)) w)) 0 τ = some (bi (bst ((rn d).filter fun r => !r.1.testBit w)).isSome, τ1) := r1
        rw [y1, ob, r1', ob]
        have m1 := mdl_mrf hm r2
        rcases y2 with ⟨e1, e2⟩ | ⟨j, b, e1, e2, e3, e4⟩
        · rw [e2, if_pos e1]
          show ∃ y τ', _ ∧ (if bi false = 0 then _ else _) = _ ∧ _
          rw [if_pos bi_f]
          have fin : ∃ g', g = g' + 1 := ⟨g - 1, by omega⟩
          obtain ⟨g, rfl⟩ := fin
          have st : ∀ a b c, e_X10_lose_L31 (g + 1) (nI w) 1 a b c (nI (w + 1)) τ1 = some (nI w, τ1) := by
            intro a b c
            simp only [e_X10_lose_L31]
            rw [if_neg (show ¬ (1 : Int32) = 0 by decide)]
            by_cases q : eI τ1 69 3 ≤ nI (w + 1)
            · rw [if_pos q]
            · rw [if_neg q]
          refine ⟨nI w, τ1, rfl, ?_, r2⟩
          simp only [e_X10_lose_J77, e_X10_lose_J103, nI_1]
          by_cases q : x1 < 0
          · rw [if_pos q, st]
          · rw [if_neg q, if_neg (by decide), st]
        · obtain ⟨t1, t2, _⟩ := r3 b e4
          have okb := rn_ok ok b (List.mem_of_getElem? e3)
          rw [e4, e1, if_neg (nI_m1 (by omega))]
          show ∃ y τ', _ ∧ (if bi true = 0 then _ else _) = _ ∧ _
          rw [if_neg (show ¬ bi true = 0 by decide)]
          simp only [e_X10_lose_J77, e_X10_lose_J103, nI_1]
          rw [t1, t2]
          have up := ih g (w + 1) (nI w) (nI j) b.2.1 b.2.2 τ1 (by omega) (by omega) (by omega) (Or.inr ⟨w, j, b, rfl, by omega, rfl, e3, okb, rfl, rfl⟩) m1
          rcases hz with z | ⟨i, l, c, z1, z2, z3, z4, z5, z6, z7⟩
          · rw [z, if_pos rfl, if_pos (by decide)]
            obtain ⟨y, τ', u1, u2, u3⟩ := up
            exact ⟨y, τ', u1, u2, ⟨fun a b q => (u3.1 a b q).trans (r2.1 a b q), fun a b q => (u3.2 a b q).trans (r2.2 a b q)⟩⟩
          · subst z1 z3 z6 z7
            rw [if_neg (nI_m1 (by omega)), if_neg (nI_pos (by omega)), if_pos trivial, order_c hs (by omega) e3 z4, ob]
            have g1 : c.2.1 * b.2.2 ≤ b.2.1 * c.2.2 ↔ ¬ gtr c b = true := by
              rw [← gtr_lt z5 okb, le64, lt64]
              omega
            by_cases q : gtr c b = true
            · have q' := (gtr_lt z5 okb).mpr q
              have e : ¬ (0 : Int32) ≤ cmpq (b.2.1 * c.2.2) (c.2.1 * b.2.2) := by
                unfold cmpq
                rw [lt64] at q'
                rw [if_neg (by rw [lt64]; omega), if_neg (fun x => by have := eq64.mp x; omega)]
                decide
              rw [if_neg e, if_neg (fun x => g1.mp x q)]
              obtain ⟨y, τ', u1, u2, u3⟩ := up
              exact ⟨y, τ', u1, u2, ⟨fun a b q => (u3.1 a b q).trans (r2.1 a b q), fun a b q => (u3.2 a b q).trans (r2.2 a b q)⟩⟩
            · have q' := g1.mpr q
              have e : (0 : Int32) ≤ cmpq (b.2.1 * c.2.2) (c.2.1 * b.2.2) := by
                unfold cmpq
                rw [le64] at q'
                by_cases x : c.2.1 * b.2.2 < b.2.1 * c.2.2
                · rw [if_pos x]
                  decide
                · rw [if_neg x, if_pos (eq64.mpr (by rw [lt64] at x; omega))]
                  decide
              rw [if_pos e, if_pos q']
              obtain ⟨y, τ', u1, u2, u3⟩ := ih g (w + 1) (nI i) (nI l) c.2.1 c.2.2 τ1 (by omega) (by omega) (by omega) (Or.inr ⟨i, l, c, rfl, z2, rfl, z4, z5, rfl, rfl⟩) m1
              exact ⟨y, τ', u1, u2, ⟨fun a b q => (u3.1 a b q).trans (r2.1 a b q), fun a b q => (u3.2 a b q).trans (r2.2 a b q)⟩⟩
      · rw [if_neg c1, if_neg (fun x => c1 (of_decide_eq_true (by rw [← ob5]; exact (bit_1 (by omega) (by omega)).mp x)))]
        exact ih g (w + 1) x1 x2 A B τ (by omega) (by omega) (by omega) hz hm
theorem sim_lose : Sim_lose Rel := by
  intro σ h
  have hR := h
  obtain ⟨⟨d, ok, hc, hm⟩, h2, h3, h4, h5, h6⟩ := h
  have h14 := ok.2.2.1
  obtain ⟨x, σ1, y1, y2, y3, y4, y5⟩ := both ok hc hm
  have R1 : Rel σ1 := Rel_kp hR (kp_gf y2)
  have c1 : cls σ1 1 d := cls_gf (by decide) hc y2
  have m1 : mdl σ1 d := mdl_gf hm y2
  rcases y5 with ⟨x0, b0⟩ | ⟨j, b, x0, hj, gj, b0, okb, s1, s2⟩
  · obtain ⟨σ', n1, n2, n3⟩ := ringsNow_m ok (mdl_fx 3 m1)
    refine ⟨-2000000001 - nI 3, fx 3 σ1, gx 3 σ', ?_, ?_, Rel_kp (Rel_find 3 R1) (kp_gx (kp_mrf n2))⟩
    · unfold e_X9_lose
      rw [y1, ob, if_pos x0, f3, ob]
    · unfold e_X10_lose
      rw [n1, ob, b0]
      show (if bi false = 0 then _ else _) = _
      rw [if_pos bi_f, g3, ob]
  · obtain ⟨σ2, n1, n2, n3⟩ := ringsNow_m ok m1
    have m2 := mdl_mrf m1 n2
    obtain ⟨y, σ3, u1, u2, u3⟩ := lose_L ok c1 y3 mN mN 0 (-1) (-1) 0 1 σ2 (by omega) (mN_big (by omega)) (mN_big (by omega)) (Or.inl rfl) m2
    refine ⟨y, σ1, σ3, ?_, ?_, Rel_kp R1 ((kp_mrf n2).trans (kp_mrf u3))⟩
    · unfold e_X9_lose
      rw [y1, ob, x0, if_neg (nI_m1 (by omega))]
      exact u1
    · unfold e_X10_lose
      rw [n1, ob, b0]
      show (if bi true = 0 then _ else _) = _
      rw [if_neg (by decide), open_eq ok m2, ob]
      exact u2
