/-! ===== texts: numbers, gains and times, both sides in step ===== -/
def fC (σ σ' : ES) : Prop := (∀ a c, ¬ (a = 57 ∧ (3 ≤ c ∧ c ≤ 8)) → eI σ' a c = eI σ a c) ∧ (∀ a c, eL σ' a c = eL σ a c) ∧ ∀ a, eT σ' a = eT σ a
theorem fC.refl (σ : ES) : fC σ σ := ⟨fun _ _ _ => rfl, fun _ _ => rfl, fun _ => rfl⟩
theorem fC.trans {σ τ υ : ES} (h : fC σ τ) (g : fC τ υ) : fC σ υ := ⟨fun a b q => (g.1 a b q).trans (h.1 a b q), fun a b => (g.2.1 a b).trans (h.2.1 a b), fun a => (g.2.2 a).trans (h.2.2 a)⟩
theorem fC_n {σ σ' : ES} (h : nfC σ σ') : fC σ σ' := ⟨fun a c q => h.1 a c (by omega), h.2.1, h.2.2⟩
theorem fC_u {σ : ES} {c : Nat} {v : Int32} (h : 3 ≤ c ∧ c ≤ 8) : fC σ (uI σ 57 c v) := ⟨fun a e q => by rw [eI_uI, if_neg (by omega)], fun _ _ => rfl, fun _ => rfl⟩
def fM (σ σ' : ES) : Prop := (∀ a c, ¬ (a = 69 ∧ (26 ≤ c ∧ c ≤ 33)) → eI σ' a c = eI σ a c) ∧ (∀ a c, eL σ' a c = eL σ a c) ∧ ∀ a, eT σ' a = eT σ a
theorem fM.refl (σ : ES) : fM σ σ := ⟨fun _ _ _ => rfl, fun _ _ => rfl, fun _ => rfl⟩
theorem fM.trans {σ τ υ : ES} (h : fM σ τ) (g : fM τ υ) : fM σ υ := ⟨fun a b q => (g.1 a b q).trans (h.1 a b q), fun a b => (g.2.1 a b).trans (h.2.1 a b), fun a => (g.2.2 a).trans (h.2.2 a)⟩
theorem fM_n {σ σ' : ES} (h : nfM σ σ') : fM σ σ' := ⟨fun a c q => h.1 a c (by omega), h.2.1, h.2.2⟩
theorem fM_u {σ : ES} {c : Nat} {v : Int32} (h : 26 ≤ c ∧ c ≤ 33) : fM σ (uI σ 69 c v) := ⟨fun a e q => by rw [eI_uI, if_neg (by omega)], fun _ _ => rfl, fun _ => rfl⟩
theorem tpC_f {σ σ' : ES} {b : Nat → Int32} {n : Nat} (h : tpC σ b n) (g : fC σ σ') : tpC σ' b n := by
  obtain ⟨h1, h2, h3⟩ := h
  refine ⟨h1, (g.1 57 0 (by omega)).trans h2, fun i hi => ?_⟩
  rw [g.1 58 i (by omega)]
  exact h3 i hi
theorem tpM_f {σ σ' : ES} {b : Nat → Int32} {n : Nat} (h : tpM σ b n) (g : fM σ σ') : tpM σ' b n := by
  obtain ⟨h1, h2, h3, h4⟩ := h
  refine ⟨h1, (g.1 69 25 (by omega)).trans h2, fun i hi => ?_, fun k hk => ?_⟩
  · rw [g.1 79 i (by omega)]
    exact h3 i hi
  · rw [g.1 80 k (by omega)]
    exact h4 k hk
def nok (t : Tok) (lo hi : Int) : Bool := decide (t.1 = 2 ∧ lo ≤ (t.2.2.2 : Int) ∧ (t.2.2.2 : Int) ≤ hi)
def wk (b : Nat → Int32) (t : Tok) (w : Nat) : Bool := decide (t.1 = 1 ∧ wdx b t.2.1 t.2.2.1 = w)
section
variable {b : Nat → Int32} {n : Nat}
/-- both sides look at one token -/
def two (b : Nat → Int32) (n : Nat) (σ τ : ES) (t : Tok) : Prop := tpC σ b n ∧ tpM τ b n ∧ stC σ t ∧ stM b τ t ∧ ∃ i, i ≤ n ∧ t = tkn b n i
theorem two_b {σ τ : ES} {t : Tok} (h : two b n σ τ t) : n ≤ 120 ∧ t.1 ≤ 4 ∧ t.2.1 ≤ t.2.2.1 ∧ t.2.2.1 ≤ n ∧ t.2.2.2 ≤ 1000000 ∧ (t.1 = 0 ↔ t.2.1 = n) ∧ (t.1 ≠ 0 → t.2.1 < t.2.2.1) := by
  obtain ⟨h1, h2, h3, h4, i, hi, rfl⟩ := h
  obtain ⟨o1, o2, o3, o4, o5, o6, o7, o8⟩ := tkn_ok b hi
  exact ⟨h1.1, o1, o4, o5, o6, o7, o8⟩
theorem two_wc {σ τ : ES} {t : Tok} (h : two b n σ τ t) {k : Nat} (hk : k < 13) : e_X6_isWord σ (1000 + k) = some (bi (wk b t (wmap.getD k 0))) := by
  obtain ⟨h1, h2, h3, h4, i, hi, rfl⟩ := h
  exact isWord_c h1 hi h3 hk
theorem two_wm {σ τ : ES} {t : Tok} (h : two b n σ τ t) {w : Nat} (hw : w < 13) : e_X10_isWord τ (nI w) = some (bi (wk b t w)) := isWord_m (two_b h).2.1 h.2.2.2.1 hw
theorem num_c {σ : ES} {t : Tok} (h1 : t.1 ≤ 4) (h2 : t.2.2.2 ≤ 1000000) (hs : stC σ t) (lo hi : Int32) : e_X6_isNumber σ lo hi = some (bi (nok t lo.toInt hi.toInt)) := by
  unfold e_X6_isNumber nok
  rw [hs.1]
  have e1 : nI t.1 = 2 ↔ t.1 = 2 := nI_i (b := 2) (by omega) (by omega)
  by_cases c : t.1 = 2
  · rw [if_pos (e1.mpr c), hs.2.2.2 c, within_eq, ob]
    by_cases q : ir lo.toInt hi.toInt (nI t.2.2.2) = true
    · have q' := ir_iff.mp q
      rw [nIt (by omega)] at q'
      rw [q, if_neg (by decide), decide_eq_true ⟨c, q'⟩]
      rfl
    · have q' : ir lo.toInt hi.toInt (nI t.2.2.2) = false := by simpa using q
      rw [q', if_pos bi_f, decide_eq_false (fun y => q (ir_iff.mpr (by rw [nIt (by omega)]; exact y.2)))]
      rfl
  · rw [if_neg (fun y => c (e1.mp y)), decide_eq_false (fun y => c y.1)]
    rfl
theorem tok1 {t : Tok} : tkM b t = 1 ↔ t.1 = 2 ∧ t.2.2.2 ≤ 999999 := by
  have wl : wdx b t.2.1 t.2.2.1 ≤ 13 := wdl_le t.2.1 t.2.2.1 13 (Nat.le_refl _)
  unfold tkM
  by_cases c0 : t.1 = 0
  · rw [if_pos c0]
    exact ⟨fun x => absurd x (by decide), fun x => by omega⟩
  · rw [if_neg c0]
    by_cases c1 : t.1 = 1
    · rw [if_pos c1]
      by_cases q : wdx b t.2.1 t.2.2.1 = 13
      · rw [if_pos q]
        exact ⟨fun x => absurd x (by decide), fun x => by omega⟩
      · have e10 : (10 : Int32) + nI (wdx b t.2.1 t.2.2.1) = nI (10 + wdx b t.2.1 t.2.2.1) := nI_add 10 _
        rw [if_neg q, e10]
        refine ⟨fun x => ?_, fun x => by omega⟩
        have := (nI_i (b := 1) (by omega) (by omega)).mp x
        omega
    · rw [if_neg c1]
      by_cases c2 : t.1 = 2
      · rw [if_pos c2]
        by_cases q : t.2.2.2 ≤ 999999
        · rw [if_pos q]
          exact ⟨fun _ => ⟨c2, q⟩, fun _ => rfl⟩
        · rw [if_neg q]
          exact ⟨fun x => absurd x (by decide), fun x => absurd x.2 q⟩
      · rw [if_neg c2]
        by_cases c3 : t.1 = 3
        · rw [if_pos c3]
          exact ⟨fun x => absurd x (by decide), fun x => by omega⟩
        · rw [if_neg c3]
          exact ⟨fun x => absurd x (by decide), fun x => by omega⟩
theorem num_m {τ : ES} (ht : tpM τ b n) {t : Tok} (hb : t.2.2.1 ≤ n) (h2 : t.2.2.2 ≤ 1000000) (hs : stM b τ t) {lo hi : Int32} (h9 : hi.toInt ≤ 999999) : (nok t lo.toInt hi.toInt = false ∧ e_X10_takesNumber lo hi τ = some (0, τ)) ∨ (nok t lo.toInt hi.toInt = true ∧ ∃ τ', e_X10_takesNumber lo hi τ = some (1, τ') ∧ fM τ τ' ∧ eI τ' 69 30 = nI t.2.2.2 ∧ eI τ' 69 32 = eI τ 69 32 ∧ eI τ' 69 33 = eI τ 69 33 ∧ tpM τ' b n ∧ stM b τ' (tkn b n t.2.2.1)) := by
  unfold e_X10_takesNumber
  rw [hs.1]
  by_cases c : t.1 = 2 ∧ t.2.2.2 ≤ 999999
  · have h29 := hs.2.2.2 c.1 c.2
    rw [if_pos (tok1.mpr c), h29, min_eq, ob, t64, t64]
    by_cases q : ir lo.toInt hi.toInt (nI t.2.2.2) = true
    · have q' := ir_iff.mp q
      rw [nIt (by omega)] at q'
      have f1 : fM τ (uI τ 69 30 (nI t.2.2.2)) := fM_u (by omega)
      obtain ⟨τ', r1, r2, r3⟩ := next_m' hb (tpM_f ht f1) (show eI (uI τ 69 30 (nI t.2.2.2)) 69 26 = nI t.2.2.1 from hs.2.2.1)
      right
      refine ⟨decide_eq_true ⟨c.1, q'⟩, τ', ?_, f1.trans (fM_n r2), ?_, r2.1 69 32 (by omega), r2.1 69 33 (by omega), tpM_f ht (f1.trans (fM_n r2)), r3⟩
      · rw [q, if_neg (by decide), r1, ob]
      · rw [r2.1 69 30 (by omega)]
        rfl
    · have q' : ir lo.toInt hi.toInt (nI t.2.2.2) = false := by simpa using q
      left
      refine ⟨decide_eq_false (fun y => q (ir_iff.mpr (by rw [nIt (by omega)]; exact y.2))), ?_⟩
      rw [q', if_pos bi_f]
  · rw [if_neg (fun y => c (tok1.mp y))]
    left
    refine ⟨decide_eq_false (fun y => c ⟨y.1, by omega⟩), rfl⟩
theorem two_next {σ τ : ES} {t : Tok} (h : two b n σ τ t) : ∃ σ' τ', e_X6_next σ = some σ' ∧ e_X10_next τ = some τ' ∧ two b n σ' τ' (tkn b n t.2.2.1) ∧ nfC σ σ' ∧ nfM τ τ' := by
  have bb := two_b h
  obtain ⟨h1, h2, h3, h4, _⟩ := h
  obtain ⟨σ', r1, r2, r3⟩ := next_c bb.2.2.2.1 h1 h3.2.2.1
  obtain ⟨τ', s1, s2, s3⟩ := next_m' bb.2.2.2.1 h2 h4.2.2.1
  exact ⟨σ', τ', r1, s1, ⟨tpC_nf h1 r2, tpM_nf h2 s2, r3, s3, _, bb.2.2.2.1, rfl⟩, r2, s2⟩
theorem nxt_c {σ τ τ' : ES} {t : Tok} (h : two b n σ τ t) {c : Nat} {v : Int32} (hc : 6 ≤ c ∧ c ≤ 8) (ht : tpM τ' b n) (hs : stM b τ' (tkn b n t.2.2.1)) : ∃ σ', e_X6_next (uI σ 57 c v) = some σ' ∧ fC σ σ' ∧ two b n σ' τ' (tkn b n t.2.2.1) ∧ (∀ e, 7 ≤ e → eI σ' 57 e = eI (uI σ 57 c v) 57 e) := by
  have bb := two_b h
  have f1 : fC σ (uI σ 57 c v) := fC_u (by omega)
  have h5 : eI (uI σ 57 c v) 57 5 = nI t.2.2.1 := by
    rw [eI_uI, if_neg (by omega)]
    exact h.2.2.1.2.2.1
  obtain ⟨σ', r1, r2, r3⟩ := next_c bb.2.2.2.1 (tpC_f h.1 f1) h5
  exact ⟨σ', r1, f1.trans (fC_n r2), ⟨tpC_f h.1 (f1.trans (fC_n r2)), ht, r3, hs, _, bb.2.2.2.1, rfl⟩, fun e he => r2.1 57 e (by omega)⟩
theorem nx_ge {σ τ : ES} {t : Tok} (h : two b n σ τ t) : t.2.1 ≤ (tkn b n t.2.2.1).2.1 ∧ (t.1 ≠ 0 → t.2.1 < (tkn b n t.2.2.1).2.1) := by
  have bb := two_b h
  have o := (tkn_ok b bb.2.2.2.1).2.1
  exact ⟨by omega, fun x => by have := bb.2.2.2.2.2.2 x; omega⟩
/-- perhaps a time -/
theorem time_2 {σ τ : ES} {t : Tok} (h : two b n σ τ t) {g : Int32} (h7 : eI σ 57 7 = g) (h8 : eI σ 57 8 = 1) (h32 : eI τ 69 32 = g) (h33 : eI τ 69 33 = 1) : ∃ y t' tm σ' τ', e_X6_gainAndTime_J70 σ = some (bi y, σ') ∧ e_X10_readsGainAndTime_J72 τ = some (bi y, τ') ∧ fC σ σ' ∧ fM τ τ' ∧ two b n σ' τ' t' ∧ t.2.1 ≤ t'.2.1 ∧ (y = true → eI σ' 57 7 = g ∧ eI σ' 57 8 = tm ∧ eI τ' 69 32 = g ∧ eI τ' 69 33 = tm ∧ 1 ≤ tm.toInt ∧ tm.toInt ≤ 999999) := by
  have wc := two_wc h (k := 11) (by omega)
  have wm := two_wm h (w := 11) (by omega)
  have wm' : e_X10_isWord τ 11 = some (bi (wk b t 11)) := wm
  unfold e_X6_gainAndTime_J70 e_X10_readsGainAndTime_J72
  rw [wc, ob, wm', ob, show wmap.getD 11 0 = 11 from rfl]
  by_cases c : wk b t 11 = true
  · rw [c, if_neg (by decide), if_neg (by decide)]
    obtain ⟨σ1, τ1, r1, r2, r3, r4, r5⟩ := two_next h
    have b1 := two_b r3
    rw [r1, ob, r2, ob, num_c b1.2.1 b1.2.2.2.2.1 r3.2.2.1 1 999999, ob]
    rcases num_m r3.2.1 b1.2.2.2.1 b1.2.2.2.2.1 r3.2.2.2.1 (lo := 1) (hi := 999999) (by decide) with ⟨q1, q2⟩ | ⟨q1, τ2, q2, q3, q4, q5, q6, q7, q8⟩
    · rw [q1, if_pos bi_f, q2, ob, if_pos rfl]
      exact ⟨false, _, 0, σ1, τ1, rfl, rfl, fC_n r4, fM_n r5, r3, (nx_ge h).1, fun x => by cases x⟩
    · rw [q1, if_neg (by decide), q2, ob, if_neg (show ¬ (1 : Int32) = 0 by decide)]
      have v := (of_decide_eq_true q1 : _ ∧ _)
      have e6 := r3.2.2.1.2.2.2 v.1
      obtain ⟨σ2, s1, s2, s3, s4⟩ := nxt_c r3 (c := 8) (v := eI σ1 57 6) (by omega) q7 q8
      rw [s1, ob]
      have f33 : fM τ2 (uI τ2 69 33 (eI τ2 69 30)) := fM_u (by omega)
      refine ⟨true, _, nI (tkn b n t.2.2.1).2.2.2, σ2, _, rfl, rfl, (fC_n r4).trans s2, ((fM_n r5).trans q3).trans f33, ⟨s3.1, tpM_f s3.2.1 f33, s3.2.2.1, s3.2.2.2.1, s3.2.2.2.2⟩, Nat.le_trans (nx_ge h).1 (nx_ge r3).1, fun _ => ⟨?_, ?_, ?_, ?_, ?_, ?_⟩⟩
      · rw [s4 7 (by omega), eI_uI, if_neg (by omega), r4.1 57 7 (by omega)]
        exact h7
      · rw [s4 8 (by omega), eI_uI, if_pos ⟨rfl, rfl⟩]
        exact e6
      · show eI τ2 69 32 = g
        rw [q5, r5.1 69 32 (by omega)]
        exact h32
      · show eI τ2 69 30 = _
        exact q4
      · rw [nIt (by omega)]
        exact v.2.1
      · rw [nIt (by omega)]
        exact v.2.2
  · have c' : wk b t 11 = false := by simpa using c
    rw [c', if_pos bi_f, if_pos bi_f]
    exact ⟨true, t, 1, σ, τ, rfl, rfl, fC.refl σ, fM.refl τ, h, Nat.le_refl _, fun _ => ⟨h7, h8, h32, h33, by decide, by decide⟩⟩
/-- perhaps a gain or a loss, perhaps a time -/
theorem gain_2 {σ τ : ES} {t : Tok} (h : two b n σ τ t) : ∃ y t' g tm σ' τ', e_X6_gainAndTime σ = some (bi y, σ') ∧ e_X10_readsGainAndTime τ = some (bi y, τ') ∧ fC σ σ' ∧ fM τ τ' ∧ two b n σ' τ' t' ∧ t.2.1 ≤ t'.2.1 ∧ (y = true → eI σ' 57 7 = g ∧ eI σ' 57 8 = tm ∧ eI τ' 69 32 = g ∧ eI τ' 69 33 = tm ∧ -999999 ≤ g.toInt ∧ g.toInt ≤ 999999 ∧ 1 ≤ tm.toInt ∧ tm.toInt ≤ 999999) := by
  obtain ⟨σ0, hσ0⟩ : ∃ σ0, σ0 = uI (uI σ 57 7 0) 57 8 1 := ⟨_, rfl⟩
  obtain ⟨τ0, hτ0⟩ : ∃ τ0, τ0 = uI (uI τ 69 32 0) 69 33 1 := ⟨_, rfl⟩
  have fc0 : fC σ σ0 := by rw [hσ0]; exact (fC_u (by omega)).trans (fC_u (by omega))
  have fm0 : fM τ τ0 := by rw [hτ0]; exact (fM_u (by omega)).trans (fM_u (by omega))
  have h0 : two b n σ0 τ0 t := by
    obtain ⟨h1, h2, h3, h4, h5⟩ := h
    refine ⟨tpC_f h1 fc0, tpM_f h2 fm0, ?_, ?_, h5⟩
    · rw [hσ0]
      exact h3
    · rw [hτ0]
      exact h4
  have wl := two_wc h0 (k := 9) (by omega)
  have wg := two_wc h0 (k := 10) (by omega)
  have ml := two_wm h0 (w := 10) (by omega)
  have mg := two_wm h0 (w := 9) (by omega)
  have ml' : e_X10_isWord τ0 10 = some (bi (wk b t 10)) := ml
  have mg' : e_X10_isWord τ0 9 = some (bi (wk b t 9)) := mg
  unfold e_X6_gainAndTime e_X10_readsGainAndTime
  rw [← hσ0, ← hτ0, wl, ob, wg, ob, mg', ob, ml', ob, show wmap.getD 9 0 = 10 from rfl, show wmap.getD 10 0 = 9 from rfl]
  have step : ∃ y t' g tm σ' τ', e_X6_gainAndTime_J30 (bi (wk b t 10)) σ0 = some (bi y, σ') ∧ e_X10_readsGainAndTime_J28 τ0 = some (bi y, τ') ∧ fC σ σ' ∧ fM τ τ' ∧ two b n σ' τ' t' ∧ t.2.1 ≤ t'.2.1 ∧ (y = true → eI σ' 57 7 = g ∧ eI σ' 57 8 = tm ∧ eI τ' 69 32 = g ∧ eI τ' 69 33 = tm ∧ -999999 ≤ g.toInt ∧ g.toInt ≤ 999999 ∧ 1 ≤ tm.toInt ∧ tm.toInt ≤ 999999) := by
    unfold e_X6_gainAndTime_J30 e_X10_readsGainAndTime_J28
    obtain ⟨σ1, τ1, r1, r2, r3, r4, r5⟩ := two_next h0
    have b1 := two_b r3
    rw [r1, ob, ml', ob, r2, ob, num_c b1.2.1 b1.2.2.2.2.1 r3.2.2.1 0 999999, ob]
    rcases num_m r3.2.1 b1.2.2.2.1 b1.2.2.2.2.1 r3.2.2.2.1 (lo := 0) (hi := 999999) (by decide) with ⟨q1, q2⟩ | ⟨q1, τ2, q2, q3, q4, q5, q6, q7, q8⟩
    · rw [q1, if_pos bi_f, q2, ob, if_pos rfl]
      exact ⟨false, _, 0, 0, σ1, τ1, rfl, rfl, fc0.trans (fC_n r4), fm0.trans (fM_n r5), r3, (nx_ge h0).1, fun x => by cases x⟩
    · rw [q1, if_neg (by decide), q2, ob, if_neg (show ¬ (1 : Int32) = 0 by decide)]
      have v := (of_decide_eq_true q1 : _ ∧ _)
      have e6 := r3.2.2.1.2.2.2 v.1
      have v2 : ((tkn b n t.2.2.1).2.2.2 : Int) ≤ 999999 := v.2.2
      have cont : ∀ gg : Int32, -999999 ≤ gg.toInt → gg.toInt ≤ 999999 → ∃ y t' g tm σ' τ', e_X6_gainAndTime_J63 gg σ1 = some (bi y, σ') ∧ e_X10_readsGainAndTime_J69 gg τ2 = some (bi y, τ') ∧ fC σ σ' ∧ fM τ τ' ∧ two b n σ' τ' t' ∧ t.2.1 ≤ t'.2.1 ∧ (y = true → eI σ' 57 7 = g ∧ eI σ' 57 8 = tm ∧ eI τ' 69 32 = g ∧ eI τ' 69 33 = tm ∧ -999999 ≤ g.toInt ∧ g.toInt ≤ 999999 ∧ 1 ≤ tm.toInt ∧ tm.toInt ≤ 999999) := by
        intro g g1 g2
        unfold e_X6_gainAndTime_J63 e_X10_readsGainAndTime_J69
        obtain ⟨σ2, s1, s2, s3, s4⟩ := nxt_c r3 (c := 7) (v := g) (by omega) q7 q8
        rw [s1, ob]
        have f32 : fM τ2 (uI τ2 69 32 g) := fM_u (by omega)
        have h8 : eI σ1 57 8 = 1 := by
          rw [r4.1 57 8 (by omega), hσ0]
          rfl
        have h33 : eI τ2 69 33 = 1 := by
          rw [q6, r5.1 69 33 (by omega), hτ0]
          rfl
        obtain ⟨y, t', tm, σ3, τ3, u1, u2, u3, u4, u5, u7, u6⟩ := time_2 (τ := uI τ2 69 32 g) ⟨s3.1, tpM_f s3.2.1 f32, s3.2.2.1, s3.2.2.2.1, s3.2.2.2.2⟩ (g := g) (by rw [s4 7 (by omega), eI_uI, if_pos ⟨rfl, rfl⟩]) (by rw [s4 8 (by omega), eI_uI, if_neg (by omega)]; exact h8) rfl h33
        exact ⟨y, t', g, tm, σ3, τ3, u1, u2, ((fc0.trans (fC_n r4)).trans s2).trans u3, (((fm0.trans (fM_n r5)).trans q3).trans f32).trans u4, u5, Nat.le_trans (nx_ge h0).1 (Nat.le_trans (nx_ge r3).1 u7), fun x => by
          obtain ⟨a1, a2, a3, a4, a5, a6⟩ := u6 x
          exact ⟨a1, a2, a3, a4, g1, g2, a5, a6⟩⟩
      rw [e6, q4]
      by_cases c : wk b t 10 = true
      · rw [c, if_neg (by decide), if_neg (by decide)]
        have ng : (-(nI (tkn b n t.2.2.1).2.2.2)).toInt = -((tkn b n t.2.2.1).2.2.2 : Int) := by
          rw [neg32, nIt (by omega)]
          rw [nIt (by omega)]
          omega
        exact cont _ (by rw [ng]; omega) (by rw [ng]; omega)
      · have c' : wk b t 10 = false := by simpa using c
        rw [c', if_pos bi_f, if_pos bi_f]
        exact cont _ (by rw [nIt (by omega)]; omega) (by rw [nIt (by omega)]; exact v2)
  by_cases cl : wk b t 10 = true
  · rw [cl] at step ⊢
    rw [if_neg (show ¬ bi true = 0 by decide)]
    by_cases cg : wk b t 9 = true
    · rw [cg, if_neg (show ¬ bi true = 0 by decide)]
      exact step
    · have cg' : wk b t 9 = false := by simpa using cg
      rw [cg', if_pos bi_f, if_neg (show ¬ bi true = 0 by decide)]
      exact step
  · have cl' : wk b t 10 = false := by simpa using cl
    rw [cl'] at step ⊢
    rw [if_pos bi_f]
    by_cases cg : wk b t 9 = true
    · rw [cg, if_neg (show ¬ bi true = 0 by decide), if_neg (show ¬ bi true = 0 by decide)]
      exact step
    · have cg' : wk b t 9 = false := by simpa using cg
      rw [cg', if_pos bi_f, if_pos bi_f, if_pos bi_f]
      obtain ⟨y, t', tm, σ3, τ3, u1, u2, u3, u4, u5, u7, u6⟩ := time_2 h0 (g := 0) (by rw [hσ0]; rfl) (by rw [hσ0]; rfl) (by rw [hτ0]; rfl) (by rw [hτ0]; rfl)
      exact ⟨y, t', 0, tm, σ3, τ3, u1, u2, fc0.trans u3, fm0.trans u4, u5, u7, fun x => by
        obtain ⟨a1, a2, a3, a4, a5, a6⟩ := u6 x
        exact ⟨a1, a2, a3, a4, by decide, by decide, a5, a6⟩⟩
end
