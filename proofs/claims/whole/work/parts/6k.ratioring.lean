/-! ===== rings of sets: the codes ===== -/
section
variable {d : CD} {σ τ : ES} {S s : Nat}
theorem RngU {g' : Nat} {w' at'' : Nat → Nat} (h1 : trk d S s g' w' at'') (h2 : dis g' at'') (h3 : stw w' g' = S) {k : Nat} {w at' : Nat → Nat} (h : trk d S s k w at') : ∀ j, j ≤ k → j ≤ g' → at' j = at'' j ∧ (j < k → j < g' → w j = w' j) := by
  have wj : ∀ j, j < k → j < g' → at' j = at'' j → w j = w' j := by
    intro j jk jg e
    obtain ⟨a1, a2, a3, a4⟩ := h.2 j jk
    rw [← h3, stw_bit] at a2
    obtain ⟨i, i1, i2⟩ := a2
    obtain ⟨b1, b2, b3, b4⟩ := h1.2 i i1
    have : at'' i = at'' j := by rw [← e, ← a3, ← i2, b3]
    by_cases c : i = j
    · rw [← i2, c]
    · by_cases l : i < j
      · exact absurd this (h2 i j l jg)
      · exact absurd this.symm (h2 j i (by omega) i1)
  intro j
  induction j with
  | zero =>
    intro _ _
    have e : at' 0 = at'' 0 := by rw [h.1, h1.1]
    exact ⟨e, fun a b => wj 0 a b e⟩
  | succ j ih =>
    intro jk jg
    obtain ⟨i1, i2⟩ := ih (by omega) (by omega)
    have ew := i2 (by omega) (by omega)
    have e : at' (j + 1) = at'' (j + 1) := by
      rw [(h.2 j (by omega)).2.2.2, (h1.2 j (by omega)).2.2.2, ew]
    exact ⟨e, fun a b => wj (j + 1) a b e⟩
theorem stw_ext {w w' : Nat → Nat} : ∀ k, (∀ j, j < k → w j = w' j) → stw w k = stw w' k := by
  intro k
  induction k with
  | zero => exact fun _ => rfl
  | succ k ih =>
    intro h
    show stw w k ||| 2 ^ w k = stw w' k ||| 2 ^ w' k
    rw [ih (fun j hj => h j (by omega)), h k (by omega)]
theorem sub_cnt {A : Nat} (hs : ∀ i, A.testBit i = true → S.testBit i = true) : ∀ n, sgm (fun _ => 1) A n ≤ sgm (fun _ => 1) S n ∧ (sgm (fun _ => 1) A n = sgm (fun _ => 1) S n → ∀ i, i < n → A.testBit i = S.testBit i) := by
  intro n
  induction n with
  | zero => exact ⟨Int.le_refl _, fun _ i hi => by omega⟩
  | succ n ih =>
    obtain ⟨i1, i2⟩ := ih
    rw [sgm_s, sgm_s]
    by_cases a : A.testBit n = true
    · have b := hs n a
      rw [if_pos a, if_pos b]
      refine ⟨by omega, fun e i hi => ?_⟩
      by_cases c : i = n
      · rw [c, a, b]
      · exact i2 (by omega) i (by omega)
    · rw [if_neg a]
      by_cases b : S.testBit n = true
      · rw [if_pos b]
        exact ⟨by omega, fun e => by omega⟩
      · rw [if_neg b]
        refine ⟨by omega, fun e i hi => ?_⟩
        by_cases c : i = n
        · rw [c]
          have a' : A.testBit n = false := by simpa using a
          have b' : S.testBit n = false := by simpa using b
          rw [a', b']
        · exact i2 (by omega) i (by omega)
theorem trk_ext {k i : Nat} {w at' : Nat → Nat} (h : trk d S s k w at') (i1 : i < dN d) (i2 : S.testBit i = true) (i3 : wf d i = at' k) : trk d S s (k + 1) (fun j => if j = k then i else w j) (fun j => if j = k + 1 then wt d i else at' j) := by
  refine ⟨?_, fun j hj => ?_⟩
  · show (if 0 = k + 1 then _ else _) = s
    rw [if_neg (by omega)]
    exact h.1
  · show (if j = k then i else w j) < dN d ∧ S.testBit (if j = k then i else w j) = true ∧ wf d (if j = k then i else w j) = (if j = k + 1 then wt d i else at' j) ∧ (if j + 1 = k + 1 then wt d i else at' (j + 1)) = wt d (if j = k then i else w j)
    by_cases c : j = k
    · rw [if_pos c, if_neg (show ¬ j = k + 1 by omega), if_pos (show j + 1 = k + 1 by omega), c]
      exact ⟨i1, i2, i3, rfl⟩
    · rw [if_neg c, if_neg (show ¬ j = k + 1 by omega), if_neg (show ¬ j + 1 = k + 1 by omega)]
      exact h.2 j (by omega)
theorem trk_lt (ok : okD d) (hs : s < dP d) {k : Nat} {w at' : Nat → Nat} (h : trk d S s k w at') : ∀ j, j ≤ k → at' j < dP d := by
  intro j hj
  cases j with
  | zero =>
    rw [h.1]
    exact hs
  | succ j =>
    obtain ⟨a1, a2, a3, a4⟩ := h.2 j (by omega)
    rw [a4]
    exact (wt_eq ok a1).2
theorem ringC (ok : okD d) (hc : cls σ 1 d) (hS : S < 2 ^ dN d) (hs : s < dP d) : ∀ f k w at', k ≤ 6 → 6 - k < f → trk d S s k w at' → (∀ j, 0 < j → j ≤ k → at' j ≠ s) → (∀ j, j < k → e_X1_firstFrom_1 σ (nI S) (nI (at' j)) = some (nI (w j))) → ∃ b, e_X1_isRing_1_L27 σ (nI S) f (nI s) (nI (at' k)) (nI (k + 1)) = some (bi b) ∧ (b = true ↔ Rng d S s) := by
  have h14 := ok.2.2.1
  have P6 := ok.1
  have pw : 2 ^ dN d ≤ 16384 := Nat.pow_le_pow_right (n := 2) (by decide) h14
  intro f
  induction f with
  | zero => intro k w at' h1 h2; omega
  | succ f ih =>
    intro k w at' h1 h2 ht hn hff
    have lat := trk_lt ok hs ht
    have nob : ∀ g' w' at'', 1 ≤ g' → trk d S s g' w' at'' → at'' g' = s → dis g' at'' → stw w' g' = S → k < g' := by
      intro g' w' at'' r1 r2 r3 r4 r5
      by_cases c : k < g'
      · exact c
      · have := (RngU r2 r4 r5 ht g' (by omega) (Nat.le_refl _)).1
        rw [r3] at this
        exact absurd this (hn g' (by omega) (by omega))
    have lt : (6 : Int32) < nI (k + 1) ↔ 6 < k + 1 := nLt (a := 6) (by omega) (by omega)
    simp only [e_X1_isRing_1_L27]
    by_cases q : 6 < k + 1
    · rw [if_pos (lt.mpr q)]
      refine ⟨false, rfl, ⟨fun x => (by cases x), ?_⟩⟩
      rintro ⟨g', w', at'', r1, r2, r3, r4, r5⟩
      have a := nob g' w' at'' r1 r2 r3 r4 r5
      have b := dis_le (P := dP d) r4 (fun j hj => by rw [← (r2.2 j hj).2.2.1]; exact (wf_eq ok (r2.2 j hj).1).2)
      omega
    · rw [if_neg (fun y => q (lt.mp y))]
      have ak := lat k (Nat.le_refl _)
      obtain ⟨y, y1, y2⟩ := first_c ok hc (S := S) (p := at' k) (by omega) (by omega)
      rw [y1, ob]
      rcases y2 with ⟨a, b⟩ | ⟨i, i1, i2, i3, i4⟩
      · rw [if_pos a]
        refine ⟨false, rfl, ⟨fun x => (by cases x), ?_⟩⟩
        rintro ⟨g', w', at'', r1, r2, r3, r4, r5⟩
        have l := nob g' w' at'' r1 r2 r3 r4 r5
        have e := (RngU r2 r4 r5 ht k (Nat.le_refl _) (by omega)).1
        obtain ⟨z1, z2, z3, z4⟩ := r2.2 k l
        exact absurd (by rw [z3, e]) (b (w' k) z1 z2)
      · obtain ⟨et, lt'⟩ := wt_eq ok i1
        have e4 : eI σ 4 i = dw d i 2 := hc.2.2.2.2.1 i i1 2 (by decide)
        have t2 := trk_ext ht i1 i3 i4
        rw [i2, if_neg (nI_m1 (by omega)), if_pos (mib_nI (by omega) (by decide)), nIc (by omega), e4, et, nI_1]
        have ff2 : ∀ j, j < k + 1 → e_X1_firstFrom_1 σ (nI S) (nI ((fun j => if j = k + 1 then wt d i else at' j) j)) = some (nI ((fun j => if j = k then i else w j) j)) := by
          intro j hj
          show e_X1_firstFrom_1 σ (nI S) (nI (if j = k + 1 then wt d i else at' j)) = some (nI (if j = k then i else w j))
          rw [if_neg (by omega)]
          by_cases c : j = k
          · rw [if_pos c, c, y1, i2]
          · rw [if_neg c]
            exact hff j (by omega)
        by_cases c : wt d i = s
        · rw [if_pos ((nI_i (by omega) (by omega)).mpr c), bc_eq (by omega), ob]
          have pl := pcl_le 14 S
          have eqc : nI (k + 1) = nI (pcl 14 S) ↔ k + 1 = pcl 14 S := nI_i (by omega) (by omega)
          have last : (fun j => if j = k + 1 then wt d i else at' j) (k + 1) = s := by
            show (if k + 1 = k + 1 then wt d i else at' (k + 1)) = s
            rw [if_pos rfl]
            exact c
          have mid : ∀ j, 0 < j → j ≤ k → (fun j => if j = k + 1 then wt d i else at' j) j ≠ s := by
            intro j j1 j2
            show (if j = k + 1 then wt d i else at' j) ≠ s
            rw [if_neg (by omega)]
            exact hn j j1 j2
          have core : k + 1 = pcl 14 S ↔ Rng d S s := by
            generalize hat : (fun j => if j = k + 1 then wt d i else at' j) = at2 at t2 ff2 last mid
            generalize hww : (fun j => if j = k then i else w j) = w2 at t2 ff2
            constructor
            · intro e
              have det : ∀ a b, a < k + 1 → b < k + 1 → at2 a = at2 b → w2 a = w2 b := by
                intro a b a1 b1 x
                have := ff2 a a1
                rw [x, ff2 b b1] at this
                have := Option.some.inj this
                have wa := (t2.2 a a1).1
                have wb := (t2.2 b b1).1
                exact ((nI_i (by omega) (by omega)).mp this).symm
              have di : dis (k + 1) at2 := by
                intro a b ab bk x
                have sh : ∀ t, b + t ≤ k + 1 → at2 (a + t) = at2 (b + t) := by
                  intro t
                  induction t with
                  | zero => exact fun _ => x
                  | succ t iht =>
                    intro hb
                    have := iht (by omega)
                    have ww := det (a + t) (b + t) (by omega) (by omega) this
                    show at2 (a + t + 1) = at2 (b + t + 1)
                    rw [(t2.2 (a + t) (by omega)).2.2.2, (t2.2 (b + t) (by omega)).2.2.2, ww]
                have := sh (k + 1 - b) (by omega)
                rw [show b + (k + 1 - b) = k + 1 by omega, last] at this
                exact mid (a + (k + 1 - b)) (by omega) (by omega) this
              refine ⟨k + 1, w2, at2, by omega, t2, last, di, ?_⟩
              have cnt := stw_cnt h14 w2 (k + 1) (fun j hj => (t2.2 j hj).1) (dis_w t2 di)
              have cS := sgm_1 (dN d) h14 S hS
              have sub := sub_cnt (S := S) (A := stw w2 (k + 1)) (fun j hj => by
                obtain ⟨x, x1, x2⟩ := (stw_bit w2 j (k + 1)).mp hj
                rw [← x2]
                exact (t2.2 x x1).2.1) (dN d)
              have eqb := sub.2 (by omega)
              have lA := stw_lt (n := dN d) w2 (k + 1) (fun j hj => (t2.2 j hj).1)
              apply Nat.eq_of_testBit_eq
              intro j
              by_cases l : j < dN d
              · exact eqb j l
              · rw [Nat.testBit_lt_two_pow (Nat.lt_of_lt_of_le lA (Nat.pow_le_pow_right (by decide) (by omega))), Nat.testBit_lt_two_pow (Nat.lt_of_lt_of_le hS (Nat.pow_le_pow_right (by decide) (by omega)))]
            · rintro ⟨g', w', at'', r1, r2, r3, r4, r5⟩
              have l := nob g' w' at'' r1 r2 r3 r4 r5
              have eg : g' = k + 1 := by
                by_cases x : g' = k + 1
                · exact x
                · have u := (RngU r2 r4 r5 t2 (k + 1) (Nat.le_refl _) (by omega)).1
                  rw [last] at u
                  have := r4 0 (k + 1) (by omega) (by omega)
                  rw [r2.1] at this
                  exact absurd u this
              have cnt := stw_cnt h14 w' g' (fun j hj => (r2.2 j hj).1) (dis_w r2 r4)
              rw [r5, sgm_1 (dN d) h14 S hS] at cnt
              omega
          by_cases x : k + 1 = pcl 14 S
          · rw [if_pos (eqc.mpr x)]
            exact ⟨true, rfl, ⟨fun _ => core.mp x, fun _ => rfl⟩⟩
          · rw [if_neg (fun z => x (eqc.mp z))]
            exact ⟨false, rfl, ⟨fun z => (by cases z), fun z => absurd (core.mpr z) x⟩⟩
        · rw [if_neg (fun z => c ((nI_i (by omega) (by omega)).mp z))]
          have := ih (k + 1) _ _ (by omega) (by omega) t2 (fun j j1 j2 => by
            show (if j = k + 1 then wt d i else at' j) ≠ s
            by_cases x : j = k + 1
            · rw [if_pos x]
              exact c
            · rw [if_neg x]
              exact hn j j1 (by omega)) ff2
          rw [if_pos (show k + 1 = k + 1 from rfl)] at this
          exact this
theorem ringR (ok : okD d) (hm : mdl τ d) (hS : S < 2 ^ dN d) (hs : s < dP d) : ∀ f k w at', 7 - k < f → trk d S s k w at' → dis k at' → ∃ b, e_X10_isRound_L32 τ (nI S) f (nI s) (nI (stw w k)) (nI (at' k)) (nI (stw at' k)) = some (bi b) ∧ (b = true ↔ Rng d S s) := by
  have h14 := ok.2.2.1
  have P6 := ok.1
  have pw : 2 ^ dN d ≤ 16384 := Nat.pow_le_pow_right (n := 2) (by decide) h14
  intro f
  induction f with
  | zero => intro k w at' h1; omega
  | succ f ih =>
    intro k w at' h1 ht hd
    have lat := trk_lt ok hs ht
    have k6 : k ≤ 6 := by
      have := dis_le (P := dP d) hd (fun j hj => lat j (by omega))
      omega
    have ak := lat k (Nat.le_refl _)
    have sl := stw_lt (n := dN d) w k (fun j hj => (ht.2 j hj).1)
    have al := stw_lt (n := 6) at' k (fun j hj => by have := lat j (by omega); omega)
    simp only [e_X10_isRound_L32]
    by_cases q : (stw at' k).testBit (at' k) = true
    · rw [if_neg (fun y => by rw [(bit_0 (by omega) (by omega)).mp y] at q; cases q)]
      obtain ⟨j0, j1, j2⟩ := (stw_bit at' (at' k) k).mp q
      have core : (at' k = s ∧ stw w k = S) ↔ Rng d S s := by
        constructor
        · rintro ⟨a, b⟩
          exact ⟨k, w, at', by omega, ht, a, hd, b⟩
        · rintro ⟨g', w', at'', r1, r2, r3, r4, r5⟩
          have eg : g' = k := by
            by_cases x : k < g'
            · have a := (RngU r2 r4 r5 ht k (Nat.le_refl _) (by omega)).1
              have b := (RngU r2 r4 r5 ht j0 (by omega) (by omega)).1
              rw [a, b] at j2
              exact absurd j2 (r4 j0 k j1 x)
            · by_cases z : g' < k
              · have a := (RngU r2 r4 r5 ht g' (by omega) (Nat.le_refl _)).1
                have b := hd 0 g' (by omega) z
                rw [a, r3, ht.1] at b
                exact absurd rfl b
              · omega
          subst eg
          have u := RngU r2 r4 r5 ht
          refine ⟨by rw [(u g' (Nat.le_refl _) (Nat.le_refl _)).1, r3], ?_⟩
          rw [stw_ext g' (fun j hj => (u j (by omega) (by omega)).2 hj hj), r5]
      by_cases a : at' k = s
      · rw [if_pos ((nI_i (by omega) (by omega)).mpr a)]
        by_cases b : stw w k = S
        · rw [if_pos ((nI_i (by omega) (by omega)).mpr b)]
          exact ⟨true, rfl, ⟨fun _ => core.mp ⟨a, b⟩, fun _ => rfl⟩⟩
        · rw [if_neg (fun y => b ((nI_i (by omega) (by omega)).mp y))]
          exact ⟨false, rfl, ⟨fun z => (by cases z), fun z => absurd (core.mpr z).2 b⟩⟩
      · rw [if_neg (fun y => a ((nI_i (by omega) (by omega)).mp y))]
        exact ⟨false, rfl, ⟨fun z => (by cases z), fun z => absurd (core.mpr z).1 a⟩⟩
    · have q' : (stw at' k).testBit (at' k) = false := by simpa using q
      rw [if_pos ((bit_0 (by omega) (by omega)).mpr q')]
      have new : ∀ j, j < k → at' j ≠ at' k := fun j hj x => q ((stw_bit at' (at' k) k).mpr ⟨j, hj, x⟩)
      have nob : ∀ g' w' at'', 1 ≤ g' → trk d S s g' w' at'' → at'' g' = s → dis g' at'' → stw w' g' = S → k < g' := by
        intro g' w' at'' r1 r2 r3 r4 r5
        by_cases c : k < g'
        · exact c
        · have a := (RngU r2 r4 r5 ht g' (by omega) (Nat.le_refl _)).1
          rw [r3] at a
          by_cases z : g' = k
          · have := new 0 (by omega)
            rw [ht.1, ← z, a] at this
            exact absurd rfl this
          · have b := hd 0 g' (by omega) (by omega)
            rw [a, ht.1] at b
            exact absurd rfl b
      obtain ⟨y, y1, y2⟩ := wayFrom_m ok hm (S := S) (p := at' k) (by omega) (by omega)
      rw [y1, ob]
      rcases y2 with ⟨i, i1, i2⟩ | ⟨i1, i2⟩
      · have m : i ∈ wfl d S (at' k) := by rw [i1]; exact List.mem_singleton.mpr rfl
        obtain ⟨m1, m2, m3⟩ := wfl_mem.mp m
        obtain ⟨et, lt'⟩ := wt_eq ok m1
        have t2 := trk_ext ht m1 m2 m3
        have pi := p2_14 (t := i) (by omega)
        have pa := p2_14 (t := at' k) (by omega)
        rw [i2, if_pos (nI_pos' (by omega)), m_at ok hm m1 2 (by decide) 2 rfl, ob, et, shl_nI i (by omega), shl_nI (at' k) (by omega), or_nI (by omega) (by omega), or_nI (by omega) (by omega)]
        have := ih (k + 1) _ _ (by omega) t2 (fun a b ab bk => by
          show (if a = k + 1 then wt d i else at' a) ≠ (if b = k + 1 then wt d i else at' b)
          rw [if_neg (by omega), if_neg (by omega)]
          by_cases x : b = k
          · rw [x]
            exact new a (by omega)
          · exact hd a b ab (by omega))
        have e1 : stw (fun j => if j = k then i else w j) (k + 1) = stw w k ||| 2 ^ i := by
          show stw (fun j => if j = k then i else w j) k ||| 2 ^ (if k = k then i else w k) = _
          rw [if_pos rfl, stw_ext k (fun j hj => if_neg (by omega))]
        have e2 : stw (fun j => if j = k + 1 then wt d i else at' j) (k + 1) = stw at' k ||| 2 ^ at' k := by
          show stw (fun j => if j = k + 1 then wt d i else at' j) k ||| 2 ^ (if k = k + 1 then wt d i else at' k) = _
          rw [if_neg (by omega), stw_ext k (fun j hj => if_neg (by omega))]
        rw [e1, e2, if_pos (show k + 1 = k + 1 from rfl)] at this
        exact this
      · rw [i2, if_neg (by decide)]
        refine ⟨false, rfl, ⟨fun x => (by cases x), ?_⟩⟩
        rintro ⟨g', w', at'', r1, r2, r3, r4, r5⟩
        have l := nob g' w' at'' r1 r2 r3 r4 r5
        have e := (RngU r2 r4 r5 ht k (Nat.le_refl _) (by omega)).1
        obtain ⟨z1, z2, z3, z4⟩ := r2.2 k l
        refine absurd (wfl_one z1 z2 (by rw [z3, e]) (fun j j1 j2 j3 => ?_)) (i1 (w' k))
        rw [← r5, stw_bit] at j2
        obtain ⟨x, x1, x2⟩ := j2
        have : at'' x = at'' k := by
          rw [← (r2.2 x x1).2.2.1, x2, j3, e]
        by_cases c : x = k
        · rw [← x2, c]
        · by_cases l' : x < k
          · exact absurd this (r4 x k l' l)
          · exact absurd this.symm (r4 k x (by omega) x1)
theorem low_c (ok : okD d) (hc : cls σ 1 d) (hS : S < 16384) {i : Nat} (i1 : i < dN d) (i2 : S.testBit i = true) (i3 : ∀ j, j < i → S.testBit j = false) : e_X1_firstFrom_1 σ (nI S) (-1) = some (nI i) := by
  have h14 := ok.2.2.1
  have key : ∀ f k, k ≤ i → i - k < f → e_X1_firstFrom_1_L2 σ (nI S) (-1) f (nI k) = some (nI i) := by
    intro f
    induction f with
    | zero => intro k h1 h2; omega
    | succ f ih =>
      intro k h1 h2
      have le : nI (dN d) ≤ nI k ↔ dN d ≤ k := nLe (by omega) (by omega)
      simp only [e_X1_firstFrom_1_L2, hc.2.2.1]
      rw [if_neg (fun y => by have := le.mp y; omega), nI_1]
      by_cases c : k = i
      · subst c
        rw [if_neg (fun y => by rw [(and_bit (by omega) (by omega)).mp y] at i2; cases i2), if_pos trivial]
      · rw [if_pos ((and_bit (by omega) (by omega)).mpr (i3 k (by omega)))]
        exact ih (k + 1) (by omega) (by omega)
  exact key mN 0 (Nat.zero_le _) (mN_big (by omega))
theorem low_r (ok : okD d) (hm : mdl τ d) (hS : S < 16384) {i : Nat} (i1 : i < dN d) (i2 : S.testBit i = true) (i3 : ∀ j, j < i → S.testBit j = false) : e_X10_isRound τ (nI S) = e_X10_isRound_L32 τ (nI S) mN (nI (wf d i)) 0 (nI (wf d i)) 0 := by
  have h14 := ok.2.2.1
  have key : ∀ f k, k ≤ i → i - k < f → e_X10_isRound_L2 τ (nI S) f (nI k) = e_X10_isRound_L32 τ (nI S) mN (nI (wf d i)) 0 (nI (wf d i)) 0 := by
    intro f
    induction f with
    | zero => intro k h1 h2; omega
    | succ f ih =>
      intro k h1 h2
      simp only [e_X10_isRound_L2]
      by_cases c : k = i
      · subst c
        rw [if_neg (fun y => by rw [(bit_0 (by omega) (by omega)).mp y] at i2; cases i2), m_at ok hm i1 1 (by decide) 1 rfl, ob, (wf_eq ok i1).1]
      · rw [if_pos ((bit_0 (by omega) (by omega)).mpr (i3 k (by omega))), nI_1]
        exact ih (k + 1) (by omega) (by omega)
  exact key mN 0 (Nat.zero_le _) (mN_big (by omega))
theorem ring_both (ok : okD d) (hc : cls σ 1 d) (hS : S < 2 ^ dN d) (hz : S ≠ 0) : ∃ b, e_X1_isRing_1 σ (nI S) = some (bi b) ∧ ∀ τ, mdl τ d → e_X10_isRound τ (nI S) = some (bi b) := by
  have h14 := ok.2.2.1
  have P6 := ok.1
  have pw : 2 ^ dN d ≤ 16384 := Nat.pow_le_pow_right (n := 2) (by decide) h14
  obtain ⟨i, i1, i2, i3⟩ := low_ex S hS hz
  obtain ⟨ew, lw⟩ := wf_eq ok i1
  have e3 : eI σ 3 i = dw d i 1 := hc.2.2.2.2.1 i i1 1 (by decide)
  have t0 : trk d S (wf d i) 0 (fun _ => 0) (fun _ => wf d i) := ⟨rfl, fun k hk => by omega⟩
  obtain ⟨b, b1, b2⟩ := ringC ok hc hS lw mN 0 _ _ (by omega) (mN_big (by omega)) t0 (fun j j1 j2 => by omega) (fun j hj => by omega)
  refine ⟨b, ?_, fun τ hm => ?_⟩
  · unfold e_X1_isRing_1
    rw [low_c ok hc (by omega) i1 i2 i3, ob, if_neg (nI_m1 (by omega)), if_pos (mib_nI (by omega) (by decide)), nIc (by omega), e3, ew]
    exact b1
  · obtain ⟨b', b1', b2'⟩ := ringR ok hm hS lw mN 0 _ _ (mN_big (by omega)) t0 (fun a b _ h => by omega)
    have eb : b' = b := by
      cases b <;> cases b'
      · rfl
      · exact absurd (b2.mpr (b2'.mp rfl)) (by decide)
      · exact absurd (b2'.mpr (b2.mp rfl)) (by decide)
      · rfl
    rw [low_r ok hm (by omega) i1 i2 i3, ← eb]
    exact b1'
end
