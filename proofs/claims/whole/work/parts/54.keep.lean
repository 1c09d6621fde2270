/-! ===== the class's search ===== -/
def sto (σ : ES) (L : List Rg) : Prop := eI σ 28 0 = nI L.length ∧ ∀ i r, L[i]? = some r → eI σ 29 i = nI r.1 ∧ eL σ 30 i = r.2.1 ∧ eL σ 31 i = r.2.2
def cf (σ σ' : ES) : Prop := (∀ a b, ¬ (a = 28 ∧ b = 0) → a ≠ 29 → eI σ' a b = eI σ a b) ∧ ∀ a b, a ≠ 30 → a ≠ 31 → eL σ' a b = eL σ a b
theorem cf.refl (σ : ES) : cf σ σ := ⟨fun _ _ _ _ => rfl, fun _ _ _ _ => rfl⟩
theorem cf.trans {σ τ υ : ES} (h : cf σ τ) (g : cf τ υ) : cf σ υ := ⟨fun a b q r => (g.1 a b q r).trans (h.1 a b q r), fun a b q r => (g.2 a b q r).trans (h.2 a b q r)⟩
theorem keep_eq (a1 : Int32) (a2 a4 : Int64) (σ : ES) : e_X4_keep a1 a2 a4 σ = if (1296 : Int32) ≤ (eI σ 28 0) then some σ else if mib (eI σ 28 0) 1296 = true then (if mib (eI σ 28 0) 1296 = true then (if mib (eI σ 28 0) 1296 = true then some (uI (uL (uL (uI σ 29 (eI σ 28 0).toNatClampNeg a1) 30 (eI σ 28 0).toNatClampNeg a2) 31 (eI σ 28 0).toNatClampNeg a4) 28 0 (eI σ 28 0 + 1)) else none) else none) else none := rfl
theorem keep_c {σ : ES} {L : List Rg} (h : sto σ L) (hl : L.length < 1296) (k : Nat) (A B : Int64) : ∃ σ', e_X4_keep (nI k) A B σ = some σ' ∧ cf σ σ' ∧ sto σ' (L ++ [(k, A, B)]) := by
  have le : (1296 : Int32) ≤ nI L.length ↔ 1296 ≤ L.length := nLe (a := 1296) (by omega) (by omega)
  have mi : mib (nI L.length) 1296 = true := mib_nI hl (by decide)
  rw [keep_eq, h.1, if_neg (fun x => by have := le.mp x; omega), if_pos mi, if_pos mi, if_pos mi, nIc (by omega), nI_1]
  refine ⟨_, rfl, ⟨fun a b q r => ?_, fun a b q r => ?_⟩, ?_, fun i r e => ?_⟩
  · rw [eI_uI, if_neg (by omega), eI_uL, eI_uL, eI_uI, if_neg (by omega)]
  · rw [eL_uI, eL_uL, if_neg (by omega), eL_uL, if_neg (by omega), eL_uI]
  · rw [List.length_append]
    rfl
  · have e29 : ∀ j, eI (uI (uL (uL (uI σ 29 L.length (nI k)) 30 L.length A) 31 L.length B) 28 0 (nI (L.length + 1))) 29 j = if j = L.length then nI k else eI σ 29 j := by
      intro j
      rw [eI_uI, if_neg (by omega), eI_uL, eI_uL, eI_uI]
      by_cases c : j = L.length
      · rw [if_pos ⟨rfl, c⟩, if_pos c]
      · rw [if_neg (fun x => c x.2), if_neg c]
    have e30 : ∀ j, eL (uI (uL (uL (uI σ 29 L.length (nI k)) 30 L.length A) 31 L.length B) 28 0 (nI (L.length + 1))) 30 j = if j = L.length then A else eL σ 30 j := by
      intro j
      rw [eL_uI, eL_uL, if_neg (by omega), eL_uL, eL_uI]
      by_cases c : j = L.length
      · rw [if_pos ⟨rfl, c⟩, if_pos c]
      · rw [if_neg (fun x => c x.2), if_neg c]
    have e31 : ∀ j, eL (uI (uL (uL (uI σ 29 L.length (nI k)) 30 L.length A) 31 L.length B) 28 0 (nI (L.length + 1))) 31 j = if j = L.length then B else eL σ 31 j := by
      intro j
      rw [eL_uI, eL_uL]
      by_cases c : j = L.length
      · rw [if_pos ⟨rfl, c⟩, if_pos c]
      · rw [if_neg (fun x => c x.2), if_neg c, eL_uL, if_neg (by omega), eL_uI]
    rw [e29, e30, e31]
    by_cases c : i = L.length
    · rw [if_pos c, if_pos c, if_pos c]
      rw [c, List.getElem?_append_right (Nat.le_refl _), Nat.sub_self] at e
      have e : (k, A, B) = r := Option.some.inj e
      rw [← e]
      exact ⟨rfl, rfl, rfl⟩
    · have li : i < L.length := by
        have := (List.getElem?_eq_some_iff.mp e).1
        rw [List.length_append] at this
        have t : i < L.length + 1 := this
        omega
      rw [if_neg c, if_neg c, if_neg c]
      rw [List.getElem?_append_left li] at e
      exact h.2 i r e
/-- the tables of the class's search -/
def tb (σ : ES) (d : CD) (op : Nat → Bool) : Prop := (∀ a, a < dP d → eI σ 34 a = nI (outs d op a).length) ∧ (∀ a i w, a < dP d → (outs d op a)[i]? = some w → eI σ 35 (14 * a + i) = nI w) ∧ ∀ w, w < dN d → eI σ 36 w = dw d w 2 ∧ eL σ 37 w = bR d w ∧ eL σ 38 w = lR d w
theorem tb_cf {σ σ' : ES} {d : CD} {op : Nat → Bool} (h : tb σ d op) (g : cf σ σ') : tb σ' d op := by
  obtain ⟨h1, h2, h3⟩ := h
  refine ⟨fun a ha => (g.1 34 a (by omega) (by omega)).trans (h1 a ha), fun a i w ha e => (g.1 35 _ (by omega) (by omega)).trans (h2 a i w ha e), fun w hw => ?_⟩
  rw [g.1 36 w (by omega) (by omega), g.2 37 w (by omega) (by omega), g.2 38 w (by omega) (by omega)]
  exact h3 w hw
theorem a14 {a i : Nat} : nI a * 14 + nI i = nI (14 * a + i) := by
  have : nI a * 14 = nI (14 * a) := by
    rw [Int32.mul_comm]
    exact (Int32.ofNat_mul 14 a).symm
  rw [this, nI_add]
theorem goL {d : CD} (ok : okD d) {op : Nat → Bool} {s : Nat} (hs : s < dP d) (n : Nat) (ih : ∀ a p k A B σ L, a < dP d → p < 64 → k < 16384 → fr p < n → tb σ d op → sto σ L → L.length + (rl d op n s a p k A B).length ≤ 1296 → ∃ σ', e_X4_goOn n (nI s) (nI a) (nI p) (nI k) A B σ = some σ' ∧ cf σ σ' ∧ sto σ' (L ++ rl d op n s a p k A B)) {a p k : Nat} (ha : a < dP d) (hp : p < 64) (hk : k < 16384) (hf : fr p < n + 1) (A B : Int64) : ∀ f i σ L, i ≤ (outs d op a).length → (outs d op a).length - i < f → tb σ d op → sto σ L → L.length + (((outs d op a).drop i).flatMap (rc d op (rl d op n s) s a p k A B)).length ≤ 1296 → ∃ σ', e_X4_goOn_L3 (e_X4_goOn n) (nI s) (nI a) (nI p) (nI k) A B f (nI i) σ = some σ' ∧ cf σ σ' ∧ sto σ' (L ++ ((outs d op a).drop i).flatMap (rc d op (rl d op n s) s a p k A B)) := by
  have h14 := ok.2.2.1
  have P6 := ok.1
  have ol := outs_len d op a
  intro f
  induction f with
  | zero => intro i σ L h1 h2; omega
  | succ f jh =>
    intro i σ L h1 h2 ht hst hb
    have le : nI (outs d op a).length ≤ nI i ↔ (outs d op a).length ≤ i := nLe (by omega) (by omega)
    simp only [e_X4_goOn_L3, a14]
    rw [if_pos (mib_nI (by omega) (by decide)), nIc (by omega), ht.1 a ha]
    by_cases c0 : (outs d op a).length ≤ i
    · rw [if_pos (le.mpr c0)]
      refine ⟨σ, rfl, cf.refl σ, ?_⟩
      rw [List.drop_eq_nil_of_le c0, List.flatMap_nil, List.append_nil]
      exact hst
    · have hi : i < (outs d op a).length := by omega
      have gw : (outs d op a)[i]? = some ((outs d op a)[i]) := List.getElem?_eq_getElem hi
      have dr := List.drop_eq_getElem_cons hi
      revert gw dr
      generalize (outs d op a)[i] = w
      intro gw dr
      obtain ⟨hw, m1, m2⟩ := outs_mem (List.mem_of_getElem? gw)
      obtain ⟨et, lt⟩ := wt_eq ok hw
      obtain ⟨t6, t7, t8⟩ := ht.2.2 w hw
      rw [if_neg (fun x => c0 (le.mp x)), if_pos (mib_nI (by omega) (by decide)), nIc (show 14 * a + i < 2147483648 by omega), ht.2.1 a i w ha gw, if_pos (mib_nI (by omega) (by decide)), nIc (show w < 2147483648 by omega), t6, t7, t8, et]
      rw [dr, List.flatMap_cons, List.length_append] at hb
      rw [dr, List.flatMap_cons, ← List.append_assoc]
      have sh : nI k ||| ((1 : Int32) <<< (nI w &&& 31)) = nI (k ||| 2 ^ w) := by
        have := p2_14 (t := w) (by omega)
        rw [shl_nI w (by omega), or_nI (by omega) (by omega)]
      have l14 : k ||| 2 ^ w < 16384 := or14 hk (by omega)
      rw [sh]
      have cc : op w = true ∧ wf d w = a := ⟨m1, m2⟩
      have go : ∀ σ1, cf σ σ1 → sto σ1 (L ++ rc d op (rl d op n s) s a p k A B w) → ∃ σ', e_X4_goOn_L3 (e_X4_goOn n) (nI s) (nI a) (nI p) (nI k) A B f (nI i + 1) σ1 = some σ' ∧ cf σ σ' ∧ sto σ' (L ++ rc d op (rl d op n s) s a p k A B w ++ ((outs d op a).drop (i + 1)).flatMap (rc d op (rl d op n s) s a p k A B)) := by
        intro σ1 f1 s1
        obtain ⟨σ', x1, x2, x3⟩ := jh (i + 1) σ1 _ (by omega) (by omega) (tb_cf ht f1) s1 (by rw [List.length_append]; omega)
        rw [nI_1]
        exact ⟨σ', x1, f1.trans x2, x3⟩
      have nul : rc d op (rl d op n s) s a p k A B w = [] → ∃ σ', e_X4_goOn_L3 (e_X4_goOn n) (nI s) (nI a) (nI p) (nI k) A B f (nI i + 1) σ = some σ' ∧ cf σ σ' ∧ sto σ' (L ++ rc d op (rl d op n s) s a p k A B w ++ ((outs d op a).drop (i + 1)).flatMap (rc d op (rl d op n s) s a p k A B)) := fun e => go σ (cf.refl σ) (by rw [e, List.append_nil]; exact hst)
      by_cases c4 : wt d w = s
      · have rv : rc d op (rl d op n s) s a p k A B w = [(k ||| 2 ^ w, A + bR d w, B + lR d w)] := by
          unfold rc
          rw [if_pos cc, if_pos c4]
        rw [if_pos ((nI_i (by omega) (by omega)).mpr c4)]
        rw [rv] at hb
        obtain ⟨σ1, y1, y2, y3⟩ := keep_c hst (by have : [(k ||| 2 ^ w, A + bR d w, B + lR d w)].length = 1 := rfl; omega) (k ||| 2 ^ w) (A + bR d w) (B + lR d w)
        rw [y1, ob]
        exact go σ1 y2 (by rw [rv]; exact y3)
      · rw [if_neg (fun x => c4 ((nI_i (by omega) (by omega)).mp x))]
        by_cases c3 : wt d w < s
        · rw [if_pos ((nLe (by omega) (by omega)).mpr (by omega))]
          apply nul
          unfold rc
          rw [if_pos cc, if_neg c4, if_pos c3]
        · rw [if_neg (fun x => by have := (nLe (by omega) (by omega)).mp x; omega)]
          by_cases c5 : p.testBit (wt d w) = true
          · rw [if_neg (fun x => by rw [(and_bit (by omega) (by omega)).mp x] at c5; exact absurd c5 (by decide))]
            apply nul
            unfold rc
            rw [if_pos cc, if_neg c4, if_neg c3, if_pos c5]
          · have c5' : p.testBit (wt d w) = false := by simpa using c5
            have sp : nI p ||| ((1 : Int32) <<< (nI (wt d w) &&& 31)) = nI (p ||| 2 ^ wt d w) := by
              have := p2_14 (t := wt d w) (by omega)
              rw [shl_nI (wt d w) (by omega), or_nI (by omega) (by omega)]
            rw [if_pos ((and_bit (by omega) (by omega)).mpr c5'), sp]
            have fl := fr_lt p hp (wt d w) (by omega) c5'
            have rv : rc d op (rl d op n s) s a p k A B w = rl d op n s (wt d w) (p ||| 2 ^ wt d w) (k ||| 2 ^ w) (A + bR d w) (B + lR d w) := by
              unfold rc
              rw [if_pos cc, if_neg c4, if_neg c3, if_neg c5]
            rw [rv] at hb
            obtain ⟨σ1, y1, y2, y3⟩ := ih (wt d w) (p ||| 2 ^ wt d w) (k ||| 2 ^ w) (A + bR d w) (B + lR d w) σ L lt (or64 hp (by omega)) l14 (by omega) ht hst (by omega)
            rw [y1, ob]
            exact go σ1 y2 (by rw [rv]; exact y3)
theorem goOn_c {d : CD} (ok : okD d) {op : Nat → Bool} {s : Nat} (hs : s < dP d) : ∀ n a p k A B σ L, a < dP d → p < 64 → k < 16384 → fr p < n → tb σ d op → sto σ L → L.length + (rl d op n s a p k A B).length ≤ 1296 → ∃ σ', e_X4_goOn n (nI s) (nI a) (nI p) (nI k) A B σ = some σ' ∧ cf σ σ' ∧ sto σ' (L ++ rl d op n s a p k A B) := by
  have h14 := ok.2.2.1
  intro n
  induction n with
  | zero => intro a p k A B σ L h1 h2 h3 h4; omega
  | succ n ih =>
    intro a p k A B σ L h1 h2 h3 h4 h5 h6 h7
    have ol := outs_len d op a
    have dz : (outs d op a).drop 0 = outs d op a := rfl
    rw [rl_outs] at h7 ⊢
    obtain ⟨σ', x1, x2, x3⟩ := goL ok hs n ih h1 h2 h3 h4 A B mN 0 σ L (by omega) (mN_big (by omega)) h5 h6 (by rw [dz]; exact h7)
    rw [dz] at x3
    exact ⟨σ', x1, x2, x3⟩
def gf (σ σ' : ES) : Prop := (∀ a b, ¬ (a = 28 ∧ b = 0) → a ≠ 29 → a ≠ 34 → a ≠ 35 → a ≠ 36 → eI σ' a b = eI σ a b) ∧ ∀ a b, a ≠ 30 → a ≠ 31 → a ≠ 37 → a ≠ 38 → eL σ' a b = eL σ a b
theorem gf.refl (σ : ES) : gf σ σ := ⟨fun _ _ _ _ _ _ _ => rfl, fun _ _ _ _ _ _ => rfl⟩
theorem gf.trans {σ τ υ : ES} (h : gf σ τ) (g : gf τ υ) : gf σ υ := ⟨fun a b q1 q2 q3 q4 q5 => (g.1 a b q1 q2 q3 q4 q5).trans (h.1 a b q1 q2 q3 q4 q5), fun a b q1 q2 q3 q4 => (g.2 a b q1 q2 q3 q4).trans (h.2 a b q1 q2 q3 q4)⟩
theorem gf_cf {σ σ' : ES} (h : cf σ σ') : gf σ σ' := ⟨fun a b q1 q2 _ _ _ => h.1 a b q1 q2, fun a b q1 q2 _ _ => h.2 a b q1 q2⟩
theorem cls_gf {σ σ' : ES} {o : Nat} {d : CD} (ho : o ≤ 19) (h : cls σ o d) (g : gf σ σ') : cls σ' o d := cls_c h (fun k j h1 h2 => g.1 k j (by omega) (by omega) (by omega) (by omega) (by omega))
def opn (d : CD) (a2 : Int32) (w : Nat) : Bool := decide (dw d w 5 = 0 ∨ nI w = a2)
/-- the tables while the ways below n are gathered -/
def outk (d : CD) (op : Nat → Bool) (n a : Nat) : List Nat := (List.range n).filter (oq d op a)
theorem outk_succ (d : CD) (op : Nat → Bool) (n a : Nat) : outk d op (n + 1) a = outk d op n a ++ (if oq d op a n = true then [n] else []) := by
  unfold outk
  rw [List.range_succ, List.filter_append, List.filter_cons, List.filter_nil]
theorem outk_len (d : CD) (op : Nat → Bool) (n a : Nat) : (outk d op n a).length ≤ n := by
  have := List.length_filter_le (oq d op a) (List.range n)
  rw [List.length_range] at this
  exact this
def tk (σ : ES) (d : CD) (op : Nat → Bool) (n : Nat) : Prop := (∀ a, a < 6 → eI σ 34 a = nI (outk d op n a).length) ∧ (∀ a i w, a < 6 → (outk d op n a)[i]? = some w → eI σ 35 (14 * a + i) = nI w) ∧ ∀ w, w < n → eI σ 36 w = dw d w 2 ∧ eL σ 37 w = bR d w ∧ eL σ 38 w = lR d w
theorem tri (σ : ES) (n : Nat) (x : Int32) (y z : Int64) (w : Nat) : eI (uL (uL (uI σ 36 n x) 37 n y) 38 n z) 36 w = (if w = n then x else eI σ 36 w) ∧ eL (uL (uL (uI σ 36 n x) 37 n y) 38 n z) 37 w = (if w = n then y else eL σ 37 w) ∧ eL (uL (uL (uI σ 36 n x) 37 n y) 38 n z) 38 w = if w = n then z else eL σ 38 w := by
  simp only [eI_uL, eI_uI, eL_uL, eL_uI]
  by_cases c : w = n
  · simp [c]
  · simp [c]
theorem tk_no {σ : ES} {d : CD} {op : Nat → Bool} {n : Nat} (h : tk σ d op n) (ho : op n = false) : tk (uL (uL (uI σ 36 n (dw d n 2)) 37 n (bR d n)) 38 n (lR d n)) d op (n + 1) := by
  obtain ⟨h1, h2, h3⟩ := h
  have e : ∀ a, outk d op (n + 1) a = outk d op n a := by
    intro a
    rw [outk_succ, if_neg (fun x => by rw [(oq_iff.mp x).1] at ho; exact absurd ho (by decide)), List.append_nil]
  refine ⟨fun a ha => ?_, fun a i w ha q => ?_, fun w hw => ?_⟩
  · rw [e]
    exact h1 a ha
  · rw [e] at q
    exact h2 a i w ha q
  · obtain ⟨t1, t2, t3⟩ := tri σ n (dw d n 2) (bR d n) (lR d n) w
    rw [t1, t2, t3]
    by_cases c : w = n
    · subst c
      rw [if_pos rfl, if_pos rfl, if_pos rfl]
      exact ⟨rfl, rfl, rfl⟩
    · rw [if_neg c, if_neg c, if_neg c]
      exact h3 w (by omega)
theorem tk_yes {σ : ES} {d : CD} {op : Nat → Bool} {n : Nat} (h : tk σ d op n) (ho : op n = true) (hn : n < 14) (h6 : wf d n < 6) : tk (uI (uI (uL (uL (uI σ 36 n (dw d n 2)) 37 n (bR d n)) 38 n (lR d n)) 35 (14 * wf d n + (outk d op n (wf d n)).length) (nI n)) 34 (wf d n) (nI ((outk d op n (wf d n)).length + 1))) d op (n + 1) := by
  obtain ⟨h1, h2, h3⟩ := h
  refine ⟨fun a ha => ?_, fun a i w ha q => ?_, fun w hw => ?_⟩
  · rw [eI_uI, outk_succ]
    by_cases c : a = wf d n
    · rw [if_pos ⟨rfl, c⟩, if_pos (oq_iff.mpr ⟨ho, c.symm⟩), List.length_append, c]
      rfl
    · rw [if_neg (fun x => c x.2), if_neg (fun x => c (oq_iff.mp x).2.symm), List.append_nil, eI_uI, if_neg (by omega)]
      exact h1 a ha
  · rw [eI_uI, if_neg (by omega), eI_uI]
    have la := outk_len d op n a
    have lb := outk_len d op n (wf d n)
    rw [outk_succ] at q
    by_cases c : a = wf d n
    · rw [if_pos (oq_iff.mpr ⟨ho, c.symm⟩)] at q
      by_cases c1 : i = (outk d op n a).length
      · rw [c1, List.getElem?_append_right (Nat.le_refl _), Nat.sub_self] at q
        have q : n = w := Option.some.inj q
        rw [if_pos (by rw [← c]; omega), q]
      · have li : i < (outk d op n a).length := by
          have := (List.getElem?_eq_some_iff.mp q).1
          rw [List.length_append] at this
          have t : i < (outk d op n a).length + 1 := this
          omega
        rw [List.getElem?_append_left li] at q
        rw [if_neg (by rw [← c]; omega)]
        exact h2 a i w ha q
    · rw [if_neg (fun x => c (oq_iff.mp x).2.symm), List.append_nil] at q
      have li := (List.getElem?_eq_some_iff.mp q).1
      rw [if_neg (by omega)]
      exact h2 a i w ha q
  · obtain ⟨t1, t2, t3⟩ := tri σ n (dw d n 2) (bR d n) (lR d n) w
    rw [eI_uI, if_neg (by omega), eI_uI, if_neg (by omega), t1, eL_uI, eL_uI, t2, eL_uI, eL_uI, t3]
    by_cases c : w = n
    · subst c
      rw [if_pos rfl, if_pos rfl, if_pos rfl]
      exact ⟨rfl, rfl, rfl⟩
    · rw [if_neg c, if_neg c, if_neg c]
      exact h3 w (by omega)
