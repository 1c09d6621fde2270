/-! ===== texts: an item, all items ===== -/
section
variable {b : Nat → Int32} {n : Nat}
theorem tk_val (b : Nat → Int32) (t : Tok) : (t.1 = 0 ∧ tkM b t = -1) ∨ (t.1 = 1 ∧ ((wdx b t.2.1 t.2.2.1 = 13 ∧ tkM b t = -2) ∨ (wdx b t.2.1 t.2.2.1 < 13 ∧ tkM b t = nI (10 + wdx b t.2.1 t.2.2.1)))) ∨ (t.1 = 2 ∧ (tkM b t = 1 ∨ tkM b t = -2)) ∨ (t.1 = 3 ∧ tkM b t = 0) ∨ (4 ≤ t.1 ∧ tkM b t = -2) := by
  have wl : wdx b t.2.1 t.2.2.1 ≤ 13 := wdl_le t.2.1 t.2.2.1 13 (Nat.le_refl _)
  unfold tkM
  by_cases c0 : t.1 = 0
  · exact Or.inl ⟨c0, if_pos c0⟩
  · right
    rw [if_neg c0]
    by_cases c1 : t.1 = 1
    · left
      refine ⟨c1, ?_⟩
      rw [if_pos c1]
      by_cases q : wdx b t.2.1 t.2.2.1 = 13
      · exact Or.inl ⟨q, if_pos q⟩
      · right
        rw [if_neg q]
        exact ⟨by omega, nI_add 10 _⟩
    · right
      rw [if_neg c1]
      by_cases c2 : t.1 = 2
      · left
        rw [if_pos c2]
        refine ⟨c2, ?_⟩
        by_cases q : t.2.2.2 ≤ 999999
        · exact Or.inl (if_pos q)
        · exact Or.inr (if_neg q)
      · right
        rw [if_neg c2]
        by_cases c3 : t.1 = 3
        · exact Or.inl ⟨c3, if_pos c3⟩
        · exact Or.inr ⟨by omega, if_neg c3⟩
theorem tok0 (t : Tok) : tkM b t = 0 ↔ t.1 = 3 := by
  rcases tk_val b t with ⟨a, e⟩ | ⟨a, ⟨_, e⟩ | ⟨w, e⟩⟩ | ⟨a, e | e⟩ | ⟨a, e⟩ | ⟨a, e⟩ <;> rw [e]
  · exact ⟨fun x => absurd x (by decide), fun x => by omega⟩
  · exact ⟨fun x => absurd x (by decide), fun x => by omega⟩
  · exact ⟨fun x => by have := (nI_i (b := 0) (by omega) (by omega)).mp x; omega, fun x => by omega⟩
  · exact ⟨fun x => absurd x (by decide), fun x => by omega⟩
  · exact ⟨fun x => absurd x (by decide), fun x => by omega⟩
  · exact ⟨fun _ => a, fun _ => rfl⟩
  · exact ⟨fun x => absurd x (by decide), fun x => by omega⟩
theorem tokE (t : Tok) : tkM b t = -1 ↔ t.1 = 0 := by
  rcases tk_val b t with ⟨a, e⟩ | ⟨a, ⟨_, e⟩ | ⟨w, e⟩⟩ | ⟨a, e | e⟩ | ⟨a, e⟩ | ⟨a, e⟩ <;> rw [e]
  · exact ⟨fun _ => a, fun _ => rfl⟩
  · exact ⟨fun x => absurd x (by decide), fun x => by omega⟩
  · refine ⟨fun x => ?_, fun x => by omega⟩
    have := congrArg Int32.toInt x
    rw [nIt (by omega), show (-1 : Int32).toInt = -1 from rfl] at this
    omega
  · exact ⟨fun x => absurd x (by decide), fun x => by omega⟩
  · exact ⟨fun x => absurd x (by decide), fun x => by omega⟩
  · exact ⟨fun x => absurd x (by decide), fun x => by omega⟩
  · exact ⟨fun x => absurd x (by decide), fun x => by omega⟩
theorem tkq_no {t : Tok} (h : ¬ (t.1 = 1 ∧ wdx b t.2.1 t.2.2.1 < 9)) : tkM b t = -1 ∨ tkM b t = -2 ∨ tkM b t = 1 ∨ tkM b t = 0 ∨ tkM b t = 19 ∨ tkM b t = 20 ∨ tkM b t = 21 ∨ tkM b t = 22 := by
  rcases tk_val b t with ⟨a, e⟩ | ⟨a, ⟨_, e⟩ | ⟨w, e⟩⟩ | ⟨a, e | e⟩ | ⟨a, e⟩ | ⟨a, e⟩
  · exact Or.inl e
  · exact Or.inr (Or.inl e)
  · have : wdx b t.2.1 t.2.2.1 = 9 ∨ wdx b t.2.1 t.2.2.1 = 10 ∨ wdx b t.2.1 t.2.2.1 = 11 ∨ wdx b t.2.1 t.2.2.1 = 12 := by omega
    rcases this with q | q | q | q <;> rw [q] at e
    · exact Or.inr (Or.inr (Or.inr (Or.inr (Or.inl e))))
    · exact Or.inr (Or.inr (Or.inr (Or.inr (Or.inr (Or.inl e)))))
    · exact Or.inr (Or.inr (Or.inr (Or.inr (Or.inr (Or.inr (Or.inl e))))))
    · exact Or.inr (Or.inr (Or.inr (Or.inr (Or.inr (Or.inr (Or.inr e))))))
  · exact Or.inr (Or.inr (Or.inl e))
  · exact Or.inr (Or.inl e)
  · exact Or.inr (Or.inr (Or.inr (Or.inl e)))
  · exact Or.inr (Or.inl e)
theorem did_l {σ τ : ES} {t : Tok} {d : CD} {A B : Option (Int32 × ES)} (h : did b n σ τ t d A B) : did b n σ τ t d (A.bind fun r => if r.1 = 0 ∨ r.1 = 1 then some (r.1, r.2) else none) B := by
  obtain ⟨y, t', d', σ', τ', h1, h2, h3⟩ := h
  refine ⟨y, t', d', σ', τ', ?_, h2, h3⟩
  rw [h1, ob]
  cases y
  · exact if_pos (Or.inl rfl)
  · exact if_pos (Or.inr rfl)
theorem did_r {σ τ : ES} {t : Tok} {d : CD} {A B : Option (Int32 × ES)} (h : did b n σ τ t d A B) : did b n σ τ t d A (B.bind fun r => if r.1 = 0 ∨ r.1 = 1 then some (r.1, r.2) else none) := by
  obtain ⟨y, t', d', σ', τ', h1, h2, h3⟩ := h
  refine ⟨y, t', d', σ', τ', h1, ?_, h3⟩
  rw [h2, ob]
  cases y
  · exact if_pos (Or.inl rfl)
  · exact if_pos (Or.inr rfl)
theorem item_no {σ τ : ES} {t : Tok} (h : two b n σ τ t) (c : ¬ (t.1 = 1 ∧ wdx b t.2.1 t.2.2.1 < 9)) : e_X6_item σ = some (0, σ) ∧ e_X10_readsItem τ = some (0, τ) := by
  have V : ∀ k, k < 9 → e_X6_isWord σ (1000 + k) = some 0 := by
    intro k hk
    have lt : wmap.getD k 0 < 9 := by
      revert k
      decide
    rw [two_wc h (k := k) (by omega)]
    have : wk b t (wmap.getD k 0) = false := decide_eq_false (fun x => c ⟨x.1, by rw [x.2]; exact lt⟩)
    rw [this]
    rfl
  constructor
  · have K : e_X6_kindTold σ = some (-1) := by
      unfold e_X6_kindTold
      rw [V 3 (by omega), ob, if_pos rfl, V 4 (by omega), ob, if_pos rfl, V 5 (by omega), ob, if_pos rfl, V 6 (by omega), ob, if_pos rfl, V 7 (by omega), ob, if_pos rfl, V 8 (by omega), ob, if_pos rfl]
    unfold e_X6_item
    rw [V 0 (by omega), ob, if_pos rfl, V 1 (by omega), ob, if_pos rfl, V 2 (by omega), ob, if_pos rfl, K, ob]
    unfold e_X6_wayItem
    rw [if_pos (by decide), ob, if_pos (Or.inl rfl)]
  · unfold e_X10_readsItem
    rw [h.2.2.2.1.1, min_eq, ob]
    rcases tkq_no c with e | e | e | e | e | e | e | e <;> rw [e] <;> rw [if_pos (by decide), if_neg (by decide), if_neg (by decide), if_neg (by decide)]
theorem item_2 {σ τ : ES} {t : Tok} {d : CD} (h : itm b n σ τ t d) : did b n σ τ t d (e_X6_item σ) (e_X10_readsItem τ) := by
  by_cases c : t.1 = 1 ∧ wdx b t.2.1 t.2.2.1 < 9
  · obtain ⟨c1, c9⟩ := c
    obtain ⟨w, hw⟩ : ∃ w, wdx b t.2.1 t.2.2.1 = w := ⟨_, rfl⟩
    rw [hw] at c9
    have h1 := h.1
    have V : ∀ k, k < 13 → e_X6_isWord σ (1000 + k) = some (bi (decide (w = wmap.getD k 0))) := by
      intro k hk
      rw [two_wc h1 hk]
      have : wk b t (wmap.getD k 0) = decide (w = wmap.getD k 0) := by
        unfold wk
        rw [hw]
        simp [c1]
      rw [this]
    have m28 : eI τ 69 28 = nI (10 + w) := by
      rcases tk_val b t with ⟨a, e⟩ | ⟨a, ⟨g, e⟩ | ⟨g, e⟩⟩ | ⟨a, e⟩ | ⟨a, e⟩ | ⟨a, e⟩
      · omega
      · omega
      · rw [h1.2.2.2.1.1, e, hw]
      · omega
      · omega
      · omega
    have nx := nx_ge h1
    have way : ∀ k, k < 6 → e_X6_item σ = (e_X6_wayItem (nI k) σ).bind (fun r => if r.1 = 0 ∨ r.1 = 1 then some (r.1, r.2) else none) → e_X10_readsItem τ = (e_X10_readsWay (nI k) τ).bind (fun r => if r.1 = 0 ∨ r.1 = 1 then some (r.1, r.2) else none) → did b n σ τ t d (e_X6_item σ) (e_X10_readsItem τ) := by
      intro k hk e1 e2
      rw [e1, e2]
      exact did_l (did_r (way_2 h hk))
    have M : e_X10_readsItem τ = (e_X10_in (nI (10 + w) - 10 : Int32).toInt64 (0 : Int64) (5 : Int64)).bind (fun r1 => if r1 = 0 then (if (nI (10 + w) - (10 : Int32)) = (6 : Int32) then ((e_X10_readsThing τ).bind (fun r3 => if r3.1 = 0 ∨ r3.1 = 1 then (some (r3.1, r3.2)) else none)) else (if (nI (10 + w) - (10 : Int32)) = (7 : Int32) then (e_X10_readsItem_J51 (nI (10 + w) - (10 : Int32)) τ) else (if (nI (10 + w) - (10 : Int32)) = (8 : Int32) then (e_X10_readsItem_J51 (nI (10 + w) - (10 : Int32)) τ) else (some ((0 : Int32), τ))))) else ((e_X10_readsWay (nI (10 + w) - (10 : Int32)) τ).bind (fun r6 => if r6.1 = 0 ∨ r6.1 = 1 then (some (r6.1, r6.2)) else none))) := by
      unfold e_X10_readsItem
      rw [m28]
    rw [min_eq, ob] at M
    have one : ¬ (1 : Int32) = 0 := by decide
    have ww : w = 0 ∨ w = 1 ∨ w = 2 ∨ w = 3 ∨ w = 4 ∨ w = 5 ∨ w = 6 ∨ w = 7 ∨ w = 8 := by omega
    clear hw m28
    rcases ww with e | e | e | e | e | e | e | e | e <;> subst e
    · have K : e_X6_kindTold σ = some 0 := by
        unfold e_X6_kindTold
        rw [show e_X6_isWord σ (1000 + 3) = some 1 from V 3 (by omega), ob, if_neg one]
      refine way 0 (by omega) ?_ (M.trans (if_neg (by decide)))
      unfold e_X6_item
      rw [show e_X6_isWord σ (1000 + 0) = some 0 from V 0 (by omega), ob, if_pos rfl, show e_X6_isWord σ (1000 + 1) = some 0 from V 1 (by omega), ob, if_pos rfl, show e_X6_isWord σ (1000 + 2) = some 0 from V 2 (by omega), ob, if_pos rfl, K, ob]
      rfl
    · have K : e_X6_kindTold σ = some 1 := by
        unfold e_X6_kindTold
        rw [show e_X6_isWord σ (1000 + 3) = some 0 from V 3 (by omega), ob, if_pos rfl, show e_X6_isWord σ (1000 + 4) = some 1 from V 4 (by omega), ob, if_neg one]
      refine way 1 (by omega) ?_ (M.trans (if_neg (by decide)))
      unfold e_X6_item
      rw [show e_X6_isWord σ (1000 + 0) = some 0 from V 0 (by omega), ob, if_pos rfl, show e_X6_isWord σ (1000 + 1) = some 0 from V 1 (by omega), ob, if_pos rfl, show e_X6_isWord σ (1000 + 2) = some 0 from V 2 (by omega), ob, if_pos rfl, K, ob]
      rfl
    · have K : e_X6_kindTold σ = some 2 := by
        unfold e_X6_kindTold
        rw [show e_X6_isWord σ (1000 + 3) = some 0 from V 3 (by omega), ob, if_pos rfl, show e_X6_isWord σ (1000 + 4) = some 0 from V 4 (by omega), ob, if_pos rfl, show e_X6_isWord σ (1000 + 5) = some 1 from V 5 (by omega), ob, if_neg one]
      refine way 2 (by omega) ?_ (M.trans (if_neg (by decide)))
      unfold e_X6_item
      rw [show e_X6_isWord σ (1000 + 0) = some 0 from V 0 (by omega), ob, if_pos rfl, show e_X6_isWord σ (1000 + 1) = some 0 from V 1 (by omega), ob, if_pos rfl, show e_X6_isWord σ (1000 + 2) = some 0 from V 2 (by omega), ob, if_pos rfl, K, ob]
      rfl
    · have K : e_X6_kindTold σ = some 3 := by
        unfold e_X6_kindTold
        rw [show e_X6_isWord σ (1000 + 3) = some 0 from V 3 (by omega), ob, if_pos rfl, show e_X6_isWord σ (1000 + 4) = some 0 from V 4 (by omega), ob, if_pos rfl, show e_X6_isWord σ (1000 + 5) = some 0 from V 5 (by omega), ob, if_pos rfl, show e_X6_isWord σ (1000 + 6) = some 1 from V 6 (by omega), ob, if_neg one]
      refine way 3 (by omega) ?_ (M.trans (if_neg (by decide)))
      unfold e_X6_item
      rw [show e_X6_isWord σ (1000 + 0) = some 0 from V 0 (by omega), ob, if_pos rfl, show e_X6_isWord σ (1000 + 1) = some 0 from V 1 (by omega), ob, if_pos rfl, show e_X6_isWord σ (1000 + 2) = some 0 from V 2 (by omega), ob, if_pos rfl, K, ob]
      rfl
    · have K : e_X6_kindTold σ = some 4 := by
        unfold e_X6_kindTold
        rw [show e_X6_isWord σ (1000 + 3) = some 0 from V 3 (by omega), ob, if_pos rfl, show e_X6_isWord σ (1000 + 4) = some 0 from V 4 (by omega), ob, if_pos rfl, show e_X6_isWord σ (1000 + 5) = some 0 from V 5 (by omega), ob, if_pos rfl, show e_X6_isWord σ (1000 + 6) = some 0 from V 6 (by omega), ob, if_pos rfl, show e_X6_isWord σ (1000 + 7) = some 1 from V 7 (by omega), ob, if_neg one]
      refine way 4 (by omega) ?_ (M.trans (if_neg (by decide)))
      unfold e_X6_item
      rw [show e_X6_isWord σ (1000 + 0) = some 0 from V 0 (by omega), ob, if_pos rfl, show e_X6_isWord σ (1000 + 1) = some 0 from V 1 (by omega), ob, if_pos rfl, show e_X6_isWord σ (1000 + 2) = some 0 from V 2 (by omega), ob, if_pos rfl, K, ob]
      rfl
    · have K : e_X6_kindTold σ = some 5 := by
        unfold e_X6_kindTold
        rw [show e_X6_isWord σ (1000 + 3) = some 0 from V 3 (by omega), ob, if_pos rfl, show e_X6_isWord σ (1000 + 4) = some 0 from V 4 (by omega), ob, if_pos rfl, show e_X6_isWord σ (1000 + 5) = some 0 from V 5 (by omega), ob, if_pos rfl, show e_X6_isWord σ (1000 + 6) = some 0 from V 6 (by omega), ob, if_pos rfl, show e_X6_isWord σ (1000 + 7) = some 0 from V 7 (by omega), ob, if_pos rfl, show e_X6_isWord σ (1000 + 8) = some 1 from V 8 (by omega), ob, if_neg one]
      refine way 5 (by omega) ?_ (M.trans (if_neg (by decide)))
      unfold e_X6_item
      rw [show e_X6_isWord σ (1000 + 0) = some 0 from V 0 (by omega), ob, if_pos rfl, show e_X6_isWord σ (1000 + 1) = some 0 from V 1 (by omega), ob, if_pos rfl, show e_X6_isWord σ (1000 + 2) = some 0 from V 2 (by omega), ob, if_pos rfl, K, ob]
      rfl
    · rw [if_pos (by decide), if_pos (by decide)] at M
      rw [M]
      unfold e_X6_item
      rw [show e_X6_isWord σ (1000 + 0) = some 0 from V 0 (by omega), ob, if_pos rfl, show e_X6_isWord σ (1000 + 1) = some 0 from V 1 (by omega), ob, if_pos rfl, show e_X6_isWord σ (1000 + 2) = some 1 from V 2 (by omega), ob, if_neg one]
      exact did_l (did_r (thing_2 h))
    · rw [if_pos (by decide), if_neg (by decide), if_pos (by decide), show (nI (10 + 7) - 10 : Int32) = 7 from rfl] at M
      rw [M]
      unfold e_X6_item e_X10_readsItem_J51
      obtain ⟨σ1, τ1, r1, r2, r3, r4, r5⟩ := two_next h1
      have i1 := itm_f h (fC_n r4) (fM_n r5) r3
      rw [show e_X6_isWord σ (1000 + 0) = some 1 from V 0 (by omega), ob, if_neg one, r1, ob, r2, ob, if_pos rfl]
      unfold e_X10_readsItem_J70
      rw [if_pos rfl]
      exact did_c (did_l (places_2 i1)) (gC_f (fC_n r4)) (gM_f (fM_n r5)) nx.1
    · rw [if_pos (by decide), if_neg (by decide), if_neg (by decide), if_pos (by decide), show (nI (10 + 8) - 10 : Int32) = 8 from rfl] at M
      rw [M]
      unfold e_X6_item e_X10_readsItem_J51
      obtain ⟨σ1, τ1, r1, r2, r3, r4, r5⟩ := two_next h1
      have i1 := itm_f h (fC_n r4) (fM_n r5) r3
      rw [show e_X6_isWord σ (1000 + 0) = some 0 from V 0 (by omega), ob, if_pos rfl, show e_X6_isWord σ (1000 + 1) = some 1 from V 1 (by omega), ob, if_neg one, r1, ob, r2, ob, if_neg (show ¬ (8 : Int32) = 7 by decide)]
      unfold e_X10_readsItem_J70
      rw [if_neg (show ¬ (8 : Int32) = 7 by decide)]
      exact did_c (did_l (weather_2 i1)) (gC_f (fC_n r4)) (gM_f (fM_n r5)) nx.1
  · obtain ⟨e1, e2⟩ := item_no h.1 c
    exact ⟨false, t, d, σ, τ, e1, e2, h, ext.refl d, gC.refl σ, gM.refl τ, Nat.le_refl _⟩
/-- the reference as it was before -/
def rstR (τ : ES) (x1 x2 x3 x4 : Int32) : ES := uI (uI (uI (uI (uI τ 69 25 0) 69 1 x1) 69 2 x2) 69 3 x3) 69 5 x4
def outc (b : Nat → Int32) (n : Nat) (σ τ : ES) (d0 : CD) (x1 x2 x3 x4 : Int32) (A B : Option (Int32 × ES)) : Prop := ∃ r σ' τ' t' d' τ'', A = some (r, σ') ∧ B = some (r, τ') ∧ itm b n σ' τ'' t' d' ∧ ext d0 d' ∧ gC σ σ' ∧ gM τ τ'' ∧ ((∃ m, 1 ≤ m ∧ m ≤ 121 ∧ r = nI m ∧ τ' = uI τ'' 69 25 0) ∨ (∃ m, m ≤ 120 ∧ r = -1 - nI m ∧ τ' = rstR τ'' x1 x2 x3 x4))
theorem text_L {d0 : CD} {x1 x2 x3 x4 : Int32} : ∀ f g x σ τ t d, itm b n σ τ t d → ext d0 d → 1 ≤ x → x ≤ t.2.1 + 1 → n - t.2.1 < f → n - t.2.1 < g → outc b n σ τ d0 x1 x2 x3 x4 (e_X6_tellTo_19_L16 f (nI x) σ) ((e_X10_readsItem τ).bind fun r3 => e_X10_text_L39 g x1 x2 x3 x4 (nI x) r3.1 r3.2) := by
  intro f
  induction f with
  | zero => intro g x σ τ t d _ _ _ _ h; omega
  | succ f ih =>
    intro g x σ τ t d h ex hx hx' hf hg
    obtain ⟨g, rfl⟩ : ∃ k, g = k + 1 := ⟨g - 1, by omega⟩
    have b1 := two_b h.1
    have l120 : nI 120 < nI x ↔ 120 < x := nLt (by omega) (by omega)
    have l120' : (120 : Int32) < nI x ↔ 120 < x := l120
    have J84 : ∀ τ' m, eI τ' 69 27 = nI m → e_X10_text_J84 x1 x2 x3 x4 (nI x) τ' = some (-1 - nI m, rstR τ' x1 x2 x3 x4) := by
      intro τ' m e
      have : e_X10_text_J84 x1 x2 x3 x4 (nI x) τ' = some (-1 - eI τ' 69 27, rstR τ' x1 x2 x3 x4) := by
        unfold e_X10_text_J84 e_X10_text_J85
        exact if_pos rfl
      rw [this, e]
    have L0 : ∀ τ' m, eI τ' 69 27 = nI m → e_X10_text_L39 (g + 1) x1 x2 x3 x4 (nI x) 0 τ' = some (-1 - nI m, rstR τ' x1 x2 x3 x4) := by
      intro τ' m e
      rw [e_X10_text_L39, if_pos rfl]
      unfold e_X10_text_J67
      rw [if_pos rfl]
      exact J84 τ' m e
    rw [e_X6_tellTo_19_L16]
    by_cases c : 120 < x
    · rw [if_pos (l120'.mpr c)]
      have z : t.1 = 0 := b1.2.2.2.2.2.1.mpr (by omega)
      obtain ⟨e1, e2⟩ := item_no h.1 (by omega)
      rw [e2, ob, h.1.2.2.1.2.1, L0 τ t.2.1 h.1.2.2.2.1.2.1]
      exact ⟨_, σ, _, t, d, τ, rfl, rfl, h, ex, gC.refl σ, gM.refl τ, Or.inr ⟨t.2.1, by omega, rfl, rfl⟩⟩
    · rw [if_neg (fun q => c (l120'.mp q))]
      obtain ⟨y, t', d', σ', τ', h1, h2, h3, h4, h5, h6, h7⟩ := item_2 h
      have b2 := two_b h3.1
      have ex' := ex.trans h4
      rw [h1, ob, h2, ob]
      cases y with
      | false =>
        have : e_X10_text_L39 (g + 1) x1 x2 x3 x4 (nI x) (bi false, τ').1 (bi false, τ').2 = some (-1 - nI t'.2.1, rstR τ' x1 x2 x3 x4) := L0 τ' t'.2.1 h3.1.2.2.2.1.2.1
        rw [this, if_pos (show (bi false, σ').1 = 0 from rfl), h3.1.2.2.1.2.1]
        exact ⟨_, σ', _, t', d', τ', rfl, rfl, h3, ex', h5, h6, Or.inr ⟨t'.2.1, by omega, rfl, rfl⟩⟩
      | true =>
        have ne : ¬ (bi true, σ').1 = 0 := by show ¬ bi true = 0; decide
        have ne1 : ¬ (bi true) = 0 := by decide
        rw [if_neg ne]
        show outc b n σ τ d0 x1 x2 x3 x4 _ (e_X10_text_L39 (g + 1) x1 x2 x3 x4 (nI x) (bi true) τ')
        rw [e_X10_text_L39, if_neg ne1, h3.1.2.2.2.1.1]
        simp only []
        rw [h3.1.2.2.1.1]
        have s0 : nI t'.1 = 0 ↔ t'.1 = 0 := nI_i (b := 0) (by omega) (by omega)
        have s3 : nI t'.1 = 3 ↔ t'.1 = 3 := nI_i (b := 3) (by omega) (by omega)
        by_cases c0 : t'.1 = 0
        · rw [if_pos (s0.mpr c0), if_neg (fun q => by have := (tok0 t').mp q; omega)]
          unfold e_X10_text_J67
          rw [if_neg ne1, if_pos (h3.1.2.2.2.1.1.trans ((tokE t').mpr c0))]
          unfold e_X10_text_J85
          rw [if_neg (show ¬ (1 : Int32) = 0 by decide)]
          exact ⟨_, σ', _, t', d', τ', rfl, rfl, h3, ex', h5, h6, Or.inl ⟨x, hx, by omega, rfl, rfl⟩⟩
        · rw [if_neg (fun q => c0 (s0.mp q))]
          by_cases c3 : t'.1 = 3
          · rw [if_pos (s3.mpr c3), if_pos ((tok0 t').mpr c3)]
            obtain ⟨σ1, τ1, r1, r2, r3, r4, r5⟩ := two_next h3.1
            have i1 := itm_f h3 (fC_n r4) (fM_n r5) r3
            have b3 := two_b r3
            have lt := (nx_ge h3.1).2 c0
            rw [r1, ob, r2, ob, nI_1]
            obtain ⟨r, σ2, τ2, t2, d2, τ3, k1, k2, k3, k4, k5, k6, k7⟩ := ih g (x + 1) σ1 τ1 _ d' i1 ex' (by omega) (by omega) (by omega) (by omega)
            exact ⟨r, σ2, τ2, t2, d2, τ3, k1, k2, k3, k4, (h5.trans (gC_f (fC_n r4))).trans k5, (h6.trans (gM_f (fM_n r5))).trans k6, k7⟩
          · rw [if_neg (fun q => c3 (s3.mp q)), if_neg (fun q => c3 ((tok0 t').mp q))]
            unfold e_X10_text_J67
            rw [if_neg ne1, if_neg (fun q => c0 ((tokE t').mp (h3.1.2.2.2.1.1.symm.trans q))), J84 τ' t'.2.1 h3.1.2.2.2.1.2.1, h3.1.2.2.1.2.1]
            exact ⟨_, σ', _, t', d', τ', rfl, rfl, h3, ex', h5, h6, Or.inr ⟨t'.2.1, by omega, rfl, rfl⟩⟩
end
