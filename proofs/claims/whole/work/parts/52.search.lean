/-! ===== the reference's search, all of it ===== -/
def fr (p : Nat) : Nat := 6 - pcl 6 p
theorem fr_lt : ∀ p, p < 64 → ∀ t, t < 6 → p.testBit t = false → fr (p ||| 2 ^ t) < fr p := by decide
theorem or64 {p t : Nat} (hp : p < 64) (ht : t < 6) : p ||| 2 ^ t < 64 := Nat.or_lt_two_pow (n := 6) hp (Nat.pow_lt_pow_right (by decide) ht)
theorem or14 {p t : Nat} (hp : p < 16384) (ht : t < 14) : p ||| 2 ^ t < 16384 := Nat.or_lt_two_pow (n := 14) hp (Nat.pow_lt_pow_right (by decide) ht)
theorem p2_14 {t : Nat} (ht : t < 14) : 2 ^ t < 16384 := Nat.pow_lt_pow_right (n := 14) (by decide) ht
theorem nI_i {a b : Nat} (ha : a < 2147483648) (hb : b < 2147483648) : nI a = nI b ↔ a = b := by rw [nI_inj ha hb]
def rc (d : CD) (op : Nat → Bool) (g : Nat → Nat → Nat → Int64 → Int64 → List Rg) (s a p k : Nat) (A B : Int64) (w : Nat) : List Rg := if op w = true ∧ wf d w = a then (if wt d w = s then [(k ||| 2 ^ w, A + bR d w, B + lR d w)] else if wt d w < s then [] else if p.testBit (wt d w) = true then [] else g (wt d w) (p ||| 2 ^ wt d w) (k ||| 2 ^ w) (A + bR d w) (B + lR d w)) else []
theorem rl_succ (d : CD) (op : Nat → Bool) (n s a p k : Nat) (A B : Int64) : rl d op (n + 1) s a p k A B = (List.range (dN d)).flatMap (rc d op (rl d op n s) s a p k A B) := rfl
theorem fm_step {β : Type} {w N : Nat} (h : w < N) (f : Nat → List β) : (List.range' w (N - w)).flatMap f = f w ++ (List.range' (w + 1) (N - (w + 1))).flatMap f := by
  rw [show N - w = (N - (w + 1)) + 1 by omega, List.range'_succ, List.flatMap_cons]
theorem mdl_mf {σ σ' : ES} {d : CD} (h : mdl σ d) (g : mf σ σ') : mdl σ' d := mdl_c h (fun j hj => g.1 69 j (by omega)) (fun j => g.1 71 j (by omega)) (fun j => g.1 72 j (by omega)) (fun j => g.1 73 j (by omega))
theorem roundL {d : CD} (ok : okD d) {O m s : Nat} (hO : O < 16384) (hm : m < 16384) (hs : s < dP d) (n : Nat) (ih : ∀ a p k A B σ c, a < dP d → p < 64 → k < 16384 → fr p < n → mdl σ d → eI σ 69 8 = nI O → eI σ 69 9 = nI m → aq σ c → ∃ σ', e_X10_goesRound n (nI s) (nI a) (nI p) (nI k) A B σ = some σ' ∧ mf σ σ' ∧ aq σ' ((rl d O.testBit n s a p k A B).foldl (acs m) c)) {a p k : Nat} (ha : a < dP d) (hp : p < 64) (hk : k < 16384) (hf : fr p < n + 1) (A B : Int64) : ∀ f w σ c, w ≤ dN d → dN d - w < f → mdl σ d → eI σ 69 8 = nI O → eI σ 69 9 = nI m → aq σ c → ∃ σ', e_X10_goesRound_L3 (e_X10_goesRound n) (nI s) (nI a) (nI p) (nI k) A B f (nI w) σ = some σ' ∧ mf σ σ' ∧ aq σ' (((List.range' w (dN d - w)).flatMap (rc d O.testBit (rl d O.testBit n s) s a p k A B)).foldl (acs m) c) := by
  have h14 := ok.2.2.1
  have P6 := ok.1
  intro f
  induction f with
  | zero => intro w σ c h1 h2; omega
  | succ f jh =>
    intro w σ c h1 h2 h h8 h9 hq
    have le : nI (dN d) ≤ nI w ↔ dN d ≤ w := nLe (by omega) (by omega)
    simp only [e_X10_goesRound_L3, h.2.2.1]
    by_cases c0 : dN d ≤ w
    · rw [if_pos (le.mpr c0), show dN d - w = 0 by omega]
      exact ⟨σ, rfl, mf.refl σ, hq⟩
    · have hw : w < dN d := by omega
      obtain ⟨ew, lw⟩ := wf_eq ok hw
      obtain ⟨et, lt⟩ := wt_eq ok hw
      have go : ∀ σ1 c1, mf σ σ1 → aq σ1 c1 → c1 = (rc d O.testBit (rl d O.testBit n s) s a p k A B w).foldl (acs m) c → ∃ σ', e_X10_goesRound_L3 (e_X10_goesRound n) (nI s) (nI a) (nI p) (nI k) A B f (nI w + 1) σ1 = some σ' ∧ mf σ σ' ∧ aq σ' (((List.range' w (dN d - w)).flatMap (rc d O.testBit (rl d O.testBit n s) s a p k A B)).foldl (acs m) c) := by
        intro σ1 c1 f1 q1 e1
        obtain ⟨σ', x1, x2, x3⟩ := jh (w + 1) σ1 c1 (by omega) (by omega) (mdl_mf h f1) ((f1.1 69 8 (by omega)).trans h8) ((f1.1 69 9 (by omega)).trans h9) q1
        rw [fm_step hw, List.foldl_append, ← e1, nI_1]
        exact ⟨σ', x1, f1.trans x2, x3⟩
      have nul : rc d O.testBit (rl d O.testBit n s) s a p k A B w = [] → ∃ σ', e_X10_goesRound_L3 (e_X10_goesRound n) (nI s) (nI a) (nI p) (nI k) A B f (nI w + 1) σ = some σ' ∧ mf σ σ' ∧ aq σ' (((List.range' w (dN d - w)).flatMap (rc d O.testBit (rl d O.testBit n s) s a p k A B)).foldl (acs m) c) := fun e => go σ c (mf.refl σ) hq (by rw [e]; rfl)
      rw [if_neg (fun x => c0 (le.mp x)), m_at ok h hw 2 (by decide) 2 rfl, ob, h8]
      by_cases c1 : O.testBit w = true
      · rw [if_pos ((bit_1 (by omega) (by omega)).mpr c1), m_at ok h hw 1 (by decide) 1 rfl, ob, ew, et]
        by_cases c2 : wf d w = a
        · rw [if_pos ((nI_i (by omega) (by omega)).mpr c2)]
          have cc : O.testBit w = true ∧ wf d w = a := ⟨c1, c2⟩
          by_cases c3 : wt d w < s
          · rw [if_pos ((nLt (by omega) (by omega)).mpr c3)]
            apply nul
            unfold rc
            rw [if_pos cc, if_neg (by omega), if_pos c3]
          · rw [if_neg (fun x => c3 ((nLt (by omega) (by omega)).mp x)), m_brings ok h hw, ob, m_lasts ok h hw, ob]
            have sh : nI k ||| ((1 : Int32) <<< (nI w &&& 31)) = nI (k ||| 2 ^ w) := by
              have := p2_14 (t := w) (by omega)
              rw [shl_nI w (by omega), or_nI (by omega) (by omega)]
            rw [sh]
            have l14 : k ||| 2 ^ w < 16384 := or14 hk (by omega)
            by_cases c4 : wt d w = s
            · rw [if_pos ((nI_i (by omega) (by omega)).mpr c4)]
              obtain ⟨σ1, y1, y2, y3⟩ := closes_m hm h9 hq l14 (A + bR d w) (B + lR d w)
              have y1' : e_X10_closes (nI (k ||| 2 ^ w)) (A + (brv (dw d w 0) (dw d w 3) (nI (dW d))).toInt64) (B + (lsv (dw d w 0) (dw d w 4) (nI (dW d))).toInt64) σ = some σ1 := y1
              rw [y1', ob]
              refine go σ1 _ y2 y3 ?_
              unfold rc
              rw [if_pos cc, if_pos c4]
              rfl
            · rw [if_neg (fun x => c4 ((nI_i (by omega) (by omega)).mp x))]
              by_cases c5 : p.testBit (wt d w) = true
              · rw [if_neg (fun x => by rw [(bit_0 (by omega) (by omega)).mp x] at c5; exact absurd c5 (by decide))]
                apply nul
                unfold rc
                rw [if_pos cc, if_neg c4, if_neg c3, if_pos c5]
              · have c5' : p.testBit (wt d w) = false := by simpa using c5
                have sp : nI p ||| ((1 : Int32) <<< (nI (wt d w) &&& 31)) = nI (p ||| 2 ^ wt d w) := by
                  have := p2_14 (t := wt d w) (by omega)
                  rw [shl_nI (wt d w) (by omega), or_nI (by omega) (by omega)]
                rw [if_pos ((bit_0 (by omega) (by omega)).mpr c5'), sp]
                have fl := fr_lt p hp (wt d w) (by omega) c5'
                obtain ⟨σ1, y1, y2, y3⟩ := ih (wt d w) (p ||| 2 ^ wt d w) (k ||| 2 ^ w) (A + bR d w) (B + lR d w) σ c lt (or64 hp (by omega)) l14 (by omega) h h8 h9 hq
                have y1' : e_X10_goesRound n (nI s) (nI (wt d w)) (nI (p ||| 2 ^ wt d w)) (nI (k ||| 2 ^ w)) (A + (brv (dw d w 0) (dw d w 3) (nI (dW d))).toInt64) (B + (lsv (dw d w 0) (dw d w 4) (nI (dW d))).toInt64) σ = some σ1 := y1
                rw [y1', ob]
                refine go σ1 _ y2 y3 ?_
                unfold rc
                rw [if_pos cc, if_neg c4, if_neg c3, if_neg c5]
        · rw [if_neg (fun x => c2 ((nI_i (by omega) (by omega)).mp x))]
          apply nul
          unfold rc
          rw [if_neg (fun x => c2 x.2)]
      · rw [if_neg (fun x => c1 ((bit_1 (by omega) (by omega)).mp x))]
        apply nul
        unfold rc
        rw [if_neg (fun x => c1 x.1)]
theorem round_m {d : CD} (ok : okD d) {O m s : Nat} (hO : O < 16384) (hm : m < 16384) (hs : s < dP d) : ∀ n a p k A B σ c, a < dP d → p < 64 → k < 16384 → fr p < n → mdl σ d → eI σ 69 8 = nI O → eI σ 69 9 = nI m → aq σ c → ∃ σ', e_X10_goesRound n (nI s) (nI a) (nI p) (nI k) A B σ = some σ' ∧ mf σ σ' ∧ aq σ' ((rl d O.testBit n s a p k A B).foldl (acs m) c) := by
  have h14 := ok.2.2.1
  intro n
  induction n with
  | zero => intro a p k A B σ c h1 h2 h3 h4; omega
  | succ n ih =>
    intro a p k A B σ c h1 h2 h3 h4 h5 h6 h7 h8
    obtain ⟨σ', x1, x2, x3⟩ := roundL ok hO hm hs n ih h1 h2 h3 h4 A B mN 0 σ c (by omega) (mN_big (by omega)) h5 h6 h7 h8
    refine ⟨σ', x1, x2, ?_⟩
    rw [rl_succ, List.range_eq_range']
    exact x3
/-- all rings, as both searches find them -/
def al (d : CD) (op : Nat → Bool) : List Rg := (List.range (dP d)).flatMap fun s => rl d op 8 s s (2 ^ s) 0 0 0
theorem bi_d (b : Bool) : bi b = 0 ∨ bi b = 1 := by cases b <;> simp [bi]
def ac0 : Acc := (false, 0, 0, 0)
theorem fr_0 : ∀ s, s < 6 → fr (2 ^ s) < 8 := by decide
theorem ringsL {d : CD} (ok : okD d) {O m : Nat} (hO : O < 16384) (hm : m < 16384) (a1 a2 : Int32) : ∀ f s σ c, s ≤ dP d → dP d - s < f → mdl σ d → eI σ 69 8 = nI O → eI σ 69 9 = nI m → aq σ c → ∃ σ', e_X10_rings_L22 a1 a2 f (nI s) σ = some (bi (((List.range' s (dP d - s)).flatMap fun s => rl d O.testBit 8 s s (2 ^ s) 0 0 0).foldl (acs m) c).1, σ') ∧ mf σ σ' ∧ aq σ' (((List.range' s (dP d - s)).flatMap fun s => rl d O.testBit 8 s s (2 ^ s) 0 0 0).foldl (acs m) c) := by
  have P6 := ok.1
  intro f
  induction f with
  | zero => intro s σ c h1 h2; omega
  | succ f jh =>
    intro s σ c h1 h2 h h8 h9 hq
    have le : nI (dP d) ≤ nI s ↔ dP d ≤ s := nLe (by omega) (by omega)
    simp only [e_X10_rings_L22, h.1]
    by_cases c0 : dP d ≤ s
    · rw [if_pos (le.mpr c0), show dP d - s = 0 by omega]
      refine ⟨σ, ?_, mf.refl σ, hq⟩
      have q1 : eI σ 69 10 = bi c.1 := hq.1
      rw [q1, if_pos (bi_d c.1)]
      rfl
    · have l2 : 2 ^ s < 64 := Nat.pow_lt_pow_right (n := 6) (by decide) (by omega)
      obtain ⟨σ1, y1, y2, y3⟩ := round_m ok hO hm (show s < dP d by omega) 8 s (2 ^ s) 0 0 0 σ c (by omega) l2 (by omega) (fr_0 s (by omega)) h h8 h9 hq
      obtain ⟨σ', x1, x2, x3⟩ := jh (s + 1) σ1 _ (by omega) (by omega) (mdl_mf h y2) ((y2.1 69 8 (by omega)).trans h8) ((y2.1 69 9 (by omega)).trans h9) y3
      rw [if_neg (fun x => c0 (le.mp x)), shl_nI s (by omega)]
      have y1' : e_X10_goesRound 8 (nI s) (nI s) (nI (2 ^ s)) 0 0 0 σ = some σ1 := y1
      rw [y1', ob, nI_1, fm_step (show s < dP d by omega), List.foldl_append]
      exact ⟨σ', x1, y2.trans x2, x3⟩
def mrf (σ σ' : ES) : Prop := (∀ a b, ¬ (a = 69 ∧ (b = 8 ∨ b = 9 ∨ b = 10 ∨ b = 13)) → eI σ' a b = eI σ a b) ∧ ∀ a b, ¬ (a = 69 ∧ (b = 11 ∨ b = 12)) → eL σ' a b = eL σ a b
theorem mdl_mrf {σ σ' : ES} {d : CD} (h : mdl σ d) (g : mrf σ σ') : mdl σ' d := mdl_c h (fun j hj => g.1 69 j (by omega)) (fun j => g.1 71 j (by omega)) (fun j => g.1 72 j (by omega)) (fun j => g.1 73 j (by omega))
theorem rings_m {d : CD} (ok : okD d) {O m : Nat} (hO : O < 16384) (hm : m < 16384) {σ : ES} (h : mdl σ d) : ∃ σ', e_X10_rings (nI O) (nI m) σ = some (bi ((al d O.testBit).foldl (acs m) ac0).1, σ') ∧ mrf σ σ' ∧ aq σ' ((al d O.testBit).foldl (acs m) ac0) := by
  have P6 := ok.1
  obtain ⟨τ, hτ⟩ : ∃ τ, τ = uI (uI (uI (uI σ 69 8 (nI O)) 69 9 (nI m)) 69 10 (0 : Int32)) 69 13 (0 : Int32) := ⟨_, rfl⟩
  have off : ∀ a b, ¬ (a = 69 ∧ (b = 8 ∨ b = 9 ∨ b = 10 ∨ b = 13)) → eI τ a b = eI σ a b := by
    intro a b q
    rw [hτ]
    simp only [eI_uI]
    rw [if_neg (by omega), if_neg (by omega), if_neg (by omega), if_neg (by omega)]
  have f1 : mrf σ τ := ⟨off, fun a b _ => by rw [hτ]; rfl⟩
  obtain ⟨σ', x1, x2, x3⟩ := ringsL ok hO hm (nI O) (nI m) mN 0 τ ac0 (by omega) (mN_big (by omega)) (mdl_mrf h f1) (by rw [hτ]; rfl) (by rw [hτ]; rfl) ⟨by rw [hτ]; rfl, by rw [hτ]; rfl, by decide, fun x => absurd x (by decide)⟩
  unfold al
  rw [List.range_eq_range']
  refine ⟨σ', ?_, ⟨fun a b q => (x2.1 a b (by omega)).trans (off a b q), fun a b q => (x2.2 a b q).trans (f1.2 a b q)⟩, x3⟩
  unfold e_X10_rings
  rw [← hτ]
  exact x1
