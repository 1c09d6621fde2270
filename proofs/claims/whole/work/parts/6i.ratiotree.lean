/-! ===== ratio: is a set a tree, for the class ===== -/
theorem esl_succ (n S : Nat) : esl (n + 1) S = esl n S ++ (if S.testBit n = true then [n] else []) := by
  unfold esl
  rw [List.range_succ, List.filter_append, List.filter_cons, List.filter_nil]
section
variable {d : CD} {σ : ES}
theorem eff_cc (ok : okD d) (S : Nat) : ∀ n, n ≤ dN d → ((∀ u, u < n → S.testBit u = true → eff d (lbs d idl (esl u S)) u) → cc (dP d) (lbs d idl (esl n S)) + (esl n S).length = dP d) ∧ (¬ (∀ u, u < n → S.testBit u = true → eff d (lbs d idl (esl u S)) u) → dP d < cc (dP d) (lbs d idl (esl n S)) + (esl n S).length) := by
  have P6 := ok.1
  intro n
  induction n with
  | zero =>
    intro _
    refine ⟨fun _ => ?_, fun h => absurd (fun u hu => by omega) h⟩
    show cc (dP d) idl + 0 = dP d
    have := cc_id (dP d) (by omega)
    omega
  | succ n ih =>
    intro hn
    obtain ⟨i1, i2⟩ := ih (by omega)
    have hu : ∀ u, u ∈ esl n S → u < dN d := fun u h => by have := (esl_mem.mp h).1; omega
    have okl' := lbs_okl ok (esl n S) (id_okl ok) hu
    have w1 := (wf_eq ok (show n < dN d by omega)).2
    have w2 := (wt_eq ok (show n < dN d by omega)).2
    rw [esl_succ]
    by_cases b : S.testBit n = true
    · rw [if_pos b, List.length_append, lbs_app]
      show (_ → cc (dP d) (jn d (lbs d idl (esl n S)) n) + ((esl n S).length + 1) = dP d) ∧ (_ → dP d < cc (dP d) (jn d (lbs d idl (esl n S)) n) + ((esl n S).length + 1))
      by_cases e : eff d (lbs d idl (esl n S)) n
      · have ce := cc_jn okl' w1 w2 e
        refine ⟨fun h => ?_, fun h => ?_⟩
        · have := i1 (fun u u1 u2 => h u (by omega) u2)
          omega
        · have := i2 (fun x => h (fun u u1 u2 => by
            by_cases q : u = n
            · subst q
              exact e
            · exact x u (by omega) u2))
          omega
      · rw [jn_no e]
        refine ⟨fun h => absurd (h n (by omega) b) e, fun _ => ?_⟩
        by_cases x : ∀ u, u < n → S.testBit u = true → eff d (lbs d idl (esl u S)) u
        · have := i1 x
          omega
        · have := i2 x
          omega
    · rw [if_neg b, List.append_nil]
      refine ⟨fun h => i1 (fun u u1 u2 => h u (by omega) u2), fun h => i2 (fun x => h (fun u u1 u2 => ?_))⟩
      by_cases q : u = n
      · subst q
        exact absurd u2 b
      · exact x u (by omega) u2
theorem isTree_L (ok : okD d) {S : Nat} (hS : S < 16384) : ∀ f k σ, k ≤ dN d → dN d - k < f → cls σ 1 d → lrep55 σ (lbs d idl (esl k S)) → (∀ u, u < k → S.testBit u = true → eff d (lbs d idl (esl u S)) u) → ∃ y σ', e_X2_isTree_55_1_L21 (nI S) f (nI k) σ = some (y, σ') ∧ jf55 σ σ' ∧ ((y = 1 ∧ ∀ u, u < dN d → S.testBit u = true → eff d (lbs d idl (esl u S)) u) ∨ (y = 0 ∧ ¬ ∀ u, u < dN d → S.testBit u = true → eff d (lbs d idl (esl u S)) u)) := by
  have h14 := ok.2.2.1
  have P6 := ok.1
  intro f
  induction f with
  | zero => intro k σ h1 h2; omega
  | succ f ih =>
    intro k σ h1 h2 hc hr hp
    have le : nI (dN d) ≤ nI k ↔ dN d ≤ k := nLe (by omega) (by omega)
    simp only [e_X2_isTree_55_1_L21, hc.2.2.1]
    by_cases q : dN d ≤ k
    · rw [if_pos (le.mpr q)]
      exact ⟨1, σ, rfl, jf55.refl σ, Or.inl ⟨rfl, fun u u1 u2 => hp u (by omega) u2⟩⟩
    · have hk : k < dN d := by omega
      obtain ⟨ew, lw⟩ := wf_eq ok hk
      obtain ⟨et, lt⟩ := wt_eq ok hk
      have e3 : eI σ 3 k = dw d k 1 := hc.2.2.2.2.1 k hk 1 (by decide)
      have e4 : eI σ 4 k = dw d k 2 := hc.2.2.2.2.1 k hk 2 (by decide)
      have hl := lbs6 ok (esl k S) (lab := idl) (fun p hp => hp) (fun u h => by have := (esl_mem.mp h).1; omega)
      rw [if_neg (fun y => q (le.mp y)), nI_1]
      by_cases b : S.testBit k = true
      · rw [if_neg (fun y => by rw [(and_bit (by omega) (by omega)).mp y] at b; cases b), if_pos (mib_nI (by omega) (by decide)), nIc (by omega), e3, e4, ew, et, apart55 hr hl (show wf d k < 6 by omega) (show wt d k < 6 by omega), ob]
        by_cases c : lbs d idl (esl k S) (wf d k) = lbs d idl (esl k S) (wt d k)
        · rw [if_pos c, if_pos rfl]
          exact ⟨0, σ, rfl, jf55.refl σ, Or.inr ⟨rfl, fun h => h k hk b c⟩⟩
        · obtain ⟨σ1, s1, s2, s3⟩ := join55 (d := d) hr hl (u := k) (by omega) (by omega)
          rw [if_neg c, if_neg (by decide), s1, ob]
          have e : lbs d idl (esl (k + 1) S) = jn d (lbs d idl (esl k S)) k := by
            rw [esl_succ, if_pos b, lbs_app]
            rfl
          obtain ⟨y, σ2, t1, t2, t3⟩ := ih (k + 1) σ1 (by omega) (by omega) (cls_c hc (fun p q h1 h2 => s2.1 p q (by omega))) (by rw [e]; exact s3) (fun u u1 u2 => by
            by_cases x : u = k
            · subst x
              exact c
            · exact hp u (by omega) u2)
          exact ⟨y, σ2, t1, s2.trans t2, t3⟩
      · have b' : S.testBit k = false := by simpa using b
        rw [if_pos ((and_bit (by omega) (by omega)).mpr b')]
        refine ih (k + 1) σ (by omega) (by omega) hc ?_ (fun u u1 u2 => ?_)
        · rw [esl_succ, if_neg b, List.append_nil]
          exact hr
        · by_cases x : u = k
          · subst x
            exact absurd u2 b
          · exact hp u (by omega) u2
theorem isTree_c (ok : okD d) (hc : cls σ 1 d) {S : Nat} (hS : S < 2 ^ dN d) : ∃ σ', e_X2_isTree_55_1 (nI S) σ = some (bi (jA d S), σ') ∧ jf55 σ σ' := by
  have h14 := ok.2.2.1
  have P6 := ok.1
  have pw : 2 ^ dN d ≤ 16384 := Nat.pow_le_pow_right (n := 2) (by decide) h14
  have pl := pcl_le 14 S
  have e1 : nI (dP d) - 1 = nI (dP d - 1) := by
    have := nI_pred (dP d - 1)
    rw [show dP d - 1 + 1 = dP d by omega] at this
    exact this
  unfold e_X2_isTree_55_1 jA
  rw [bc_eq (by omega), ob, hc.1, e1]
  by_cases c : pcl 14 S + 1 = dP d
  · rw [if_pos ((nI_i (by omega) (by omega)).mpr (by omega)), decide_eq_true c, Bool.true_and]
    obtain ⟨σ1, s1, s2, s3⟩ := part55 σ
    obtain ⟨y, σ2, t1, t2, t3⟩ := isTree_L ok (S := S) (by omega) mN 0 σ1 (Nat.zero_le _) (mN_big (by omega)) (cls_c hc (fun p q h1 h2 => s2.1 p q (by omega))) s3 (fun u hu => by omega)
    have t1' : e_X2_isTree_55_1_L21 (nI S) mN 0 σ1 = some (y, σ2) := t1
    rw [s1, ob, t1']
    refine ⟨σ2, ?_, s2.trans t2⟩
    obtain ⟨g1, g2⟩ := eff_cc ok S (dN d) (Nat.le_refl _)
    have len := esl_len ok hS
    have hu : ∀ u, u ∈ esl (dN d) S → u < dN d := fun u h => (esl_mem.mp h).1
    have co := cc_one (P := dP d) (by omega) (lbs_okl ok (esl (dN d) S) (id_okl ok) hu)
    rcases t3 with ⟨a, b⟩ | ⟨a, b⟩
    · have := g1 b
      have o : ∀ p, p < dP d → lbs d idl (esl (dN d) S) p = lbs d idl (esl (dN d) S) 0 := co.mp (by omega)
      rw [a, decide_eq_true o]
      rfl
    · have := g2 b
      rw [a, decide_eq_false (fun (o : ∀ p, p < dP d → lbs d idl (esl (dN d) S) p = lbs d idl (esl (dN d) S) 0) => by have := co.mpr o; omega)]
      rfl
  · rw [if_neg (fun y => c (by have := (nI_i (by omega) (by omega)).mp y; omega)), decide_eq_false c, Bool.false_and]
    exact ⟨σ, rfl, jf55.refl σ⟩
end
