theorem lti_0 : (0 : Int32).toInt = 0 := by decide
theorem lti_1 : (1 : Int32).toInt = 1 := by decide
theorem lti_2 : (2 : Int32).toInt = 2 := by decide
theorem lti_3 : (3 : Int32).toInt = 3 := by decide
theorem lti_4 : (4 : Int32).toInt = 4 := by decide
theorem lti_5 : (5 : Int32).toInt = 5 := by decide
theorem lti_6 : (6 : Int32).toInt = 6 := by decide
theorem lti_7 : (7 : Int32).toInt = 7 := by decide
theorem lti_8 : (8 : Int32).toInt = 8 := by decide
theorem lti_9 : (9 : Int32).toInt = 9 := by decide
theorem lti_10 : (10 : Int32).toInt = 10 := by decide
theorem lti_11 : (11 : Int32).toInt = 11 := by decide
theorem lti_12 : (12 : Int32).toInt = 12 := by decide
theorem lti_13 : (13 : Int32).toInt = 13 := by decide
theorem lti_14 : (14 : Int32).toInt = 14 := by decide
theorem lti_15 : (15 : Int32).toInt = 15 := by decide
theorem lti_16 : (16 : Int32).toInt = 16 := by decide
theorem lti_17 : (17 : Int32).toInt = 17 := by decide
theorem lti_18 : (18 : Int32).toInt = 18 := by decide
theorem lti_19 : (19 : Int32).toInt = 19 := by decide
theorem lti_20 : (20 : Int32).toInt = 20 := by decide
theorem lti_21 : (21 : Int32).toInt = 21 := by decide
theorem lti_22 : (22 : Int32).toInt = 22 := by decide
theorem lti_23 : (23 : Int32).toInt = 23 := by decide
theorem lti_24 : (24 : Int32).toInt = 24 := by decide
theorem lti_25 : (25 : Int32).toInt = 25 := by decide
theorem lti_26 : (26 : Int32).toInt = 26 := by decide
theorem lti_27 : (27 : Int32).toInt = 27 := by decide
theorem lti_28 : (28 : Int32).toInt = 28 := by decide
theorem lti_29 : (29 : Int32).toInt = 29 := by decide
theorem lti_30 : (30 : Int32).toInt = 30 := by decide
theorem lti_31 : (31 : Int32).toInt = 31 := by decide
theorem lti_32 : (32 : Int32).toInt = 32 := by decide
theorem lti_33 : (33 : Int32).toInt = 33 := by decide
theorem lti_34 : (34 : Int32).toInt = 34 := by decide
theorem lti_35 : (35 : Int32).toInt = 35 := by decide
theorem lti_36 : (36 : Int32).toInt = 36 := by decide
theorem land63 (x : Int32) : 0 ≤ (x &&& 63).toInt := by
  obtain ⟨j, hj, e⟩ := pk_andE x (m := 63) 6 (by decide)
  rw [e, nI_toInt (by omega)]
  omega
/-! ===== the law's loop ===== -/
def Sim_places (Rel : ES → Prop) : Prop := ∀ (σ : ES), Rel σ → ∀ (a0 : Int32), ∃ (r : Int32) (σ1 : ES) (σ2 : ES), e_X9_places a0 σ = some (r, σ1) ∧ e_X10_places a0 σ1 = some (r, σ2) ∧ Rel σ2
def Sim_weather (Rel : ES → Prop) : Prop := ∀ (σ : ES), Rel σ → ∀ (a0 : Int32), ∃ (r : Int32) (σ1 : ES) (σ2 : ES), e_X9_weather a0 σ = some (r, σ1) ∧ e_X10_weather a0 σ1 = some (r, σ2) ∧ Rel σ2
def Sim_way (Rel : ES → Prop) : Prop := ∀ (σ : ES), Rel σ → ∀ (a0 : Int32) (a1 : Int32) (a2 : Int32) (a3 : Int32) (a4 : Int32), ∃ (r : Int32) (σ1 : ES) (σ2 : ES), e_X9_way a0 a1 a2 a3 a4 σ = some (r, σ1) ∧ e_X10_way a0 a1 a2 a3 a4 σ1 = some (r, σ2) ∧ Rel σ2
def Sim_of (Rel : ES → Prop) : Prop := ∀ (σ : ES), Rel σ → ∀ (a0 : Int32) (a1 : Int32), ∃ (r : Int32) (σ1 : ES) (σ2 : ES), e_X9_of a0 a1 σ = some (r, σ1) ∧ e_X10_of a0 a1 σ1 = some (r, σ2) ∧ Rel σ2
def Sim_change (Rel : ES → Prop) : Prop := ∀ (σ : ES), Rel σ → ∀ (a0 : Int32) (a1 : Int32) (a2 : Int32), ∃ (r : Int32) (σ1 : ES) (σ2 : ES), e_X9_change a0 a1 a2 σ = some (r, σ1) ∧ e_X10_change a0 a1 a2 σ1 = some (r, σ2) ∧ Rel σ2
def Sim_as (Rel : ES → Prop) : Prop := ∀ (σ : ES), Rel σ → ∀ (a0 : Int32) (a1 : Int32), ∃ (r : Int32) (σ1 : ES) (σ2 : ES), e_X9_as a0 a1 σ = some (r, σ1) ∧ e_X10_as a0 a1 σ1 = some (r, σ2) ∧ Rel σ2
def Sim_thing (Rel : ES → Prop) : Prop := ∀ (σ : ES), Rel σ → ∀ (a0 : Int32) (a1 : Int32), ∃ (r : Int32) (σ1 : ES) (σ2 : ES), e_X9_thing a0 a1 σ = some (r, σ1) ∧ e_X10_thing a0 a1 σ1 = some (r, σ2) ∧ Rel σ2
def Sim_alter (Rel : ES → Prop) : Prop := ∀ (σ : ES), Rel σ → ∀ (a0 : Int32) (a1 : Int32) (a2 : Int32), ∃ (r : Int32) (σ1 : ES) (σ2 : ES), e_X9_alter a0 a1 a2 σ = some (r, σ1) ∧ e_X10_alter a0 a1 a2 σ1 = some (r, σ2) ∧ Rel σ2
def Sim_its (Rel : ES → Prop) : Prop := ∀ (σ : ES), Rel σ → ∀ (a0 : Int32) (a1 : Int32), ∃ (r : Int32) (σ1 : ES) (σ2 : ES), e_X9_its a0 a1 σ = some (r, σ1) ∧ e_X10_its a0 a1 σ1 = some (r, σ2) ∧ Rel σ2
def Sim_ring (Rel : ES → Prop) : Prop := ∀ (σ : ES), Rel σ → ∀ (a0 : Int32), ∃ (r : Int64) (σ1 : ES) (σ2 : ES), e_X9_ring a0 σ = some (r, σ1) ∧ e_X10_ring a0 σ1 = some (r, σ2) ∧ Rel σ2
def Sim_ringWays (Rel : ES → Prop) : Prop := ∀ (σ : ES), Rel σ → ∃ (r : Int32) (σ1 : ES) (σ2 : ES), e_X9_ringWays σ = some (r, σ1) ∧ e_X10_ringWays σ1 = some (r, σ2) ∧ Rel σ2
def Sim_lift (Rel : ES → Prop) : Prop := ∀ (σ : ES), Rel σ → ∀ (a0 : Int32) (a1 : Int32), ∃ (r : Int64) (σ1 : ES) (σ2 : ES), e_X9_lift a0 a1 σ = some (r, σ1) ∧ e_X10_lift a0 a1 σ1 = some (r, σ2) ∧ Rel σ2
def Sim_worth (Rel : ES → Prop) : Prop := ∀ (σ : ES), Rel σ → ∀ (a0 : Int64), ∃ (r : Int64) (σ1 : ES) (σ2 : ES), e_X9_worth a0 σ = some (r, σ1) ∧ e_X10_worth a0 σ1 = some (r, σ2) ∧ Rel σ2
def Sim_raise (Rel : ES → Prop) : Prop := ∀ (σ : ES), Rel σ → ∀ (a0 : Int32), ∃ (r : Int32) (σ1 : ES) (σ2 : ES), e_X9_raise a0 σ = some (r, σ1) ∧ e_X10_raise a0 σ1 = some (r, σ2) ∧ Rel σ2
def Sim_lose (Rel : ES → Prop) : Prop := ∀ (σ : ES), Rel σ → ∃ (r : Int32) (σ1 : ES) (σ2 : ES), e_X9_lose σ = some (r, σ1) ∧ e_X10_lose σ1 = some (r, σ2) ∧ Rel σ2
def Sim_kind (Rel : ES → Prop) : Prop := ∀ (σ : ES), Rel σ → ∀ (a0 : Int32), ∃ (r : Int32) (σ1 : ES) (σ2 : ES), e_X9_kind a0 σ = some (r, σ1) ∧ e_X10_kind a0 σ1 = some (r, σ2) ∧ Rel σ2
def Sim_season (Rel : ES → Prop) : Prop := ∀ (σ : ES), Rel σ → ∃ (r : Int32) (σ1 : ES) (σ2 : ES), e_X9_season σ = some (r, σ1) ∧ e_X10_season σ1 = some (r, σ2) ∧ Rel σ2
def Sim_tree (Rel : ES → Prop) : Prop := ∀ (σ : ES), Rel σ → ∀ (a0 : Int32), ∃ (r : Int64) (σ1 : ES) (σ2 : ES), e_X9_tree a0 σ = some (r, σ1) ∧ e_X10_tree a0 σ1 = some (r, σ2) ∧ Rel σ2
def Sim_walk (Rel : ES → Prop) : Prop := ∀ (σ : ES), Rel σ → ∀ (a0 : Int32) (a1 : Int32) (a2 : Int32), ∃ (r : Int64) (σ1 : ES) (σ2 : ES), e_X9_walk a0 a1 a2 σ = some (r, σ1) ∧ e_X10_walk a0 a1 a2 σ1 = some (r, σ2) ∧ Rel σ2
def Sim_load (Rel : ES → Prop) : Prop := ∀ (σ : ES), Rel σ → ∀ (a0 : Int32) (a1 : Int32), ∃ (r : Int64) (σ1 : ES) (σ2 : ES), e_X9_load a0 a1 σ = some (r, σ1) ∧ e_X10_load a0 a1 σ1 = some (r, σ2) ∧ Rel σ2
def Sim_ratio (Rel : ES → Prop) : Prop := ∀ (σ : ES), Rel σ → ∀ (a0 : Int32) (a1 : Int32) (a2 : Int32), ∃ (r : Int64) (σ1 : ES) (σ2 : ES), e_X9_ratio a0 a1 a2 σ = some (r, σ1) ∧ e_X10_ratio a0 a1 a2 σ1 = some (r, σ2) ∧ Rel σ2
def Sim_compare (Rel : ES → Prop) : Prop := ∀ (σ : ES), Rel σ → ∀ (a0 : Int32) (a1 : Int32) (a2 : Int32), ∃ (r : Int32) (σ1 : ES) (σ2 : ES), e_X9_compare a0 a1 a2 σ = some (r, σ1) ∧ e_X10_compare a0 a1 a2 σ1 = some (r, σ2) ∧ Rel σ2
def Sim_reduce (Rel : ES → Prop) : Prop := ∀ (σ : ES), Rel σ → ∀ (a0 : Int32) (a1 : Int32), ∃ (r : Int64) (σ1 : ES) (σ2 : ES), e_X9_reduce a0 a1 σ = some (r, σ1) ∧ e_X10_reduce a0 a1 σ1 = some (r, σ2) ∧ Rel σ2
def Sim_add (Rel : ES → Prop) : Prop := ∀ (σ : ES), Rel σ → ∀ (a0 : Int32) (a1 : Int32) (a2 : Int32), ∃ (r : Int32) (σ1 : ES) (σ2 : ES), e_X9_add a0 a1 a2 σ = some (r, σ1) ∧ e_X10_add a0 a1 a2 σ1 = some (r, σ2) ∧ Rel σ2
def Sim_feed (Rel : ES → Prop) : Prop := ∀ (σ : ES), Rel σ → ∀ (a0 : Int32) (a1 : Int32), ∃ (r : Int32) (σ1 : ES) (σ2 : ES), e_X9_feed a0 a1 σ = some (r, σ1) ∧ e_X10_feed a0 a1 σ1 = some (r, σ2) ∧ Rel σ2
def Sim_wipe (Rel : ES → Prop) : Prop := ∀ (σ : ES), Rel σ → ∃ (r : Int32) (σ1 : ES) (σ2 : ES), e_X9_wipe σ = some (r, σ1) ∧ e_X10_wipe σ1 = some (r, σ2) ∧ Rel σ2
def Sim_text (Rel : ES → Prop) : Prop := ∀ (σ : ES), Rel σ → ∃ (r : Int32) (σ1 : ES) (σ2 : ES), e_X9_text σ = some (r, σ1) ∧ e_X10_text σ1 = some (r, σ2) ∧ Rel σ2
def Sim_sheet (Rel : ES → Prop) : Prop := ∀ (σ : ES), Rel σ → ∀ (a0 : Int32) (a1 : Int32) (a2 : Int32), ∃ (r : Int32) (σ1 : ES) (σ2 : ES), e_X9_sheet a0 a1 a2 σ = some (r, σ1) ∧ e_X10_sheet a0 a1 a2 σ1 = some (r, σ2) ∧ Rel σ2
def Sim_write (Rel : ES → Prop) : Prop := ∀ (σ : ES), Rel σ → ∀ (a0 : Int32) (a1 : Int32) (a2 : Int64), ∃ (r : Int32) (σ1 : ES) (σ2 : ES), e_X9_write a0 a1 a2 σ = some (r, σ1) ∧ e_X10_write a0 a1 a2 σ1 = some (r, σ2) ∧ Rel σ2
def Sim_read (Rel : ES → Prop) : Prop := ∀ (σ : ES), Rel σ → ∀ (a0 : Int32) (a1 : Int32), ∃ (r : Int64) (σ1 : ES) (σ2 : ES), e_X9_read a0 a1 σ = some (r, σ1) ∧ e_X10_read a0 a1 σ1 = some (r, σ2) ∧ Rel σ2
def Sim_copy (Rel : ES → Prop) : Prop := ∀ (σ : ES), Rel σ → ∀ (a0 : Int32) (a1 : Int32) (a2 : Int32) (a3 : Int32) (a4 : Int32), ∃ (r : Int32) (σ1 : ES) (σ2 : ES), e_X9_copy a0 a1 a2 a3 a4 σ = some (r, σ1) ∧ e_X10_copy a0 a1 a2 a3 a4 σ1 = some (r, σ2) ∧ Rel σ2
def Sim_lays (Rel : ES → Prop) : Prop := ∀ (σ : ES), Rel σ → ∀ (a0 : Int32), ∃ (r : Int32) (σ1 : ES) (σ2 : ES), e_X9_lays a0 σ = some (r, σ1) ∧ e_X10_lays a0 σ1 = some (r, σ2) ∧ Rel σ2
def Sim_image (Rel : ES → Prop) : Prop := ∀ (σ : ES), Rel σ → ∃ (r : Int32) (σ1 : ES) (σ2 : ES), e_X9_image σ = some (r, σ1) ∧ e_X10_image σ1 = some (r, σ2) ∧ Rel σ2
def Sim_undo (Rel : ES → Prop) : Prop := ∀ (σ : ES), Rel σ → ∃ (r : Int32) (σ1 : ES) (σ2 : ES), e_X9_undo σ = some (r, σ1) ∧ e_X10_undo σ1 = some (r, σ2) ∧ Rel σ2
def Sim_tear (Rel : ES → Prop) : Prop := ∀ (σ : ES), Rel σ → ∃ (r : Int32) (σ1 : ES) (σ2 : ES), e_X9_tear σ = some (r, σ1) ∧ e_X10_tear σ1 = some (r, σ2) ∧ Rel σ2
def Sim_count (Rel : ES → Prop) : Prop := ∀ (σ : ES), Rel σ → ∀ (a0 : Int32), ∃ (r : Int32) (σ1 : ES) (σ2 : ES), e_X9_count a0 σ = some (r, σ1) ∧ e_X10_count a0 σ1 = some (r, σ2) ∧ Rel σ2
def Sim_status (Rel : ES → Prop) : Prop := ∀ (σ : ES), Rel σ → ∀ (a0 : Int32), ∃ (r : Int32) (σ1 : ES) (σ2 : ES), e_X9_status a0 σ = some (r, σ1) ∧ e_X10_status a0 σ1 = some (r, σ2) ∧ Rel σ2
theorem lsub6 {Ln i : Nat} (hL : Ln ≤ 3072) (hi : i ≤ 4000) (h : ¬ nI Ln - 6 < nI i) : i + 6 ≤ Ln := by
  have h1 : (nI Ln).toInt = (Ln : Int) := nI_toInt (by omega)
  have h2 : (nI i).toInt = (i : Int) := nI_toInt (by omega)
  have h3 : (nI Ln - 6).toInt = (Ln : Int) - 6 := by
    rw [Int32.toInt_sub, h1]
    show ((Ln : Int) - 6).bmod _ = _
    rw [Int.bmod_eq_of_le] <;> omega
  rw [Int32.lt_iff_toInt_lt, h2, h3] at h
  omega
set_option maxRecDepth 100000 in
set_option maxHeartbeats 4000000 in
theorem law_loop {l : Launch} {E : MX} {b Ln c s : Nat} {xs : Nat → Int32} {Rel : ES → Prop} (S0 : Sim_places Rel) (S1 : Sim_weather Rel) (S2 : Sim_way Rel) (S3 : Sim_of Rel) (S4 : Sim_change Rel) (S5 : Sim_as Rel) (S6 : Sim_thing Rel) (S7 : Sim_alter Rel) (S8 : Sim_its Rel) (S9 : Sim_ring Rel) (S10 : Sim_ringWays Rel) (S11 : Sim_lift Rel) (S12 : Sim_worth Rel) (S13 : Sim_raise Rel) (S14 : Sim_lose Rel) (S15 : Sim_kind Rel) (S16 : Sim_season Rel) (S17 : Sim_tree Rel) (S18 : Sim_walk Rel) (S19 : Sim_load Rel) (S20 : Sim_ratio Rel) (S21 : Sim_compare Rel) (S22 : Sim_reduce Rel) (S23 : Sim_add Rel) (S24 : Sim_feed Rel) (S25 : Sim_wipe Rel) (S26 : Sim_text Rel) (S27 : Sim_sheet Rel) (S28 : Sim_write Rel) (S29 : Sim_read Rel) (S30 : Sim_copy Rel) (S31 : Sim_lays Rel) (S32 : Sim_image Rel) (S33 : Sim_undo Rel) (S34 : Sim_tear Rel) (S35 : Sim_count Rel) (S36 : Sim_status Rel) (hL : Ln ≤ 3072) (hc : c ≤ 600000) (hs : s ≤ 7302250) : ∀ (n i : Nat) (σ : ES), Rel σ → i ≤ 4000 → Ln + 1 ≤ i + n → LW l E b Ln xs 82 c s (mkS σ) 18 [(3, .int (nI i)), (2, .ref 69), (1, .ref 0), (0, .ref 2002)] [] := by
  intro n
  induction n with
  | zero =>
    intro i σ hRel hi hn
    refine lw_iload_n dL_law_18 0 rfl ?_
    refine lw_aload_n dL_law_19 3 rfl ?_
    refine lw_len dL_law_20 ?_
    refine lw_bipush (v := 6) dL_law_21 (by decide) ?_
    refine lw_isub dL_law_23 ?_
    refine lw_icmp_gt (tgt := 1372) dL_law_24 (by decide) (fun hcd => ?_) (fun hcd => absurd (lsub6 hL hi hcd) (by omega))
    refine lw_iconst (v := 1) dL_law_1372 (by decide) ?_
    exact lw_ret1 dL_law_1373 hc hs
  | succ n ih =>
    intro i σ hRel hi hn
    refine lw_iload_n dL_law_18 0 rfl ?_
    refine lw_aload_n dL_law_19 3 rfl ?_
    refine lw_len dL_law_20 ?_
    refine lw_bipush (v := 6) dL_law_21 (by decide) ?_
    refine lw_isub dL_law_23 ?_
    refine lw_icmp_gt (tgt := 1372) dL_law_24 (by decide) (fun hcd => ?_) (fun hcd => ?_)
    · refine lw_iconst (v := 1) dL_law_1372 (by decide) ?_
      exact lw_ret1 dL_law_1373 hc hs
    have h6 := lsub6 hL hi hcd
    have next : ∀ τ : ES, Rel τ → LW l E b Ln xs 82 c s (mkS τ) 1366 [(3, .int (nI i)), (2, .ref 69), (1, .ref 0), (0, .ref 2002)] [] := by
      intro τ hτ
      refine lw_iinc (v := nI (i + 6)) (L' := [(3, .int (nI (i + 6))), (2, .ref 69), (1, .ref 0), (0, .ref 2002)]) dL_law_1366 0 rfl (lnI0 i 6) (by decide) rfl ?_
      refine lw_goto (tgt := 18) dL_law_1369 (by decide) ?_
      exact ih (i + 6) τ hτ (by omega) (by omega)
    refine lw_aload_n dL_law_27 3 rfl ?_
    refine lw_iload_n dL_law_28 0 rfl ?_
    refine lw_ld (i := i + 0) dL_law_29 rfl (by omega) hL ?_
    refine lw_bipush (v := 63) dL_law_30 (by decide) ?_
    refine lw_iand dL_law_32 ?_
    by_cases q0 : xs (i + 0) &&& 63 = 0
    · obtain ⟨r, σ1, σ2, h1, h2, hR⟩ := S0 σ hRel (xs (i + 1))
      exact lw_tabIn (tgt := 196) 0 dL_law_33 q0 (by decide) (by decide) rfl (by decide) (lc_0 h6 hL hc hs h1 h2 (next _ hR))
    by_cases q1 : xs (i + 0) &&& 63 = 1
    · obtain ⟨r, σ1, σ2, h1, h2, hR⟩ := S1 σ hRel (xs (i + 1))
      exact lw_tabIn (tgt := 219) 1 dL_law_33 q1 (by decide) (by decide) rfl (by decide) (lc_1 h6 hL hc hs h1 h2 (next _ hR))
    by_cases q2 : xs (i + 0) &&& 63 = 2
    · obtain ⟨r, σ1, σ2, h1, h2, hR⟩ := S2 σ hRel (xs (i + 1)) (xs (i + 2)) (xs (i + 3)) (xs (i + 4)) (xs (i + 5))
      exact lw_tabIn (tgt := 242) 2 dL_law_33 q2 (by decide) (by decide) rfl (by decide) (lc_2 h6 hL hc hs h1 h2 (next _ hR))
    by_cases q3 : xs (i + 0) &&& 63 = 3
    · obtain ⟨r, σ1, σ2, h1, h2, hR⟩ := S3 σ hRel (xs (i + 1)) (xs (i + 2))
      exact lw_tabIn (tgt := 305) 3 dL_law_33 q3 (by decide) (by decide) rfl (by decide) (lc_3 h6 hL hc hs h1 h2 (next _ hR))
    by_cases q4 : xs (i + 0) &&& 63 = 4
    · obtain ⟨r, σ1, σ2, h1, h2, hR⟩ := S4 σ hRel (xs (i + 1)) (xs (i + 2)) (xs (i + 3))
      exact lw_tabIn (tgt := 338) 4 dL_law_33 q4 (by decide) (by decide) rfl (by decide) (lc_4 h6 hL hc hs h1 h2 (next _ hR))
    by_cases q5 : xs (i + 0) &&& 63 = 5
    · obtain ⟨r, σ1, σ2, h1, h2, hR⟩ := S5 σ hRel (xs (i + 1)) (xs (i + 2))
      exact lw_tabIn (tgt := 381) 5 dL_law_33 q5 (by decide) (by decide) rfl (by decide) (lc_5 h6 hL hc hs h1 h2 (next _ hR))
    by_cases q6 : xs (i + 0) &&& 63 = 6
    · obtain ⟨r, σ1, σ2, h1, h2, hR⟩ := S6 σ hRel (xs (i + 1)) (xs (i + 2))
      exact lw_tabIn (tgt := 414) 6 dL_law_33 q6 (by decide) (by decide) rfl (by decide) (lc_6 h6 hL hc hs h1 h2 (next _ hR))
    by_cases q7 : xs (i + 0) &&& 63 = 7
    · obtain ⟨r, σ1, σ2, h1, h2, hR⟩ := S7 σ hRel (xs (i + 1)) (xs (i + 2)) (xs (i + 3))
      exact lw_tabIn (tgt := 447) 7 dL_law_33 q7 (by decide) (by decide) rfl (by decide) (lc_7 h6 hL hc hs h1 h2 (next _ hR))
    by_cases q8 : xs (i + 0) &&& 63 = 8
    · obtain ⟨r, σ1, σ2, h1, h2, hR⟩ := S8 σ hRel (xs (i + 1)) (xs (i + 2))
      exact lw_tabIn (tgt := 490) 8 dL_law_33 q8 (by decide) (by decide) rfl (by decide) (lc_8 h6 hL hc hs h1 h2 (next _ hR))
    by_cases q9 : xs (i + 0) &&& 63 = 9
    · obtain ⟨r, σ1, σ2, h1, h2, hR⟩ := S9 σ hRel (xs (i + 1))
      exact lw_tabIn (tgt := 523) 9 dL_law_33 q9 (by decide) (by decide) rfl (by decide) (lc_9 h6 hL hc hs h1 h2 (next _ hR))
    by_cases q10 : xs (i + 0) &&& 63 = 10
    · obtain ⟨r, σ1, σ2, h1, h2, hR⟩ := S10 σ hRel 
      exact lw_tabIn (tgt := 547) 10 dL_law_33 q10 (by decide) (by decide) rfl (by decide) (lc_10 h6 hL hc hs h1 h2 (next _ hR))
    by_cases q11 : xs (i + 0) &&& 63 = 11
    · obtain ⟨r, σ1, σ2, h1, h2, hR⟩ := S11 σ hRel (xs (i + 1)) (xs (i + 2))
      exact lw_tabIn (tgt := 560) 11 dL_law_33 q11 (by decide) (by decide) rfl (by decide) (lc_11 h6 hL hc hs h1 h2 (next _ hR))
    by_cases q12 : xs (i + 0) &&& 63 = 12
    · obtain ⟨r, σ1, σ2, h1, h2, hR⟩ := S12 σ hRel (((xs (i + 1)).toInt64 <<< ((32 : Int32).toInt64 &&& 63)) ||| ((xs (i + 2)).toInt64 &&& (4294967295 : Int64)))
      exact lw_tabIn (tgt := 594) 12 dL_law_33 q12 (by decide) (by decide) rfl (by decide) (lc_12 h6 hL hc hs h1 h2 (next _ hR))
    by_cases q13 : xs (i + 0) &&& 63 = 13
    · obtain ⟨r, σ1, σ2, h1, h2, hR⟩ := S13 σ hRel (xs (i + 1))
      exact lw_tabIn (tgt := 648) 13 dL_law_33 q13 (by decide) (by decide) rfl (by decide) (lc_13 h6 hL hc hs h1 h2 (next _ hR))
    by_cases q14 : xs (i + 0) &&& 63 = 14
    · obtain ⟨r, σ1, σ2, h1, h2, hR⟩ := S14 σ hRel 
      exact lw_tabIn (tgt := 671) 14 dL_law_33 q14 (by decide) (by decide) rfl (by decide) (lc_14 h6 hL hc hs h1 h2 (next _ hR))
    by_cases q15 : xs (i + 0) &&& 63 = 15
    · obtain ⟨r, σ1, σ2, h1, h2, hR⟩ := S15 σ hRel (xs (i + 1))
      exact lw_tabIn (tgt := 684) 15 dL_law_33 q15 (by decide) (by decide) rfl (by decide) (lc_15 h6 hL hc hs h1 h2 (next _ hR))
    by_cases q16 : xs (i + 0) &&& 63 = 16
    · obtain ⟨r, σ1, σ2, h1, h2, hR⟩ := S16 σ hRel 
      exact lw_tabIn (tgt := 707) 16 dL_law_33 q16 (by decide) (by decide) rfl (by decide) (lc_16 h6 hL hc hs h1 h2 (next _ hR))
    by_cases q17 : xs (i + 0) &&& 63 = 17
    · obtain ⟨r, σ1, σ2, h1, h2, hR⟩ := S17 σ hRel (xs (i + 1))
      exact lw_tabIn (tgt := 720) 17 dL_law_33 q17 (by decide) (by decide) rfl (by decide) (lc_17 h6 hL hc hs h1 h2 (next _ hR))
    by_cases q18 : xs (i + 0) &&& 63 = 18
    · obtain ⟨r, σ1, σ2, h1, h2, hR⟩ := S18 σ hRel (xs (i + 1)) (xs (i + 2)) (xs (i + 3))
      exact lw_tabIn (tgt := 744) 18 dL_law_33 q18 (by decide) (by decide) rfl (by decide) (lc_18 h6 hL hc hs h1 h2 (next _ hR))
    by_cases q19 : xs (i + 0) &&& 63 = 19
    · obtain ⟨r, σ1, σ2, h1, h2, hR⟩ := S19 σ hRel (xs (i + 1)) (xs (i + 2))
      exact lw_tabIn (tgt := 788) 19 dL_law_33 q19 (by decide) (by decide) rfl (by decide) (lc_19 h6 hL hc hs h1 h2 (next _ hR))
    by_cases q20 : xs (i + 0) &&& 63 = 20
    · obtain ⟨r, σ1, σ2, h1, h2, hR⟩ := S20 σ hRel (xs (i + 1)) (xs (i + 2)) (xs (i + 3))
      exact lw_tabIn (tgt := 822) 20 dL_law_33 q20 (by decide) (by decide) rfl (by decide) (lc_20 h6 hL hc hs h1 h2 (next _ hR))
    by_cases q21 : xs (i + 0) &&& 63 = 21
    · obtain ⟨r, σ1, σ2, h1, h2, hR⟩ := S21 σ hRel (xs (i + 1)) (xs (i + 2)) (xs (i + 3))
      exact lw_tabIn (tgt := 866) 21 dL_law_33 q21 (by decide) (by decide) rfl (by decide) (lc_21 h6 hL hc hs h1 h2 (next _ hR))
    by_cases q22 : xs (i + 0) &&& 63 = 22
    · obtain ⟨r, σ1, σ2, h1, h2, hR⟩ := S22 σ hRel (xs (i + 1)) (xs (i + 2))
      exact lw_tabIn (tgt := 909) 22 dL_law_33 q22 (by decide) (by decide) rfl (by decide) (lc_22 h6 hL hc hs h1 h2 (next _ hR))
    by_cases q23 : xs (i + 0) &&& 63 = 23
    · obtain ⟨r, σ1, σ2, h1, h2, hR⟩ := S23 σ hRel (xs (i + 1)) (xs (i + 2)) (xs (i + 3))
      exact lw_tabIn (tgt := 943) 23 dL_law_33 q23 (by decide) (by decide) rfl (by decide) (lc_23 h6 hL hc hs h1 h2 (next _ hR))
    by_cases q24 : xs (i + 0) &&& 63 = 24
    · obtain ⟨r, σ1, σ2, h1, h2, hR⟩ := S24 σ hRel (xs (i + 1)) (xs (i + 2))
      exact lw_tabIn (tgt := 986) 24 dL_law_33 q24 (by decide) (by decide) rfl (by decide) (lc_24 h6 hL hc hs h1 h2 (next _ hR))
    by_cases q25 : xs (i + 0) &&& 63 = 25
    · obtain ⟨r, σ1, σ2, h1, h2, hR⟩ := S25 σ hRel 
      exact lw_tabIn (tgt := 1019) 25 dL_law_33 q25 (by decide) (by decide) rfl (by decide) (lc_25 h6 hL hc hs h1 h2 (next _ hR))
    by_cases q26 : xs (i + 0) &&& 63 = 26
    · obtain ⟨r, σ1, σ2, h1, h2, hR⟩ := S26 σ hRel 
      exact lw_tabIn (tgt := 1032) 26 dL_law_33 q26 (by decide) (by decide) rfl (by decide) (lc_26 h6 hL hc hs h1 h2 (next _ hR))
    by_cases q27 : xs (i + 0) &&& 63 = 27
    · obtain ⟨r, σ1, σ2, h1, h2, hR⟩ := S27 σ hRel (xs (i + 1)) (xs (i + 2)) (xs (i + 3))
      exact lw_tabIn (tgt := 1045) 27 dL_law_33 q27 (by decide) (by decide) rfl (by decide) (lc_27 h6 hL hc hs h1 h2 (next _ hR))
    by_cases q28 : xs (i + 0) &&& 63 = 28
    · obtain ⟨r, σ1, σ2, h1, h2, hR⟩ := S28 σ hRel (xs (i + 1)) (xs (i + 2)) (((xs (i + 3)).toInt64 <<< ((32 : Int32).toInt64 &&& 63)) ||| ((xs (i + 4)).toInt64 &&& (4294967295 : Int64)))
      exact lw_tabIn (tgt := 1088) 28 dL_law_33 q28 (by decide) (by decide) rfl (by decide) (lc_28 h6 hL hc hs h1 h2 (next _ hR))
    by_cases q29 : xs (i + 0) &&& 63 = 29
    · obtain ⟨r, σ1, σ2, h1, h2, hR⟩ := S29 σ hRel (xs (i + 1)) (xs (i + 2))
      exact lw_tabIn (tgt := 1161) 29 dL_law_33 q29 (by decide) (by decide) rfl (by decide) (lc_29 h6 hL hc hs h1 h2 (next _ hR))
    by_cases q30 : xs (i + 0) &&& 63 = 30
    · obtain ⟨r, σ1, σ2, h1, h2, hR⟩ := S30 σ hRel (xs (i + 1)) (xs (i + 2)) (xs (i + 3)) (xs (i + 4)) (xs (i + 5))
      exact lw_tabIn (tgt := 1195) 30 dL_law_33 q30 (by decide) (by decide) rfl (by decide) (lc_30 h6 hL hc hs h1 h2 (next _ hR))
    by_cases q31 : xs (i + 0) &&& 63 = 31
    · obtain ⟨r, σ1, σ2, h1, h2, hR⟩ := S31 σ hRel (xs (i + 1))
      exact lw_tabIn (tgt := 1258) 31 dL_law_33 q31 (by decide) (by decide) rfl (by decide) (lc_31 h6 hL hc hs h1 h2 (next _ hR))
    by_cases q32 : xs (i + 0) &&& 63 = 32
    · obtain ⟨r, σ1, σ2, h1, h2, hR⟩ := S32 σ hRel 
      exact lw_tabIn (tgt := 1281) 32 dL_law_33 q32 (by decide) (by decide) rfl (by decide) (lc_32 h6 hL hc hs h1 h2 (next _ hR))
    by_cases q33 : xs (i + 0) &&& 63 = 33
    · obtain ⟨r, σ1, σ2, h1, h2, hR⟩ := S33 σ hRel 
      exact lw_tabIn (tgt := 1294) 33 dL_law_33 q33 (by decide) (by decide) rfl (by decide) (lc_33 h6 hL hc hs h1 h2 (next _ hR))
    by_cases q34 : xs (i + 0) &&& 63 = 34
    · obtain ⟨r, σ1, σ2, h1, h2, hR⟩ := S34 σ hRel 
      exact lw_tabIn (tgt := 1307) 34 dL_law_33 q34 (by decide) (by decide) rfl (by decide) (lc_34 h6 hL hc hs h1 h2 (next _ hR))
    by_cases q35 : xs (i + 0) &&& 63 = 35
    · obtain ⟨r, σ1, σ2, h1, h2, hR⟩ := S35 σ hRel (xs (i + 1))
      exact lw_tabIn (tgt := 1320) 35 dL_law_33 q35 (by decide) (by decide) rfl (by decide) (lc_35 h6 hL hc hs h1 h2 (next _ hR))
    by_cases q36 : xs (i + 0) &&& 63 = 36
    · obtain ⟨r, σ1, σ2, h1, h2, hR⟩ := S36 σ hRel (xs (i + 1))
      exact lw_tabIn (tgt := 1343) 36 dL_law_33 q36 (by decide) (by decide) rfl (by decide) (lc_36 h6 hL hc hs h1 h2 (next _ hR))
    have g0 := mne32 q0
    have g1 := mne32 q1
    have g2 := mne32 q2
    have g3 := mne32 q3
    have g4 := mne32 q4
    have g5 := mne32 q5
    have g6 := mne32 q6
    have g7 := mne32 q7
    have g8 := mne32 q8
    have g9 := mne32 q9
    have g10 := mne32 q10
    have g11 := mne32 q11
    have g12 := mne32 q12
    have g13 := mne32 q13
    have g14 := mne32 q14
    have g15 := mne32 q15
    have g16 := mne32 q16
    have g17 := mne32 q17
    have g18 := mne32 q18
    have g19 := mne32 q19
    have g20 := mne32 q20
    have g21 := mne32 q21
    have g22 := mne32 q22
    have g23 := mne32 q23
    have g24 := mne32 q24
    have g25 := mne32 q25
    have g26 := mne32 q26
    have g27 := mne32 q27
    have g28 := mne32 q28
    have g29 := mne32 q29
    have g30 := mne32 q30
    have g31 := mne32 q31
    have g32 := mne32 q32
    have g33 := mne32 q33
    have g34 := mne32 q34
    have g35 := mne32 q35
    have g36 := mne32 q36
    refine lw_tabOut (tgt := 1366) dL_law_33 ?_ (by decide) (next σ hRel)
    simp only [lti_0, lti_1, lti_2, lti_3, lti_4, lti_5, lti_6, lti_7, lti_8, lti_9, lti_10, lti_11, lti_12, lti_13, lti_14, lti_15, lti_16, lti_17, lti_18, lti_19, lti_20, lti_21, lti_22, lti_23, lti_24, lti_25, lti_26, lti_27, lti_28, lti_29, lti_30, lti_31, lti_32, lti_33, lti_34, lti_35, lti_36] at g0 g1 g2 g3 g4 g5 g6 g7 g8 g9 g10 g11 g12 g13 g14 g15 g16 g17 g18 g19 g20 g21 g22 g23 g24 g25 g26 g27 g28 g29 g30 g31 g32 g33 g34 g35 g36
    have hb : 0 ≤ (xs (i + 0) &&& 63).toInt := land63 _
    omega
