theorem wt_1182 : Cond.classLink RL 7 RX9 ∈ mWT := mt_1 (List.mem_of_getElem? (i := 20) rfl) rfl
theorem wt_1183 : Cond.instantiable RX9 12 ∈ mWT := mt_1 (List.mem_of_getElem? (i := 21) rfl) rfl
theorem wt_1184 : Cond.classLink RL 10 RX10 ∈ mWT := mt_5 (List.mem_of_getElem? (i := 30) rfl) rfl
theorem wt_1185 : Cond.instantiable RX10 36 ∈ mWT := mt_5 (List.mem_of_getElem? (i := 31) rfl) rfl
theorem wt_1186 : Cond.code yX9_init cX9_init 2 none ∈ mWT := mt_1 (List.mem_of_getElem? (i := 24) rfl) rfl
theorem wt_1187 : Cond.methodLink RL 9 yX9_init ∈ mWT := mt_1 (List.mem_of_getElem? (i := 22) rfl) rfl
theorem wt_1188 : Cond.instanceMethod yX9_init ∈ mWT := mt_1 (List.mem_of_getElem? (i := 23) rfl) rfl
theorem wt_1189 : Cond.code yX10_init cX10_init 1 none ∈ mWT := mt_5 (List.mem_of_getElem? (i := 34) rfl) rfl
theorem wt_1190 : Cond.methodLink RL 12 yX10_init ∈ mWT := mt_5 (List.mem_of_getElem? (i := 32) rfl) rfl
theorem wt_1191 : Cond.instanceMethod yX10_init ∈ mWT := mt_5 (List.mem_of_getElem? (i := 33) rfl) rfl
theorem lkI_RL_9_yX9_init : MLi RL 9 yX9_init cX9_init 2 none 0 := ⟨wt_1186, wt_1187, wt_1188, wt_8, rfl, by decide +kernel, by decide +kernel, by decide +kernel⟩
theorem lkI_RL_12_yX10_init : MLi RL 12 yX10_init cX10_init 1 none 0 := ⟨wt_1189, wt_1190, wt_1191, wt_581, rfl, by decide +kernel, by decide +kernel, by decide +kernel⟩
/-! ===== from the law's entry, over what the methods' simulations say ===== -/
def z0 : MSt := (fun _ _ => 0, fun _ _ => 0, fun _ _ => none)
theorem zz (k : Nat) : zc z0 k := fun _ => ⟨rfl, rfl, rfl⟩
def sfin : MSt := s_X10_init_69 (s_X9_init_0 z0)
def es0 : ES := (sfin.1, sfin.2.1, fun _ => none)
theorem eR1_sup : rsup (eR1 (fun _ => none)) := by
  intro k j h
  unfold eR1
  split <;> first | rfl | omega | (split <;> first | rfl | omega) | (rw [if_neg (by omega)])
theorem sfin_sup : rsup sfin.2.2 := su_X10_init_69 (su_X9_init_0 (fun _ _ _ => rfl))
theorem sfin_at : ∀ k : Nat, k < 82 → ∀ j : Nat, j < 64 → sfin.2.2 k j = eR1 (fun _ => none) k j := by decide +kernel
theorem sfin_eq : sfin = mkS es0 := by
  have : sfin.2.2 = eR1 (fun _ => none) := by
    funext k j
    by_cases h : k < 82 ∧ j < 64
    · exact sfin_at k h.1 j h.2
    · rw [sfin_sup k j (by omega), eR1_sup k j (by omega)]
  show (sfin.1, sfin.2.1, sfin.2.2) = (sfin.1, sfin.2.1, eR1 (fun _ => none))
  rw [this]
set_option maxRecDepth 100000 in
set_option maxHeartbeats 4000000 in
theorem whole_of {p : Program} {e : Env} {s : State} {m : MethodId} {below : List Frame} {meth : Method} {c : Code} {Rel : ES → Prop} (R0 : Rel es0) (S0 : Sim_places Rel) (S1 : Sim_weather Rel) (S2 : Sim_way Rel) (S3 : Sim_of Rel) (S4 : Sim_change Rel) (S5 : Sim_as Rel) (S6 : Sim_thing Rel) (S7 : Sim_alter Rel) (S8 : Sim_its Rel) (S9 : Sim_ring Rel) (S10 : Sim_ringWays Rel) (S11 : Sim_lift Rel) (S12 : Sim_worth Rel) (S13 : Sim_raise Rel) (S14 : Sim_lose Rel) (S15 : Sim_kind Rel) (S16 : Sim_season Rel) (S17 : Sim_tree Rel) (S18 : Sim_walk Rel) (S19 : Sim_load Rel) (S20 : Sim_ratio Rel) (S21 : Sim_compare Rel) (S22 : Sim_reduce Rel) (S23 : Sim_add Rel) (S24 : Sim_feed Rel) (S25 : Sim_wipe Rel) (S26 : Sim_text Rel) (S27 : Sim_sheet Rel) (S28 : Sim_write Rel) (S29 : Sim_read Rel) (S30 : Sim_copy Rel) (S31 : Sim_lays Rel) (S32 : Sim_image Rel) (S33 : Sim_undo Rel) (S34 : Sim_tear Rel) (S35 : Sim_count Rel) (S36 : Sim_status Rel) (l : Launch) {b L : Nat} {xs : Nat → Int32} (hL : L ≤ 3072) (C0 : lw_At p s m meth c b L xs) : W p l e room_1 s m #[Value.ref b] below meth c s.heap [] 0 0 (lw_Z below #[Value.ref b] s) (entryFrame m ([Value.ref b] : List Value).toArray 4) := by
  obtain ⟨E, hC, eb, es⟩ := start_ctx C0
  have hl := lv_entry ([.ref b]) (n := 4) (Nat.le_of_ble_eq_true rfl)
  rw [lg_entry_eq]
  generalize (lg_sl ([.ref b]) ++ List.replicate (4 - (lg_sl ([.ref b])).length) Slot.unset).toArray = ls at hl ⊢
  have K : LW l E b L xs 0 0 0 z0 0 [(0, .ref 2002)] [] := by
    refine lw_new (n' := 1) (c' := 1) (s' := 12) (ci := 8) rfl rfl rfl tyX9 dL_law_0 rfl rfl rfl uws_8 tyX9_ok (by decide +kernel) wt_1182 wt_1183 wt_8 (zz 0) (by decide) (by decide) (by decide) ?_
    refine lw_dup dL_law_3 rfl ?_
    refine lw_callI (n' := 69) (c' := 69) (s' := 4927) lkI_RL_9_yX9_init dL_law_4 (c_X9_init_0 l z0 (fun k _ => zz k)) (Nat.le_of_ble_eq_true rfl) ⟨by decide, by decide⟩ rfl rfl rfl rfl rfl (by decide) ⟨by decide, by decide⟩ ?_
    refine lw_astore_n (L' := [(1, .ref 0), (0, .ref 2002)]) dL_law_7 rfl (by decide) rfl ?_
    refine lw_new (n' := 70) (c' := 70) (s' := 4963) (ci := 9) rfl rfl rfl tyX10 dL_law_8 rfl rfl rfl uws_9 tyX10_ok (by decide +kernel) wt_1184 wt_1185 wt_581 (z_X9_init_0 (by decide) (zz 69)) (by decide) (by decide) (by decide) ?_
    refine lw_dup dL_law_11 rfl ?_
    refine lw_callI (n' := 82) (c' := 82) (s' := 5634) lkI_RL_12_yX10_init dL_law_12 (c_X10_init_69 l (s_X9_init_0 z0) (fun k hk => z_X9_init_0 (by omega) (zz k))) (Nat.le_of_ble_eq_true rfl) ⟨by decide, by decide⟩ rfl rfl rfl rfl rfl (by decide) ⟨by decide, by decide⟩ ?_
    refine lw_astore_n (L' := [(2, .ref 69), (1, .ref 0), (0, .ref 2002)]) dL_law_15 rfl (by decide) rfl ?_
    refine lw_iconst (v := 0) dL_law_16 (by decide) ?_
    refine lw_istore_n (L' := [(3, .int 0), (2, .ref 69), (1, .ref 0), (0, .ref 2002)]) dL_law_17 rfl (by decide) rfl ?_
    show LW l E b L xs 82 82 5634 sfin 18 [(3, .int (nI 0)), (2, .ref 69), (1, .ref 0), (0, .ref 2002)] []
    rw [sfin_eq]
    exact law_loop S0 S1 S2 S3 S4 S5 S6 S7 S8 S9 S10 S11 S12 S13 S14 S15 S16 S17 S18 S19 S20 S21 S22 S23 S24 S25 S26 S27 S28 S29 S30 S31 S32 S33 S34 S35 S36 hL (by decide) (by decide) (L + 1) 0 es0 R0 (by decide) (by omega)
  refine K p e s m below meth c s.heap [] ls C0 hC eb es ⟨by decide, by omega, va_S.rf, fun k q h => by simp [mwd] at h, by omega⟩ ?_
  show lv_has ls 4 [(0, .ref (mad E 2002))]
  rw [lw_scr eb]
  exact hl
