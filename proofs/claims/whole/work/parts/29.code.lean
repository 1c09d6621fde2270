/-! ===== methods as functions, and that the machine does so (written by gen/all.py) ===== -/
theorem dX10_isWord_0 : decode cX10_isWord 0 = .ok (.aload_n 0, 1) := by decide +kernel
theorem dX10_isWord_1 : decode cX10_isWord 1 = .ok (.getfield 286, 3) := by decide +kernel
theorem dX10_isWord_4 : decode cX10_isWord 4 = .ok (.bipush 10, 2) := by decide +kernel
theorem dX10_isWord_6 : decode cX10_isWord 6 = .ok (.iload_n 1, 1) := by decide +kernel
theorem dX10_isWord_7 : decode cX10_isWord 7 = .ok (.iadd, 1) := by decide +kernel
theorem dX10_isWord_8 : decode cX10_isWord 8 = .ok (.if_icmp .ne 7, 3) := by decide +kernel
theorem dX10_isWord_11 : decode cX10_isWord 11 = .ok (.iconst 1, 1) := by decide +kernel
theorem dX10_isWord_12 : decode cX10_isWord 12 = .ok (.goto 4, 3) := by decide +kernel
theorem dX10_isWord_15 : decode cX10_isWord 15 = .ok (.iconst 0, 1) := by decide +kernel
theorem dX10_isWord_16 : decode cX10_isWord 16 = .ok (.ireturn, 1) := by decide +kernel
def e_X10_isWord (σ : ES) (a1 : Int32) : Option Int32 := if (eI σ 69 28) = ((10 : Int32) + a1) then (some (1 : Int32)) else (some (0 : Int32))
set_option maxRecDepth 100000 in
set_option maxHeartbeats 4000000 in
theorem k_X10_isWord {l : Launch} {σ : ES} {a1 : Int32} {out : Int32} (h : e_X10_isWord σ a1 = some out) : MK l yX10_isWord cX10_isWord 2 (some .boolean) 1 [.ref 69, .int a1] (mkS σ) (some (.int out)) (mkS σ) := by
  unfold e_X10_isWord at h
  refine mw_entry (own := RX10) (ini := false) (L := [(0, .ref 69), (1, .int a1)]) (by decide +kernel) rfl (fun h => nomatch h) rfl (Nat.le_of_ble_eq_true rfl) (Nat.le_of_ble_eq_true rfl) (fun E => ?_)
  refine mw_aload_n dX10_isWord_0 0 rfl ?_
  refine ev_getI fd_RX10_286_9 dX10_isWord_1 rfl rfl ?_
  refine mw_bipush (v := 10) dX10_isWord_4 (by decide) ?_
  refine mw_iload_n dX10_isWord_6 1 rfl ?_
  refine mw_iadd dX10_isWord_7 ?_
  refine mw_icmp_ne (tgt := 15) dX10_isWord_8 (by decide) (fun hc => ?_) (fun hc => ?_)
  · have h := mie hc h
    refine mw_iconst (v := 0) dX10_isWord_15 (by decide) ?_
    exact mw_zret dX10_isWord_16 rfl (by decide) (ers_i h) rfl rfl
  · have h := mit hc h
    refine mw_iconst (v := 1) dX10_isWord_11 (by decide) ?_
    refine mw_goto (tgt := 16) dX10_isWord_12 (by decide) ?_
    exact mw_zret dX10_isWord_16 rfl (by decide) (ers_i h) rfl rfl

theorem dX10_readsGainAndTime_0 : decode cX10_readsGainAndTime 0 = .ok (.aload_n 0, 1) := by decide +kernel
theorem dX10_readsGainAndTime_1 : decode cX10_readsGainAndTime 1 = .ok (.iconst 0, 1) := by decide +kernel
theorem dX10_readsGainAndTime_2 : decode cX10_readsGainAndTime 2 = .ok (.putfield 310, 3) := by decide +kernel
theorem dX10_readsGainAndTime_5 : decode cX10_readsGainAndTime 5 = .ok (.aload_n 0, 1) := by decide +kernel
theorem dX10_readsGainAndTime_6 : decode cX10_readsGainAndTime 6 = .ok (.iconst 1, 1) := by decide +kernel
theorem dX10_readsGainAndTime_7 : decode cX10_readsGainAndTime 7 = .ok (.putfield 313, 3) := by decide +kernel
theorem dX10_readsGainAndTime_10 : decode cX10_readsGainAndTime 10 = .ok (.aload_n 0, 1) := by decide +kernel
theorem dX10_readsGainAndTime_11 : decode cX10_readsGainAndTime 11 = .ok (.bipush 9, 2) := by decide +kernel
theorem dX10_readsGainAndTime_13 : decode cX10_readsGainAndTime 13 = .ok (.invokevirtual 316, 3) := by decide +kernel
theorem dX10_readsGainAndTime_16 : decode cX10_readsGainAndTime 16 = .ok (.ifCond .ne 12, 3) := by decide +kernel
theorem dX10_readsGainAndTime_19 : decode cX10_readsGainAndTime 19 = .ok (.aload_n 0, 1) := by decide +kernel
theorem dX10_readsGainAndTime_20 : decode cX10_readsGainAndTime 20 = .ok (.bipush 10, 2) := by decide +kernel
theorem dX10_readsGainAndTime_22 : decode cX10_readsGainAndTime 22 = .ok (.invokevirtual 316, 3) := by decide +kernel
theorem dX10_readsGainAndTime_25 : decode cX10_readsGainAndTime 25 = .ok (.ifCond .eq 47, 3) := by decide +kernel
theorem dX10_readsGainAndTime_28 : decode cX10_readsGainAndTime 28 = .ok (.aload_n 0, 1) := by decide +kernel
theorem dX10_readsGainAndTime_29 : decode cX10_readsGainAndTime 29 = .ok (.bipush 10, 2) := by decide +kernel
theorem dX10_readsGainAndTime_31 : decode cX10_readsGainAndTime 31 = .ok (.invokevirtual 316, 3) := by decide +kernel
theorem dX10_readsGainAndTime_34 : decode cX10_readsGainAndTime 34 = .ok (.istore_n 1, 1) := by decide +kernel
theorem dX10_readsGainAndTime_35 : decode cX10_readsGainAndTime 35 = .ok (.aload_n 0, 1) := by decide +kernel
theorem dX10_readsGainAndTime_36 : decode cX10_readsGainAndTime 36 = .ok (.invokevirtual 307, 3) := by decide +kernel
theorem dX10_readsGainAndTime_39 : decode cX10_readsGainAndTime 39 = .ok (.aload_n 0, 1) := by decide +kernel
theorem dX10_readsGainAndTime_40 : decode cX10_readsGainAndTime 40 = .ok (.iconst 0, 1) := by decide +kernel
theorem dX10_readsGainAndTime_41 : decode cX10_readsGainAndTime 41 = .ok (.ldc_w 303, 3) := by decide +kernel
theorem dX10_readsGainAndTime_44 : decode cX10_readsGainAndTime 44 = .ok (.invokevirtual 319, 3) := by decide +kernel
theorem dX10_readsGainAndTime_47 : decode cX10_readsGainAndTime 47 = .ok (.ifCond .ne 5, 3) := by decide +kernel
theorem dX10_readsGainAndTime_50 : decode cX10_readsGainAndTime 50 = .ok (.iconst 0, 1) := by decide +kernel
theorem dX10_readsGainAndTime_51 : decode cX10_readsGainAndTime 51 = .ok (.ireturn, 1) := by decide +kernel
theorem dX10_readsGainAndTime_52 : decode cX10_readsGainAndTime 52 = .ok (.aload_n 0, 1) := by decide +kernel
theorem dX10_readsGainAndTime_53 : decode cX10_readsGainAndTime 53 = .ok (.iload_n 1, 1) := by decide +kernel
theorem dX10_readsGainAndTime_54 : decode cX10_readsGainAndTime 54 = .ok (.ifCond .eq 11, 3) := by decide +kernel
theorem dX10_readsGainAndTime_57 : decode cX10_readsGainAndTime 57 = .ok (.aload_n 0, 1) := by decide +kernel
theorem dX10_readsGainAndTime_58 : decode cX10_readsGainAndTime 58 = .ok (.getfield 304, 3) := by decide +kernel
theorem dX10_readsGainAndTime_61 : decode cX10_readsGainAndTime 61 = .ok (.ineg, 1) := by decide +kernel
theorem dX10_readsGainAndTime_62 : decode cX10_readsGainAndTime 62 = .ok (.goto 7, 3) := by decide +kernel
theorem dX10_readsGainAndTime_65 : decode cX10_readsGainAndTime 65 = .ok (.aload_n 0, 1) := by decide +kernel
theorem dX10_readsGainAndTime_66 : decode cX10_readsGainAndTime 66 = .ok (.getfield 304, 3) := by decide +kernel
theorem dX10_readsGainAndTime_69 : decode cX10_readsGainAndTime 69 = .ok (.putfield 310, 3) := by decide +kernel
theorem dX10_readsGainAndTime_72 : decode cX10_readsGainAndTime 72 = .ok (.aload_n 0, 1) := by decide +kernel
theorem dX10_readsGainAndTime_73 : decode cX10_readsGainAndTime 73 = .ok (.bipush 11, 2) := by decide +kernel
theorem dX10_readsGainAndTime_75 : decode cX10_readsGainAndTime 75 = .ok (.invokevirtual 316, 3) := by decide +kernel
theorem dX10_readsGainAndTime_78 : decode cX10_readsGainAndTime 78 = .ok (.ifCond .eq 28, 3) := by decide +kernel
theorem dX10_readsGainAndTime_81 : decode cX10_readsGainAndTime 81 = .ok (.aload_n 0, 1) := by decide +kernel
theorem dX10_readsGainAndTime_82 : decode cX10_readsGainAndTime 82 = .ok (.invokevirtual 307, 3) := by decide +kernel
theorem dX10_readsGainAndTime_85 : decode cX10_readsGainAndTime 85 = .ok (.aload_n 0, 1) := by decide +kernel
theorem dX10_readsGainAndTime_86 : decode cX10_readsGainAndTime 86 = .ok (.iconst 1, 1) := by decide +kernel
theorem dX10_readsGainAndTime_87 : decode cX10_readsGainAndTime 87 = .ok (.ldc_w 303, 3) := by decide +kernel
theorem dX10_readsGainAndTime_90 : decode cX10_readsGainAndTime 90 = .ok (.invokevirtual 319, 3) := by decide +kernel
theorem dX10_readsGainAndTime_93 : decode cX10_readsGainAndTime 93 = .ok (.ifCond .ne 5, 3) := by decide +kernel
theorem dX10_readsGainAndTime_96 : decode cX10_readsGainAndTime 96 = .ok (.iconst 0, 1) := by decide +kernel
theorem dX10_readsGainAndTime_97 : decode cX10_readsGainAndTime 97 = .ok (.ireturn, 1) := by decide +kernel
theorem dX10_readsGainAndTime_98 : decode cX10_readsGainAndTime 98 = .ok (.aload_n 0, 1) := by decide +kernel
theorem dX10_readsGainAndTime_99 : decode cX10_readsGainAndTime 99 = .ok (.aload_n 0, 1) := by decide +kernel
theorem dX10_readsGainAndTime_100 : decode cX10_readsGainAndTime 100 = .ok (.getfield 304, 3) := by decide +kernel
theorem dX10_readsGainAndTime_103 : decode cX10_readsGainAndTime 103 = .ok (.putfield 313, 3) := by decide +kernel
theorem dX10_readsGainAndTime_106 : decode cX10_readsGainAndTime 106 = .ok (.iconst 1, 1) := by decide +kernel
theorem dX10_readsGainAndTime_107 : decode cX10_readsGainAndTime 107 = .ok (.ireturn, 1) := by decide +kernel
def e_X10_readsGainAndTime_J72 (σ : ES) : Option (Int32 × ES) := (e_X10_isWord σ (11 : Int32)).bind (fun r1 => if r1 = 0 then (some ((1 : Int32), σ)) else ((e_X10_next σ).bind (fun r3 => (e_X10_takesNumber (1 : Int32) (999999 : Int32) r3).bind (fun r5 => if r5.1 = 0 then (some ((0 : Int32), r5.2)) else (some ((1 : Int32), (uI r5.2 69 33 (eI r5.2 69 30))))))))
set_option maxRecDepth 100000 in
set_option maxHeartbeats 4000000 in
theorem p_X10_readsGainAndTime_J72 {l : Launch} {E : MX} {out : (Int32 × ES)}   {σ : ES} (h : e_X10_readsGainAndTime_J72 σ = some out) : MV l E cX10_readsGainAndTime RX10 2 (some .boolean) 5 (82, (some (.int out.1)), mkS out.2) (mkS σ) 72 [(0, .ref 69)] [] := by
  unfold e_X10_readsGainAndTime_J72 at h
  refine mw_aload_n dX10_readsGainAndTime_72 0 rfl ?_
  refine mw_bipush (v := 11) dX10_readsGainAndTime_73 (by decide) ?_
  obtain ⟨r1, e2, h⟩ := mbd h
  refine mv_callV_i (As := [.int (11 : Int32)]) (ci := 9) lkV_RX10_316_yX10_isWord dX10_readsGainAndTime_75 (k_X10_isWord e2) rfl rfl rfl rfl (Nat.le_of_ble_eq_true rfl) (by decide) (by decide) ?_
  refine mw_if_eq (tgt := 106) dX10_readsGainAndTime_78 (by decide) (fun hc => ?_) (fun hc => ?_)
  · have h := mit hc h
    refine mw_iconst (v := 1) dX10_readsGainAndTime_106 (by decide) ?_
    exact mw_zret dX10_readsGainAndTime_107 rfl (by decide) (ers_im h) rfl rfl
  · have h := mie hc h
    refine mw_aload_n dX10_readsGainAndTime_81 0 rfl ?_
    obtain ⟨r3, e4, h⟩ := mbd h
    refine mv_callV_v (As := []) (ci := 9) lkV_RX10_307_yX10_next dX10_readsGainAndTime_82 (k_X10_next e4) rfl rfl rfl rfl (Nat.le_of_ble_eq_true rfl) (by decide) (by decide) ?_
    refine mw_aload_n dX10_readsGainAndTime_85 0 rfl ?_
    refine mw_iconst (v := 1) dX10_readsGainAndTime_86 (by decide) ?_
    refine mw_ldcw dX10_readsGainAndTime_87 wt_798 ?_
    obtain ⟨r5, e6, h⟩ := mbd h
    refine mv_callV_i (As := [.int (1 : Int32), .int (999999 : Int32)]) (ci := 9) lkV_RX10_319_yX10_takesNumber dX10_readsGainAndTime_90 (k_X10_takesNumber e6) rfl rfl rfl rfl (Nat.le_of_ble_eq_true rfl) (by decide) (by decide) ?_
    refine mw_if_ne (tgt := 98) dX10_readsGainAndTime_93 (by decide) (fun hc => ?_) (fun hc => ?_)
    · have h := mie hc h
      refine mw_aload_n dX10_readsGainAndTime_98 0 rfl ?_
      refine mw_aload_n dX10_readsGainAndTime_99 0 rfl ?_
      refine ev_getI fd_RX10_304_9 dX10_readsGainAndTime_100 rfl rfl ?_
      refine ev_putI fw_RX10_313_9 dX10_readsGainAndTime_103 rfl rfl ?_
      refine mw_iconst (v := 1) dX10_readsGainAndTime_106 (by decide) ?_
      exact mw_zret dX10_readsGainAndTime_107 rfl (by decide) (ers_im h) rfl rfl
    · have h := mit hc h
      refine mw_iconst (v := 0) dX10_readsGainAndTime_96 (by decide) ?_
      exact mw_zret dX10_readsGainAndTime_97 rfl (by decide) (ers_im h) rfl rfl
def e_X10_readsGainAndTime_J69 (s1 : Int32) (σ : ES) : Option (Int32 × ES) := e_X10_readsGainAndTime_J72 (uI σ 69 32 s1)
set_option maxRecDepth 100000 in
set_option maxHeartbeats 4000000 in
theorem p_X10_readsGainAndTime_J69 {l : Launch} {E : MX} {out : (Int32 × ES)}   {s1 : Int32} {σ : ES} (h : e_X10_readsGainAndTime_J69 s1 σ = some out) : MV l E cX10_readsGainAndTime RX10 2 (some .boolean) 5 (82, (some (.int out.1)), mkS out.2) (mkS σ) 69 [(0, .ref 69)] [.int s1, .ref 69] := by
  unfold e_X10_readsGainAndTime_J69 at h
  refine ev_putI fw_RX10_310_9 dX10_readsGainAndTime_69 rfl rfl ?_
  exact mw_sub (L' := [(0, .ref 69)]) [0] rfl (p_X10_readsGainAndTime_J72  h)
def e_X10_readsGainAndTime_J28 (σ : ES) : Option (Int32 × ES) := (e_X10_isWord σ (10 : Int32)).bind (fun r1 => (e_X10_next σ).bind (fun r3 => (e_X10_takesNumber (0 : Int32) (999999 : Int32) r3).bind (fun r5 => if r5.1 = 0 then (some ((0 : Int32), r5.2)) else (if r1 = 0 then (e_X10_readsGainAndTime_J69 (eI r5.2 69 30) r5.2) else (e_X10_readsGainAndTime_J69 (-(eI r5.2 69 30)) r5.2)))))
set_option maxRecDepth 100000 in
set_option maxHeartbeats 4000000 in
theorem p_X10_readsGainAndTime_J28 {l : Launch} {E : MX} {out : (Int32 × ES)}   {σ : ES} (h : e_X10_readsGainAndTime_J28 σ = some out) : MV l E cX10_readsGainAndTime RX10 2 (some .boolean) 5 (82, (some (.int out.1)), mkS out.2) (mkS σ) 28 [(0, .ref 69)] [] := by
  unfold e_X10_readsGainAndTime_J28 at h
  refine mw_aload_n dX10_readsGainAndTime_28 0 rfl ?_
  refine mw_bipush (v := 10) dX10_readsGainAndTime_29 (by decide) ?_
  obtain ⟨r1, e2, h⟩ := mbd h
  refine mv_callV_i (As := [.int (10 : Int32)]) (ci := 9) lkV_RX10_316_yX10_isWord dX10_readsGainAndTime_31 (k_X10_isWord e2) rfl rfl rfl rfl (Nat.le_of_ble_eq_true rfl) (by decide) (by decide) ?_
  refine mw_istore_n (L' := [(1, .int r1), (0, .ref 69)]) dX10_readsGainAndTime_34 rfl (by decide) rfl ?_
  refine mw_aload_n dX10_readsGainAndTime_35 1 rfl ?_
  obtain ⟨r3, e4, h⟩ := mbd h
  refine mv_callV_v (As := []) (ci := 9) lkV_RX10_307_yX10_next dX10_readsGainAndTime_36 (k_X10_next e4) rfl rfl rfl rfl (Nat.le_of_ble_eq_true rfl) (by decide) (by decide) ?_
  refine mw_aload_n dX10_readsGainAndTime_39 1 rfl ?_
  refine mw_iconst (v := 0) dX10_readsGainAndTime_40 (by decide) ?_
  refine mw_ldcw dX10_readsGainAndTime_41 wt_798 ?_
  obtain ⟨r5, e6, h⟩ := mbd h
  refine mv_callV_i (As := [.int (0 : Int32), .int (999999 : Int32)]) (ci := 9) lkV_RX10_319_yX10_takesNumber dX10_readsGainAndTime_44 (k_X10_takesNumber e6) rfl rfl rfl rfl (Nat.le_of_ble_eq_true rfl) (by decide) (by decide) ?_
  refine mw_if_ne (tgt := 52) dX10_readsGainAndTime_47 (by decide) (fun hc => ?_) (fun hc => ?_)
  · have h := mie hc h
    refine mw_aload_n dX10_readsGainAndTime_52 1 rfl ?_
    refine mw_iload_n dX10_readsGainAndTime_53 0 rfl ?_
    refine mw_if_eq (tgt := 65) dX10_readsGainAndTime_54 (by decide) (fun hc => ?_) (fun hc => ?_)
    · have h := mit hc h
      refine mw_aload_n dX10_readsGainAndTime_65 1 rfl ?_
      refine ev_getI fd_RX10_304_9 dX10_readsGainAndTime_66 rfl rfl ?_
      exact mw_sub (L' := [(0, .ref 69)]) [1] rfl (p_X10_readsGainAndTime_J69  h)
    · have h := mie hc h
      refine mw_aload_n dX10_readsGainAndTime_57 1 rfl ?_
      refine ev_getI fd_RX10_304_9 dX10_readsGainAndTime_58 rfl rfl ?_
      refine mw_ineg dX10_readsGainAndTime_61 ?_
      refine mw_goto (tgt := 69) dX10_readsGainAndTime_62 (by decide) ?_
      exact mw_sub (L' := [(0, .ref 69)]) [1] rfl (p_X10_readsGainAndTime_J69  h)
  · have h := mit hc h
    refine mw_iconst (v := 0) dX10_readsGainAndTime_50 (by decide) ?_
    exact mw_zret dX10_readsGainAndTime_51 rfl (by decide) (ers_im h) rfl rfl
def e_X10_readsGainAndTime (σ : ES) : Option (Int32 × ES) := (e_X10_isWord (uI (uI σ 69 32 (0 : Int32)) 69 33 (1 : Int32)) (9 : Int32)).bind (fun r1 => if r1 = 0 then ((e_X10_isWord (uI (uI σ 69 32 (0 : Int32)) 69 33 (1 : Int32)) (10 : Int32)).bind (fun r3 => if r3 = 0 then (e_X10_readsGainAndTime_J72 (uI (uI σ 69 32 (0 : Int32)) 69 33 (1 : Int32))) else (e_X10_readsGainAndTime_J28 (uI (uI σ 69 32 (0 : Int32)) 69 33 (1 : Int32))))) else (e_X10_readsGainAndTime_J28 (uI (uI σ 69 32 (0 : Int32)) 69 33 (1 : Int32))))
set_option maxRecDepth 100000 in
set_option maxHeartbeats 4000000 in
theorem k_X10_readsGainAndTime {l : Launch} {σ : ES}  {out : (Int32 × ES)} (h : e_X10_readsGainAndTime σ = some out) : MK l yX10_readsGainAndTime cX10_readsGainAndTime 2 (some .boolean) 5 [.ref 69] (mkS σ) (some (.int out.1)) (mkS out.2) := by
  unfold e_X10_readsGainAndTime at h
  refine mw_entry (own := RX10) (ini := false) (L := [(0, .ref 69)]) (by decide +kernel) rfl (fun h => nomatch h) rfl (Nat.le_of_ble_eq_true rfl) (Nat.le_of_ble_eq_true rfl) (fun E => ?_)
  refine mw_aload_n dX10_readsGainAndTime_0 0 rfl ?_
  refine mw_iconst (v := 0) dX10_readsGainAndTime_1 (by decide) ?_
  refine ev_putI fw_RX10_310_9 dX10_readsGainAndTime_2 rfl rfl ?_
  refine mw_aload_n dX10_readsGainAndTime_5 0 rfl ?_
  refine mw_iconst (v := 1) dX10_readsGainAndTime_6 (by decide) ?_
  refine ev_putI fw_RX10_313_9 dX10_readsGainAndTime_7 rfl rfl ?_
  refine mw_aload_n dX10_readsGainAndTime_10 0 rfl ?_
  refine mw_bipush (v := 9) dX10_readsGainAndTime_11 (by decide) ?_
  obtain ⟨r1, e2, h⟩ := mbd h
  refine mv_callV_i (As := [.int (9 : Int32)]) (ci := 9) lkV_RX10_316_yX10_isWord dX10_readsGainAndTime_13 (k_X10_isWord e2) rfl rfl rfl rfl (Nat.le_of_ble_eq_true rfl) (by decide) (by decide) ?_
  refine mw_if_ne (tgt := 28) dX10_readsGainAndTime_16 (by decide) (fun hc => ?_) (fun hc => ?_)
  · have h := mie hc h
    exact mw_sub (L' := [(0, .ref 69)]) [0] rfl (p_X10_readsGainAndTime_J28  h)
  · have h := mit hc h
    refine mw_aload_n dX10_readsGainAndTime_19 0 rfl ?_
    refine mw_bipush (v := 10) dX10_readsGainAndTime_20 (by decide) ?_
    obtain ⟨r3, e4, h⟩ := mbd h
    refine mv_callV_i (As := [.int (10 : Int32)]) (ci := 9) lkV_RX10_316_yX10_isWord dX10_readsGainAndTime_22 (k_X10_isWord e4) rfl rfl rfl rfl (Nat.le_of_ble_eq_true rfl) (by decide) (by decide) ?_
    refine mw_if_eq (tgt := 72) dX10_readsGainAndTime_25 (by decide) (fun hc => ?_) (fun hc => ?_)
    · have h := mit hc h
      exact mw_sub (L' := [(0, .ref 69)]) [0] rfl (p_X10_readsGainAndTime_J72  h)
    · have h := mie hc h
      exact mw_sub (L' := [(0, .ref 69)]) [0] rfl (p_X10_readsGainAndTime_J28  h)

theorem dX10_readsThing_0 : decode cX10_readsThing 0 = .ok (.aload_n 0, 1) := by decide +kernel
theorem dX10_readsThing_1 : decode cX10_readsThing 1 = .ok (.getfield 117, 3) := by decide +kernel
theorem dX10_readsThing_4 : decode cX10_readsThing 4 = .ok (.bipush 12, 2) := by decide +kernel
theorem dX10_readsThing_6 : decode cX10_readsThing 6 = .ok (.if_icmp .ne 5, 3) := by decide +kernel
theorem dX10_readsThing_9 : decode cX10_readsThing 9 = .ok (.iconst 0, 1) := by decide +kernel
theorem dX10_readsThing_10 : decode cX10_readsThing 10 = .ok (.ireturn, 1) := by decide +kernel
theorem dX10_readsThing_11 : decode cX10_readsThing 11 = .ok (.aload_n 0, 1) := by decide +kernel
theorem dX10_readsThing_12 : decode cX10_readsThing 12 = .ok (.invokevirtual 307, 3) := by decide +kernel
theorem dX10_readsThing_15 : decode cX10_readsThing 15 = .ok (.aload_n 0, 1) := by decide +kernel
theorem dX10_readsThing_16 : decode cX10_readsThing 16 = .ok (.invokevirtual 322, 3) := by decide +kernel
theorem dX10_readsThing_19 : decode cX10_readsThing 19 = .ok (.ifCond .ne 5, 3) := by decide +kernel
theorem dX10_readsThing_22 : decode cX10_readsThing 22 = .ok (.iconst 0, 1) := by decide +kernel
theorem dX10_readsThing_23 : decode cX10_readsThing 23 = .ok (.ireturn, 1) := by decide +kernel
theorem dX10_readsThing_24 : decode cX10_readsThing 24 = .ok (.aload_n 0, 1) := by decide +kernel
theorem dX10_readsThing_25 : decode cX10_readsThing 25 = .ok (.getfield 22, 3) := by decide +kernel
theorem dX10_readsThing_28 : decode cX10_readsThing 28 = .ok (.iconst 2, 1) := by decide +kernel
theorem dX10_readsThing_29 : decode cX10_readsThing 29 = .ok (.aload_n 0, 1) := by decide +kernel
theorem dX10_readsThing_30 : decode cX10_readsThing 30 = .ok (.getfield 117, 3) := by decide +kernel
theorem dX10_readsThing_33 : decode cX10_readsThing 33 = .ok (.imul, 1) := by decide +kernel
theorem dX10_readsThing_34 : decode cX10_readsThing 34 = .ok (.aload_n 0, 1) := by decide +kernel
theorem dX10_readsThing_35 : decode cX10_readsThing 35 = .ok (.getfield 310, 3) := by decide +kernel
theorem dX10_readsThing_38 : decode cX10_readsThing 38 = .ok (.iastore, 1) := by decide +kernel
theorem dX10_readsThing_39 : decode cX10_readsThing 39 = .ok (.aload_n 0, 1) := by decide +kernel
theorem dX10_readsThing_40 : decode cX10_readsThing 40 = .ok (.getfield 22, 3) := by decide +kernel
theorem dX10_readsThing_43 : decode cX10_readsThing 43 = .ok (.iconst 2, 1) := by decide +kernel
theorem dX10_readsThing_44 : decode cX10_readsThing 44 = .ok (.aload_n 0, 1) := by decide +kernel
theorem dX10_readsThing_45 : decode cX10_readsThing 45 = .ok (.getfield 117, 3) := by decide +kernel
theorem dX10_readsThing_48 : decode cX10_readsThing 48 = .ok (.imul, 1) := by decide +kernel
theorem dX10_readsThing_49 : decode cX10_readsThing 49 = .ok (.iconst 1, 1) := by decide +kernel
theorem dX10_readsThing_50 : decode cX10_readsThing 50 = .ok (.iadd, 1) := by decide +kernel
theorem dX10_readsThing_51 : decode cX10_readsThing 51 = .ok (.aload_n 0, 1) := by decide +kernel
theorem dX10_readsThing_52 : decode cX10_readsThing 52 = .ok (.getfield 313, 3) := by decide +kernel
theorem dX10_readsThing_55 : decode cX10_readsThing 55 = .ok (.iastore, 1) := by decide +kernel
theorem dX10_readsThing_56 : decode cX10_readsThing 56 = .ok (.aload_n 0, 1) := by decide +kernel
theorem dX10_readsThing_57 : decode cX10_readsThing 57 = .ok (.dup, 1) := by decide +kernel
theorem dX10_readsThing_58 : decode cX10_readsThing 58 = .ok (.getfield 117, 3) := by decide +kernel
theorem dX10_readsThing_61 : decode cX10_readsThing 61 = .ok (.iconst 1, 1) := by decide +kernel
theorem dX10_readsThing_62 : decode cX10_readsThing 62 = .ok (.iadd, 1) := by decide +kernel
theorem dX10_readsThing_63 : decode cX10_readsThing 63 = .ok (.putfield 117, 3) := by decide +kernel
theorem dX10_readsThing_66 : decode cX10_readsThing 66 = .ok (.iconst 1, 1) := by decide +kernel
theorem dX10_readsThing_67 : decode cX10_readsThing 67 = .ok (.ireturn, 1) := by decide +kernel
def e_X10_readsThing (σ : ES) : Option (Int32 × ES) := if (eI σ 69 5) = (12 : Int32) then (some ((0 : Int32), σ)) else ((e_X10_next σ).bind (fun r1 => (e_X10_readsGainAndTime r1).bind (fun r3 => if r3.1 = 0 then (some ((0 : Int32), r3.2)) else (if mib ((2 : Int32) * (eI r3.2 69 5)) 24 = true then (if mib (((2 : Int32) * (eI (uI r3.2 72 ((2 : Int32) * (eI r3.2 69 5)).toNatClampNeg (eI r3.2 69 32)) 69 5)) + (1 : Int32)) 24 = true then (some ((1 : Int32), (uI (uI (uI r3.2 72 ((2 : Int32) * (eI r3.2 69 5)).toNatClampNeg (eI r3.2 69 32)) 72 (((2 : Int32) * (eI (uI r3.2 72 ((2 : Int32) * (eI r3.2 69 5)).toNatClampNeg (eI r3.2 69 32)) 69 5)) + (1 : Int32)).toNatClampNeg (eI (uI r3.2 72 ((2 : Int32) * (eI r3.2 69 5)).toNatClampNeg (eI r3.2 69 32)) 69 33)) 69 5 ((eI (uI (uI r3.2 72 ((2 : Int32) * (eI r3.2 69 5)).toNatClampNeg (eI r3.2 69 32)) 72 (((2 : Int32) * (eI (uI r3.2 72 ((2 : Int32) * (eI r3.2 69 5)).toNatClampNeg (eI r3.2 69 32)) 69 5)) + (1 : Int32)).toNatClampNeg (eI (uI r3.2 72 ((2 : Int32) * (eI r3.2 69 5)).toNatClampNeg (eI r3.2 69 32)) 69 33)) 69 5) + (1 : Int32))))) else none) else none))))
set_option maxRecDepth 100000 in
set_option maxHeartbeats 4000000 in
theorem k_X10_readsThing {l : Launch} {σ : ES}  {out : (Int32 × ES)} (h : e_X10_readsThing σ = some out) : MK l yX10_readsThing cX10_readsThing 1 (some .boolean) 6 [.ref 69] (mkS σ) (some (.int out.1)) (mkS out.2) := by
  unfold e_X10_readsThing at h
  refine mw_entry (own := RX10) (ini := false) (L := [(0, .ref 69)]) (by decide +kernel) rfl (fun h => nomatch h) rfl (Nat.le_of_ble_eq_true rfl) (Nat.le_of_ble_eq_true rfl) (fun E => ?_)
  refine mw_aload_n dX10_readsThing_0 0 rfl ?_
  refine ev_getI fd_RX10_117_9 dX10_readsThing_1 rfl rfl ?_
  refine mw_bipush (v := 12) dX10_readsThing_4 (by decide) ?_
  refine mw_icmp_ne (tgt := 11) dX10_readsThing_6 (by decide) (fun hc => ?_) (fun hc => ?_)
  · have h := mie hc h
    refine mw_aload_n dX10_readsThing_11 0 rfl ?_
    obtain ⟨r1, e2, h⟩ := mbd h
    refine mv_callV_v (As := []) (ci := 9) lkV_RX10_307_yX10_next dX10_readsThing_12 (k_X10_next e2) rfl rfl rfl rfl (Nat.le_of_ble_eq_true rfl) (by decide) (by decide) ?_
    refine mw_aload_n dX10_readsThing_15 0 rfl ?_
    obtain ⟨r3, e4, h⟩ := mbd h
    refine mv_callV_i (As := []) (ci := 9) lkV_RX10_322_yX10_readsGainAndTime dX10_readsThing_16 (k_X10_readsGainAndTime e4) rfl rfl rfl rfl (Nat.le_of_ble_eq_true rfl) (by decide) (by decide) ?_
    refine mw_if_ne (tgt := 24) dX10_readsThing_19 (by decide) (fun hc => ?_) (fun hc => ?_)
    · have h := mie hc h
      refine mw_aload_n dX10_readsThing_24 0 rfl ?_
      refine ev_getR (q := 72) fd_RX10_22_9 dX10_readsThing_25 rfl rfl rfl ?_
      refine mw_iconst (v := 2) dX10_readsThing_28 (by decide) ?_
      refine mw_aload_n dX10_readsThing_29 0 rfl ?_
      refine ev_getI fd_RX10_117_9 dX10_readsThing_30 rfl rfl ?_
      refine mw_imul dX10_readsThing_33 ?_
      refine mw_aload_n dX10_readsThing_34 0 rfl ?_
      refine ev_getI fd_RX10_310_9 dX10_readsThing_35 rfl rfl ?_
      obtain ⟨m5, h⟩ := mif h
      refine ev_iast dX10_readsThing_38 (by decide) rfl m5 ?_
      refine mw_aload_n dX10_readsThing_39 0 rfl ?_
      refine ev_getR (q := 72) fd_RX10_22_9 dX10_readsThing_40 rfl rfl rfl ?_
      refine mw_iconst (v := 2) dX10_readsThing_43 (by decide) ?_
      refine mw_aload_n dX10_readsThing_44 0 rfl ?_
      refine ev_getI fd_RX10_117_9 dX10_readsThing_45 rfl rfl ?_
      refine mw_imul dX10_readsThing_48 ?_
      refine mw_iconst (v := 1) dX10_readsThing_49 (by decide) ?_
      refine mw_iadd dX10_readsThing_50 ?_
      refine mw_aload_n dX10_readsThing_51 0 rfl ?_
      refine ev_getI fd_RX10_313_9 dX10_readsThing_52 rfl rfl ?_
      obtain ⟨m6, h⟩ := mif h
      refine ev_iast dX10_readsThing_55 (by decide) rfl m6 ?_
      refine mw_aload_n dX10_readsThing_56 0 rfl ?_
      refine mw_dup dX10_readsThing_57 rfl ?_
      refine ev_getI fd_RX10_117_9 dX10_readsThing_58 rfl rfl ?_
      refine mw_iconst (v := 1) dX10_readsThing_61 (by decide) ?_
      refine mw_iadd dX10_readsThing_62 ?_
      refine ev_putI fw_RX10_117_9 dX10_readsThing_63 rfl rfl ?_
      refine mw_iconst (v := 1) dX10_readsThing_66 (by decide) ?_
      exact mw_zret dX10_readsThing_67 rfl (by decide) (ers_im h) rfl rfl
    · have h := mit hc h
      refine mw_iconst (v := 0) dX10_readsThing_22 (by decide) ?_
      exact mw_zret dX10_readsThing_23 rfl (by decide) (ers_im h) rfl rfl
  · have h := mit hc h
    refine mw_iconst (v := 0) dX10_readsThing_9 (by decide) ?_
    exact mw_zret dX10_readsThing_10 rfl (by decide) (ers_im h) rfl rfl

theorem dX10_readsWay_0 : decode cX10_readsWay 0 = .ok (.aload_n 0, 1) := by decide +kernel
theorem dX10_readsWay_1 : decode cX10_readsWay 1 = .ok (.getfield 61, 3) := by decide +kernel
theorem dX10_readsWay_4 : decode cX10_readsWay 4 = .ok (.bipush 14, 2) := by decide +kernel
theorem dX10_readsWay_6 : decode cX10_readsWay 6 = .ok (.if_icmp .ne 5, 3) := by decide +kernel
theorem dX10_readsWay_9 : decode cX10_readsWay 9 = .ok (.iconst 0, 1) := by decide +kernel
theorem dX10_readsWay_10 : decode cX10_readsWay 10 = .ok (.ireturn, 1) := by decide +kernel
theorem dX10_readsWay_11 : decode cX10_readsWay 11 = .ok (.aload_n 0, 1) := by decide +kernel
theorem dX10_readsWay_12 : decode cX10_readsWay 12 = .ok (.invokevirtual 307, 3) := by decide +kernel
theorem dX10_readsWay_15 : decode cX10_readsWay 15 = .ok (.aload_n 0, 1) := by decide +kernel
theorem dX10_readsWay_16 : decode cX10_readsWay 16 = .ok (.iconst 0, 1) := by decide +kernel
theorem dX10_readsWay_17 : decode cX10_readsWay 17 = .ok (.aload_n 0, 1) := by decide +kernel
theorem dX10_readsWay_18 : decode cX10_readsWay 18 = .ok (.getfield 15, 3) := by decide +kernel
theorem dX10_readsWay_21 : decode cX10_readsWay 21 = .ok (.iconst 1, 1) := by decide +kernel
theorem dX10_readsWay_22 : decode cX10_readsWay 22 = .ok (.isub, 1) := by decide +kernel
theorem dX10_readsWay_23 : decode cX10_readsWay 23 = .ok (.invokevirtual 319, 3) := by decide +kernel
theorem dX10_readsWay_26 : decode cX10_readsWay 26 = .ok (.ifCond .ne 5, 3) := by decide +kernel
theorem dX10_readsWay_29 : decode cX10_readsWay 29 = .ok (.iconst 0, 1) := by decide +kernel
theorem dX10_readsWay_30 : decode cX10_readsWay 30 = .ok (.ireturn, 1) := by decide +kernel
theorem dX10_readsWay_31 : decode cX10_readsWay 31 = .ok (.aload_n 0, 1) := by decide +kernel
theorem dX10_readsWay_32 : decode cX10_readsWay 32 = .ok (.getfield 304, 3) := by decide +kernel
theorem dX10_readsWay_35 : decode cX10_readsWay 35 = .ok (.istore_n 2, 1) := by decide +kernel
theorem dX10_readsWay_36 : decode cX10_readsWay 36 = .ok (.aload_n 0, 1) := by decide +kernel
theorem dX10_readsWay_37 : decode cX10_readsWay 37 = .ok (.getfield 286, 3) := by decide +kernel
theorem dX10_readsWay_40 : decode cX10_readsWay 40 = .ok (.iconst 1, 1) := by decide +kernel
theorem dX10_readsWay_41 : decode cX10_readsWay 41 = .ok (.if_icmp .ne 11, 3) := by decide +kernel
theorem dX10_readsWay_44 : decode cX10_readsWay 44 = .ok (.aload_n 0, 1) := by decide +kernel
theorem dX10_readsWay_45 : decode cX10_readsWay 45 = .ok (.getfield 300, 3) := by decide +kernel
theorem dX10_readsWay_48 : decode cX10_readsWay 48 = .ok (.iload_n 2, 1) := by decide +kernel
theorem dX10_readsWay_49 : decode cX10_readsWay 49 = .ok (.if_icmp .eq 17, 3) := by decide +kernel
theorem dX10_readsWay_52 : decode cX10_readsWay 52 = .ok (.aload_n 0, 1) := by decide +kernel
theorem dX10_readsWay_53 : decode cX10_readsWay 53 = .ok (.iconst 0, 1) := by decide +kernel
theorem dX10_readsWay_54 : decode cX10_readsWay 54 = .ok (.aload_n 0, 1) := by decide +kernel
theorem dX10_readsWay_55 : decode cX10_readsWay 55 = .ok (.getfield 15, 3) := by decide +kernel
theorem dX10_readsWay_58 : decode cX10_readsWay 58 = .ok (.iconst 1, 1) := by decide +kernel
theorem dX10_readsWay_59 : decode cX10_readsWay 59 = .ok (.isub, 1) := by decide +kernel
theorem dX10_readsWay_60 : decode cX10_readsWay 60 = .ok (.invokevirtual 319, 3) := by decide +kernel
theorem dX10_readsWay_63 : decode cX10_readsWay 63 = .ok (.ifCond .ne 5, 3) := by decide +kernel
theorem dX10_readsWay_66 : decode cX10_readsWay 66 = .ok (.iconst 0, 1) := by decide +kernel
theorem dX10_readsWay_67 : decode cX10_readsWay 67 = .ok (.ireturn, 1) := by decide +kernel
theorem dX10_readsWay_68 : decode cX10_readsWay 68 = .ok (.aload_n 0, 1) := by decide +kernel
theorem dX10_readsWay_69 : decode cX10_readsWay 69 = .ok (.getfield 304, 3) := by decide +kernel
theorem dX10_readsWay_72 : decode cX10_readsWay 72 = .ok (.istore_n 3, 1) := by decide +kernel
theorem dX10_readsWay_73 : decode cX10_readsWay 73 = .ok (.aload_n 0, 1) := by decide +kernel
theorem dX10_readsWay_74 : decode cX10_readsWay 74 = .ok (.invokevirtual 322, 3) := by decide +kernel
theorem dX10_readsWay_77 : decode cX10_readsWay 77 = .ok (.ifCond .ne 5, 3) := by decide +kernel
theorem dX10_readsWay_80 : decode cX10_readsWay 80 = .ok (.iconst 0, 1) := by decide +kernel
theorem dX10_readsWay_81 : decode cX10_readsWay 81 = .ok (.ireturn, 1) := by decide +kernel
theorem dX10_readsWay_82 : decode cX10_readsWay 82 = .ok (.aload_n 0, 1) := by decide +kernel
theorem dX10_readsWay_83 : decode cX10_readsWay 83 = .ok (.iload_n 1, 1) := by decide +kernel
theorem dX10_readsWay_84 : decode cX10_readsWay 84 = .ok (.iload_n 2, 1) := by decide +kernel
theorem dX10_readsWay_85 : decode cX10_readsWay 85 = .ok (.iload_n 3, 1) := by decide +kernel
theorem dX10_readsWay_86 : decode cX10_readsWay 86 = .ok (.aload_n 0, 1) := by decide +kernel
theorem dX10_readsWay_87 : decode cX10_readsWay 87 = .ok (.getfield 310, 3) := by decide +kernel
theorem dX10_readsWay_90 : decode cX10_readsWay 90 = .ok (.aload_n 0, 1) := by decide +kernel
theorem dX10_readsWay_91 : decode cX10_readsWay 91 = .ok (.getfield 313, 3) := by decide +kernel
theorem dX10_readsWay_94 : decode cX10_readsWay 94 = .ok (.invokevirtual 98, 3) := by decide +kernel
theorem dX10_readsWay_97 : decode cX10_readsWay 97 = .ok (.aload_n 0, 1) := by decide +kernel
theorem dX10_readsWay_98 : decode cX10_readsWay 98 = .ok (.bipush 12, 2) := by decide +kernel
theorem dX10_readsWay_100 : decode cX10_readsWay 100 = .ok (.invokevirtual 316, 3) := by decide +kernel
theorem dX10_readsWay_103 : decode cX10_readsWay 103 = .ok (.ifCond .eq 24, 3) := by decide +kernel
theorem dX10_readsWay_106 : decode cX10_readsWay 106 = .ok (.aload_n 0, 1) := by decide +kernel
theorem dX10_readsWay_107 : decode cX10_readsWay 107 = .ok (.getfield 19, 3) := by decide +kernel
theorem dX10_readsWay_110 : decode cX10_readsWay 110 = .ok (.bipush 6, 2) := by decide +kernel
theorem dX10_readsWay_112 : decode cX10_readsWay 112 = .ok (.aload_n 0, 1) := by decide +kernel
theorem dX10_readsWay_113 : decode cX10_readsWay 113 = .ok (.getfield 61, 3) := by decide +kernel
theorem dX10_readsWay_116 : decode cX10_readsWay 116 = .ok (.iconst 1, 1) := by decide +kernel
theorem dX10_readsWay_117 : decode cX10_readsWay 117 = .ok (.isub, 1) := by decide +kernel
theorem dX10_readsWay_118 : decode cX10_readsWay 118 = .ok (.imul, 1) := by decide +kernel
theorem dX10_readsWay_119 : decode cX10_readsWay 119 = .ok (.iconst 5, 1) := by decide +kernel
theorem dX10_readsWay_120 : decode cX10_readsWay 120 = .ok (.iadd, 1) := by decide +kernel
theorem dX10_readsWay_121 : decode cX10_readsWay 121 = .ok (.iconst 1, 1) := by decide +kernel
theorem dX10_readsWay_122 : decode cX10_readsWay 122 = .ok (.iastore, 1) := by decide +kernel
theorem dX10_readsWay_123 : decode cX10_readsWay 123 = .ok (.aload_n 0, 1) := by decide +kernel
theorem dX10_readsWay_124 : decode cX10_readsWay 124 = .ok (.invokevirtual 307, 3) := by decide +kernel
theorem dX10_readsWay_127 : decode cX10_readsWay 127 = .ok (.iconst 1, 1) := by decide +kernel
theorem dX10_readsWay_128 : decode cX10_readsWay 128 = .ok (.ireturn, 1) := by decide +kernel
def e_X10_readsWay_J52 (a1 : Int32) (x2 : Int32) (σ : ES) : Option (Int32 × ES) := (e_X10_takesNumber (0 : Int32) ((eI σ 69 1) - (1 : Int32)) σ).bind (fun r1 => if r1.1 = 0 then (some ((0 : Int32), r1.2)) else ((e_X10_readsGainAndTime r1.2).bind (fun r3 => if r3.1 = 0 then (some ((0 : Int32), r3.2)) else ((e_X10_addWay a1 x2 (eI r1.2 69 30) (eI r3.2 69 32) (eI r3.2 69 33) r3.2).bind (fun r5 => (e_X10_isWord r5 (12 : Int32)).bind (fun r7 => if r7 = 0 then (some ((1 : Int32), r5)) else (if mib (((6 : Int32) * ((eI r5 69 3) - (1 : Int32))) + (5 : Int32)) 84 = true then ((e_X10_next (uI r5 71 (((6 : Int32) * ((eI r5 69 3) - (1 : Int32))) + (5 : Int32)).toNatClampNeg (1 : Int32))).bind (fun r10 => some ((1 : Int32), r10))) else none)))))))
set_option maxRecDepth 100000 in
set_option maxHeartbeats 4000000 in
theorem p_X10_readsWay_J52 {l : Launch} {E : MX} {out : (Int32 × ES)} {a1 : Int32}  {x2 : Int32} {σ : ES} (h : e_X10_readsWay_J52 a1 x2 σ = some out) : MV l E cX10_readsWay RX10 4 (some .boolean) 6 (82, (some (.int out.1)), mkS out.2) (mkS σ) 52 [(0, .ref 69), (1, .int a1), (2, .int x2)] [] := by
  unfold e_X10_readsWay_J52 at h
  refine mw_aload_n dX10_readsWay_52 0 rfl ?_
  refine mw_iconst (v := 0) dX10_readsWay_53 (by decide) ?_
  refine mw_aload_n dX10_readsWay_54 0 rfl ?_
  refine ev_getI fd_RX10_15_9 dX10_readsWay_55 rfl rfl ?_
  refine mw_iconst (v := 1) dX10_readsWay_58 (by decide) ?_
  refine mw_isub dX10_readsWay_59 ?_
  obtain ⟨r1, e2, h⟩ := mbd h
  refine mv_callV_i (As := [.int (0 : Int32), .int ((eI σ 69 1) - (1 : Int32))]) (ci := 9) lkV_RX10_319_yX10_takesNumber dX10_readsWay_60 (k_X10_takesNumber e2) rfl rfl rfl rfl (Nat.le_of_ble_eq_true rfl) (by decide) (by decide) ?_
  refine mw_if_ne (tgt := 68) dX10_readsWay_63 (by decide) (fun hc => ?_) (fun hc => ?_)
  · have h := mie hc h
    refine mw_aload_n dX10_readsWay_68 0 rfl ?_
    refine ev_getI fd_RX10_304_9 dX10_readsWay_69 rfl rfl ?_
    refine mw_istore_n (L' := [(3, .int (eI r1.2 69 30)), (0, .ref 69), (1, .int a1), (2, .int x2)]) dX10_readsWay_72 rfl (by decide) rfl ?_
    refine mw_aload_n dX10_readsWay_73 1 rfl ?_
    obtain ⟨r3, e4, h⟩ := mbd h
    refine mv_callV_i (As := []) (ci := 9) lkV_RX10_322_yX10_readsGainAndTime dX10_readsWay_74 (k_X10_readsGainAndTime e4) rfl rfl rfl rfl (Nat.le_of_ble_eq_true rfl) (by decide) (by decide) ?_
    refine mw_if_ne (tgt := 82) dX10_readsWay_77 (by decide) (fun hc => ?_) (fun hc => ?_)
    · have h := mie hc h
      refine mw_aload_n dX10_readsWay_82 1 rfl ?_
      refine mw_iload_n dX10_readsWay_83 2 rfl ?_
      refine mw_iload_n dX10_readsWay_84 3 rfl ?_
      refine mw_iload_n dX10_readsWay_85 0 rfl ?_
      refine mw_aload_n dX10_readsWay_86 1 rfl ?_
      refine ev_getI fd_RX10_310_9 dX10_readsWay_87 rfl rfl ?_
      refine mw_aload_n dX10_readsWay_90 1 rfl ?_
      refine ev_getI fd_RX10_313_9 dX10_readsWay_91 rfl rfl ?_
      obtain ⟨r5, e6, h⟩ := mbd h
      refine mv_callV_v (As := [.int a1, .int x2, .int (eI r1.2 69 30), .int (eI r3.2 69 32), .int (eI r3.2 69 33)]) (ci := 9) lkV_RX10_98_yX10_addWay dX10_readsWay_94 (k_X10_addWay e6) rfl rfl rfl rfl (Nat.le_of_ble_eq_true rfl) (by decide) (by decide) ?_
      refine mw_aload_n dX10_readsWay_97 1 rfl ?_
      refine mw_bipush (v := 12) dX10_readsWay_98 (by decide) ?_
      obtain ⟨r7, e8, h⟩ := mbd h
      refine mv_callV_i (As := [.int (12 : Int32)]) (ci := 9) lkV_RX10_316_yX10_isWord dX10_readsWay_100 (k_X10_isWord e8) rfl rfl rfl rfl (Nat.le_of_ble_eq_true rfl) (by decide) (by decide) ?_
      refine mw_if_eq (tgt := 127) dX10_readsWay_103 (by decide) (fun hc => ?_) (fun hc => ?_)
      · have h := mit hc h
        refine mw_iconst (v := 1) dX10_readsWay_127 (by decide) ?_
        exact mw_zret dX10_readsWay_128 rfl (by decide) (ers_im h) rfl rfl
      · have h := mie hc h
        refine mw_aload_n dX10_readsWay_106 1 rfl ?_
        refine ev_getR (q := 71) fd_RX10_19_9 dX10_readsWay_107 rfl rfl rfl ?_
        refine mw_bipush (v := 6) dX10_readsWay_110 (by decide) ?_
        refine mw_aload_n dX10_readsWay_112 1 rfl ?_
        refine ev_getI fd_RX10_61_9 dX10_readsWay_113 rfl rfl ?_
        refine mw_iconst (v := 1) dX10_readsWay_116 (by decide) ?_
        refine mw_isub dX10_readsWay_117 ?_
        refine mw_imul dX10_readsWay_118 ?_
        refine mw_iconst (v := 5) dX10_readsWay_119 (by decide) ?_
        refine mw_iadd dX10_readsWay_120 ?_
        refine mw_iconst (v := 1) dX10_readsWay_121 (by decide) ?_
        obtain ⟨m9, h⟩ := mif h
        refine ev_iast dX10_readsWay_122 (by decide) rfl m9 ?_
        refine mw_aload_n dX10_readsWay_123 1 rfl ?_
        obtain ⟨r10, e11, h⟩ := mbd h
        refine mv_callV_v (As := []) (ci := 9) lkV_RX10_307_yX10_next dX10_readsWay_124 (k_X10_next e11) rfl rfl rfl rfl (Nat.le_of_ble_eq_true rfl) (by decide) (by decide) ?_
        refine mw_iconst (v := 1) dX10_readsWay_127 (by decide) ?_
        exact mw_zret dX10_readsWay_128 rfl (by decide) (ers_im h) rfl rfl
    · have h := mit hc h
      refine mw_iconst (v := 0) dX10_readsWay_80 (by decide) ?_
      exact mw_zret dX10_readsWay_81 rfl (by decide) (ers_im h) rfl rfl
  · have h := mit hc h
    refine mw_iconst (v := 0) dX10_readsWay_66 (by decide) ?_
    exact mw_zret dX10_readsWay_67 rfl (by decide) (ers_im h) rfl rfl
def e_X10_readsWay (a1 : Int32) (σ : ES) : Option (Int32 × ES) := if (eI σ 69 3) = (14 : Int32) then (some ((0 : Int32), σ)) else ((e_X10_next σ).bind (fun r1 => (e_X10_takesNumber (0 : Int32) ((eI r1 69 1) - (1 : Int32)) r1).bind (fun r3 => if r3.1 = 0 then (some ((0 : Int32), r3.2)) else (if (eI r3.2 69 28) = (1 : Int32) then (if (eI r3.2 69 29) = (eI r3.2 69 30) then (some ((0 : Int32), r3.2)) else (e_X10_readsWay_J52 a1 (eI r3.2 69 30) r3.2)) else (e_X10_readsWay_J52 a1 (eI r3.2 69 30) r3.2)))))
set_option maxRecDepth 100000 in
set_option maxHeartbeats 4000000 in
theorem k_X10_readsWay {l : Launch} {σ : ES} {a1 : Int32} {out : (Int32 × ES)} (h : e_X10_readsWay a1 σ = some out) : MK l yX10_readsWay cX10_readsWay 4 (some .boolean) 6 [.ref 69, .int a1] (mkS σ) (some (.int out.1)) (mkS out.2) := by
  unfold e_X10_readsWay at h
  refine mw_entry (own := RX10) (ini := false) (L := [(0, .ref 69), (1, .int a1)]) (by decide +kernel) rfl (fun h => nomatch h) rfl (Nat.le_of_ble_eq_true rfl) (Nat.le_of_ble_eq_true rfl) (fun E => ?_)
  refine mw_aload_n dX10_readsWay_0 0 rfl ?_
  refine ev_getI fd_RX10_61_9 dX10_readsWay_1 rfl rfl ?_
  refine mw_bipush (v := 14) dX10_readsWay_4 (by decide) ?_
  refine mw_icmp_ne (tgt := 11) dX10_readsWay_6 (by decide) (fun hc => ?_) (fun hc => ?_)
  · have h := mie hc h
    refine mw_aload_n dX10_readsWay_11 0 rfl ?_
    obtain ⟨r1, e2, h⟩ := mbd h
    refine mv_callV_v (As := []) (ci := 9) lkV_RX10_307_yX10_next dX10_readsWay_12 (k_X10_next e2) rfl rfl rfl rfl (Nat.le_of_ble_eq_true rfl) (by decide) (by decide) ?_
    refine mw_aload_n dX10_readsWay_15 0 rfl ?_
    refine mw_iconst (v := 0) dX10_readsWay_16 (by decide) ?_
    refine mw_aload_n dX10_readsWay_17 0 rfl ?_
    refine ev_getI fd_RX10_15_9 dX10_readsWay_18 rfl rfl ?_
    refine mw_iconst (v := 1) dX10_readsWay_21 (by decide) ?_
    refine mw_isub dX10_readsWay_22 ?_
    obtain ⟨r3, e4, h⟩ := mbd h
    refine mv_callV_i (As := [.int (0 : Int32), .int ((eI r1 69 1) - (1 : Int32))]) (ci := 9) lkV_RX10_319_yX10_takesNumber dX10_readsWay_23 (k_X10_takesNumber e4) rfl rfl rfl rfl (Nat.le_of_ble_eq_true rfl) (by decide) (by decide) ?_
    refine mw_if_ne (tgt := 31) dX10_readsWay_26 (by decide) (fun hc => ?_) (fun hc => ?_)
    · have h := mie hc h
      refine mw_aload_n dX10_readsWay_31 0 rfl ?_
      refine ev_getI fd_RX10_304_9 dX10_readsWay_32 rfl rfl ?_
      refine mw_istore_n (L' := [(2, .int (eI r3.2 69 30)), (0, .ref 69), (1, .int a1)]) dX10_readsWay_35 rfl (by decide) rfl ?_
      refine mw_aload_n dX10_readsWay_36 1 rfl ?_
      refine ev_getI fd_RX10_286_9 dX10_readsWay_37 rfl rfl ?_
      refine mw_iconst (v := 1) dX10_readsWay_40 (by decide) ?_
      refine mw_icmp_ne (tgt := 52) dX10_readsWay_41 (by decide) (fun hc => ?_) (fun hc => ?_)
      · have h := mie hc h
        exact mw_sub (L' := [(0, .ref 69), (1, .int a1), (2, .int (eI r3.2 69 30))]) [1, 2, 0] rfl (p_X10_readsWay_J52  h)
      · have h := mit hc h
        refine mw_aload_n dX10_readsWay_44 1 rfl ?_
        refine ev_getI fd_RX10_300_9 dX10_readsWay_45 rfl rfl ?_
        refine mw_iload_n dX10_readsWay_48 0 rfl ?_
        refine mw_icmp_eq (tgt := 66) dX10_readsWay_49 (by decide) (fun hc => ?_) (fun hc => ?_)
        · have h := mit hc h
          refine mw_iconst (v := 0) dX10_readsWay_66 (by decide) ?_
          exact mw_zret dX10_readsWay_67 rfl (by decide) (ers_im h) rfl rfl
        · have h := mie hc h
          exact mw_sub (L' := [(0, .ref 69), (1, .int a1), (2, .int (eI r3.2 69 30))]) [1, 2, 0] rfl (p_X10_readsWay_J52  h)
    · have h := mit hc h
      refine mw_iconst (v := 0) dX10_readsWay_29 (by decide) ?_
      exact mw_zret dX10_readsWay_30 rfl (by decide) (ers_im h) rfl rfl
  · have h := mit hc h
    refine mw_iconst (v := 0) dX10_readsWay_9 (by decide) ?_
    exact mw_zret dX10_readsWay_10 rfl (by decide) (ers_im h) rfl rfl

theorem dX10_readsItem_0 : decode cX10_readsItem 0 = .ok (.aload_n 0, 1) := by decide +kernel
theorem dX10_readsItem_1 : decode cX10_readsItem 1 = .ok (.getfield 286, 3) := by decide +kernel
theorem dX10_readsItem_4 : decode cX10_readsItem 4 = .ok (.bipush 10, 2) := by decide +kernel
theorem dX10_readsItem_6 : decode cX10_readsItem 6 = .ok (.isub, 1) := by decide +kernel
theorem dX10_readsItem_7 : decode cX10_readsItem 7 = .ok (.istore_n 1, 1) := by decide +kernel
theorem dX10_readsItem_8 : decode cX10_readsItem 8 = .ok (.iload_n 1, 1) := by decide +kernel
theorem dX10_readsItem_9 : decode cX10_readsItem 9 = .ok (.i2l, 1) := by decide +kernel
theorem dX10_readsItem_10 : decode cX10_readsItem 10 = .ok (.lconst 0, 1) := by decide +kernel
theorem dX10_readsItem_11 : decode cX10_readsItem 11 = .ok (.ldc2_w 85, 3) := by decide +kernel
theorem dX10_readsItem_14 : decode cX10_readsItem 14 = .ok (.invokestatic 57, 3) := by decide +kernel
theorem dX10_readsItem_17 : decode cX10_readsItem 17 = .ok (.ifCond .eq 9, 3) := by decide +kernel
theorem dX10_readsItem_20 : decode cX10_readsItem 20 = .ok (.aload_n 0, 1) := by decide +kernel
theorem dX10_readsItem_21 : decode cX10_readsItem 21 = .ok (.iload_n 1, 1) := by decide +kernel
theorem dX10_readsItem_22 : decode cX10_readsItem 22 = .ok (.invokevirtual 325, 3) := by decide +kernel
theorem dX10_readsItem_25 : decode cX10_readsItem 25 = .ok (.ireturn, 1) := by decide +kernel
theorem dX10_readsItem_26 : decode cX10_readsItem 26 = .ok (.iload_n 1, 1) := by decide +kernel
theorem dX10_readsItem_27 : decode cX10_readsItem 27 = .ok (.bipush 6, 2) := by decide +kernel
theorem dX10_readsItem_29 : decode cX10_readsItem 29 = .ok (.if_icmp .ne 8, 3) := by decide +kernel
theorem dX10_readsItem_32 : decode cX10_readsItem 32 = .ok (.aload_n 0, 1) := by decide +kernel
theorem dX10_readsItem_33 : decode cX10_readsItem 33 = .ok (.invokevirtual 328, 3) := by decide +kernel
theorem dX10_readsItem_36 : decode cX10_readsItem 36 = .ok (.ireturn, 1) := by decide +kernel
theorem dX10_readsItem_37 : decode cX10_readsItem 37 = .ok (.iload_n 1, 1) := by decide +kernel
theorem dX10_readsItem_38 : decode cX10_readsItem 38 = .ok (.bipush 7, 2) := by decide +kernel
theorem dX10_readsItem_40 : decode cX10_readsItem 40 = .ok (.if_icmp .eq 11, 3) := by decide +kernel
theorem dX10_readsItem_43 : decode cX10_readsItem 43 = .ok (.iload_n 1, 1) := by decide +kernel
theorem dX10_readsItem_44 : decode cX10_readsItem 44 = .ok (.bipush 8, 2) := by decide +kernel
theorem dX10_readsItem_46 : decode cX10_readsItem 46 = .ok (.if_icmp .eq 5, 3) := by decide +kernel
theorem dX10_readsItem_49 : decode cX10_readsItem 49 = .ok (.iconst 0, 1) := by decide +kernel
theorem dX10_readsItem_50 : decode cX10_readsItem 50 = .ok (.ireturn, 1) := by decide +kernel
theorem dX10_readsItem_51 : decode cX10_readsItem 51 = .ok (.aload_n 0, 1) := by decide +kernel
theorem dX10_readsItem_52 : decode cX10_readsItem 52 = .ok (.invokevirtual 307, 3) := by decide +kernel
theorem dX10_readsItem_55 : decode cX10_readsItem 55 = .ok (.aload_n 0, 1) := by decide +kernel
theorem dX10_readsItem_56 : decode cX10_readsItem 56 = .ok (.iload_n 1, 1) := by decide +kernel
theorem dX10_readsItem_57 : decode cX10_readsItem 57 = .ok (.bipush 7, 2) := by decide +kernel
theorem dX10_readsItem_59 : decode cX10_readsItem 59 = .ok (.if_icmp .ne 10, 3) := by decide +kernel
theorem dX10_readsItem_62 : decode cX10_readsItem 62 = .ok (.aload_n 0, 1) := by decide +kernel
theorem dX10_readsItem_63 : decode cX10_readsItem 63 = .ok (.getfield 15, 3) := by decide +kernel
theorem dX10_readsItem_66 : decode cX10_readsItem 66 = .ok (.goto 4, 3) := by decide +kernel
theorem dX10_readsItem_69 : decode cX10_readsItem 69 = .ok (.iconst 0, 1) := by decide +kernel
theorem dX10_readsItem_70 : decode cX10_readsItem 70 = .ok (.iload_n 1, 1) := by decide +kernel
theorem dX10_readsItem_71 : decode cX10_readsItem 71 = .ok (.bipush 7, 2) := by decide +kernel
theorem dX10_readsItem_73 : decode cX10_readsItem 73 = .ok (.if_icmp .ne 8, 3) := by decide +kernel
theorem dX10_readsItem_76 : decode cX10_readsItem 76 = .ok (.bipush 6, 2) := by decide +kernel
theorem dX10_readsItem_78 : decode cX10_readsItem 78 = .ok (.goto 4, 3) := by decide +kernel
theorem dX10_readsItem_81 : decode cX10_readsItem 81 = .ok (.iconst 5, 1) := by decide +kernel
theorem dX10_readsItem_82 : decode cX10_readsItem 82 = .ok (.invokevirtual 319, 3) := by decide +kernel
theorem dX10_readsItem_85 : decode cX10_readsItem 85 = .ok (.ifCond .ne 5, 3) := by decide +kernel
theorem dX10_readsItem_88 : decode cX10_readsItem 88 = .ok (.iconst 0, 1) := by decide +kernel
theorem dX10_readsItem_89 : decode cX10_readsItem 89 = .ok (.ireturn, 1) := by decide +kernel
theorem dX10_readsItem_90 : decode cX10_readsItem 90 = .ok (.iload_n 1, 1) := by decide +kernel
theorem dX10_readsItem_91 : decode cX10_readsItem 91 = .ok (.bipush 7, 2) := by decide +kernel
theorem dX10_readsItem_93 : decode cX10_readsItem 93 = .ok (.if_icmp .ne 14, 3) := by decide +kernel
theorem dX10_readsItem_96 : decode cX10_readsItem 96 = .ok (.aload_n 0, 1) := by decide +kernel
theorem dX10_readsItem_97 : decode cX10_readsItem 97 = .ok (.aload_n 0, 1) := by decide +kernel
theorem dX10_readsItem_98 : decode cX10_readsItem 98 = .ok (.getfield 304, 3) := by decide +kernel
theorem dX10_readsItem_101 : decode cX10_readsItem 101 = .ok (.putfield 15, 3) := by decide +kernel
theorem dX10_readsItem_104 : decode cX10_readsItem 104 = .ok (.goto 11, 3) := by decide +kernel
theorem dX10_readsItem_107 : decode cX10_readsItem 107 = .ok (.aload_n 0, 1) := by decide +kernel
theorem dX10_readsItem_108 : decode cX10_readsItem 108 = .ok (.aload_n 0, 1) := by decide +kernel
theorem dX10_readsItem_109 : decode cX10_readsItem 109 = .ok (.getfield 304, 3) := by decide +kernel
theorem dX10_readsItem_112 : decode cX10_readsItem 112 = .ok (.putfield 74, 3) := by decide +kernel
theorem dX10_readsItem_115 : decode cX10_readsItem 115 = .ok (.iconst 1, 1) := by decide +kernel
theorem dX10_readsItem_116 : decode cX10_readsItem 116 = .ok (.ireturn, 1) := by decide +kernel
def e_X10_readsItem_J82 (x1 : Int32) (s1 : Int32) (s2 : Int32) (σ : ES) : Option (Int32 × ES) := (e_X10_takesNumber s1 s2 σ).bind (fun r1 => if r1.1 = 0 then (some ((0 : Int32), r1.2)) else (if x1 = (7 : Int32) then (some ((1 : Int32), (uI r1.2 69 1 (eI r1.2 69 30)))) else (some ((1 : Int32), (uI r1.2 69 2 (eI r1.2 69 30))))))
set_option maxRecDepth 100000 in
set_option maxHeartbeats 4000000 in
theorem p_X10_readsItem_J82 {l : Launch} {E : MX} {out : (Int32 × ES)}   {x1 : Int32} {s1 : Int32} {s2 : Int32} {σ : ES} (h : e_X10_readsItem_J82 x1 s1 s2 σ = some out) : MV l E cX10_readsItem RX10 2 (some .boolean) 7 (82, (some (.int out.1)), mkS out.2) (mkS σ) 82 [(0, .ref 69), (1, .int x1)] [.int s2, .int s1, .ref 69] := by
  unfold e_X10_readsItem_J82 at h
  obtain ⟨r1, e2, h⟩ := mbd h
  refine mv_callV_i (As := [.int s1, .int s2]) (ci := 9) lkV_RX10_319_yX10_takesNumber dX10_readsItem_82 (k_X10_takesNumber e2) rfl rfl rfl rfl (Nat.le_of_ble_eq_true rfl) (by decide) (by decide) ?_
  refine mw_if_ne (tgt := 90) dX10_readsItem_85 (by decide) (fun hc => ?_) (fun hc => ?_)
  · have h := mie hc h
    refine mw_iload_n dX10_readsItem_90 1 rfl ?_
    refine mw_bipush (v := 7) dX10_readsItem_91 (by decide) ?_
    refine mw_icmp_ne (tgt := 107) dX10_readsItem_93 (by decide) (fun hc => ?_) (fun hc => ?_)
    · have h := mie hc h
      refine mw_aload_n dX10_readsItem_107 0 rfl ?_
      refine mw_aload_n dX10_readsItem_108 0 rfl ?_
      refine ev_getI fd_RX10_304_9 dX10_readsItem_109 rfl rfl ?_
      refine ev_putI fw_RX10_74_9 dX10_readsItem_112 rfl rfl ?_
      refine mw_iconst (v := 1) dX10_readsItem_115 (by decide) ?_
      exact mw_zret dX10_readsItem_116 rfl (by decide) (ers_im h) rfl rfl
    · have h := mit hc h
      refine mw_aload_n dX10_readsItem_96 0 rfl ?_
      refine mw_aload_n dX10_readsItem_97 0 rfl ?_
      refine ev_getI fd_RX10_304_9 dX10_readsItem_98 rfl rfl ?_
      refine ev_putI fw_RX10_15_9 dX10_readsItem_101 rfl rfl ?_
      refine mw_goto (tgt := 115) dX10_readsItem_104 (by decide) ?_
      refine mw_iconst (v := 1) dX10_readsItem_115 (by decide) ?_
      exact mw_zret dX10_readsItem_116 rfl (by decide) (ers_im h) rfl rfl
  · have h := mit hc h
    refine mw_iconst (v := 0) dX10_readsItem_88 (by decide) ?_
    exact mw_zret dX10_readsItem_89 rfl (by decide) (ers_im h) rfl rfl
def e_X10_readsItem_J70 (x1 : Int32) (s1 : Int32) (σ : ES) : Option (Int32 × ES) := if x1 = (7 : Int32) then (e_X10_readsItem_J82 x1 s1 (6 : Int32) σ) else (e_X10_readsItem_J82 x1 s1 (5 : Int32) σ)
set_option maxRecDepth 100000 in
set_option maxHeartbeats 4000000 in
theorem p_X10_readsItem_J70 {l : Launch} {E : MX} {out : (Int32 × ES)}   {x1 : Int32} {s1 : Int32} {σ : ES} (h : e_X10_readsItem_J70 x1 s1 σ = some out) : MV l E cX10_readsItem RX10 2 (some .boolean) 7 (82, (some (.int out.1)), mkS out.2) (mkS σ) 70 [(0, .ref 69), (1, .int x1)] [.int s1, .ref 69] := by
  unfold e_X10_readsItem_J70 at h
  refine mw_iload_n dX10_readsItem_70 1 rfl ?_
  refine mw_bipush (v := 7) dX10_readsItem_71 (by decide) ?_
  refine mw_icmp_ne (tgt := 81) dX10_readsItem_73 (by decide) (fun hc => ?_) (fun hc => ?_)
  · have h := mie hc h
    refine mw_iconst (v := 5) dX10_readsItem_81 (by decide) ?_
    exact mw_sub (L' := [(0, .ref 69), (1, .int x1)]) [0, 1] rfl (p_X10_readsItem_J82  h)
  · have h := mit hc h
    refine mw_bipush (v := 6) dX10_readsItem_76 (by decide) ?_
    refine mw_goto (tgt := 82) dX10_readsItem_78 (by decide) ?_
    exact mw_sub (L' := [(0, .ref 69), (1, .int x1)]) [0, 1] rfl (p_X10_readsItem_J82  h)
def e_X10_readsItem_J51 (x1 : Int32) (σ : ES) : Option (Int32 × ES) := (e_X10_next σ).bind (fun r1 => if x1 = (7 : Int32) then (e_X10_readsItem_J70 x1 (eI r1 69 1) r1) else (e_X10_readsItem_J70 x1 (0 : Int32) r1))
set_option maxRecDepth 100000 in
set_option maxHeartbeats 4000000 in
theorem p_X10_readsItem_J51 {l : Launch} {E : MX} {out : (Int32 × ES)}   {x1 : Int32} {σ : ES} (h : e_X10_readsItem_J51 x1 σ = some out) : MV l E cX10_readsItem RX10 2 (some .boolean) 7 (82, (some (.int out.1)), mkS out.2) (mkS σ) 51 [(0, .ref 69), (1, .int x1)] [] := by
  unfold e_X10_readsItem_J51 at h
  refine mw_aload_n dX10_readsItem_51 0 rfl ?_
  obtain ⟨r1, e2, h⟩ := mbd h
  refine mv_callV_v (As := []) (ci := 9) lkV_RX10_307_yX10_next dX10_readsItem_52 (k_X10_next e2) rfl rfl rfl rfl (Nat.le_of_ble_eq_true rfl) (by decide) (by decide) ?_
  refine mw_aload_n dX10_readsItem_55 0 rfl ?_
  refine mw_iload_n dX10_readsItem_56 1 rfl ?_
  refine mw_bipush (v := 7) dX10_readsItem_57 (by decide) ?_
  refine mw_icmp_ne (tgt := 69) dX10_readsItem_59 (by decide) (fun hc => ?_) (fun hc => ?_)
  · have h := mie hc h
    refine mw_iconst (v := 0) dX10_readsItem_69 (by decide) ?_
    exact mw_sub (L' := [(0, .ref 69), (1, .int x1)]) [0, 1] rfl (p_X10_readsItem_J70  h)
  · have h := mit hc h
    refine mw_aload_n dX10_readsItem_62 0 rfl ?_
    refine ev_getI fd_RX10_15_9 dX10_readsItem_63 rfl rfl ?_
    refine mw_goto (tgt := 70) dX10_readsItem_66 (by decide) ?_
    exact mw_sub (L' := [(0, .ref 69), (1, .int x1)]) [0, 1] rfl (p_X10_readsItem_J70  h)
def e_X10_readsItem (σ : ES) : Option (Int32 × ES) := (e_X10_in (((eI σ 69 28) - (10 : Int32)).toInt64) (0 : Int64) (5 : Int64)).bind (fun r1 => if r1 = 0 then (if ((eI σ 69 28) - (10 : Int32)) = (6 : Int32) then ((e_X10_readsThing σ).bind (fun r3 => if r3.1 = 0 ∨ r3.1 = 1 then (some (r3.1, r3.2)) else none)) else (if ((eI σ 69 28) - (10 : Int32)) = (7 : Int32) then (e_X10_readsItem_J51 ((eI σ 69 28) - (10 : Int32)) σ) else (if ((eI σ 69 28) - (10 : Int32)) = (8 : Int32) then (e_X10_readsItem_J51 ((eI σ 69 28) - (10 : Int32)) σ) else (some ((0 : Int32), σ))))) else ((e_X10_readsWay ((eI σ 69 28) - (10 : Int32)) σ).bind (fun r6 => if r6.1 = 0 ∨ r6.1 = 1 then (some (r6.1, r6.2)) else none)))
set_option maxRecDepth 100000 in
set_option maxHeartbeats 4000000 in
theorem k_X10_readsItem {l : Launch} {σ : ES}  {out : (Int32 × ES)} (h : e_X10_readsItem σ = some out) : MK l yX10_readsItem cX10_readsItem 2 (some .boolean) 7 [.ref 69] (mkS σ) (some (.int out.1)) (mkS out.2) := by
  unfold e_X10_readsItem at h
  refine mw_entry (own := RX10) (ini := false) (L := [(0, .ref 69)]) (by decide +kernel) rfl (fun h => nomatch h) rfl (Nat.le_of_ble_eq_true rfl) (Nat.le_of_ble_eq_true rfl) (fun E => ?_)
  refine mw_aload_n dX10_readsItem_0 0 rfl ?_
  refine ev_getI fd_RX10_286_9 dX10_readsItem_1 rfl rfl ?_
  refine mw_bipush (v := 10) dX10_readsItem_4 (by decide) ?_
  refine mw_isub dX10_readsItem_6 ?_
  refine mw_istore_n (L' := [(1, .int ((eI σ 69 28) - (10 : Int32))), (0, .ref 69)]) dX10_readsItem_7 rfl (by decide) rfl ?_
  refine mw_iload_n dX10_readsItem_8 0 rfl ?_
  refine mw_i2l dX10_readsItem_9 ?_
  refine mw_lconst (v := 0) dX10_readsItem_10 (by decide) ?_
  refine mw_ldc2 dX10_readsItem_11 wt_594 ?_
  obtain ⟨r1, e2, h⟩ := mbd h
  refine mv_callS_i (As := [.long ((eI σ 69 28) - (10 : Int32)).toInt64, .long (0 : Int64), .long (5 : Int64)]) lkS_RX10_57_yX10_in dX10_readsItem_14 (k_X10_in e2) rfl rfl (Nat.le_of_ble_eq_true rfl) (by decide) (by decide) ?_
  refine mw_if_eq (tgt := 26) dX10_readsItem_17 (by decide) (fun hc => ?_) (fun hc => ?_)
  · have h := mit hc h
    refine mw_iload_n dX10_readsItem_26 0 rfl ?_
    refine mw_bipush (v := 6) dX10_readsItem_27 (by decide) ?_
    refine mw_icmp_ne (tgt := 37) dX10_readsItem_29 (by decide) (fun hc => ?_) (fun hc => ?_)
    · have h := mie hc h
      refine mw_iload_n dX10_readsItem_37 0 rfl ?_
      refine mw_bipush (v := 7) dX10_readsItem_38 (by decide) ?_
      refine mw_icmp_eq (tgt := 51) dX10_readsItem_40 (by decide) (fun hc => ?_) (fun hc => ?_)
      · have h := mit hc h
        exact mw_sub (L' := [(0, .ref 69), (1, .int ((eI σ 69 28) - (10 : Int32)))]) [1, 0] rfl (p_X10_readsItem_J51  h)
      · have h := mie hc h
        refine mw_iload_n dX10_readsItem_43 0 rfl ?_
        refine mw_bipush (v := 8) dX10_readsItem_44 (by decide) ?_
        refine mw_icmp_eq (tgt := 51) dX10_readsItem_46 (by decide) (fun hc => ?_) (fun hc => ?_)
        · have h := mit hc h
          exact mw_sub (L' := [(0, .ref 69), (1, .int ((eI σ 69 28) - (10 : Int32)))]) [1, 0] rfl (p_X10_readsItem_J51  h)
        · have h := mie hc h
          refine mw_iconst (v := 0) dX10_readsItem_49 (by decide) ?_
          exact mw_zret dX10_readsItem_50 rfl (by decide) (ers_im h) rfl rfl
    · have h := mit hc h
      refine mw_aload_n dX10_readsItem_32 1 rfl ?_
      obtain ⟨r3, e4, h⟩ := mbd h
      refine mv_callV_i (As := []) (ci := 9) lkV_RX10_328_yX10_readsThing dX10_readsItem_33 (k_X10_readsThing e4) rfl rfl rfl rfl (Nat.le_of_ble_eq_true rfl) (by decide) (by decide) ?_
      obtain ⟨m5, h⟩ := mif h
      exact mw_zret dX10_readsItem_36 rfl m5 (ers_im h) rfl rfl
  · have h := mie hc h
    refine mw_aload_n dX10_readsItem_20 1 rfl ?_
    refine mw_iload_n dX10_readsItem_21 0 rfl ?_
    obtain ⟨r6, e7, h⟩ := mbd h
    refine mv_callV_i (As := [.int ((eI σ 69 28) - (10 : Int32))]) (ci := 9) lkV_RX10_325_yX10_readsWay dX10_readsItem_22 (k_X10_readsWay e7) rfl rfl rfl rfl (Nat.le_of_ble_eq_true rfl) (by decide) (by decide) ?_
    obtain ⟨m8, h⟩ := mif h
    exact mw_zret dX10_readsItem_25 rfl m8 (ers_im h) rfl rfl

theorem dX10_text_0 : decode cX10_text 0 = .ok (.aload_n 0, 1) := by decide +kernel
theorem dX10_text_1 : decode cX10_text 1 = .ok (.getfield 15, 3) := by decide +kernel
theorem dX10_text_4 : decode cX10_text 4 = .ok (.istore_n 1, 1) := by decide +kernel
theorem dX10_text_5 : decode cX10_text 5 = .ok (.aload_n 0, 1) := by decide +kernel
theorem dX10_text_6 : decode cX10_text 6 = .ok (.getfield 74, 3) := by decide +kernel
theorem dX10_text_9 : decode cX10_text 9 = .ok (.istore_n 2, 1) := by decide +kernel
theorem dX10_text_10 : decode cX10_text 10 = .ok (.aload_n 0, 1) := by decide +kernel
theorem dX10_text_11 : decode cX10_text 11 = .ok (.getfield 61, 3) := by decide +kernel
theorem dX10_text_14 : decode cX10_text 14 = .ok (.istore_n 3, 1) := by decide +kernel
theorem dX10_text_15 : decode cX10_text 15 = .ok (.aload_n 0, 1) := by decide +kernel
theorem dX10_text_16 : decode cX10_text 16 = .ok (.getfield 117, 3) := by decide +kernel
theorem dX10_text_19 : decode cX10_text 19 = .ok (.istore 4, 2) := by decide +kernel
theorem dX10_text_21 : decode cX10_text 21 = .ok (.aload_n 0, 1) := by decide +kernel
theorem dX10_text_22 : decode cX10_text 22 = .ok (.iconst 0, 1) := by decide +kernel
theorem dX10_text_23 : decode cX10_text 23 = .ok (.putfield 277, 3) := by decide +kernel
theorem dX10_text_26 : decode cX10_text 26 = .ok (.aload_n 0, 1) := by decide +kernel
theorem dX10_text_27 : decode cX10_text 27 = .ok (.invokevirtual 307, 3) := by decide +kernel
theorem dX10_text_30 : decode cX10_text 30 = .ok (.iconst 1, 1) := by decide +kernel
theorem dX10_text_31 : decode cX10_text 31 = .ok (.istore 5, 2) := by decide +kernel
theorem dX10_text_33 : decode cX10_text 33 = .ok (.aload_n 0, 1) := by decide +kernel
theorem dX10_text_34 : decode cX10_text 34 = .ok (.invokevirtual 331, 3) := by decide +kernel
theorem dX10_text_37 : decode cX10_text 37 = .ok (.istore 6, 2) := by decide +kernel
theorem dX10_text_39 : decode cX10_text 39 = .ok (.iload 6, 2) := by decide +kernel
theorem dX10_text_41 : decode cX10_text 41 = .ok (.ifCond .eq 26, 3) := by decide +kernel
theorem dX10_text_44 : decode cX10_text 44 = .ok (.aload_n 0, 1) := by decide +kernel
theorem dX10_text_45 : decode cX10_text 45 = .ok (.getfield 286, 3) := by decide +kernel
theorem dX10_text_48 : decode cX10_text 48 = .ok (.ifCond .ne 19, 3) := by decide +kernel
theorem dX10_text_51 : decode cX10_text 51 = .ok (.aload_n 0, 1) := by decide +kernel
theorem dX10_text_52 : decode cX10_text 52 = .ok (.invokevirtual 307, 3) := by decide +kernel
theorem dX10_text_55 : decode cX10_text 55 = .ok (.aload_n 0, 1) := by decide +kernel
theorem dX10_text_56 : decode cX10_text 56 = .ok (.invokevirtual 331, 3) := by decide +kernel
theorem dX10_text_59 : decode cX10_text 59 = .ok (.istore 6, 2) := by decide +kernel
theorem dX10_text_61 : decode cX10_text 61 = .ok (.iinc 5 1, 3) := by decide +kernel
theorem dX10_text_64 : decode cX10_text 64 = .ok (.goto (-25), 3) := by decide +kernel
theorem dX10_text_67 : decode cX10_text 67 = .ok (.iload 6, 2) := by decide +kernel
theorem dX10_text_69 : decode cX10_text 69 = .ok (.ifCond .eq 15, 3) := by decide +kernel
theorem dX10_text_72 : decode cX10_text 72 = .ok (.aload_n 0, 1) := by decide +kernel
theorem dX10_text_73 : decode cX10_text 73 = .ok (.getfield 286, 3) := by decide +kernel
theorem dX10_text_76 : decode cX10_text 76 = .ok (.iconst (-1), 1) := by decide +kernel
theorem dX10_text_77 : decode cX10_text 77 = .ok (.if_icmp .ne 7, 3) := by decide +kernel
theorem dX10_text_80 : decode cX10_text 80 = .ok (.iconst 1, 1) := by decide +kernel
theorem dX10_text_81 : decode cX10_text 81 = .ok (.goto 4, 3) := by decide +kernel
theorem dX10_text_84 : decode cX10_text 84 = .ok (.iconst 0, 1) := by decide +kernel
theorem dX10_text_85 : decode cX10_text 85 = .ok (.istore 6, 2) := by decide +kernel
theorem dX10_text_87 : decode cX10_text 87 = .ok (.aload_n 0, 1) := by decide +kernel
theorem dX10_text_88 : decode cX10_text 88 = .ok (.iconst 0, 1) := by decide +kernel
theorem dX10_text_89 : decode cX10_text 89 = .ok (.putfield 274, 3) := by decide +kernel
theorem dX10_text_92 : decode cX10_text 92 = .ok (.iload 6, 2) := by decide +kernel
theorem dX10_text_94 : decode cX10_text 94 = .ok (.ifCond .eq 6, 3) := by decide +kernel
theorem dX10_text_97 : decode cX10_text 97 = .ok (.iload 5, 2) := by decide +kernel
theorem dX10_text_99 : decode cX10_text 99 = .ok (.ireturn, 1) := by decide +kernel
theorem dX10_text_100 : decode cX10_text 100 = .ok (.aload_n 0, 1) := by decide +kernel
theorem dX10_text_101 : decode cX10_text 101 = .ok (.iload_n 1, 1) := by decide +kernel
theorem dX10_text_102 : decode cX10_text 102 = .ok (.putfield 15, 3) := by decide +kernel
theorem dX10_text_105 : decode cX10_text 105 = .ok (.aload_n 0, 1) := by decide +kernel
theorem dX10_text_106 : decode cX10_text 106 = .ok (.iload_n 2, 1) := by decide +kernel
theorem dX10_text_107 : decode cX10_text 107 = .ok (.putfield 74, 3) := by decide +kernel
theorem dX10_text_110 : decode cX10_text 110 = .ok (.aload_n 0, 1) := by decide +kernel
theorem dX10_text_111 : decode cX10_text 111 = .ok (.iload_n 3, 1) := by decide +kernel
theorem dX10_text_112 : decode cX10_text 112 = .ok (.putfield 61, 3) := by decide +kernel
theorem dX10_text_115 : decode cX10_text 115 = .ok (.aload_n 0, 1) := by decide +kernel
theorem dX10_text_116 : decode cX10_text 116 = .ok (.iload 4, 2) := by decide +kernel
theorem dX10_text_118 : decode cX10_text 118 = .ok (.putfield 117, 3) := by decide +kernel
theorem dX10_text_121 : decode cX10_text 121 = .ok (.iconst (-1), 1) := by decide +kernel
theorem dX10_text_122 : decode cX10_text 122 = .ok (.aload_n 0, 1) := by decide +kernel
theorem dX10_text_123 : decode cX10_text 123 = .ok (.getfield 280, 3) := by decide +kernel
theorem dX10_text_126 : decode cX10_text 126 = .ok (.isub, 1) := by decide +kernel
theorem dX10_text_127 : decode cX10_text 127 = .ok (.ireturn, 1) := by decide +kernel
def e_X10_text_J85 (x1 : Int32) (x2 : Int32) (x3 : Int32) (x4 : Int32) (x5 : Int32) (s0 : Int32) (σ : ES) : Option (Int32 × ES) := if s0 = 0 then (some (((-1 : Int32) - (eI (uI (uI (uI (uI (uI σ 69 25 (0 : Int32)) 69 1 x1) 69 2 x2) 69 3 x3) 69 5 x4) 69 27)), (uI (uI (uI (uI (uI σ 69 25 (0 : Int32)) 69 1 x1) 69 2 x2) 69 3 x3) 69 5 x4))) else (some (x5, (uI σ 69 25 (0 : Int32))))
set_option maxRecDepth 100000 in
set_option maxHeartbeats 4000000 in
theorem p_X10_text_J85 {l : Launch} {E : MX} {out : (Int32 × ES)}   {x1 : Int32} {x2 : Int32} {x3 : Int32} {x4 : Int32} {x5 : Int32} {s0 : Int32} {σ : ES} (h : e_X10_text_J85 x1 x2 x3 x4 x5 s0 σ = some out) : MV l E cX10_text RX10 7 (some .int) 8 (82, (some (.int out.1)), mkS out.2) (mkS σ) 85 [(0, .ref 69), (1, .int x1), (2, .int x2), (3, .int x3), (4, .int x4), (5, .int x5)] [.int s0] := by
  unfold e_X10_text_J85 at h
  refine mw_istore (L' := [(6, .int s0), (0, .ref 69), (1, .int x1), (2, .int x2), (3, .int x3), (4, .int x4), (5, .int x5)]) dX10_text_85 (by decide) rfl ?_
  refine mw_aload_n dX10_text_87 1 rfl ?_
  refine mw_iconst (v := 0) dX10_text_88 (by decide) ?_
  refine ev_putI fw_RX10_274_9 dX10_text_89 rfl rfl ?_
  refine mw_iload dX10_text_92 0 rfl ?_
  refine mw_if_eq (tgt := 100) dX10_text_94 (by decide) (fun hc => ?_) (fun hc => ?_)
  · have h := mit hc h
    refine mw_aload_n dX10_text_100 1 rfl ?_
    refine mw_iload_n dX10_text_101 2 rfl ?_
    refine ev_putI fw_RX10_15_9 dX10_text_102 rfl rfl ?_
    refine mw_aload_n dX10_text_105 1 rfl ?_
    refine mw_iload_n dX10_text_106 3 rfl ?_
    refine ev_putI fw_RX10_74_9 dX10_text_107 rfl rfl ?_
    refine mw_aload_n dX10_text_110 1 rfl ?_
    refine mw_iload_n dX10_text_111 4 rfl ?_
    refine ev_putI fw_RX10_61_9 dX10_text_112 rfl rfl ?_
    refine mw_aload_n dX10_text_115 1 rfl ?_
    refine mw_iload dX10_text_116 5 rfl ?_
    refine ev_putI fw_RX10_117_9 dX10_text_118 rfl rfl ?_
    refine mw_iconst (v := -1) dX10_text_121 (by decide) ?_
    refine mw_aload_n dX10_text_122 1 rfl ?_
    refine ev_getI fd_RX10_280_9 dX10_text_123 rfl rfl ?_
    refine mw_isub dX10_text_126 ?_
    exact mw_iret dX10_text_127 rfl (ers_im h) rfl rfl
  · have h := mie hc h
    refine mw_iload dX10_text_97 6 rfl ?_
    exact mw_iret dX10_text_99 rfl (ers_im h) rfl rfl
def e_X10_text_J84 (x1 : Int32) (x2 : Int32) (x3 : Int32) (x4 : Int32) (x5 : Int32) (σ : ES) : Option (Int32 × ES) := e_X10_text_J85 x1 x2 x3 x4 x5 (0 : Int32) σ
set_option maxRecDepth 100000 in
set_option maxHeartbeats 4000000 in
theorem p_X10_text_J84 {l : Launch} {E : MX} {out : (Int32 × ES)}   {x1 : Int32} {x2 : Int32} {x3 : Int32} {x4 : Int32} {x5 : Int32} {σ : ES} (h : e_X10_text_J84 x1 x2 x3 x4 x5 σ = some out) : MV l E cX10_text RX10 7 (some .int) 8 (82, (some (.int out.1)), mkS out.2) (mkS σ) 84 [(0, .ref 69), (1, .int x1), (2, .int x2), (3, .int x3), (4, .int x4), (5, .int x5)] [] := by
  unfold e_X10_text_J84 at h
  refine mw_iconst (v := 0) dX10_text_84 (by decide) ?_
  exact mw_sub (L' := [(0, .ref 69), (1, .int x1), (2, .int x2), (3, .int x3), (4, .int x4), (5, .int x5)]) [0, 1, 2, 3, 4, 5] rfl (p_X10_text_J85  h)
def e_X10_text_J67 (x1 : Int32) (x2 : Int32) (x3 : Int32) (x4 : Int32) (x5 : Int32) (x6 : Int32) (σ : ES) : Option (Int32 × ES) := if x6 = 0 then (e_X10_text_J84 x1 x2 x3 x4 x5 σ) else (if (eI σ 69 28) = (-1 : Int32) then (e_X10_text_J85 x1 x2 x3 x4 x5 (1 : Int32) σ) else (e_X10_text_J84 x1 x2 x3 x4 x5 σ))
set_option maxRecDepth 100000 in
set_option maxHeartbeats 4000000 in
theorem p_X10_text_J67 {l : Launch} {E : MX} {out : (Int32 × ES)}   {x1 : Int32} {x2 : Int32} {x3 : Int32} {x4 : Int32} {x5 : Int32} {x6 : Int32} {σ : ES} (h : e_X10_text_J67 x1 x2 x3 x4 x5 x6 σ = some out) : MV l E cX10_text RX10 7 (some .int) 8 (82, (some (.int out.1)), mkS out.2) (mkS σ) 67 [(0, .ref 69), (1, .int x1), (2, .int x2), (3, .int x3), (4, .int x4), (5, .int x5), (6, .int x6)] [] := by
  unfold e_X10_text_J67 at h
  refine mw_iload dX10_text_67 6 rfl ?_
  refine mw_if_eq (tgt := 84) dX10_text_69 (by decide) (fun hc => ?_) (fun hc => ?_)
  · have h := mit hc h
    exact mw_sub (L' := [(0, .ref 69), (1, .int x1), (2, .int x2), (3, .int x3), (4, .int x4), (5, .int x5)]) [0, 1, 2, 3, 4, 5] rfl (p_X10_text_J84  h)
  · have h := mie hc h
    refine mw_aload_n dX10_text_72 0 rfl ?_
    refine ev_getI fd_RX10_286_9 dX10_text_73 rfl rfl ?_
    refine mw_iconst (v := -1) dX10_text_76 (by decide) ?_
    refine mw_icmp_ne (tgt := 84) dX10_text_77 (by decide) (fun hc => ?_) (fun hc => ?_)
    · have h := mie hc h
      exact mw_sub (L' := [(0, .ref 69), (1, .int x1), (2, .int x2), (3, .int x3), (4, .int x4), (5, .int x5)]) [0, 1, 2, 3, 4, 5] rfl (p_X10_text_J84  h)
    · have h := mit hc h
      refine mw_iconst (v := 1) dX10_text_80 (by decide) ?_
      refine mw_goto (tgt := 85) dX10_text_81 (by decide) ?_
      exact mw_sub (L' := [(0, .ref 69), (1, .int x1), (2, .int x2), (3, .int x3), (4, .int x4), (5, .int x5)]) [0, 1, 2, 3, 4, 5] rfl (p_X10_text_J85  h)
def e_X10_text_L39  : Nat → Int32 → Int32 → Int32 → Int32 → Int32 → Int32 → ES → Option (Int32 × ES)
  | 0, _, _, _, _, _, _, _ => none
  | n + 1, x1, x2, x3, x4, x5, x6, σ => if x6 = 0 then (e_X10_text_J67 x1 x2 x3 x4 x5 x6 σ) else (if (eI σ 69 28) = 0 then ((e_X10_next σ).bind (fun r1 => (e_X10_readsItem r1).bind (fun r3 => e_X10_text_L39 n x1 x2 x3 x4 (x5 + 1) r3.1 r3.2))) else (e_X10_text_J67 x1 x2 x3 x4 x5 x6 σ))
set_option maxRecDepth 100000 in
set_option maxHeartbeats 4000000 in
theorem p_X10_text_L39 {l : Launch} {E : MX} {out : (Int32 × ES)}   : ∀ (n : Nat) (x1 : Int32) (x2 : Int32) (x3 : Int32) (x4 : Int32) (x5 : Int32) (x6 : Int32) (σ : ES), e_X10_text_L39 n x1 x2 x3 x4 x5 x6 σ = some out → MV l E cX10_text RX10 7 (some .int) 8 (82, (some (.int out.1)), mkS out.2) (mkS σ) 39 [(0, .ref 69), (1, .int x1), (2, .int x2), (3, .int x3), (4, .int x4), (5, .int x5), (6, .int x6)] [] := by
  intro n
  induction n with
  | zero =>
    intro x1 x2 x3 x4 x5 x6 σ h
    exact nomatch h
  | succ n ih =>
    intro x1 x2 x3 x4 x5 x6 σ h
    rw [e_X10_text_L39] at h
    refine mw_iload dX10_text_39 6 rfl ?_
    refine mw_if_eq (tgt := 67) dX10_text_41 (by decide) (fun hc => ?_) (fun hc => ?_)
    · have h := mit hc h
      exact mw_sub (L' := [(0, .ref 69), (1, .int x1), (2, .int x2), (3, .int x3), (4, .int x4), (5, .int x5), (6, .int x6)]) [0, 1, 2, 3, 4, 5, 6] rfl (p_X10_text_J67  h)
    · have h := mie hc h
      refine mw_aload_n dX10_text_44 0 rfl ?_
      refine ev_getI fd_RX10_286_9 dX10_text_45 rfl rfl ?_
      refine mw_if_ne (tgt := 67) dX10_text_48 (by decide) (fun hc => ?_) (fun hc => ?_)
      · have h := mie hc h
        exact mw_sub (L' := [(0, .ref 69), (1, .int x1), (2, .int x2), (3, .int x3), (4, .int x4), (5, .int x5), (6, .int x6)]) [0, 1, 2, 3, 4, 5, 6] rfl (p_X10_text_J67  h)
      · have h := mit hc h
        refine mw_aload_n dX10_text_51 0 rfl ?_
        obtain ⟨r1, e2, h⟩ := mbd h
        refine mv_callV_v (As := []) (ci := 9) lkV_RX10_307_yX10_next dX10_text_52 (k_X10_next e2) rfl rfl rfl rfl (Nat.le_of_ble_eq_true rfl) (by decide) (by decide) ?_
        refine mw_aload_n dX10_text_55 0 rfl ?_
        obtain ⟨r3, e4, h⟩ := mbd h
        refine mv_callV_i (As := []) (ci := 9) lkV_RX10_331_yX10_readsItem dX10_text_56 (k_X10_readsItem e4) rfl rfl rfl rfl (Nat.le_of_ble_eq_true rfl) (by decide) (by decide) ?_
        refine mw_istore (L' := [(6, .int r3.1), (0, .ref 69), (1, .int x1), (2, .int x2), (3, .int x3), (4, .int x4), (5, .int x5)]) dX10_text_59 (by decide) rfl ?_
        refine mw_iinc (v := (x5 + 1)) (L' := [(5, .int (x5 + 1)), (6, .int r3.1), (0, .ref 69), (1, .int x1), (2, .int x2), (3, .int x3), (4, .int x4)]) dX10_text_61 6 rfl rfl (by decide) rfl ?_
        refine mw_goto (tgt := 39) dX10_text_64 (by decide) ?_
        exact mw_sub (L' := [(0, .ref 69), (1, .int x1), (2, .int x2), (3, .int x3), (4, .int x4), (5, .int (x5 + 1)), (6, .int r3.1)]) [2, 3, 4, 5, 6, 0, 1] rfl (ih _ _ _ _ _ _ _ h)
def e_X10_text (σ : ES) : Option (Int32 × ES) := (e_X10_next (uI σ 69 26 (0 : Int32))).bind (fun r1 => (e_X10_readsItem r1).bind (fun r3 => e_X10_text_L39 mN (eI σ 69 1) (eI σ 69 2) (eI σ 69 3) (eI σ 69 5) (1 : Int32) r3.1 r3.2))
set_option maxRecDepth 100000 in
set_option maxHeartbeats 4000000 in
theorem k_X10_text {l : Launch} {σ : ES}  {out : (Int32 × ES)} (h : e_X10_text σ = some out) : MK l yX10_text cX10_text 7 (some .int) 8 [.ref 69] (mkS σ) (some (.int out.1)) (mkS out.2) := by
  unfold e_X10_text at h
  refine mw_entry (own := RX10) (ini := false) (L := [(0, .ref 69)]) (by decide +kernel) rfl (fun h => nomatch h) rfl (Nat.le_of_ble_eq_true rfl) (Nat.le_of_ble_eq_true rfl) (fun E => ?_)
  refine mw_aload_n dX10_text_0 0 rfl ?_
  refine ev_getI fd_RX10_15_9 dX10_text_1 rfl rfl ?_
  refine mw_istore_n (L' := [(1, .int (eI σ 69 1)), (0, .ref 69)]) dX10_text_4 rfl (by decide) rfl ?_
  refine mw_aload_n dX10_text_5 1 rfl ?_
  refine ev_getI fd_RX10_74_9 dX10_text_6 rfl rfl ?_
  refine mw_istore_n (L' := [(2, .int (eI σ 69 2)), (1, .int (eI σ 69 1)), (0, .ref 69)]) dX10_text_9 rfl (by decide) rfl ?_
  refine mw_aload_n dX10_text_10 2 rfl ?_
  refine ev_getI fd_RX10_61_9 dX10_text_11 rfl rfl ?_
  refine mw_istore_n (L' := [(3, .int (eI σ 69 3)), (2, .int (eI σ 69 2)), (1, .int (eI σ 69 1)), (0, .ref 69)]) dX10_text_14 rfl (by decide) rfl ?_
  refine mw_aload_n dX10_text_15 3 rfl ?_
  refine ev_getI fd_RX10_117_9 dX10_text_16 rfl rfl ?_
  refine mw_istore (L' := [(4, .int (eI σ 69 5)), (3, .int (eI σ 69 3)), (2, .int (eI σ 69 2)), (1, .int (eI σ 69 1)), (0, .ref 69)]) dX10_text_19 (by decide) rfl ?_
  refine mw_aload_n dX10_text_21 4 rfl ?_
  refine mw_iconst (v := 0) dX10_text_22 (by decide) ?_
  refine ev_putI fw_RX10_277_9 dX10_text_23 rfl rfl ?_
  refine mw_aload_n dX10_text_26 4 rfl ?_
  obtain ⟨r1, e2, h⟩ := mbd h
  refine mv_callV_v (As := []) (ci := 9) lkV_RX10_307_yX10_next dX10_text_27 (k_X10_next e2) rfl rfl rfl rfl (Nat.le_of_ble_eq_true rfl) (by decide) (by decide) ?_
  refine mw_iconst (v := 1) dX10_text_30 (by decide) ?_
  refine mw_istore (L' := [(5, .int (1 : Int32)), (4, .int (eI σ 69 5)), (3, .int (eI σ 69 3)), (2, .int (eI σ 69 2)), (1, .int (eI σ 69 1)), (0, .ref 69)]) dX10_text_31 (by decide) rfl ?_
  refine mw_aload_n dX10_text_33 5 rfl ?_
  obtain ⟨r3, e4, h⟩ := mbd h
  refine mv_callV_i (As := []) (ci := 9) lkV_RX10_331_yX10_readsItem dX10_text_34 (k_X10_readsItem e4) rfl rfl rfl rfl (Nat.le_of_ble_eq_true rfl) (by decide) (by decide) ?_
  refine mw_istore (L' := [(6, .int r3.1), (5, .int (1 : Int32)), (4, .int (eI σ 69 5)), (3, .int (eI σ 69 3)), (2, .int (eI σ 69 2)), (1, .int (eI σ 69 1)), (0, .ref 69)]) dX10_text_37 (by decide) rfl ?_
  exact mw_sub (L' := [(0, .ref 69), (1, .int (eI σ 69 1)), (2, .int (eI σ 69 2)), (3, .int (eI σ 69 3)), (4, .int (eI σ 69 5)), (5, .int (1 : Int32)), (6, .int r3.1)]) [6, 5, 4, 3, 2, 1, 0] rfl (p_X10_text_L39  mN _ _ _ _ _ _ _ h)

theorem dX10_sheet_0 : decode cX10_sheet 0 = .ok (.iload_n 1, 1) := by decide +kernel
theorem dX10_sheet_1 : decode cX10_sheet 1 = .ok (.invokestatic 258, 3) := by decide +kernel
theorem dX10_sheet_4 : decode cX10_sheet 4 = .ok (.ifCond .eq 25, 3) := by decide +kernel
theorem dX10_sheet_7 : decode cX10_sheet 7 = .ok (.iload_n 2, 1) := by decide +kernel
theorem dX10_sheet_8 : decode cX10_sheet 8 = .ok (.ifCond .eq 27, 3) := by decide +kernel
theorem dX10_sheet_11 : decode cX10_sheet 11 = .ok (.iload_n 2, 1) := by decide +kernel
theorem dX10_sheet_12 : decode cX10_sheet 12 = .ok (.bipush 16, 2) := by decide +kernel
theorem dX10_sheet_14 : decode cX10_sheet 14 = .ok (.if_icmp .eq 21, 3) := by decide +kernel
theorem dX10_sheet_17 : decode cX10_sheet 17 = .ok (.iload_n 2, 1) := by decide +kernel
theorem dX10_sheet_18 : decode cX10_sheet 18 = .ok (.bipush 32, 2) := by decide +kernel
theorem dX10_sheet_20 : decode cX10_sheet 20 = .ok (.if_icmp .eq 15, 3) := by decide +kernel
theorem dX10_sheet_23 : decode cX10_sheet 23 = .ok (.iload_n 2, 1) := by decide +kernel
theorem dX10_sheet_24 : decode cX10_sheet 24 = .ok (.bipush 64, 2) := by decide +kernel
theorem dX10_sheet_26 : decode cX10_sheet 26 = .ok (.if_icmp .eq 9, 3) := by decide +kernel
theorem dX10_sheet_29 : decode cX10_sheet 29 = .ok (.aload_n 0, 1) := by decide +kernel
theorem dX10_sheet_30 : decode cX10_sheet 30 = .ok (.iconst 0, 1) := by decide +kernel
theorem dX10_sheet_31 : decode cX10_sheet 31 = .ok (.invokevirtual 81, 3) := by decide +kernel
theorem dX10_sheet_34 : decode cX10_sheet 34 = .ok (.ireturn, 1) := by decide +kernel
theorem dX10_sheet_35 : decode cX10_sheet 35 = .ok (.iload_n 2, 1) := by decide +kernel
theorem dX10_sheet_36 : decode cX10_sheet 36 = .ok (.ifCond .eq 14, 3) := by decide +kernel
theorem dX10_sheet_39 : decode cX10_sheet 39 = .ok (.iload_n 3, 1) := by decide +kernel
theorem dX10_sheet_40 : decode cX10_sheet 40 = .ok (.ifCond .ge 10, 3) := by decide +kernel
theorem dX10_sheet_43 : decode cX10_sheet 43 = .ok (.aload_n 0, 1) := by decide +kernel
theorem dX10_sheet_44 : decode cX10_sheet 44 = .ok (.bipush 6, 2) := by decide +kernel
theorem dX10_sheet_46 : decode cX10_sheet 46 = .ok (.invokevirtual 81, 3) := by decide +kernel
theorem dX10_sheet_49 : decode cX10_sheet 49 = .ok (.ireturn, 1) := by decide +kernel
theorem dX10_sheet_50 : decode cX10_sheet 50 = .ok (.iload_n 2, 1) := by decide +kernel
theorem dX10_sheet_51 : decode cX10_sheet 51 = .ok (.ifCond .eq 15, 3) := by decide +kernel
theorem dX10_sheet_54 : decode cX10_sheet 54 = .ok (.iload_n 3, 1) := by decide +kernel
theorem dX10_sheet_55 : decode cX10_sheet 55 = .ok (.bipush 40, 2) := by decide +kernel
theorem dX10_sheet_57 : decode cX10_sheet 57 = .ok (.if_icmp .le 9, 3) := by decide +kernel
theorem dX10_sheet_60 : decode cX10_sheet 60 = .ok (.aload_n 0, 1) := by decide +kernel
theorem dX10_sheet_61 : decode cX10_sheet 61 = .ok (.iconst 0, 1) := by decide +kernel
theorem dX10_sheet_62 : decode cX10_sheet 62 = .ok (.invokevirtual 81, 3) := by decide +kernel
theorem dX10_sheet_65 : decode cX10_sheet 65 = .ok (.ireturn, 1) := by decide +kernel
theorem dX10_sheet_66 : decode cX10_sheet 66 = .ok (.aload_n 0, 1) := by decide +kernel
theorem dX10_sheet_67 : decode cX10_sheet 67 = .ok (.getfield 32, 3) := by decide +kernel
theorem dX10_sheet_70 : decode cX10_sheet 70 = .ok (.iload_n 1, 1) := by decide +kernel
theorem dX10_sheet_71 : decode cX10_sheet 71 = .ok (.iload_n 2, 1) := by decide +kernel
theorem dX10_sheet_72 : decode cX10_sheet 72 = .ok (.iastore, 1) := by decide +kernel
theorem dX10_sheet_73 : decode cX10_sheet 73 = .ok (.aload_n 0, 1) := by decide +kernel
theorem dX10_sheet_74 : decode cX10_sheet 74 = .ok (.getfield 35, 3) := by decide +kernel
theorem dX10_sheet_77 : decode cX10_sheet 77 = .ok (.iload_n 1, 1) := by decide +kernel
theorem dX10_sheet_78 : decode cX10_sheet 78 = .ok (.iload_n 2, 1) := by decide +kernel
theorem dX10_sheet_79 : decode cX10_sheet 79 = .ok (.ifCond .ne 7, 3) := by decide +kernel
theorem dX10_sheet_82 : decode cX10_sheet 82 = .ok (.iconst 0, 1) := by decide +kernel
theorem dX10_sheet_83 : decode cX10_sheet 83 = .ok (.goto 4, 3) := by decide +kernel
theorem dX10_sheet_86 : decode cX10_sheet 86 = .ok (.iload_n 3, 1) := by decide +kernel
theorem dX10_sheet_87 : decode cX10_sheet 87 = .ok (.iastore, 1) := by decide +kernel
theorem dX10_sheet_88 : decode cX10_sheet 88 = .ok (.iconst 0, 1) := by decide +kernel
theorem dX10_sheet_89 : decode cX10_sheet 89 = .ok (.istore 4, 2) := by decide +kernel
theorem dX10_sheet_91 : decode cX10_sheet 91 = .ok (.iload 4, 2) := by decide +kernel
theorem dX10_sheet_93 : decode cX10_sheet 93 = .ok (.bipush 40, 2) := by decide +kernel
theorem dX10_sheet_95 : decode cX10_sheet 95 = .ok (.if_icmp .ge 22, 3) := by decide +kernel
theorem dX10_sheet_98 : decode cX10_sheet 98 = .ok (.aload_n 0, 1) := by decide +kernel
theorem dX10_sheet_99 : decode cX10_sheet 99 = .ok (.getfield 38, 3) := by decide +kernel
theorem dX10_sheet_102 : decode cX10_sheet 102 = .ok (.bipush 40, 2) := by decide +kernel
theorem dX10_sheet_104 : decode cX10_sheet 104 = .ok (.iload_n 1, 1) := by decide +kernel
theorem dX10_sheet_105 : decode cX10_sheet 105 = .ok (.imul, 1) := by decide +kernel
theorem dX10_sheet_106 : decode cX10_sheet 106 = .ok (.iload 4, 2) := by decide +kernel
theorem dX10_sheet_108 : decode cX10_sheet 108 = .ok (.iadd, 1) := by decide +kernel
theorem dX10_sheet_109 : decode cX10_sheet 109 = .ok (.lconst 0, 1) := by decide +kernel
theorem dX10_sheet_110 : decode cX10_sheet 110 = .ok (.lastore, 1) := by decide +kernel
theorem dX10_sheet_111 : decode cX10_sheet 111 = .ok (.iinc 4 1, 3) := by decide +kernel
theorem dX10_sheet_114 : decode cX10_sheet 114 = .ok (.goto (-23), 3) := by decide +kernel
theorem dX10_sheet_117 : decode cX10_sheet 117 = .ok (.aload_n 0, 1) := by decide +kernel
theorem dX10_sheet_118 : decode cX10_sheet 118 = .ok (.getfield 35, 3) := by decide +kernel
theorem dX10_sheet_121 : decode cX10_sheet 121 = .ok (.iload_n 1, 1) := by decide +kernel
theorem dX10_sheet_122 : decode cX10_sheet 122 = .ok (.iaload, 1) := by decide +kernel
theorem dX10_sheet_123 : decode cX10_sheet 123 = .ok (.ireturn, 1) := by decide +kernel
def e_X10_sheet_L91 (a1 : Int32) (a2 : Int32) (a3 : Int32) : Nat → Int32 → ES → Option (Int32 × ES)
  | 0, _, _ => none
  | n + 1, x4, σ => if (40 : Int32) ≤ x4 then (if mib a1 4 = true then (some ((eI σ 76 a1.toNatClampNeg), σ)) else none) else (if mib (((40 : Int32) * a1) + x4) 160 = true then (e_X10_sheet_L91 a1 a2 a3 n (x4 + 1) (uL σ 77 (((40 : Int32) * a1) + x4).toNatClampNeg (0 : Int64))) else none)
set_option maxRecDepth 100000 in
set_option maxHeartbeats 4000000 in
theorem p_X10_sheet_L91 {l : Launch} {E : MX} {out : (Int32 × ES)} {a1 : Int32} {a2 : Int32} {a3 : Int32}  : ∀ (n : Nat) (x4 : Int32) (σ : ES), e_X10_sheet_L91 a1 a2 a3 n x4 σ = some out → MV l E cX10_sheet RX10 5 (some .int) 3 (82, (some (.int out.1)), mkS out.2) (mkS σ) 91 [(0, .ref 69), (1, .int a1), (2, .int a2), (3, .int a3), (4, .int x4)] [] := by
  intro n
  induction n with
  | zero =>
    intro x4 σ h
    exact nomatch h
  | succ n ih =>
    intro x4 σ h
    rw [e_X10_sheet_L91] at h
    refine mw_iload dX10_sheet_91 4 rfl ?_
    refine mw_bipush (v := 40) dX10_sheet_93 (by decide) ?_
    refine mw_icmp_ge (tgt := 117) dX10_sheet_95 (by decide) (fun hc => ?_) (fun hc => ?_)
    · have h := mit hc h
      refine mw_aload_n dX10_sheet_117 0 rfl ?_
      refine ev_getR (q := 76) fd_RX10_35_9 dX10_sheet_118 rfl rfl rfl ?_
      refine mw_iload_n dX10_sheet_121 1 rfl ?_
      obtain ⟨m1, h⟩ := mif h
      refine ev_iald dX10_sheet_122 (by decide) rfl m1 ?_
      exact mw_iret dX10_sheet_123 rfl (ers_im h) rfl rfl
    · have h := mie hc h
      refine mw_aload_n dX10_sheet_98 0 rfl ?_
      refine ev_getR (q := 77) fd_RX10_38_9 dX10_sheet_99 rfl rfl rfl ?_
      refine mw_bipush (v := 40) dX10_sheet_102 (by decide) ?_
      refine mw_iload_n dX10_sheet_104 1 rfl ?_
      refine mw_imul dX10_sheet_105 ?_
      refine mw_iload dX10_sheet_106 4 rfl ?_
      refine mw_iadd dX10_sheet_108 ?_
      refine mw_lconst (v := 0) dX10_sheet_109 (by decide) ?_
      obtain ⟨m2, h⟩ := mif h
      refine ev_last dX10_sheet_110 (by decide) rfl m2 ?_
      refine mw_iinc (v := (x4 + 1)) (L' := [(4, .int (x4 + 1)), (0, .ref 69), (1, .int a1), (2, .int a2), (3, .int a3)]) dX10_sheet_111 4 rfl rfl (by decide) rfl ?_
      refine mw_goto (tgt := 91) dX10_sheet_114 (by decide) ?_
      exact mw_sub (L' := [(0, .ref 69), (1, .int a1), (2, .int a2), (3, .int a3), (4, .int (x4 + 1))]) [1, 2, 3, 4, 0] rfl (ih _ _ h)
def e_X10_sheet_J66 (a1 : Int32) (a2 : Int32) (a3 : Int32) (σ : ES) : Option (Int32 × ES) := if mib a1 4 = true then (if a2 = 0 then (e_X10_sheet_L91 a1 a2 a3 mN (0 : Int32) (uI (uI σ 75 a1.toNatClampNeg a2) 76 a1.toNatClampNeg (0 : Int32))) else (e_X10_sheet_L91 a1 a2 a3 mN (0 : Int32) (uI (uI σ 75 a1.toNatClampNeg a2) 76 a1.toNatClampNeg a3))) else none
set_option maxRecDepth 100000 in
set_option maxHeartbeats 4000000 in
theorem p_X10_sheet_J66 {l : Launch} {E : MX} {out : (Int32 × ES)} {a1 : Int32} {a2 : Int32} {a3 : Int32}  {σ : ES} (h : e_X10_sheet_J66 a1 a2 a3 σ = some out) : MV l E cX10_sheet RX10 5 (some .int) 3 (82, (some (.int out.1)), mkS out.2) (mkS σ) 66 [(0, .ref 69), (1, .int a1), (2, .int a2), (3, .int a3)] [] := by
  unfold e_X10_sheet_J66 at h
  refine mw_aload_n dX10_sheet_66 0 rfl ?_
  refine ev_getR (q := 75) fd_RX10_32_9 dX10_sheet_67 rfl rfl rfl ?_
  refine mw_iload_n dX10_sheet_70 1 rfl ?_
  refine mw_iload_n dX10_sheet_71 2 rfl ?_
  obtain ⟨m1, h⟩ := mif h
  refine ev_iast dX10_sheet_72 (by decide) rfl m1 ?_
  refine mw_aload_n dX10_sheet_73 0 rfl ?_
  refine ev_getR (q := 76) fd_RX10_35_9 dX10_sheet_74 rfl rfl rfl ?_
  refine mw_iload_n dX10_sheet_77 1 rfl ?_
  refine mw_iload_n dX10_sheet_78 2 rfl ?_
  refine mw_if_ne (tgt := 86) dX10_sheet_79 (by decide) (fun hc => ?_) (fun hc => ?_)
  · have h := mie hc h
    refine mw_iload_n dX10_sheet_86 3 rfl ?_
    refine ev_iast dX10_sheet_87 (by decide) rfl m1 ?_
    refine mw_iconst (v := 0) dX10_sheet_88 (by decide) ?_
    refine mw_istore (L' := [(4, .int (0 : Int32)), (0, .ref 69), (1, .int a1), (2, .int a2), (3, .int a3)]) dX10_sheet_89 (by decide) rfl ?_
    exact mw_sub (L' := [(0, .ref 69), (1, .int a1), (2, .int a2), (3, .int a3), (4, .int (0 : Int32))]) [1, 2, 3, 4, 0] rfl (p_X10_sheet_L91  mN _ _ h)
  · have h := mit hc h
    refine mw_iconst (v := 0) dX10_sheet_82 (by decide) ?_
    refine mw_goto (tgt := 87) dX10_sheet_83 (by decide) ?_
    refine ev_iast dX10_sheet_87 (by decide) rfl m1 ?_
    refine mw_iconst (v := 0) dX10_sheet_88 (by decide) ?_
    refine mw_istore (L' := [(4, .int (0 : Int32)), (0, .ref 69), (1, .int a1), (2, .int a2), (3, .int a3)]) dX10_sheet_89 (by decide) rfl ?_
    exact mw_sub (L' := [(0, .ref 69), (1, .int a1), (2, .int a2), (3, .int a3), (4, .int (0 : Int32))]) [1, 2, 3, 4, 0] rfl (p_X10_sheet_L91  mN _ _ h)
def e_X10_sheet_J50 (a1 : Int32) (a2 : Int32) (a3 : Int32) (σ : ES) : Option (Int32 × ES) := if a2 = 0 then (e_X10_sheet_J66 a1 a2 a3 σ) else (if a3 ≤ (40 : Int32) then (e_X10_sheet_J66 a1 a2 a3 σ) else ((e_X10_finds (0 : Int32) σ).bind (fun r1 => some (r1.1, r1.2))))
set_option maxRecDepth 100000 in
set_option maxHeartbeats 4000000 in
theorem p_X10_sheet_J50 {l : Launch} {E : MX} {out : (Int32 × ES)} {a1 : Int32} {a2 : Int32} {a3 : Int32}  {σ : ES} (h : e_X10_sheet_J50 a1 a2 a3 σ = some out) : MV l E cX10_sheet RX10 5 (some .int) 3 (82, (some (.int out.1)), mkS out.2) (mkS σ) 50 [(0, .ref 69), (1, .int a1), (2, .int a2), (3, .int a3)] [] := by
  unfold e_X10_sheet_J50 at h
  refine mw_iload_n dX10_sheet_50 2 rfl ?_
  refine mw_if_eq (tgt := 66) dX10_sheet_51 (by decide) (fun hc => ?_) (fun hc => ?_)
  · have h := mit hc h
    exact mw_sub (L' := [(0, .ref 69), (1, .int a1), (2, .int a2), (3, .int a3)]) [0, 1, 2, 3] rfl (p_X10_sheet_J66  h)
  · have h := mie hc h
    refine mw_iload_n dX10_sheet_54 3 rfl ?_
    refine mw_bipush (v := 40) dX10_sheet_55 (by decide) ?_
    refine mw_icmp_le (tgt := 66) dX10_sheet_57 (by decide) (fun hc => ?_) (fun hc => ?_)
    · have h := mit hc h
      exact mw_sub (L' := [(0, .ref 69), (1, .int a1), (2, .int a2), (3, .int a3)]) [0, 1, 2, 3] rfl (p_X10_sheet_J66  h)
    · have h := mie hc h
      refine mw_aload_n dX10_sheet_60 0 rfl ?_
      refine mw_iconst (v := 0) dX10_sheet_61 (by decide) ?_
      obtain ⟨r1, e2, h⟩ := mbd h
      refine mv_callV_i (As := [.int (0 : Int32)]) (ci := 9) lkV_RX10_81_yX10_finds dX10_sheet_62 (k_X10_finds e2) rfl rfl rfl rfl (Nat.le_of_ble_eq_true rfl) (by decide) (by decide) ?_
      exact mw_iret dX10_sheet_65 rfl (ers_im h) rfl rfl
def e_X10_sheet_J35 (a1 : Int32) (a2 : Int32) (a3 : Int32) (σ : ES) : Option (Int32 × ES) := if a2 = 0 then (e_X10_sheet_J50 a1 a2 a3 σ) else (if 0 ≤ a3 then (e_X10_sheet_J50 a1 a2 a3 σ) else ((e_X10_finds (6 : Int32) σ).bind (fun r1 => some (r1.1, r1.2))))
set_option maxRecDepth 100000 in
set_option maxHeartbeats 4000000 in
theorem p_X10_sheet_J35 {l : Launch} {E : MX} {out : (Int32 × ES)} {a1 : Int32} {a2 : Int32} {a3 : Int32}  {σ : ES} (h : e_X10_sheet_J35 a1 a2 a3 σ = some out) : MV l E cX10_sheet RX10 5 (some .int) 3 (82, (some (.int out.1)), mkS out.2) (mkS σ) 35 [(0, .ref 69), (1, .int a1), (2, .int a2), (3, .int a3)] [] := by
  unfold e_X10_sheet_J35 at h
  refine mw_iload_n dX10_sheet_35 2 rfl ?_
  refine mw_if_eq (tgt := 50) dX10_sheet_36 (by decide) (fun hc => ?_) (fun hc => ?_)
  · have h := mit hc h
    exact mw_sub (L' := [(0, .ref 69), (1, .int a1), (2, .int a2), (3, .int a3)]) [0, 1, 2, 3] rfl (p_X10_sheet_J50  h)
  · have h := mie hc h
    refine mw_iload_n dX10_sheet_39 3 rfl ?_
    refine mw_if_ge (tgt := 50) dX10_sheet_40 (by decide) (fun hc => ?_) (fun hc => ?_)
    · have h := mit hc h
      exact mw_sub (L' := [(0, .ref 69), (1, .int a1), (2, .int a2), (3, .int a3)]) [0, 1, 2, 3] rfl (p_X10_sheet_J50  h)
    · have h := mie hc h
      refine mw_aload_n dX10_sheet_43 0 rfl ?_
      refine mw_bipush (v := 6) dX10_sheet_44 (by decide) ?_
      obtain ⟨r1, e2, h⟩ := mbd h
      refine mv_callV_i (As := [.int (6 : Int32)]) (ci := 9) lkV_RX10_81_yX10_finds dX10_sheet_46 (k_X10_finds e2) rfl rfl rfl rfl (Nat.le_of_ble_eq_true rfl) (by decide) (by decide) ?_
      exact mw_iret dX10_sheet_49 rfl (ers_im h) rfl rfl
def e_X10_sheet (a1 : Int32) (a2 : Int32) (a3 : Int32) (σ : ES) : Option (Int32 × ES) := (e_X10_isSheet a1).bind (fun r1 => if r1 = 0 then ((e_X10_finds (0 : Int32) σ).bind (fun r3 => some (r3.1, r3.2))) else (if a2 = 0 then (e_X10_sheet_J35 a1 a2 a3 σ) else (if a2 = (16 : Int32) then (e_X10_sheet_J35 a1 a2 a3 σ) else (if a2 = (32 : Int32) then (e_X10_sheet_J35 a1 a2 a3 σ) else (if a2 = (64 : Int32) then (e_X10_sheet_J35 a1 a2 a3 σ) else ((e_X10_finds (0 : Int32) σ).bind (fun r5 => some (r5.1, r5.2))))))))
set_option maxRecDepth 100000 in
set_option maxHeartbeats 4000000 in
theorem k_X10_sheet {l : Launch} {σ : ES} {a1 : Int32} {a2 : Int32} {a3 : Int32} {out : (Int32 × ES)} (h : e_X10_sheet a1 a2 a3 σ = some out) : MK l yX10_sheet cX10_sheet 5 (some .int) 3 [.ref 69, .int a1, .int a2, .int a3] (mkS σ) (some (.int out.1)) (mkS out.2) := by
  unfold e_X10_sheet at h
  refine mw_entry (own := RX10) (ini := false) (L := [(0, .ref 69), (1, .int a1), (2, .int a2), (3, .int a3)]) (by decide +kernel) rfl (fun h => nomatch h) rfl (Nat.le_of_ble_eq_true rfl) (Nat.le_of_ble_eq_true rfl) (fun E => ?_)
  refine mw_iload_n dX10_sheet_0 1 rfl ?_
  obtain ⟨r1, e2, h⟩ := mbd h
  refine mv_callS_i (As := [.int a1]) lkS_RX10_258_yX10_isSheet dX10_sheet_1 (k_X10_isSheet e2) rfl rfl (Nat.le_of_ble_eq_true rfl) (by decide) (by decide) ?_
  refine mw_if_eq (tgt := 29) dX10_sheet_4 (by decide) (fun hc => ?_) (fun hc => ?_)
  · have h := mit hc h
    refine mw_aload_n dX10_sheet_29 0 rfl ?_
    refine mw_iconst (v := 0) dX10_sheet_30 (by decide) ?_
    obtain ⟨r3, e4, h⟩ := mbd h
    refine mv_callV_i (As := [.int (0 : Int32)]) (ci := 9) lkV_RX10_81_yX10_finds dX10_sheet_31 (k_X10_finds e4) rfl rfl rfl rfl (Nat.le_of_ble_eq_true rfl) (by decide) (by decide) ?_
    exact mw_iret dX10_sheet_34 rfl (ers_im h) rfl rfl
  · have h := mie hc h
    refine mw_iload_n dX10_sheet_7 2 rfl ?_
    refine mw_if_eq (tgt := 35) dX10_sheet_8 (by decide) (fun hc => ?_) (fun hc => ?_)
    · have h := mit hc h
      exact mw_sub (L' := [(0, .ref 69), (1, .int a1), (2, .int a2), (3, .int a3)]) [0, 1, 2, 3] rfl (p_X10_sheet_J35  h)
    · have h := mie hc h
      refine mw_iload_n dX10_sheet_11 2 rfl ?_
      refine mw_bipush (v := 16) dX10_sheet_12 (by decide) ?_
      refine mw_icmp_eq (tgt := 35) dX10_sheet_14 (by decide) (fun hc => ?_) (fun hc => ?_)
      · have h := mit hc h
        exact mw_sub (L' := [(0, .ref 69), (1, .int a1), (2, .int a2), (3, .int a3)]) [0, 1, 2, 3] rfl (p_X10_sheet_J35  h)
      · have h := mie hc h
        refine mw_iload_n dX10_sheet_17 2 rfl ?_
        refine mw_bipush (v := 32) dX10_sheet_18 (by decide) ?_
        refine mw_icmp_eq (tgt := 35) dX10_sheet_20 (by decide) (fun hc => ?_) (fun hc => ?_)
        · have h := mit hc h
          exact mw_sub (L' := [(0, .ref 69), (1, .int a1), (2, .int a2), (3, .int a3)]) [0, 1, 2, 3] rfl (p_X10_sheet_J35  h)
        · have h := mie hc h
          refine mw_iload_n dX10_sheet_23 2 rfl ?_
          refine mw_bipush (v := 64) dX10_sheet_24 (by decide) ?_
          refine mw_icmp_eq (tgt := 35) dX10_sheet_26 (by decide) (fun hc => ?_) (fun hc => ?_)
          · have h := mit hc h
            exact mw_sub (L' := [(0, .ref 69), (1, .int a1), (2, .int a2), (3, .int a3)]) [0, 1, 2, 3] rfl (p_X10_sheet_J35  h)
          · have h := mie hc h
            refine mw_aload_n dX10_sheet_29 0 rfl ?_
            refine mw_iconst (v := 0) dX10_sheet_30 (by decide) ?_
            obtain ⟨r5, e6, h⟩ := mbd h
            refine mv_callV_i (As := [.int (0 : Int32)]) (ci := 9) lkV_RX10_81_yX10_finds dX10_sheet_31 (k_X10_finds e6) rfl rfl rfl rfl (Nat.le_of_ble_eq_true rfl) (by decide) (by decide) ?_
            exact mw_iret dX10_sheet_34 rfl (ers_im h) rfl rfl

theorem dX10_lacks_0 : decode cX10_lacks 0 = .ok (.iload_n 1, 1) := by decide +kernel
theorem dX10_lacks_1 : decode cX10_lacks 1 = .ok (.invokestatic 258, 3) := by decide +kernel
theorem dX10_lacks_4 : decode cX10_lacks 4 = .ok (.ifCond .ne 7, 3) := by decide +kernel
theorem dX10_lacks_7 : decode cX10_lacks 7 = .ok (.iconst 0, 1) := by decide +kernel
theorem dX10_lacks_8 : decode cX10_lacks 8 = .ok (.goto 39, 3) := by decide +kernel
theorem dX10_lacks_11 : decode cX10_lacks 11 = .ok (.aload_n 0, 1) := by decide +kernel
theorem dX10_lacks_12 : decode cX10_lacks 12 = .ok (.getfield 32, 3) := by decide +kernel
theorem dX10_lacks_15 : decode cX10_lacks 15 = .ok (.iload_n 1, 1) := by decide +kernel
theorem dX10_lacks_16 : decode cX10_lacks 16 = .ok (.iaload, 1) := by decide +kernel
theorem dX10_lacks_17 : decode cX10_lacks 17 = .ok (.ifCond .ne 7, 3) := by decide +kernel
theorem dX10_lacks_20 : decode cX10_lacks 20 = .ok (.iconst 5, 1) := by decide +kernel
theorem dX10_lacks_21 : decode cX10_lacks 21 = .ok (.goto 26, 3) := by decide +kernel
theorem dX10_lacks_24 : decode cX10_lacks 24 = .ok (.iload_n 2, 1) := by decide +kernel
theorem dX10_lacks_25 : decode cX10_lacks 25 = .ok (.i2l, 1) := by decide +kernel
theorem dX10_lacks_26 : decode cX10_lacks 26 = .ok (.lconst 0, 1) := by decide +kernel
theorem dX10_lacks_27 : decode cX10_lacks 27 = .ok (.aload_n 0, 1) := by decide +kernel
theorem dX10_lacks_28 : decode cX10_lacks 28 = .ok (.getfield 35, 3) := by decide +kernel
theorem dX10_lacks_31 : decode cX10_lacks 31 = .ok (.iload_n 1, 1) := by decide +kernel
theorem dX10_lacks_32 : decode cX10_lacks 32 = .ok (.iaload, 1) := by decide +kernel
theorem dX10_lacks_33 : decode cX10_lacks 33 = .ok (.iconst 1, 1) := by decide +kernel
theorem dX10_lacks_34 : decode cX10_lacks 34 = .ok (.isub, 1) := by decide +kernel
theorem dX10_lacks_35 : decode cX10_lacks 35 = .ok (.i2l, 1) := by decide +kernel
theorem dX10_lacks_36 : decode cX10_lacks 36 = .ok (.invokestatic 57, 3) := by decide +kernel
theorem dX10_lacks_39 : decode cX10_lacks 39 = .ok (.ifCond .eq 7, 3) := by decide +kernel
theorem dX10_lacks_42 : decode cX10_lacks 42 = .ok (.iconst (-1), 1) := by decide +kernel
theorem dX10_lacks_43 : decode cX10_lacks 43 = .ok (.goto 4, 3) := by decide +kernel
theorem dX10_lacks_46 : decode cX10_lacks 46 = .ok (.iconst 0, 1) := by decide +kernel
theorem dX10_lacks_47 : decode cX10_lacks 47 = .ok (.ireturn, 1) := by decide +kernel
def e_X10_lacks (σ : ES) (a1 : Int32) (a2 : Int32) : Option Int32 := (e_X10_isSheet a1).bind (fun r1 => if r1 = 0 then (some (0 : Int32)) else (if mib a1 4 = true then (if (eI σ 75 a1.toNatClampNeg) = 0 then (some (5 : Int32)) else ((e_X10_in a2.toInt64 (0 : Int64) (((eI σ 76 a1.toNatClampNeg) - (1 : Int32)).toInt64)).bind (fun r4 => if r4 = 0 then (some (0 : Int32)) else (some (-1 : Int32))))) else none))
set_option maxRecDepth 100000 in
set_option maxHeartbeats 4000000 in
theorem k_X10_lacks {l : Launch} {σ : ES} {a1 : Int32} {a2 : Int32} {out : Int32} (h : e_X10_lacks σ a1 a2 = some out) : MK l yX10_lacks cX10_lacks 3 (some .int) 3 [.ref 69, .int a1, .int a2] (mkS σ) (some (.int out)) (mkS σ) := by
  unfold e_X10_lacks at h
  refine mw_entry (own := RX10) (ini := false) (L := [(0, .ref 69), (1, .int a1), (2, .int a2)]) (by decide +kernel) rfl (fun h => nomatch h) rfl (Nat.le_of_ble_eq_true rfl) (Nat.le_of_ble_eq_true rfl) (fun E => ?_)
  refine mw_iload_n dX10_lacks_0 1 rfl ?_
  obtain ⟨r1, e2, h⟩ := mbd h
  refine mv_callS_i (As := [.int a1]) lkS_RX10_258_yX10_isSheet dX10_lacks_1 (k_X10_isSheet e2) rfl rfl (Nat.le_of_ble_eq_true rfl) (by decide) (by decide) ?_
  refine mw_if_ne (tgt := 11) dX10_lacks_4 (by decide) (fun hc => ?_) (fun hc => ?_)
  · have h := mie hc h
    refine mw_aload_n dX10_lacks_11 0 rfl ?_
    refine ev_getR (q := 75) fd_RX10_32_9 dX10_lacks_12 rfl rfl rfl ?_
    refine mw_iload_n dX10_lacks_15 1 rfl ?_
    obtain ⟨m3, h⟩ := mif h
    refine ev_iald dX10_lacks_16 (by decide) rfl m3 ?_
    refine mw_if_ne (tgt := 24) dX10_lacks_17 (by decide) (fun hc => ?_) (fun hc => ?_)
    · have h := mie hc h
      refine mw_iload_n dX10_lacks_24 2 rfl ?_
      refine mw_i2l dX10_lacks_25 ?_
      refine mw_lconst (v := 0) dX10_lacks_26 (by decide) ?_
      refine mw_aload_n dX10_lacks_27 0 rfl ?_
      refine ev_getR (q := 76) fd_RX10_35_9 dX10_lacks_28 rfl rfl rfl ?_
      refine mw_iload_n dX10_lacks_31 1 rfl ?_
      refine ev_iald dX10_lacks_32 (by decide) rfl m3 ?_
      refine mw_iconst (v := 1) dX10_lacks_33 (by decide) ?_
      refine mw_isub dX10_lacks_34 ?_
      refine mw_i2l dX10_lacks_35 ?_
      obtain ⟨r4, e5, h⟩ := mbd h
      refine mv_callS_i (As := [.long a2.toInt64, .long (0 : Int64), .long ((eI σ 76 a1.toNatClampNeg) - (1 : Int32)).toInt64]) lkS_RX10_57_yX10_in dX10_lacks_36 (k_X10_in e5) rfl rfl (Nat.le_of_ble_eq_true rfl) (by decide) (by decide) ?_
      refine mw_if_eq (tgt := 46) dX10_lacks_39 (by decide) (fun hc => ?_) (fun hc => ?_)
      · have h := mit hc h
        refine mw_iconst (v := 0) dX10_lacks_46 (by decide) ?_
        exact mw_iret dX10_lacks_47 rfl (ers_i h) rfl rfl
      · have h := mie hc h
        refine mw_iconst (v := -1) dX10_lacks_42 (by decide) ?_
        refine mw_goto (tgt := 47) dX10_lacks_43 (by decide) ?_
        exact mw_iret dX10_lacks_47 rfl (ers_i h) rfl rfl
    · have h := mit hc h
      refine mw_iconst (v := 5) dX10_lacks_20 (by decide) ?_
      refine mw_goto (tgt := 47) dX10_lacks_21 (by decide) ?_
      exact mw_iret dX10_lacks_47 rfl (ers_i h) rfl rfl
  · have h := mit hc h
    refine mw_iconst (v := 0) dX10_lacks_7 (by decide) ?_
    refine mw_goto (tgt := 47) dX10_lacks_8 (by decide) ?_
    exact mw_iret dX10_lacks_47 rfl (ers_i h) rfl rfl

theorem dX10_write_0 : decode cX10_write 0 = .ok (.aload_n 0, 1) := by decide +kernel
theorem dX10_write_1 : decode cX10_write 1 = .ok (.iload_n 1, 1) := by decide +kernel
theorem dX10_write_2 : decode cX10_write 2 = .ok (.iload_n 2, 1) := by decide +kernel
theorem dX10_write_3 : decode cX10_write 3 = .ok (.invokevirtual 334, 3) := by decide +kernel
theorem dX10_write_6 : decode cX10_write 6 = .ok (.istore 5, 2) := by decide +kernel
theorem dX10_write_8 : decode cX10_write 8 = .ok (.iload 5, 2) := by decide +kernel
theorem dX10_write_10 : decode cX10_write 10 = .ok (.ifCond .lt 10, 3) := by decide +kernel
theorem dX10_write_13 : decode cX10_write 13 = .ok (.aload_n 0, 1) := by decide +kernel
theorem dX10_write_14 : decode cX10_write 14 = .ok (.iload 5, 2) := by decide +kernel
theorem dX10_write_16 : decode cX10_write 16 = .ok (.invokevirtual 81, 3) := by decide +kernel
theorem dX10_write_19 : decode cX10_write 19 = .ok (.ireturn, 1) := by decide +kernel
theorem dX10_write_20 : decode cX10_write 20 = .ok (.aload_n 0, 1) := by decide +kernel
theorem dX10_write_21 : decode cX10_write 21 = .ok (.getfield 38, 3) := by decide +kernel
theorem dX10_write_24 : decode cX10_write 24 = .ok (.bipush 40, 2) := by decide +kernel
theorem dX10_write_26 : decode cX10_write 26 = .ok (.iload_n 1, 1) := by decide +kernel
theorem dX10_write_27 : decode cX10_write 27 = .ok (.imul, 1) := by decide +kernel
theorem dX10_write_28 : decode cX10_write 28 = .ok (.iload_n 2, 1) := by decide +kernel
theorem dX10_write_29 : decode cX10_write 29 = .ok (.iadd, 1) := by decide +kernel
theorem dX10_write_30 : decode cX10_write 30 = .ok (.aload_n 0, 1) := by decide +kernel
theorem dX10_write_31 : decode cX10_write 31 = .ok (.getfield 32, 3) := by decide +kernel
theorem dX10_write_34 : decode cX10_write 34 = .ok (.iload_n 1, 1) := by decide +kernel
theorem dX10_write_35 : decode cX10_write 35 = .ok (.iaload, 1) := by decide +kernel
theorem dX10_write_36 : decode cX10_write 36 = .ok (.lload_n 3, 1) := by decide +kernel
theorem dX10_write_37 : decode cX10_write 37 = .ok (.invokestatic 265, 3) := by decide +kernel
theorem dX10_write_40 : decode cX10_write 40 = .ok (.lastore, 1) := by decide +kernel
theorem dX10_write_41 : decode cX10_write 41 = .ok (.iconst 1, 1) := by decide +kernel
theorem dX10_write_42 : decode cX10_write 42 = .ok (.ireturn, 1) := by decide +kernel
def e_X10_write (a1 : Int32) (a2 : Int32) (a3 : Int64) (σ : ES) : Option (Int32 × ES) := (e_X10_lacks σ a1 a2).bind (fun r1 => if r1 < 0 then (if mib a1 4 = true then ((e_X10_narrow (eI σ 75 a1.toNatClampNeg) a3).bind (fun r4 => if mib (((40 : Int32) * a1) + a2) 160 = true then (some ((1 : Int32), (uL σ 77 (((40 : Int32) * a1) + a2).toNatClampNeg r4))) else none)) else none) else ((e_X10_finds r1 σ).bind (fun r7 => some (r7.1, r7.2))))
set_option maxRecDepth 100000 in
set_option maxHeartbeats 4000000 in
theorem k_X10_write {l : Launch} {σ : ES} {a1 : Int32} {a2 : Int32} {a3 : Int64} {out : (Int32 × ES)} (h : e_X10_write a1 a2 a3 σ = some out) : MK l yX10_write cX10_write 6 (some .int) 4 [.ref 69, .int a1, .int a2, .long a3] (mkS σ) (some (.int out.1)) (mkS out.2) := by
  unfold e_X10_write at h
  refine mw_entry (own := RX10) (ini := false) (L := [(0, .ref 69), (1, .int a1), (2, .int a2), (3, .long a3)]) (by decide +kernel) rfl (fun h => nomatch h) rfl (Nat.le_of_ble_eq_true rfl) (Nat.le_of_ble_eq_true rfl) (fun E => ?_)
  refine mw_aload_n dX10_write_0 0 rfl ?_
  refine mw_iload_n dX10_write_1 1 rfl ?_
  refine mw_iload_n dX10_write_2 2 rfl ?_
  obtain ⟨r1, e2, h⟩ := mbd h
  refine mv_callV_i (As := [.int a1, .int a2]) (ci := 9) lkV_RX10_334_yX10_lacks dX10_write_3 (k_X10_lacks e2) rfl rfl rfl rfl (Nat.le_of_ble_eq_true rfl) (by decide) (by decide) ?_
  refine mw_istore (L' := [(5, .int r1), (0, .ref 69), (1, .int a1), (2, .int a2), (3, .long a3)]) dX10_write_6 (by decide) rfl ?_
  refine mw_iload dX10_write_8 0 rfl ?_
  refine mw_if_lt (tgt := 20) dX10_write_10 (by decide) (fun hc => ?_) (fun hc => ?_)
  · have h := mit hc h
    refine mw_aload_n dX10_write_20 1 rfl ?_
    refine ev_getR (q := 77) fd_RX10_38_9 dX10_write_21 rfl rfl rfl ?_
    refine mw_bipush (v := 40) dX10_write_24 (by decide) ?_
    refine mw_iload_n dX10_write_26 2 rfl ?_
    refine mw_imul dX10_write_27 ?_
    refine mw_iload_n dX10_write_28 3 rfl ?_
    refine mw_iadd dX10_write_29 ?_
    refine mw_aload_n dX10_write_30 1 rfl ?_
    refine ev_getR (q := 75) fd_RX10_32_9 dX10_write_31 rfl rfl rfl ?_
    refine mw_iload_n dX10_write_34 2 rfl ?_
    obtain ⟨m3, h⟩ := mif h
    refine ev_iald dX10_write_35 (by decide) rfl m3 ?_
    refine mw_lload_n dX10_write_36 4 rfl ?_
    obtain ⟨r4, e5, h⟩ := mbd h
    refine mv_callS_l (As := [.int (eI σ 75 a1.toNatClampNeg), .long a3]) lkS_RX10_265_yX10_narrow dX10_write_37 (k_X10_narrow e5) rfl rfl (Nat.le_of_ble_eq_true rfl) (by decide) (by decide) ?_
    obtain ⟨m6, h⟩ := mif h
    refine ev_last dX10_write_40 (by decide) rfl m6 ?_
    refine mw_iconst (v := 1) dX10_write_41 (by decide) ?_
    exact mw_iret dX10_write_42 rfl (ers_im h) rfl rfl
  · have h := mie hc h
    refine mw_aload_n dX10_write_13 1 rfl ?_
    refine mw_iload dX10_write_14 0 rfl ?_
    obtain ⟨r7, e8, h⟩ := mbd h
    refine mv_callV_i (As := [.int r1]) (ci := 9) lkV_RX10_81_yX10_finds dX10_write_16 (k_X10_finds e8) rfl rfl rfl rfl (Nat.le_of_ble_eq_true rfl) (by decide) (by decide) ?_
    exact mw_iret dX10_write_19 rfl (ers_im h) rfl rfl

theorem dX10_read_0 : decode cX10_read 0 = .ok (.aload_n 0, 1) := by decide +kernel
theorem dX10_read_1 : decode cX10_read 1 = .ok (.iload_n 1, 1) := by decide +kernel
theorem dX10_read_2 : decode cX10_read 2 = .ok (.iload_n 2, 1) := by decide +kernel
theorem dX10_read_3 : decode cX10_read 3 = .ok (.invokevirtual 334, 3) := by decide +kernel
theorem dX10_read_6 : decode cX10_read 6 = .ok (.istore_n 3, 1) := by decide +kernel
theorem dX10_read_7 : decode cX10_read 7 = .ok (.iload_n 3, 1) := by decide +kernel
theorem dX10_read_8 : decode cX10_read 8 = .ok (.ifCond .lt 11, 3) := by decide +kernel
theorem dX10_read_11 : decode cX10_read 11 = .ok (.aload_n 0, 1) := by decide +kernel
theorem dX10_read_12 : decode cX10_read 12 = .ok (.iload_n 3, 1) := by decide +kernel
theorem dX10_read_13 : decode cX10_read 13 = .ok (.invokevirtual 165, 3) := by decide +kernel
theorem dX10_read_16 : decode cX10_read 16 = .ok (.goto 14, 3) := by decide +kernel
theorem dX10_read_19 : decode cX10_read 19 = .ok (.aload_n 0, 1) := by decide +kernel
theorem dX10_read_20 : decode cX10_read 20 = .ok (.getfield 38, 3) := by decide +kernel
theorem dX10_read_23 : decode cX10_read 23 = .ok (.bipush 40, 2) := by decide +kernel
theorem dX10_read_25 : decode cX10_read 25 = .ok (.iload_n 1, 1) := by decide +kernel
theorem dX10_read_26 : decode cX10_read 26 = .ok (.imul, 1) := by decide +kernel
theorem dX10_read_27 : decode cX10_read 27 = .ok (.iload_n 2, 1) := by decide +kernel
theorem dX10_read_28 : decode cX10_read 28 = .ok (.iadd, 1) := by decide +kernel
theorem dX10_read_29 : decode cX10_read 29 = .ok (.laload, 1) := by decide +kernel
theorem dX10_read_30 : decode cX10_read 30 = .ok (.lreturn, 1) := by decide +kernel
def e_X10_read (a1 : Int32) (a2 : Int32) (σ : ES) : Option (Int64 × ES) := (e_X10_lacks σ a1 a2).bind (fun r1 => if r1 < 0 then (if mib (((40 : Int32) * a1) + a2) 160 = true then (some ((eL σ 77 (((40 : Int32) * a1) + a2).toNatClampNeg), σ)) else none) else ((e_X10_farFinds r1 σ).bind (fun r4 => some (r4.1, r4.2))))
set_option maxRecDepth 100000 in
set_option maxHeartbeats 4000000 in
theorem k_X10_read {l : Launch} {σ : ES} {a1 : Int32} {a2 : Int32} {out : (Int64 × ES)} (h : e_X10_read a1 a2 σ = some out) : MK l yX10_read cX10_read 4 (some .long) 4 [.ref 69, .int a1, .int a2] (mkS σ) (some (.long out.1)) (mkS out.2) := by
  unfold e_X10_read at h
  refine mw_entry (own := RX10) (ini := false) (L := [(0, .ref 69), (1, .int a1), (2, .int a2)]) (by decide +kernel) rfl (fun h => nomatch h) rfl (Nat.le_of_ble_eq_true rfl) (Nat.le_of_ble_eq_true rfl) (fun E => ?_)
  refine mw_aload_n dX10_read_0 0 rfl ?_
  refine mw_iload_n dX10_read_1 1 rfl ?_
  refine mw_iload_n dX10_read_2 2 rfl ?_
  obtain ⟨r1, e2, h⟩ := mbd h
  refine mv_callV_i (As := [.int a1, .int a2]) (ci := 9) lkV_RX10_334_yX10_lacks dX10_read_3 (k_X10_lacks e2) rfl rfl rfl rfl (Nat.le_of_ble_eq_true rfl) (by decide) (by decide) ?_
  refine mw_istore_n (L' := [(3, .int r1), (0, .ref 69), (1, .int a1), (2, .int a2)]) dX10_read_6 rfl (by decide) rfl ?_
  refine mw_iload_n dX10_read_7 0 rfl ?_
  refine mw_if_lt (tgt := 19) dX10_read_8 (by decide) (fun hc => ?_) (fun hc => ?_)
  · have h := mit hc h
    refine mw_aload_n dX10_read_19 1 rfl ?_
    refine ev_getR (q := 77) fd_RX10_38_9 dX10_read_20 rfl rfl rfl ?_
    refine mw_bipush (v := 40) dX10_read_23 (by decide) ?_
    refine mw_iload_n dX10_read_25 2 rfl ?_
    refine mw_imul dX10_read_26 ?_
    refine mw_iload_n dX10_read_27 3 rfl ?_
    refine mw_iadd dX10_read_28 ?_
    obtain ⟨m3, h⟩ := mif h
    refine ev_lald dX10_read_29 (by decide) rfl m3 ?_
    exact mw_lret dX10_read_30 rfl (ers_lm h) rfl rfl
  · have h := mie hc h
    refine mw_aload_n dX10_read_11 1 rfl ?_
    refine mw_iload_n dX10_read_12 0 rfl ?_
    obtain ⟨r4, e5, h⟩ := mbd h
    refine mv_callV_l (As := [.int r1]) (ci := 9) lkV_RX10_165_yX10_farFinds dX10_read_13 (k_X10_farFinds e5) rfl rfl rfl rfl (Nat.le_of_ble_eq_true rfl) (by decide) (by decide) ?_
    refine mw_goto (tgt := 30) dX10_read_16 (by decide) ?_
    exact mw_lret dX10_read_30 rfl (ers_lm h) rfl rfl

theorem dX10_copy_0 : decode cX10_copy 0 = .ok (.iload_n 1, 1) := by decide +kernel
theorem dX10_copy_1 : decode cX10_copy 1 = .ok (.invokestatic 258, 3) := by decide +kernel
theorem dX10_copy_4 : decode cX10_copy 4 = .ok (.ifCond .eq 10, 3) := by decide +kernel
theorem dX10_copy_7 : decode cX10_copy 7 = .ok (.iload_n 3, 1) := by decide +kernel
theorem dX10_copy_8 : decode cX10_copy 8 = .ok (.invokestatic 258, 3) := by decide +kernel
theorem dX10_copy_11 : decode cX10_copy 11 = .ok (.ifCond .ne 9, 3) := by decide +kernel
theorem dX10_copy_14 : decode cX10_copy 14 = .ok (.aload_n 0, 1) := by decide +kernel
theorem dX10_copy_15 : decode cX10_copy 15 = .ok (.iconst 0, 1) := by decide +kernel
theorem dX10_copy_16 : decode cX10_copy 16 = .ok (.invokevirtual 81, 3) := by decide +kernel
theorem dX10_copy_19 : decode cX10_copy 19 = .ok (.ireturn, 1) := by decide +kernel
theorem dX10_copy_20 : decode cX10_copy 20 = .ok (.aload_n 0, 1) := by decide +kernel
theorem dX10_copy_21 : decode cX10_copy 21 = .ok (.getfield 32, 3) := by decide +kernel
theorem dX10_copy_24 : decode cX10_copy 24 = .ok (.iload_n 1, 1) := by decide +kernel
theorem dX10_copy_25 : decode cX10_copy 25 = .ok (.iaload, 1) := by decide +kernel
theorem dX10_copy_26 : decode cX10_copy 26 = .ok (.ifCond .eq 12, 3) := by decide +kernel
theorem dX10_copy_29 : decode cX10_copy 29 = .ok (.aload_n 0, 1) := by decide +kernel
theorem dX10_copy_30 : decode cX10_copy 30 = .ok (.getfield 32, 3) := by decide +kernel
theorem dX10_copy_33 : decode cX10_copy 33 = .ok (.iload_n 3, 1) := by decide +kernel
theorem dX10_copy_34 : decode cX10_copy 34 = .ok (.iaload, 1) := by decide +kernel
theorem dX10_copy_35 : decode cX10_copy 35 = .ok (.ifCond .ne 9, 3) := by decide +kernel
theorem dX10_copy_38 : decode cX10_copy 38 = .ok (.aload_n 0, 1) := by decide +kernel
theorem dX10_copy_39 : decode cX10_copy 39 = .ok (.iconst 5, 1) := by decide +kernel
theorem dX10_copy_40 : decode cX10_copy 40 = .ok (.invokevirtual 81, 3) := by decide +kernel
theorem dX10_copy_43 : decode cX10_copy 43 = .ok (.ireturn, 1) := by decide +kernel
theorem dX10_copy_44 : decode cX10_copy 44 = .ok (.aload_n 0, 1) := by decide +kernel
theorem dX10_copy_45 : decode cX10_copy 45 = .ok (.getfield 32, 3) := by decide +kernel
theorem dX10_copy_48 : decode cX10_copy 48 = .ok (.iload_n 1, 1) := by decide +kernel
theorem dX10_copy_49 : decode cX10_copy 49 = .ok (.iaload, 1) := by decide +kernel
theorem dX10_copy_50 : decode cX10_copy 50 = .ok (.aload_n 0, 1) := by decide +kernel
theorem dX10_copy_51 : decode cX10_copy 51 = .ok (.getfield 32, 3) := by decide +kernel
theorem dX10_copy_54 : decode cX10_copy 54 = .ok (.iload_n 3, 1) := by decide +kernel
theorem dX10_copy_55 : decode cX10_copy 55 = .ok (.iaload, 1) := by decide +kernel
theorem dX10_copy_56 : decode cX10_copy 56 = .ok (.if_icmp .eq 9, 3) := by decide +kernel
theorem dX10_copy_59 : decode cX10_copy 59 = .ok (.aload_n 0, 1) := by decide +kernel
theorem dX10_copy_60 : decode cX10_copy 60 = .ok (.iconst 2, 1) := by decide +kernel
theorem dX10_copy_61 : decode cX10_copy 61 = .ok (.invokevirtual 81, 3) := by decide +kernel
theorem dX10_copy_64 : decode cX10_copy 64 = .ok (.ireturn, 1) := by decide +kernel
theorem dX10_copy_65 : decode cX10_copy 65 = .ok (.iload 5, 2) := by decide +kernel
theorem dX10_copy_67 : decode cX10_copy 67 = .ok (.ifCond .lt 39, 3) := by decide +kernel
theorem dX10_copy_70 : decode cX10_copy 70 = .ok (.iload_n 2, 1) := by decide +kernel
theorem dX10_copy_71 : decode cX10_copy 71 = .ok (.ifCond .lt 35, 3) := by decide +kernel
theorem dX10_copy_74 : decode cX10_copy 74 = .ok (.iload 4, 2) := by decide +kernel
theorem dX10_copy_76 : decode cX10_copy 76 = .ok (.ifCond .lt 30, 3) := by decide +kernel
theorem dX10_copy_79 : decode cX10_copy 79 = .ok (.iload_n 2, 1) := by decide +kernel
theorem dX10_copy_80 : decode cX10_copy 80 = .ok (.aload_n 0, 1) := by decide +kernel
theorem dX10_copy_81 : decode cX10_copy 81 = .ok (.getfield 35, 3) := by decide +kernel
theorem dX10_copy_84 : decode cX10_copy 84 = .ok (.iload_n 1, 1) := by decide +kernel
theorem dX10_copy_85 : decode cX10_copy 85 = .ok (.iaload, 1) := by decide +kernel
theorem dX10_copy_86 : decode cX10_copy 86 = .ok (.iload 5, 2) := by decide +kernel
theorem dX10_copy_88 : decode cX10_copy 88 = .ok (.isub, 1) := by decide +kernel
theorem dX10_copy_89 : decode cX10_copy 89 = .ok (.if_icmp .gt 17, 3) := by decide +kernel
theorem dX10_copy_92 : decode cX10_copy 92 = .ok (.iload 4, 2) := by decide +kernel
theorem dX10_copy_94 : decode cX10_copy 94 = .ok (.aload_n 0, 1) := by decide +kernel
theorem dX10_copy_95 : decode cX10_copy 95 = .ok (.getfield 35, 3) := by decide +kernel
theorem dX10_copy_98 : decode cX10_copy 98 = .ok (.iload_n 3, 1) := by decide +kernel
theorem dX10_copy_99 : decode cX10_copy 99 = .ok (.iaload, 1) := by decide +kernel
theorem dX10_copy_100 : decode cX10_copy 100 = .ok (.iload 5, 2) := by decide +kernel
theorem dX10_copy_102 : decode cX10_copy 102 = .ok (.isub, 1) := by decide +kernel
theorem dX10_copy_103 : decode cX10_copy 103 = .ok (.if_icmp .le 9, 3) := by decide +kernel
theorem dX10_copy_106 : decode cX10_copy 106 = .ok (.aload_n 0, 1) := by decide +kernel
theorem dX10_copy_107 : decode cX10_copy 107 = .ok (.iconst 0, 1) := by decide +kernel
theorem dX10_copy_108 : decode cX10_copy 108 = .ok (.invokevirtual 81, 3) := by decide +kernel
theorem dX10_copy_111 : decode cX10_copy 111 = .ok (.ireturn, 1) := by decide +kernel
theorem dX10_copy_112 : decode cX10_copy 112 = .ok (.iconst 0, 1) := by decide +kernel
theorem dX10_copy_113 : decode cX10_copy 113 = .ok (.istore 6, 2) := by decide +kernel
theorem dX10_copy_115 : decode cX10_copy 115 = .ok (.iload 6, 2) := by decide +kernel
theorem dX10_copy_117 : decode cX10_copy 117 = .ok (.iload 5, 2) := by decide +kernel
theorem dX10_copy_119 : decode cX10_copy 119 = .ok (.if_icmp .ge 30, 3) := by decide +kernel
theorem dX10_copy_122 : decode cX10_copy 122 = .ok (.aload_n 0, 1) := by decide +kernel
theorem dX10_copy_123 : decode cX10_copy 123 = .ok (.getfield 41, 3) := by decide +kernel
theorem dX10_copy_126 : decode cX10_copy 126 = .ok (.iload 6, 2) := by decide +kernel
theorem dX10_copy_128 : decode cX10_copy 128 = .ok (.aload_n 0, 1) := by decide +kernel
theorem dX10_copy_129 : decode cX10_copy 129 = .ok (.getfield 38, 3) := by decide +kernel
theorem dX10_copy_132 : decode cX10_copy 132 = .ok (.bipush 40, 2) := by decide +kernel
theorem dX10_copy_134 : decode cX10_copy 134 = .ok (.iload_n 1, 1) := by decide +kernel
theorem dX10_copy_135 : decode cX10_copy 135 = .ok (.imul, 1) := by decide +kernel
theorem dX10_copy_136 : decode cX10_copy 136 = .ok (.iload_n 2, 1) := by decide +kernel
theorem dX10_copy_137 : decode cX10_copy 137 = .ok (.iadd, 1) := by decide +kernel
theorem dX10_copy_138 : decode cX10_copy 138 = .ok (.iload 6, 2) := by decide +kernel
theorem dX10_copy_140 : decode cX10_copy 140 = .ok (.iadd, 1) := by decide +kernel
theorem dX10_copy_141 : decode cX10_copy 141 = .ok (.laload, 1) := by decide +kernel
theorem dX10_copy_142 : decode cX10_copy 142 = .ok (.lastore, 1) := by decide +kernel
theorem dX10_copy_143 : decode cX10_copy 143 = .ok (.iinc 6 1, 3) := by decide +kernel
theorem dX10_copy_146 : decode cX10_copy 146 = .ok (.goto (-31), 3) := by decide +kernel
theorem dX10_copy_149 : decode cX10_copy 149 = .ok (.iconst 0, 1) := by decide +kernel
theorem dX10_copy_150 : decode cX10_copy 150 = .ok (.istore 6, 2) := by decide +kernel
theorem dX10_copy_152 : decode cX10_copy 152 = .ok (.iload 6, 2) := by decide +kernel
theorem dX10_copy_154 : decode cX10_copy 154 = .ok (.iload 5, 2) := by decide +kernel
theorem dX10_copy_156 : decode cX10_copy 156 = .ok (.if_icmp .ge 31, 3) := by decide +kernel
theorem dX10_copy_159 : decode cX10_copy 159 = .ok (.aload_n 0, 1) := by decide +kernel
theorem dX10_copy_160 : decode cX10_copy 160 = .ok (.getfield 38, 3) := by decide +kernel
theorem dX10_copy_163 : decode cX10_copy 163 = .ok (.bipush 40, 2) := by decide +kernel
theorem dX10_copy_165 : decode cX10_copy 165 = .ok (.iload_n 3, 1) := by decide +kernel
theorem dX10_copy_166 : decode cX10_copy 166 = .ok (.imul, 1) := by decide +kernel
theorem dX10_copy_167 : decode cX10_copy 167 = .ok (.iload 4, 2) := by decide +kernel
theorem dX10_copy_169 : decode cX10_copy 169 = .ok (.iadd, 1) := by decide +kernel
theorem dX10_copy_170 : decode cX10_copy 170 = .ok (.iload 6, 2) := by decide +kernel
theorem dX10_copy_172 : decode cX10_copy 172 = .ok (.iadd, 1) := by decide +kernel
theorem dX10_copy_173 : decode cX10_copy 173 = .ok (.aload_n 0, 1) := by decide +kernel
theorem dX10_copy_174 : decode cX10_copy 174 = .ok (.getfield 41, 3) := by decide +kernel
theorem dX10_copy_177 : decode cX10_copy 177 = .ok (.iload 6, 2) := by decide +kernel
theorem dX10_copy_179 : decode cX10_copy 179 = .ok (.laload, 1) := by decide +kernel
theorem dX10_copy_180 : decode cX10_copy 180 = .ok (.lastore, 1) := by decide +kernel
theorem dX10_copy_181 : decode cX10_copy 181 = .ok (.iinc 6 1, 3) := by decide +kernel
theorem dX10_copy_184 : decode cX10_copy 184 = .ok (.goto (-32), 3) := by decide +kernel
theorem dX10_copy_187 : decode cX10_copy 187 = .ok (.iload 5, 2) := by decide +kernel
theorem dX10_copy_189 : decode cX10_copy 189 = .ok (.ireturn, 1) := by decide +kernel
def e_X10_copy_L152 (a1 : Int32) (a2 : Int32) (a3 : Int32) (a4 : Int32) (a5 : Int32) : Nat → Int32 → ES → Option (Int32 × ES)
  | 0, _, _ => none
  | n + 1, x6, σ => if a5 ≤ x6 then (some (a5, σ)) else (if mib x6 40 = true then (if mib ((((40 : Int32) * a3) + a4) + x6) 160 = true then (e_X10_copy_L152 a1 a2 a3 a4 a5 n (x6 + 1) (uL σ 77 ((((40 : Int32) * a3) + a4) + x6).toNatClampNeg (eL σ 78 x6.toNatClampNeg))) else none) else none)
set_option maxRecDepth 100000 in
set_option maxHeartbeats 4000000 in
theorem p_X10_copy_L152 {l : Launch} {E : MX} {out : (Int32 × ES)} {a1 : Int32} {a2 : Int32} {a3 : Int32} {a4 : Int32} {a5 : Int32}  : ∀ (n : Nat) (x6 : Int32) (σ : ES), e_X10_copy_L152 a1 a2 a3 a4 a5 n x6 σ = some out → MV l E cX10_copy RX10 7 (some .int) 3 (82, (some (.int out.1)), mkS out.2) (mkS σ) 152 [(0, .ref 69), (1, .int a1), (2, .int a2), (3, .int a3), (4, .int a4), (5, .int a5), (6, .int x6)] [] := by
  intro n
  induction n with
  | zero =>
    intro x6 σ h
    exact nomatch h
  | succ n ih =>
    intro x6 σ h
    rw [e_X10_copy_L152] at h
    refine mw_iload dX10_copy_152 6 rfl ?_
    refine mw_iload dX10_copy_154 5 rfl ?_
    refine mw_icmp_ge (tgt := 187) dX10_copy_156 (by decide) (fun hc => ?_) (fun hc => ?_)
    · have h := mit hc h
      refine mw_iload dX10_copy_187 5 rfl ?_
      exact mw_iret dX10_copy_189 rfl (ers_im h) rfl rfl
    · have h := mie hc h
      refine mw_aload_n dX10_copy_159 0 rfl ?_
      refine ev_getR (q := 77) fd_RX10_38_9 dX10_copy_160 rfl rfl rfl ?_
      refine mw_bipush (v := 40) dX10_copy_163 (by decide) ?_
      refine mw_iload_n dX10_copy_165 3 rfl ?_
      refine mw_imul dX10_copy_166 ?_
      refine mw_iload dX10_copy_167 4 rfl ?_
      refine mw_iadd dX10_copy_169 ?_
      refine mw_iload dX10_copy_170 6 rfl ?_
      refine mw_iadd dX10_copy_172 ?_
      refine mw_aload_n dX10_copy_173 0 rfl ?_
      refine ev_getR (q := 78) fd_RX10_41_9 dX10_copy_174 rfl rfl rfl ?_
      refine mw_iload dX10_copy_177 6 rfl ?_
      obtain ⟨m1, h⟩ := mif h
      refine ev_lald dX10_copy_179 (by decide) rfl m1 ?_
      obtain ⟨m2, h⟩ := mif h
      refine ev_last dX10_copy_180 (by decide) rfl m2 ?_
      refine mw_iinc (v := (x6 + 1)) (L' := [(6, .int (x6 + 1)), (0, .ref 69), (1, .int a1), (2, .int a2), (3, .int a3), (4, .int a4), (5, .int a5)]) dX10_copy_181 6 rfl rfl (by decide) rfl ?_
      refine mw_goto (tgt := 152) dX10_copy_184 (by decide) ?_
      exact mw_sub (L' := [(0, .ref 69), (1, .int a1), (2, .int a2), (3, .int a3), (4, .int a4), (5, .int a5), (6, .int (x6 + 1))]) [1, 2, 3, 4, 5, 6, 0] rfl (ih _ _ h)
def e_X10_copy_L115 (a1 : Int32) (a2 : Int32) (a3 : Int32) (a4 : Int32) (a5 : Int32) : Nat → Int32 → ES → Option (Int32 × ES)
  | 0, _, _ => none
  | n + 1, x6, σ => if a5 ≤ x6 then (e_X10_copy_L152 a1 a2 a3 a4 a5 mN (0 : Int32) σ) else (if mib ((((40 : Int32) * a1) + a2) + x6) 160 = true then (if mib x6 40 = true then (e_X10_copy_L115 a1 a2 a3 a4 a5 n (x6 + 1) (uL σ 78 x6.toNatClampNeg (eL σ 77 ((((40 : Int32) * a1) + a2) + x6).toNatClampNeg))) else none) else none)
set_option maxRecDepth 100000 in
set_option maxHeartbeats 4000000 in
theorem p_X10_copy_L115 {l : Launch} {E : MX} {out : (Int32 × ES)} {a1 : Int32} {a2 : Int32} {a3 : Int32} {a4 : Int32} {a5 : Int32}  : ∀ (n : Nat) (x6 : Int32) (σ : ES), e_X10_copy_L115 a1 a2 a3 a4 a5 n x6 σ = some out → MV l E cX10_copy RX10 7 (some .int) 3 (82, (some (.int out.1)), mkS out.2) (mkS σ) 115 [(0, .ref 69), (1, .int a1), (2, .int a2), (3, .int a3), (4, .int a4), (5, .int a5), (6, .int x6)] [] := by
  intro n
  induction n with
  | zero =>
    intro x6 σ h
    exact nomatch h
  | succ n ih =>
    intro x6 σ h
    rw [e_X10_copy_L115] at h
    refine mw_iload dX10_copy_115 6 rfl ?_
    refine mw_iload dX10_copy_117 5 rfl ?_
    refine mw_icmp_ge (tgt := 149) dX10_copy_119 (by decide) (fun hc => ?_) (fun hc => ?_)
    · have h := mit hc h
      refine mw_iconst (v := 0) dX10_copy_149 (by decide) ?_
      refine mw_istore (L' := [(6, .int (0 : Int32)), (0, .ref 69), (1, .int a1), (2, .int a2), (3, .int a3), (4, .int a4), (5, .int a5)]) dX10_copy_150 (by decide) rfl ?_
      exact mw_sub (L' := [(0, .ref 69), (1, .int a1), (2, .int a2), (3, .int a3), (4, .int a4), (5, .int a5), (6, .int (0 : Int32))]) [1, 2, 3, 4, 5, 6, 0] rfl (p_X10_copy_L152  mN _ _ h)
    · have h := mie hc h
      refine mw_aload_n dX10_copy_122 0 rfl ?_
      refine ev_getR (q := 78) fd_RX10_41_9 dX10_copy_123 rfl rfl rfl ?_
      refine mw_iload dX10_copy_126 6 rfl ?_
      refine mw_aload_n dX10_copy_128 0 rfl ?_
      refine ev_getR (q := 77) fd_RX10_38_9 dX10_copy_129 rfl rfl rfl ?_
      refine mw_bipush (v := 40) dX10_copy_132 (by decide) ?_
      refine mw_iload_n dX10_copy_134 1 rfl ?_
      refine mw_imul dX10_copy_135 ?_
      refine mw_iload_n dX10_copy_136 2 rfl ?_
      refine mw_iadd dX10_copy_137 ?_
      refine mw_iload dX10_copy_138 6 rfl ?_
      refine mw_iadd dX10_copy_140 ?_
      obtain ⟨m1, h⟩ := mif h
      refine ev_lald dX10_copy_141 (by decide) rfl m1 ?_
      obtain ⟨m2, h⟩ := mif h
      refine ev_last dX10_copy_142 (by decide) rfl m2 ?_
      refine mw_iinc (v := (x6 + 1)) (L' := [(6, .int (x6 + 1)), (0, .ref 69), (1, .int a1), (2, .int a2), (3, .int a3), (4, .int a4), (5, .int a5)]) dX10_copy_143 6 rfl rfl (by decide) rfl ?_
      refine mw_goto (tgt := 115) dX10_copy_146 (by decide) ?_
      exact mw_sub (L' := [(0, .ref 69), (1, .int a1), (2, .int a2), (3, .int a3), (4, .int a4), (5, .int a5), (6, .int (x6 + 1))]) [1, 2, 3, 4, 5, 6, 0] rfl (ih _ _ h)
def e_X10_copy (a1 : Int32) (a2 : Int32) (a3 : Int32) (a4 : Int32) (a5 : Int32) (σ : ES) : Option (Int32 × ES) := (e_X10_isSheet a1).bind (fun r1 => if r1 = 0 then ((e_X10_finds (0 : Int32) σ).bind (fun r3 => some (r3.1, r3.2))) else ((e_X10_isSheet a3).bind (fun r5 => if r5 = 0 then ((e_X10_finds (0 : Int32) σ).bind (fun r25 => some (r25.1, r25.2))) else (if mib a1 4 = true then (if (eI σ 75 a1.toNatClampNeg) = 0 then ((e_X10_finds (5 : Int32) σ).bind (fun r8 => some (r8.1, r8.2))) else (if mib a3 4 = true then (if (eI σ 75 a3.toNatClampNeg) = 0 then ((e_X10_finds (5 : Int32) σ).bind (fun r23 => some (r23.1, r23.2))) else (if (eI σ 75 a1.toNatClampNeg) = (eI σ 75 a3.toNatClampNeg) then (if a5 < 0 then ((e_X10_finds (0 : Int32) σ).bind (fun r11 => some (r11.1, r11.2))) else (if a2 < 0 then ((e_X10_finds (0 : Int32) σ).bind (fun r13 => some (r13.1, r13.2))) else (if a4 < 0 then ((e_X10_finds (0 : Int32) σ).bind (fun r15 => some (r15.1, r15.2))) else (if ((eI σ 76 a1.toNatClampNeg) - a5) < a2 then ((e_X10_finds (0 : Int32) σ).bind (fun r17 => some (r17.1, r17.2))) else (if a4 ≤ ((eI σ 76 a3.toNatClampNeg) - a5) then (e_X10_copy_L115 a1 a2 a3 a4 a5 mN (0 : Int32) σ) else ((e_X10_finds (0 : Int32) σ).bind (fun r19 => some (r19.1, r19.2)))))))) else ((e_X10_finds (2 : Int32) σ).bind (fun r21 => some (r21.1, r21.2))))) else none)) else none))))
set_option maxRecDepth 100000 in
set_option maxHeartbeats 4000000 in
theorem k_X10_copy {l : Launch} {σ : ES} {a1 : Int32} {a2 : Int32} {a3 : Int32} {a4 : Int32} {a5 : Int32} {out : (Int32 × ES)} (h : e_X10_copy a1 a2 a3 a4 a5 σ = some out) : MK l yX10_copy cX10_copy 7 (some .int) 3 [.ref 69, .int a1, .int a2, .int a3, .int a4, .int a5] (mkS σ) (some (.int out.1)) (mkS out.2) := by
  unfold e_X10_copy at h
  refine mw_entry (own := RX10) (ini := false) (L := [(0, .ref 69), (1, .int a1), (2, .int a2), (3, .int a3), (4, .int a4), (5, .int a5)]) (by decide +kernel) rfl (fun h => nomatch h) rfl (Nat.le_of_ble_eq_true rfl) (Nat.le_of_ble_eq_true rfl) (fun E => ?_)
  refine mw_iload_n dX10_copy_0 1 rfl ?_
  obtain ⟨r1, e2, h⟩ := mbd h
  refine mv_callS_i (As := [.int a1]) lkS_RX10_258_yX10_isSheet dX10_copy_1 (k_X10_isSheet e2) rfl rfl (Nat.le_of_ble_eq_true rfl) (by decide) (by decide) ?_
  refine mw_if_eq (tgt := 14) dX10_copy_4 (by decide) (fun hc => ?_) (fun hc => ?_)
  · have h := mit hc h
    refine mw_aload_n dX10_copy_14 0 rfl ?_
    refine mw_iconst (v := 0) dX10_copy_15 (by decide) ?_
    obtain ⟨r3, e4, h⟩ := mbd h
    refine mv_callV_i (As := [.int (0 : Int32)]) (ci := 9) lkV_RX10_81_yX10_finds dX10_copy_16 (k_X10_finds e4) rfl rfl rfl rfl (Nat.le_of_ble_eq_true rfl) (by decide) (by decide) ?_
    exact mw_iret dX10_copy_19 rfl (ers_im h) rfl rfl
  · have h := mie hc h
    refine mw_iload_n dX10_copy_7 3 rfl ?_
    obtain ⟨r5, e6, h⟩ := mbd h
    refine mv_callS_i (As := [.int a3]) lkS_RX10_258_yX10_isSheet dX10_copy_8 (k_X10_isSheet e6) rfl rfl (Nat.le_of_ble_eq_true rfl) (by decide) (by decide) ?_
    refine mw_if_ne (tgt := 20) dX10_copy_11 (by decide) (fun hc => ?_) (fun hc => ?_)
    · have h := mie hc h
      refine mw_aload_n dX10_copy_20 0 rfl ?_
      refine ev_getR (q := 75) fd_RX10_32_9 dX10_copy_21 rfl rfl rfl ?_
      refine mw_iload_n dX10_copy_24 1 rfl ?_
      obtain ⟨m7, h⟩ := mif h
      refine ev_iald dX10_copy_25 (by decide) rfl m7 ?_
      refine mw_if_eq (tgt := 38) dX10_copy_26 (by decide) (fun hc => ?_) (fun hc => ?_)
      · have h := mit hc h
        refine mw_aload_n dX10_copy_38 0 rfl ?_
        refine mw_iconst (v := 5) dX10_copy_39 (by decide) ?_
        obtain ⟨r8, e9, h⟩ := mbd h
        refine mv_callV_i (As := [.int (5 : Int32)]) (ci := 9) lkV_RX10_81_yX10_finds dX10_copy_40 (k_X10_finds e9) rfl rfl rfl rfl (Nat.le_of_ble_eq_true rfl) (by decide) (by decide) ?_
        exact mw_iret dX10_copy_43 rfl (ers_im h) rfl rfl
      · have h := mie hc h
        refine mw_aload_n dX10_copy_29 0 rfl ?_
        refine ev_getR (q := 75) fd_RX10_32_9 dX10_copy_30 rfl rfl rfl ?_
        refine mw_iload_n dX10_copy_33 3 rfl ?_
        obtain ⟨m10, h⟩ := mif h
        refine ev_iald dX10_copy_34 (by decide) rfl m10 ?_
        refine mw_if_ne (tgt := 44) dX10_copy_35 (by decide) (fun hc => ?_) (fun hc => ?_)
        · have h := mie hc h
          refine mw_aload_n dX10_copy_44 0 rfl ?_
          refine ev_getR (q := 75) fd_RX10_32_9 dX10_copy_45 rfl rfl rfl ?_
          refine mw_iload_n dX10_copy_48 1 rfl ?_
          refine ev_iald dX10_copy_49 (by decide) rfl m7 ?_
          refine mw_aload_n dX10_copy_50 0 rfl ?_
          refine ev_getR (q := 75) fd_RX10_32_9 dX10_copy_51 rfl rfl rfl ?_
          refine mw_iload_n dX10_copy_54 3 rfl ?_
          refine ev_iald dX10_copy_55 (by decide) rfl m10 ?_
          refine mw_icmp_eq (tgt := 65) dX10_copy_56 (by decide) (fun hc => ?_) (fun hc => ?_)
          · have h := mit hc h
            refine mw_iload dX10_copy_65 5 rfl ?_
            refine mw_if_lt (tgt := 106) dX10_copy_67 (by decide) (fun hc => ?_) (fun hc => ?_)
            · have h := mit hc h
              refine mw_aload_n dX10_copy_106 0 rfl ?_
              refine mw_iconst (v := 0) dX10_copy_107 (by decide) ?_
              obtain ⟨r11, e12, h⟩ := mbd h
              refine mv_callV_i (As := [.int (0 : Int32)]) (ci := 9) lkV_RX10_81_yX10_finds dX10_copy_108 (k_X10_finds e12) rfl rfl rfl rfl (Nat.le_of_ble_eq_true rfl) (by decide) (by decide) ?_
              exact mw_iret dX10_copy_111 rfl (ers_im h) rfl rfl
            · have h := mie hc h
              refine mw_iload_n dX10_copy_70 2 rfl ?_
              refine mw_if_lt (tgt := 106) dX10_copy_71 (by decide) (fun hc => ?_) (fun hc => ?_)
              · have h := mit hc h
                refine mw_aload_n dX10_copy_106 0 rfl ?_
                refine mw_iconst (v := 0) dX10_copy_107 (by decide) ?_
                obtain ⟨r13, e14, h⟩ := mbd h
                refine mv_callV_i (As := [.int (0 : Int32)]) (ci := 9) lkV_RX10_81_yX10_finds dX10_copy_108 (k_X10_finds e14) rfl rfl rfl rfl (Nat.le_of_ble_eq_true rfl) (by decide) (by decide) ?_
                exact mw_iret dX10_copy_111 rfl (ers_im h) rfl rfl
              · have h := mie hc h
                refine mw_iload dX10_copy_74 4 rfl ?_
                refine mw_if_lt (tgt := 106) dX10_copy_76 (by decide) (fun hc => ?_) (fun hc => ?_)
                · have h := mit hc h
                  refine mw_aload_n dX10_copy_106 0 rfl ?_
                  refine mw_iconst (v := 0) dX10_copy_107 (by decide) ?_
                  obtain ⟨r15, e16, h⟩ := mbd h
                  refine mv_callV_i (As := [.int (0 : Int32)]) (ci := 9) lkV_RX10_81_yX10_finds dX10_copy_108 (k_X10_finds e16) rfl rfl rfl rfl (Nat.le_of_ble_eq_true rfl) (by decide) (by decide) ?_
                  exact mw_iret dX10_copy_111 rfl (ers_im h) rfl rfl
                · have h := mie hc h
                  refine mw_iload_n dX10_copy_79 2 rfl ?_
                  refine mw_aload_n dX10_copy_80 0 rfl ?_
                  refine ev_getR (q := 76) fd_RX10_35_9 dX10_copy_81 rfl rfl rfl ?_
                  refine mw_iload_n dX10_copy_84 1 rfl ?_
                  refine ev_iald dX10_copy_85 (by decide) rfl m7 ?_
                  refine mw_iload dX10_copy_86 5 rfl ?_
                  refine mw_isub dX10_copy_88 ?_
                  refine mw_icmp_gt (tgt := 106) dX10_copy_89 (by decide) (fun hc => ?_) (fun hc => ?_)
                  · have h := mit hc h
                    refine mw_aload_n dX10_copy_106 0 rfl ?_
                    refine mw_iconst (v := 0) dX10_copy_107 (by decide) ?_
                    obtain ⟨r17, e18, h⟩ := mbd h
                    refine mv_callV_i (As := [.int (0 : Int32)]) (ci := 9) lkV_RX10_81_yX10_finds dX10_copy_108 (k_X10_finds e18) rfl rfl rfl rfl (Nat.le_of_ble_eq_true rfl) (by decide) (by decide) ?_
                    exact mw_iret dX10_copy_111 rfl (ers_im h) rfl rfl
                  · have h := mie hc h
                    refine mw_iload dX10_copy_92 4 rfl ?_
                    refine mw_aload_n dX10_copy_94 0 rfl ?_
                    refine ev_getR (q := 76) fd_RX10_35_9 dX10_copy_95 rfl rfl rfl ?_
                    refine mw_iload_n dX10_copy_98 3 rfl ?_
                    refine ev_iald dX10_copy_99 (by decide) rfl m10 ?_
                    refine mw_iload dX10_copy_100 5 rfl ?_
                    refine mw_isub dX10_copy_102 ?_
                    refine mw_icmp_le (tgt := 112) dX10_copy_103 (by decide) (fun hc => ?_) (fun hc => ?_)
                    · have h := mit hc h
                      refine mw_iconst (v := 0) dX10_copy_112 (by decide) ?_
                      refine mw_istore (L' := [(6, .int (0 : Int32)), (0, .ref 69), (1, .int a1), (2, .int a2), (3, .int a3), (4, .int a4), (5, .int a5)]) dX10_copy_113 (by decide) rfl ?_
                      exact mw_sub (L' := [(0, .ref 69), (1, .int a1), (2, .int a2), (3, .int a3), (4, .int a4), (5, .int a5), (6, .int (0 : Int32))]) [1, 2, 3, 4, 5, 6, 0] rfl (p_X10_copy_L115  mN _ _ h)
                    · have h := mie hc h
                      refine mw_aload_n dX10_copy_106 0 rfl ?_
                      refine mw_iconst (v := 0) dX10_copy_107 (by decide) ?_
                      obtain ⟨r19, e20, h⟩ := mbd h
                      refine mv_callV_i (As := [.int (0 : Int32)]) (ci := 9) lkV_RX10_81_yX10_finds dX10_copy_108 (k_X10_finds e20) rfl rfl rfl rfl (Nat.le_of_ble_eq_true rfl) (by decide) (by decide) ?_
                      exact mw_iret dX10_copy_111 rfl (ers_im h) rfl rfl
          · have h := mie hc h
            refine mw_aload_n dX10_copy_59 0 rfl ?_
            refine mw_iconst (v := 2) dX10_copy_60 (by decide) ?_
            obtain ⟨r21, e22, h⟩ := mbd h
            refine mv_callV_i (As := [.int (2 : Int32)]) (ci := 9) lkV_RX10_81_yX10_finds dX10_copy_61 (k_X10_finds e22) rfl rfl rfl rfl (Nat.le_of_ble_eq_true rfl) (by decide) (by decide) ?_
            exact mw_iret dX10_copy_64 rfl (ers_im h) rfl rfl
        · have h := mit hc h
          refine mw_aload_n dX10_copy_38 0 rfl ?_
          refine mw_iconst (v := 5) dX10_copy_39 (by decide) ?_
          obtain ⟨r23, e24, h⟩ := mbd h
          refine mv_callV_i (As := [.int (5 : Int32)]) (ci := 9) lkV_RX10_81_yX10_finds dX10_copy_40 (k_X10_finds e24) rfl rfl rfl rfl (Nat.le_of_ble_eq_true rfl) (by decide) (by decide) ?_
          exact mw_iret dX10_copy_43 rfl (ers_im h) rfl rfl
    · have h := mit hc h
      refine mw_aload_n dX10_copy_14 0 rfl ?_
      refine mw_iconst (v := 0) dX10_copy_15 (by decide) ?_
      obtain ⟨r25, e26, h⟩ := mbd h
      refine mv_callV_i (As := [.int (0 : Int32)]) (ci := 9) lkV_RX10_81_yX10_finds dX10_copy_16 (k_X10_finds e26) rfl rfl rfl rfl (Nat.le_of_ble_eq_true rfl) (by decide) (by decide) ?_
      exact mw_iret dX10_copy_19 rfl (ers_im h) rfl rfl

theorem dX10_lays_0 : decode cX10_lays 0 = .ok (.iload_n 1, 1) := by decide +kernel
theorem dX10_lays_1 : decode cX10_lays 1 = .ok (.invokestatic 258, 3) := by decide +kernel
theorem dX10_lays_4 : decode cX10_lays 4 = .ok (.ifCond .ne 9, 3) := by decide +kernel
theorem dX10_lays_7 : decode cX10_lays 7 = .ok (.aload_n 0, 1) := by decide +kernel
theorem dX10_lays_8 : decode cX10_lays 8 = .ok (.iconst 0, 1) := by decide +kernel
theorem dX10_lays_9 : decode cX10_lays 9 = .ok (.invokevirtual 81, 3) := by decide +kernel
theorem dX10_lays_12 : decode cX10_lays 12 = .ok (.ireturn, 1) := by decide +kernel
theorem dX10_lays_13 : decode cX10_lays 13 = .ok (.aload_n 0, 1) := by decide +kernel
theorem dX10_lays_14 : decode cX10_lays 14 = .ok (.getfield 32, 3) := by decide +kernel
theorem dX10_lays_17 : decode cX10_lays 17 = .ok (.iload_n 1, 1) := by decide +kernel
theorem dX10_lays_18 : decode cX10_lays 18 = .ok (.iaload, 1) := by decide +kernel
theorem dX10_lays_19 : decode cX10_lays 19 = .ok (.ifCond .ne 9, 3) := by decide +kernel
theorem dX10_lays_22 : decode cX10_lays 22 = .ok (.aload_n 0, 1) := by decide +kernel
theorem dX10_lays_23 : decode cX10_lays 23 = .ok (.iconst 5, 1) := by decide +kernel
theorem dX10_lays_24 : decode cX10_lays 24 = .ok (.invokevirtual 81, 3) := by decide +kernel
theorem dX10_lays_27 : decode cX10_lays 27 = .ok (.ireturn, 1) := by decide +kernel
theorem dX10_lays_28 : decode cX10_lays 28 = .ok (.iconst 0, 1) := by decide +kernel
theorem dX10_lays_29 : decode cX10_lays 29 = .ok (.istore_n 2, 1) := by decide +kernel
theorem dX10_lays_30 : decode cX10_lays 30 = .ok (.iconst 0, 1) := by decide +kernel
theorem dX10_lays_31 : decode cX10_lays 31 = .ok (.istore_n 3, 1) := by decide +kernel
theorem dX10_lays_32 : decode cX10_lays 32 = .ok (.iload_n 3, 1) := by decide +kernel
theorem dX10_lays_33 : decode cX10_lays 33 = .ok (.aload_n 0, 1) := by decide +kernel
theorem dX10_lays_34 : decode cX10_lays 34 = .ok (.getfield 35, 3) := by decide +kernel
theorem dX10_lays_37 : decode cX10_lays 37 = .ok (.iload_n 1, 1) := by decide +kernel
theorem dX10_lays_38 : decode cX10_lays 38 = .ok (.iaload, 1) := by decide +kernel
theorem dX10_lays_39 : decode cX10_lays 39 = .ok (.if_icmp .ge 60, 3) := by decide +kernel
theorem dX10_lays_42 : decode cX10_lays 42 = .ok (.iload_n 3, 1) := by decide +kernel
theorem dX10_lays_43 : decode cX10_lays 43 = .ok (.aload_n 0, 1) := by decide +kernel
theorem dX10_lays_44 : decode cX10_lays 44 = .ok (.getfield 61, 3) := by decide +kernel
theorem dX10_lays_47 : decode cX10_lays 47 = .ok (.if_icmp .ge 52, 3) := by decide +kernel
theorem dX10_lays_50 : decode cX10_lays 50 = .ok (.aload_n 0, 1) := by decide +kernel
theorem dX10_lays_51 : decode cX10_lays 51 = .ok (.getfield 38, 3) := by decide +kernel
theorem dX10_lays_54 : decode cX10_lays 54 = .ok (.bipush 40, 2) := by decide +kernel
theorem dX10_lays_56 : decode cX10_lays 56 = .ok (.iload_n 1, 1) := by decide +kernel
theorem dX10_lays_57 : decode cX10_lays 57 = .ok (.imul, 1) := by decide +kernel
theorem dX10_lays_58 : decode cX10_lays 58 = .ok (.iload_n 3, 1) := by decide +kernel
theorem dX10_lays_59 : decode cX10_lays 59 = .ok (.iadd, 1) := by decide +kernel
theorem dX10_lays_60 : decode cX10_lays 60 = .ok (.laload, 1) := by decide +kernel
theorem dX10_lays_61 : decode cX10_lays 61 = .ok (.invokestatic 91, 3) := by decide +kernel
theorem dX10_lays_64 : decode cX10_lays 64 = .ok (.ifCond .eq 29, 3) := by decide +kernel
theorem dX10_lays_67 : decode cX10_lays 67 = .ok (.aload_n 0, 1) := by decide +kernel
theorem dX10_lays_68 : decode cX10_lays 68 = .ok (.getfield 19, 3) := by decide +kernel
theorem dX10_lays_71 : decode cX10_lays 71 = .ok (.bipush 6, 2) := by decide +kernel
theorem dX10_lays_73 : decode cX10_lays 73 = .ok (.iload_n 3, 1) := by decide +kernel
theorem dX10_lays_74 : decode cX10_lays 74 = .ok (.imul, 1) := by decide +kernel
theorem dX10_lays_75 : decode cX10_lays 75 = .ok (.iconst 3, 1) := by decide +kernel
theorem dX10_lays_76 : decode cX10_lays 76 = .ok (.iadd, 1) := by decide +kernel
theorem dX10_lays_77 : decode cX10_lays 77 = .ok (.aload_n 0, 1) := by decide +kernel
theorem dX10_lays_78 : decode cX10_lays 78 = .ok (.getfield 38, 3) := by decide +kernel
theorem dX10_lays_81 : decode cX10_lays 81 = .ok (.bipush 40, 2) := by decide +kernel
theorem dX10_lays_83 : decode cX10_lays 83 = .ok (.iload_n 1, 1) := by decide +kernel
theorem dX10_lays_84 : decode cX10_lays 84 = .ok (.imul, 1) := by decide +kernel
theorem dX10_lays_85 : decode cX10_lays 85 = .ok (.iload_n 3, 1) := by decide +kernel
theorem dX10_lays_86 : decode cX10_lays 86 = .ok (.iadd, 1) := by decide +kernel
theorem dX10_lays_87 : decode cX10_lays 87 = .ok (.laload, 1) := by decide +kernel
theorem dX10_lays_88 : decode cX10_lays 88 = .ok (.l2i, 1) := by decide +kernel
theorem dX10_lays_89 : decode cX10_lays 89 = .ok (.iastore, 1) := by decide +kernel
theorem dX10_lays_90 : decode cX10_lays 90 = .ok (.iinc 2 1, 3) := by decide +kernel
theorem dX10_lays_93 : decode cX10_lays 93 = .ok (.iinc 3 1, 3) := by decide +kernel
theorem dX10_lays_96 : decode cX10_lays 96 = .ok (.goto (-64), 3) := by decide +kernel
theorem dX10_lays_99 : decode cX10_lays 99 = .ok (.iload_n 2, 1) := by decide +kernel
theorem dX10_lays_100 : decode cX10_lays 100 = .ok (.ireturn, 1) := by decide +kernel
def e_X10_lays_L32 (a1 : Int32) : Nat → Int32 → Int32 → ES → Option (Int32 × ES)
  | 0, _, _, _ => none
  | n + 1, x2, x3, σ => if mib a1 4 = true then (if (eI σ 76 a1.toNatClampNeg) ≤ x3 then (some (x2, σ)) else (if (eI σ 69 3) ≤ x3 then (some (x2, σ)) else (if mib (((40 : Int32) * a1) + x3) 160 = true then ((e_X10_isGain (eL σ 77 (((40 : Int32) * a1) + x3).toNatClampNeg)).bind (fun r3 => if r3 = 0 then (e_X10_lays_L32 a1 n x2 (x3 + 1) σ) else (if mib (((6 : Int32) * x3) + (3 : Int32)) 84 = true then (e_X10_lays_L32 a1 n (x2 + 1) (x3 + 1) (uI σ 71 (((6 : Int32) * x3) + (3 : Int32)).toNatClampNeg ((eL σ 77 (((40 : Int32) * a1) + x3).toNatClampNeg).toInt32))) else none))) else none))) else none
set_option maxRecDepth 100000 in
set_option maxHeartbeats 4000000 in
theorem p_X10_lays_L32 {l : Launch} {E : MX} {out : (Int32 × ES)} {a1 : Int32}  : ∀ (n : Nat) (x2 : Int32) (x3 : Int32) (σ : ES), e_X10_lays_L32 a1 n x2 x3 σ = some out → MV l E cX10_lays RX10 4 (some .int) 3 (82, (some (.int out.1)), mkS out.2) (mkS σ) 32 [(0, .ref 69), (1, .int a1), (2, .int x2), (3, .int x3)] [] := by
  intro n
  induction n with
  | zero =>
    intro x2 x3 σ h
    exact nomatch h
  | succ n ih =>
    intro x2 x3 σ h
    rw [e_X10_lays_L32] at h
    refine mw_iload_n dX10_lays_32 3 rfl ?_
    refine mw_aload_n dX10_lays_33 0 rfl ?_
    refine ev_getR (q := 76) fd_RX10_35_9 dX10_lays_34 rfl rfl rfl ?_
    refine mw_iload_n dX10_lays_37 1 rfl ?_
    obtain ⟨m1, h⟩ := mif h
    refine ev_iald dX10_lays_38 (by decide) rfl m1 ?_
    refine mw_icmp_ge (tgt := 99) dX10_lays_39 (by decide) (fun hc => ?_) (fun hc => ?_)
    · have h := mit hc h
      refine mw_iload_n dX10_lays_99 2 rfl ?_
      exact mw_iret dX10_lays_100 rfl (ers_im h) rfl rfl
    · have h := mie hc h
      refine mw_iload_n dX10_lays_42 3 rfl ?_
      refine mw_aload_n dX10_lays_43 0 rfl ?_
      refine ev_getI fd_RX10_61_9 dX10_lays_44 rfl rfl ?_
      refine mw_icmp_ge (tgt := 99) dX10_lays_47 (by decide) (fun hc => ?_) (fun hc => ?_)
      · have h := mit hc h
        refine mw_iload_n dX10_lays_99 2 rfl ?_
        exact mw_iret dX10_lays_100 rfl (ers_im h) rfl rfl
      · have h := mie hc h
        refine mw_aload_n dX10_lays_50 0 rfl ?_
        refine ev_getR (q := 77) fd_RX10_38_9 dX10_lays_51 rfl rfl rfl ?_
        refine mw_bipush (v := 40) dX10_lays_54 (by decide) ?_
        refine mw_iload_n dX10_lays_56 1 rfl ?_
        refine mw_imul dX10_lays_57 ?_
        refine mw_iload_n dX10_lays_58 3 rfl ?_
        refine mw_iadd dX10_lays_59 ?_
        obtain ⟨m2, h⟩ := mif h
        refine ev_lald dX10_lays_60 (by decide) rfl m2 ?_
        obtain ⟨r3, e4, h⟩ := mbd h
        refine mv_callS_i (As := [.long (eL σ 77 (((40 : Int32) * a1) + x3).toNatClampNeg)]) lkS_RX10_91_yX10_isGain dX10_lays_61 (k_X10_isGain e4) rfl rfl (Nat.le_of_ble_eq_true rfl) (by decide) (by decide) ?_
        refine mw_if_eq (tgt := 93) dX10_lays_64 (by decide) (fun hc => ?_) (fun hc => ?_)
        · have h := mit hc h
          refine mw_iinc (v := (x3 + 1)) (L' := [(3, .int (x3 + 1)), (0, .ref 69), (1, .int a1), (2, .int x2)]) dX10_lays_93 3 rfl rfl (by decide) rfl ?_
          refine mw_goto (tgt := 32) dX10_lays_96 (by decide) ?_
          exact mw_sub (L' := [(0, .ref 69), (1, .int a1), (2, .int x2), (3, .int (x3 + 1))]) [1, 2, 3, 0] rfl (ih _ _ _ h)
        · have h := mie hc h
          refine mw_aload_n dX10_lays_67 0 rfl ?_
          refine ev_getR (q := 71) fd_RX10_19_9 dX10_lays_68 rfl rfl rfl ?_
          refine mw_bipush (v := 6) dX10_lays_71 (by decide) ?_
          refine mw_iload_n dX10_lays_73 3 rfl ?_
          refine mw_imul dX10_lays_74 ?_
          refine mw_iconst (v := 3) dX10_lays_75 (by decide) ?_
          refine mw_iadd dX10_lays_76 ?_
          refine mw_aload_n dX10_lays_77 0 rfl ?_
          refine ev_getR (q := 77) fd_RX10_38_9 dX10_lays_78 rfl rfl rfl ?_
          refine mw_bipush (v := 40) dX10_lays_81 (by decide) ?_
          refine mw_iload_n dX10_lays_83 1 rfl ?_
          refine mw_imul dX10_lays_84 ?_
          refine mw_iload_n dX10_lays_85 3 rfl ?_
          refine mw_iadd dX10_lays_86 ?_
          refine ev_lald dX10_lays_87 (by decide) rfl m2 ?_
          refine mw_l2i dX10_lays_88 ?_
          obtain ⟨m5, h⟩ := mif h
          refine ev_iast dX10_lays_89 (by decide) rfl m5 ?_
          refine mw_iinc (v := (x2 + 1)) (L' := [(2, .int (x2 + 1)), (0, .ref 69), (1, .int a1), (3, .int x3)]) dX10_lays_90 2 rfl rfl (by decide) rfl ?_
          refine mw_iinc (v := (x3 + 1)) (L' := [(3, .int (x3 + 1)), (2, .int (x2 + 1)), (0, .ref 69), (1, .int a1)]) dX10_lays_93 3 rfl rfl (by decide) rfl ?_
          refine mw_goto (tgt := 32) dX10_lays_96 (by decide) ?_
          exact mw_sub (L' := [(0, .ref 69), (1, .int a1), (2, .int (x2 + 1)), (3, .int (x3 + 1))]) [2, 3, 1, 0] rfl (ih _ _ _ h)
def e_X10_lays (a1 : Int32) (σ : ES) : Option (Int32 × ES) := (e_X10_isSheet a1).bind (fun r1 => if r1 = 0 then ((e_X10_finds (0 : Int32) σ).bind (fun r6 => some (r6.1, r6.2))) else (if mib a1 4 = true then (if (eI σ 75 a1.toNatClampNeg) = 0 then ((e_X10_finds (5 : Int32) σ).bind (fun r4 => some (r4.1, r4.2))) else (e_X10_lays_L32 a1 mN (0 : Int32) (0 : Int32) σ)) else none))
set_option maxRecDepth 100000 in
set_option maxHeartbeats 4000000 in
theorem k_X10_lays {l : Launch} {σ : ES} {a1 : Int32} {out : (Int32 × ES)} (h : e_X10_lays a1 σ = some out) : MK l yX10_lays cX10_lays 4 (some .int) 3 [.ref 69, .int a1] (mkS σ) (some (.int out.1)) (mkS out.2) := by
  unfold e_X10_lays at h
  refine mw_entry (own := RX10) (ini := false) (L := [(0, .ref 69), (1, .int a1)]) (by decide +kernel) rfl (fun h => nomatch h) rfl (Nat.le_of_ble_eq_true rfl) (Nat.le_of_ble_eq_true rfl) (fun E => ?_)
  refine mw_iload_n dX10_lays_0 1 rfl ?_
  obtain ⟨r1, e2, h⟩ := mbd h
  refine mv_callS_i (As := [.int a1]) lkS_RX10_258_yX10_isSheet dX10_lays_1 (k_X10_isSheet e2) rfl rfl (Nat.le_of_ble_eq_true rfl) (by decide) (by decide) ?_
  refine mw_if_ne (tgt := 13) dX10_lays_4 (by decide) (fun hc => ?_) (fun hc => ?_)
  · have h := mie hc h
    refine mw_aload_n dX10_lays_13 0 rfl ?_
    refine ev_getR (q := 75) fd_RX10_32_9 dX10_lays_14 rfl rfl rfl ?_
    refine mw_iload_n dX10_lays_17 1 rfl ?_
    obtain ⟨m3, h⟩ := mif h
    refine ev_iald dX10_lays_18 (by decide) rfl m3 ?_
    refine mw_if_ne (tgt := 28) dX10_lays_19 (by decide) (fun hc => ?_) (fun hc => ?_)
    · have h := mie hc h
      refine mw_iconst (v := 0) dX10_lays_28 (by decide) ?_
      refine mw_istore_n (L' := [(2, .int (0 : Int32)), (0, .ref 69), (1, .int a1)]) dX10_lays_29 rfl (by decide) rfl ?_
      refine mw_iconst (v := 0) dX10_lays_30 (by decide) ?_
      refine mw_istore_n (L' := [(3, .int (0 : Int32)), (2, .int (0 : Int32)), (0, .ref 69), (1, .int a1)]) dX10_lays_31 rfl (by decide) rfl ?_
      exact mw_sub (L' := [(0, .ref 69), (1, .int a1), (2, .int (0 : Int32)), (3, .int (0 : Int32))]) [2, 3, 1, 0] rfl (p_X10_lays_L32  mN _ _ _ h)
    · have h := mit hc h
      refine mw_aload_n dX10_lays_22 0 rfl ?_
      refine mw_iconst (v := 5) dX10_lays_23 (by decide) ?_
      obtain ⟨r4, e5, h⟩ := mbd h
      refine mv_callV_i (As := [.int (5 : Int32)]) (ci := 9) lkV_RX10_81_yX10_finds dX10_lays_24 (k_X10_finds e5) rfl rfl rfl rfl (Nat.le_of_ble_eq_true rfl) (by decide) (by decide) ?_
      exact mw_iret dX10_lays_27 rfl (ers_im h) rfl rfl
  · have h := mit hc h
    refine mw_aload_n dX10_lays_7 0 rfl ?_
    refine mw_iconst (v := 0) dX10_lays_8 (by decide) ?_
    obtain ⟨r6, e7, h⟩ := mbd h
    refine mv_callV_i (As := [.int (0 : Int32)]) (ci := 9) lkV_RX10_81_yX10_finds dX10_lays_9 (k_X10_finds e7) rfl rfl rfl rfl (Nat.le_of_ble_eq_true rfl) (by decide) (by decide) ?_
    exact mw_iret dX10_lays_12 rfl (ers_im h) rfl rfl

theorem dX10_image_0 : decode cX10_image 0 = .ok (.aload_n 0, 1) := by decide +kernel
theorem dX10_image_1 : decode cX10_image 1 = .ok (.getfield 51, 3) := by decide +kernel
theorem dX10_image_4 : decode cX10_image 4 = .ok (.iconst 0, 1) := by decide +kernel
theorem dX10_image_5 : decode cX10_image 5 = .ok (.aload_n 0, 1) := by decide +kernel
theorem dX10_image_6 : decode cX10_image 6 = .ok (.getfield 15, 3) := by decide +kernel
theorem dX10_image_9 : decode cX10_image 9 = .ok (.iastore, 1) := by decide +kernel
theorem dX10_image_10 : decode cX10_image 10 = .ok (.aload_n 0, 1) := by decide +kernel
theorem dX10_image_11 : decode cX10_image 11 = .ok (.getfield 51, 3) := by decide +kernel
theorem dX10_image_14 : decode cX10_image 14 = .ok (.iconst 1, 1) := by decide +kernel
theorem dX10_image_15 : decode cX10_image 15 = .ok (.aload_n 0, 1) := by decide +kernel
theorem dX10_image_16 : decode cX10_image 16 = .ok (.getfield 74, 3) := by decide +kernel
theorem dX10_image_19 : decode cX10_image 19 = .ok (.iastore, 1) := by decide +kernel
theorem dX10_image_20 : decode cX10_image 20 = .ok (.aload_n 0, 1) := by decide +kernel
theorem dX10_image_21 : decode cX10_image 21 = .ok (.getfield 51, 3) := by decide +kernel
theorem dX10_image_24 : decode cX10_image 24 = .ok (.iconst 2, 1) := by decide +kernel
theorem dX10_image_25 : decode cX10_image 25 = .ok (.aload_n 0, 1) := by decide +kernel
theorem dX10_image_26 : decode cX10_image 26 = .ok (.getfield 61, 3) := by decide +kernel
theorem dX10_image_29 : decode cX10_image 29 = .ok (.iastore, 1) := by decide +kernel
theorem dX10_image_30 : decode cX10_image 30 = .ok (.aload_n 0, 1) := by decide +kernel
theorem dX10_image_31 : decode cX10_image 31 = .ok (.getfield 51, 3) := by decide +kernel
theorem dX10_image_34 : decode cX10_image 34 = .ok (.iconst 3, 1) := by decide +kernel
theorem dX10_image_35 : decode cX10_image 35 = .ok (.aload_n 0, 1) := by decide +kernel
theorem dX10_image_36 : decode cX10_image 36 = .ok (.getfield 117, 3) := by decide +kernel
theorem dX10_image_39 : decode cX10_image 39 = .ok (.iastore, 1) := by decide +kernel
theorem dX10_image_40 : decode cX10_image 40 = .ok (.aload_n 0, 1) := by decide +kernel
theorem dX10_image_41 : decode cX10_image 41 = .ok (.getfield 51, 3) := by decide +kernel
theorem dX10_image_44 : decode cX10_image 44 = .ok (.iconst 4, 1) := by decide +kernel
theorem dX10_image_45 : decode cX10_image 45 = .ok (.aload_n 0, 1) := by decide +kernel
theorem dX10_image_46 : decode cX10_image 46 = .ok (.getfield 25, 3) := by decide +kernel
theorem dX10_image_49 : decode cX10_image 49 = .ok (.iconst 0, 1) := by decide +kernel
theorem dX10_image_50 : decode cX10_image 50 = .ok (.iaload, 1) := by decide +kernel
theorem dX10_image_51 : decode cX10_image 51 = .ok (.iastore, 1) := by decide +kernel
theorem dX10_image_52 : decode cX10_image 52 = .ok (.aload_n 0, 1) := by decide +kernel
theorem dX10_image_53 : decode cX10_image 53 = .ok (.getfield 51, 3) := by decide +kernel
theorem dX10_image_56 : decode cX10_image 56 = .ok (.iconst 5, 1) := by decide +kernel
theorem dX10_image_57 : decode cX10_image 57 = .ok (.aload_n 0, 1) := by decide +kernel
theorem dX10_image_58 : decode cX10_image 58 = .ok (.getfield 25, 3) := by decide +kernel
theorem dX10_image_61 : decode cX10_image 61 = .ok (.iconst 1, 1) := by decide +kernel
theorem dX10_image_62 : decode cX10_image 62 = .ok (.iaload, 1) := by decide +kernel
theorem dX10_image_63 : decode cX10_image 63 = .ok (.iastore, 1) := by decide +kernel
theorem dX10_image_64 : decode cX10_image 64 = .ok (.iconst 0, 1) := by decide +kernel
theorem dX10_image_65 : decode cX10_image 65 = .ok (.istore_n 1, 1) := by decide +kernel
theorem dX10_image_66 : decode cX10_image 66 = .ok (.iload_n 1, 1) := by decide +kernel
theorem dX10_image_67 : decode cX10_image 67 = .ok (.aload_n 0, 1) := by decide +kernel
theorem dX10_image_68 : decode cX10_image 68 = .ok (.getfield 19, 3) := by decide +kernel
theorem dX10_image_71 : decode cX10_image 71 = .ok (.arraylength, 1) := by decide +kernel
theorem dX10_image_72 : decode cX10_image 72 = .ok (.if_icmp .ge 24, 3) := by decide +kernel
theorem dX10_image_75 : decode cX10_image 75 = .ok (.aload_n 0, 1) := by decide +kernel
theorem dX10_image_76 : decode cX10_image 76 = .ok (.getfield 51, 3) := by decide +kernel
theorem dX10_image_79 : decode cX10_image 79 = .ok (.bipush 6, 2) := by decide +kernel
theorem dX10_image_81 : decode cX10_image 81 = .ok (.iload_n 1, 1) := by decide +kernel
theorem dX10_image_82 : decode cX10_image 82 = .ok (.iadd, 1) := by decide +kernel
theorem dX10_image_83 : decode cX10_image 83 = .ok (.aload_n 0, 1) := by decide +kernel
theorem dX10_image_84 : decode cX10_image 84 = .ok (.getfield 19, 3) := by decide +kernel
theorem dX10_image_87 : decode cX10_image 87 = .ok (.iload_n 1, 1) := by decide +kernel
theorem dX10_image_88 : decode cX10_image 88 = .ok (.iaload, 1) := by decide +kernel
theorem dX10_image_89 : decode cX10_image 89 = .ok (.iastore, 1) := by decide +kernel
theorem dX10_image_90 : decode cX10_image 90 = .ok (.iinc 1 1, 3) := by decide +kernel
theorem dX10_image_93 : decode cX10_image 93 = .ok (.goto (-27), 3) := by decide +kernel
theorem dX10_image_96 : decode cX10_image 96 = .ok (.iconst 0, 1) := by decide +kernel
theorem dX10_image_97 : decode cX10_image 97 = .ok (.istore_n 1, 1) := by decide +kernel
theorem dX10_image_98 : decode cX10_image 98 = .ok (.iload_n 1, 1) := by decide +kernel
theorem dX10_image_99 : decode cX10_image 99 = .ok (.aload_n 0, 1) := by decide +kernel
theorem dX10_image_100 : decode cX10_image 100 = .ok (.getfield 22, 3) := by decide +kernel
theorem dX10_image_103 : decode cX10_image 103 = .ok (.arraylength, 1) := by decide +kernel
theorem dX10_image_104 : decode cX10_image 104 = .ok (.if_icmp .ge 24, 3) := by decide +kernel
theorem dX10_image_107 : decode cX10_image 107 = .ok (.aload_n 0, 1) := by decide +kernel
theorem dX10_image_108 : decode cX10_image 108 = .ok (.getfield 51, 3) := by decide +kernel
theorem dX10_image_111 : decode cX10_image 111 = .ok (.bipush 90, 2) := by decide +kernel
theorem dX10_image_113 : decode cX10_image 113 = .ok (.iload_n 1, 1) := by decide +kernel
theorem dX10_image_114 : decode cX10_image 114 = .ok (.iadd, 1) := by decide +kernel
theorem dX10_image_115 : decode cX10_image 115 = .ok (.aload_n 0, 1) := by decide +kernel
theorem dX10_image_116 : decode cX10_image 116 = .ok (.getfield 22, 3) := by decide +kernel
theorem dX10_image_119 : decode cX10_image 119 = .ok (.iload_n 1, 1) := by decide +kernel
theorem dX10_image_120 : decode cX10_image 120 = .ok (.iaload, 1) := by decide +kernel
theorem dX10_image_121 : decode cX10_image 121 = .ok (.iastore, 1) := by decide +kernel
theorem dX10_image_122 : decode cX10_image 122 = .ok (.iinc 1 1, 3) := by decide +kernel
theorem dX10_image_125 : decode cX10_image 125 = .ok (.goto (-27), 3) := by decide +kernel
theorem dX10_image_128 : decode cX10_image 128 = .ok (.aload_n 0, 1) := by decide +kernel
theorem dX10_image_129 : decode cX10_image 129 = .ok (.iconst 1, 1) := by decide +kernel
theorem dX10_image_130 : decode cX10_image 130 = .ok (.putfield 337, 3) := by decide +kernel
theorem dX10_image_133 : decode cX10_image 133 = .ok (.iconst 1, 1) := by decide +kernel
theorem dX10_image_134 : decode cX10_image 134 = .ok (.ireturn, 1) := by decide +kernel
def e_X10_image_L98  : Nat → Int32 → ES → Option (Int32 × ES)
  | 0, _, _ => none
  | n + 1, x1, σ => if (Int32.ofNat 24) ≤ x1 then (some ((1 : Int32), (uI σ 69 35 (1 : Int32)))) else (if mib x1 24 = true then (if mib ((90 : Int32) + x1) 114 = true then (e_X10_image_L98 n (x1 + 1) (uI σ 81 ((90 : Int32) + x1).toNatClampNeg (eI σ 72 x1.toNatClampNeg))) else none) else none)
set_option maxRecDepth 100000 in
set_option maxHeartbeats 4000000 in
theorem p_X10_image_L98 {l : Launch} {E : MX} {out : (Int32 × ES)}   : ∀ (n : Nat) (x1 : Int32) (σ : ES), e_X10_image_L98 n x1 σ = some out → MV l E cX10_image RX10 2 (some .int) 1 (82, (some (.int out.1)), mkS out.2) (mkS σ) 98 [(0, .ref 69), (1, .int x1)] [] := by
  intro n
  induction n with
  | zero =>
    intro x1 σ h
    exact nomatch h
  | succ n ih =>
    intro x1 σ h
    rw [e_X10_image_L98] at h
    refine mw_iload_n dX10_image_98 1 rfl ?_
    refine mw_aload_n dX10_image_99 0 rfl ?_
    refine ev_getR (q := 72) fd_RX10_22_9 dX10_image_100 rfl rfl rfl ?_
    refine mw_alen (N := 24) dX10_image_103 (by decide) (by decide) rfl ?_
    refine mw_icmp_ge (tgt := 128) dX10_image_104 (by decide) (fun hc => ?_) (fun hc => ?_)
    · have h := mit hc h
      refine mw_aload_n dX10_image_128 0 rfl ?_
      refine mw_iconst (v := 1) dX10_image_129 (by decide) ?_
      refine ev_putZ fw_RX10_337_9 dX10_image_130 rfl rfl (by decide) ?_
      refine mw_iconst (v := 1) dX10_image_133 (by decide) ?_
      exact mw_iret dX10_image_134 rfl (ers_im h) rfl rfl
    · have h := mie hc h
      refine mw_aload_n dX10_image_107 0 rfl ?_
      refine ev_getR (q := 81) fd_RX10_51_9 dX10_image_108 rfl rfl rfl ?_
      refine mw_bipush (v := 90) dX10_image_111 (by decide) ?_
      refine mw_iload_n dX10_image_113 1 rfl ?_
      refine mw_iadd dX10_image_114 ?_
      refine mw_aload_n dX10_image_115 0 rfl ?_
      refine ev_getR (q := 72) fd_RX10_22_9 dX10_image_116 rfl rfl rfl ?_
      refine mw_iload_n dX10_image_119 1 rfl ?_
      obtain ⟨m1, h⟩ := mif h
      refine ev_iald dX10_image_120 (by decide) rfl m1 ?_
      obtain ⟨m2, h⟩ := mif h
      refine ev_iast dX10_image_121 (by decide) rfl m2 ?_
      refine mw_iinc (v := (x1 + 1)) (L' := [(1, .int (x1 + 1)), (0, .ref 69)]) dX10_image_122 1 rfl rfl (by decide) rfl ?_
      refine mw_goto (tgt := 98) dX10_image_125 (by decide) ?_
      exact mw_sub (L' := [(0, .ref 69), (1, .int (x1 + 1))]) [1, 0] rfl (ih _ _ h)
def e_X10_image_L66  : Nat → Int32 → ES → Option (Int32 × ES)
  | 0, _, _ => none
  | n + 1, x1, σ => if (Int32.ofNat 84) ≤ x1 then (e_X10_image_L98 mN (0 : Int32) σ) else (if mib x1 84 = true then (if mib ((6 : Int32) + x1) 114 = true then (e_X10_image_L66 n (x1 + 1) (uI σ 81 ((6 : Int32) + x1).toNatClampNeg (eI σ 71 x1.toNatClampNeg))) else none) else none)
set_option maxRecDepth 100000 in
set_option maxHeartbeats 4000000 in
theorem p_X10_image_L66 {l : Launch} {E : MX} {out : (Int32 × ES)}   : ∀ (n : Nat) (x1 : Int32) (σ : ES), e_X10_image_L66 n x1 σ = some out → MV l E cX10_image RX10 2 (some .int) 1 (82, (some (.int out.1)), mkS out.2) (mkS σ) 66 [(0, .ref 69), (1, .int x1)] [] := by
  intro n
  induction n with
  | zero =>
    intro x1 σ h
    exact nomatch h
  | succ n ih =>
    intro x1 σ h
    rw [e_X10_image_L66] at h
    refine mw_iload_n dX10_image_66 1 rfl ?_
    refine mw_aload_n dX10_image_67 0 rfl ?_
    refine ev_getR (q := 71) fd_RX10_19_9 dX10_image_68 rfl rfl rfl ?_
    refine mw_alen (N := 84) dX10_image_71 (by decide) (by decide) rfl ?_
    refine mw_icmp_ge (tgt := 96) dX10_image_72 (by decide) (fun hc => ?_) (fun hc => ?_)
    · have h := mit hc h
      refine mw_iconst (v := 0) dX10_image_96 (by decide) ?_
      refine mw_istore_n (L' := [(1, .int (0 : Int32)), (0, .ref 69)]) dX10_image_97 rfl (by decide) rfl ?_
      exact mw_sub (L' := [(0, .ref 69), (1, .int (0 : Int32))]) [1, 0] rfl (p_X10_image_L98  mN _ _ h)
    · have h := mie hc h
      refine mw_aload_n dX10_image_75 0 rfl ?_
      refine ev_getR (q := 81) fd_RX10_51_9 dX10_image_76 rfl rfl rfl ?_
      refine mw_bipush (v := 6) dX10_image_79 (by decide) ?_
      refine mw_iload_n dX10_image_81 1 rfl ?_
      refine mw_iadd dX10_image_82 ?_
      refine mw_aload_n dX10_image_83 0 rfl ?_
      refine ev_getR (q := 71) fd_RX10_19_9 dX10_image_84 rfl rfl rfl ?_
      refine mw_iload_n dX10_image_87 1 rfl ?_
      obtain ⟨m1, h⟩ := mif h
      refine ev_iald dX10_image_88 (by decide) rfl m1 ?_
      obtain ⟨m2, h⟩ := mif h
      refine ev_iast dX10_image_89 (by decide) rfl m2 ?_
      refine mw_iinc (v := (x1 + 1)) (L' := [(1, .int (x1 + 1)), (0, .ref 69)]) dX10_image_90 1 rfl rfl (by decide) rfl ?_
      refine mw_goto (tgt := 66) dX10_image_93 (by decide) ?_
      exact mw_sub (L' := [(0, .ref 69), (1, .int (x1 + 1))]) [1, 0] rfl (ih _ _ h)
def e_X10_image (σ : ES) : Option (Int32 × ES) := if mib (0 : Int32) 114 = true then (if mib (1 : Int32) 114 = true then (if mib (2 : Int32) 114 = true then (if mib (3 : Int32) 114 = true then (if mib (0 : Int32) 2 = true then (if mib (4 : Int32) 114 = true then (if mib (1 : Int32) 2 = true then (if mib (5 : Int32) 114 = true then (e_X10_image_L66 mN (0 : Int32) (uI (uI (uI (uI (uI (uI σ 81 (0 : Int32).toNatClampNeg (eI σ 69 1)) 81 (1 : Int32).toNatClampNeg (eI (uI σ 81 (0 : Int32).toNatClampNeg (eI σ 69 1)) 69 2)) 81 (2 : Int32).toNatClampNeg (eI (uI (uI σ 81 (0 : Int32).toNatClampNeg (eI σ 69 1)) 81 (1 : Int32).toNatClampNeg (eI (uI σ 81 (0 : Int32).toNatClampNeg (eI σ 69 1)) 69 2)) 69 3)) 81 (3 : Int32).toNatClampNeg (eI (uI (uI (uI σ 81 (0 : Int32).toNatClampNeg (eI σ 69 1)) 81 (1 : Int32).toNatClampNeg (eI (uI σ 81 (0 : Int32).toNatClampNeg (eI σ 69 1)) 69 2)) 81 (2 : Int32).toNatClampNeg (eI (uI (uI σ 81 (0 : Int32).toNatClampNeg (eI σ 69 1)) 81 (1 : Int32).toNatClampNeg (eI (uI σ 81 (0 : Int32).toNatClampNeg (eI σ 69 1)) 69 2)) 69 3)) 69 5)) 81 (4 : Int32).toNatClampNeg (eI (uI (uI (uI (uI σ 81 (0 : Int32).toNatClampNeg (eI σ 69 1)) 81 (1 : Int32).toNatClampNeg (eI (uI σ 81 (0 : Int32).toNatClampNeg (eI σ 69 1)) 69 2)) 81 (2 : Int32).toNatClampNeg (eI (uI (uI σ 81 (0 : Int32).toNatClampNeg (eI σ 69 1)) 81 (1 : Int32).toNatClampNeg (eI (uI σ 81 (0 : Int32).toNatClampNeg (eI σ 69 1)) 69 2)) 69 3)) 81 (3 : Int32).toNatClampNeg (eI (uI (uI (uI σ 81 (0 : Int32).toNatClampNeg (eI σ 69 1)) 81 (1 : Int32).toNatClampNeg (eI (uI σ 81 (0 : Int32).toNatClampNeg (eI σ 69 1)) 69 2)) 81 (2 : Int32).toNatClampNeg (eI (uI (uI σ 81 (0 : Int32).toNatClampNeg (eI σ 69 1)) 81 (1 : Int32).toNatClampNeg (eI (uI σ 81 (0 : Int32).toNatClampNeg (eI σ 69 1)) 69 2)) 69 3)) 69 5)) 73 (0 : Int32).toNatClampNeg)) 81 (5 : Int32).toNatClampNeg (eI (uI (uI (uI (uI (uI σ 81 (0 : Int32).toNatClampNeg (eI σ 69 1)) 81 (1 : Int32).toNatClampNeg (eI (uI σ 81 (0 : Int32).toNatClampNeg (eI σ 69 1)) 69 2)) 81 (2 : Int32).toNatClampNeg (eI (uI (uI σ 81 (0 : Int32).toNatClampNeg (eI σ 69 1)) 81 (1 : Int32).toNatClampNeg (eI (uI σ 81 (0 : Int32).toNatClampNeg (eI σ 69 1)) 69 2)) 69 3)) 81 (3 : Int32).toNatClampNeg (eI (uI (uI (uI σ 81 (0 : Int32).toNatClampNeg (eI σ 69 1)) 81 (1 : Int32).toNatClampNeg (eI (uI σ 81 (0 : Int32).toNatClampNeg (eI σ 69 1)) 69 2)) 81 (2 : Int32).toNatClampNeg (eI (uI (uI σ 81 (0 : Int32).toNatClampNeg (eI σ 69 1)) 81 (1 : Int32).toNatClampNeg (eI (uI σ 81 (0 : Int32).toNatClampNeg (eI σ 69 1)) 69 2)) 69 3)) 69 5)) 81 (4 : Int32).toNatClampNeg (eI (uI (uI (uI (uI σ 81 (0 : Int32).toNatClampNeg (eI σ 69 1)) 81 (1 : Int32).toNatClampNeg (eI (uI σ 81 (0 : Int32).toNatClampNeg (eI σ 69 1)) 69 2)) 81 (2 : Int32).toNatClampNeg (eI (uI (uI σ 81 (0 : Int32).toNatClampNeg (eI σ 69 1)) 81 (1 : Int32).toNatClampNeg (eI (uI σ 81 (0 : Int32).toNatClampNeg (eI σ 69 1)) 69 2)) 69 3)) 81 (3 : Int32).toNatClampNeg (eI (uI (uI (uI σ 81 (0 : Int32).toNatClampNeg (eI σ 69 1)) 81 (1 : Int32).toNatClampNeg (eI (uI σ 81 (0 : Int32).toNatClampNeg (eI σ 69 1)) 69 2)) 81 (2 : Int32).toNatClampNeg (eI (uI (uI σ 81 (0 : Int32).toNatClampNeg (eI σ 69 1)) 81 (1 : Int32).toNatClampNeg (eI (uI σ 81 (0 : Int32).toNatClampNeg (eI σ 69 1)) 69 2)) 69 3)) 69 5)) 73 (0 : Int32).toNatClampNeg)) 73 (1 : Int32).toNatClampNeg))) else none) else none) else none) else none) else none) else none) else none) else none
set_option maxRecDepth 100000 in
set_option maxHeartbeats 4000000 in
theorem k_X10_image {l : Launch} {σ : ES}  {out : (Int32 × ES)} (h : e_X10_image σ = some out) : MK l yX10_image cX10_image 2 (some .int) 1 [.ref 69] (mkS σ) (some (.int out.1)) (mkS out.2) := by
  unfold e_X10_image at h
  refine mw_entry (own := RX10) (ini := false) (L := [(0, .ref 69)]) (by decide +kernel) rfl (fun h => nomatch h) rfl (Nat.le_of_ble_eq_true rfl) (Nat.le_of_ble_eq_true rfl) (fun E => ?_)
  refine mw_aload_n dX10_image_0 0 rfl ?_
  refine ev_getR (q := 81) fd_RX10_51_9 dX10_image_1 rfl rfl rfl ?_
  refine mw_iconst (v := 0) dX10_image_4 (by decide) ?_
  refine mw_aload_n dX10_image_5 0 rfl ?_
  refine ev_getI fd_RX10_15_9 dX10_image_6 rfl rfl ?_
  obtain ⟨m1, h⟩ := mif h
  refine ev_iast dX10_image_9 (by decide) rfl m1 ?_
  refine mw_aload_n dX10_image_10 0 rfl ?_
  refine ev_getR (q := 81) fd_RX10_51_9 dX10_image_11 rfl rfl rfl ?_
  refine mw_iconst (v := 1) dX10_image_14 (by decide) ?_
  refine mw_aload_n dX10_image_15 0 rfl ?_
  refine ev_getI fd_RX10_74_9 dX10_image_16 rfl rfl ?_
  obtain ⟨m2, h⟩ := mif h
  refine ev_iast dX10_image_19 (by decide) rfl m2 ?_
  refine mw_aload_n dX10_image_20 0 rfl ?_
  refine ev_getR (q := 81) fd_RX10_51_9 dX10_image_21 rfl rfl rfl ?_
  refine mw_iconst (v := 2) dX10_image_24 (by decide) ?_
  refine mw_aload_n dX10_image_25 0 rfl ?_
  refine ev_getI fd_RX10_61_9 dX10_image_26 rfl rfl ?_
  obtain ⟨m3, h⟩ := mif h
  refine ev_iast dX10_image_29 (by decide) rfl m3 ?_
  refine mw_aload_n dX10_image_30 0 rfl ?_
  refine ev_getR (q := 81) fd_RX10_51_9 dX10_image_31 rfl rfl rfl ?_
  refine mw_iconst (v := 3) dX10_image_34 (by decide) ?_
  refine mw_aload_n dX10_image_35 0 rfl ?_
  refine ev_getI fd_RX10_117_9 dX10_image_36 rfl rfl ?_
  obtain ⟨m4, h⟩ := mif h
  refine ev_iast dX10_image_39 (by decide) rfl m4 ?_
  refine mw_aload_n dX10_image_40 0 rfl ?_
  refine ev_getR (q := 81) fd_RX10_51_9 dX10_image_41 rfl rfl rfl ?_
  refine mw_iconst (v := 4) dX10_image_44 (by decide) ?_
  refine mw_aload_n dX10_image_45 0 rfl ?_
  refine ev_getR (q := 73) fd_RX10_25_9 dX10_image_46 rfl rfl rfl ?_
  refine mw_iconst (v := 0) dX10_image_49 (by decide) ?_
  obtain ⟨m5, h⟩ := mif h
  refine ev_iald dX10_image_50 (by decide) rfl m5 ?_
  obtain ⟨m6, h⟩ := mif h
  refine ev_iast dX10_image_51 (by decide) rfl m6 ?_
  refine mw_aload_n dX10_image_52 0 rfl ?_
  refine ev_getR (q := 81) fd_RX10_51_9 dX10_image_53 rfl rfl rfl ?_
  refine mw_iconst (v := 5) dX10_image_56 (by decide) ?_
  refine mw_aload_n dX10_image_57 0 rfl ?_
  refine ev_getR (q := 73) fd_RX10_25_9 dX10_image_58 rfl rfl rfl ?_
  refine mw_iconst (v := 1) dX10_image_61 (by decide) ?_
  obtain ⟨m7, h⟩ := mif h
  refine ev_iald dX10_image_62 (by decide) rfl m7 ?_
  obtain ⟨m8, h⟩ := mif h
  refine ev_iast dX10_image_63 (by decide) rfl m8 ?_
  refine mw_iconst (v := 0) dX10_image_64 (by decide) ?_
  refine mw_istore_n (L' := [(1, .int (0 : Int32)), (0, .ref 69)]) dX10_image_65 rfl (by decide) rfl ?_
  exact mw_sub (L' := [(0, .ref 69), (1, .int (0 : Int32))]) [1, 0] rfl (p_X10_image_L66  mN _ _ h)

theorem dX10_undo_0 : decode cX10_undo 0 = .ok (.aload_n 0, 1) := by decide +kernel
theorem dX10_undo_1 : decode cX10_undo 1 = .ok (.getfield 337, 3) := by decide +kernel
theorem dX10_undo_4 : decode cX10_undo 4 = .ok (.ifCond .ne 9, 3) := by decide +kernel
theorem dX10_undo_7 : decode cX10_undo 7 = .ok (.aload_n 0, 1) := by decide +kernel
theorem dX10_undo_8 : decode cX10_undo 8 = .ok (.iconst 3, 1) := by decide +kernel
theorem dX10_undo_9 : decode cX10_undo 9 = .ok (.invokevirtual 81, 3) := by decide +kernel
theorem dX10_undo_12 : decode cX10_undo 12 = .ok (.ireturn, 1) := by decide +kernel
theorem dX10_undo_13 : decode cX10_undo 13 = .ok (.aload_n 0, 1) := by decide +kernel
theorem dX10_undo_14 : decode cX10_undo 14 = .ok (.aload_n 0, 1) := by decide +kernel
theorem dX10_undo_15 : decode cX10_undo 15 = .ok (.getfield 51, 3) := by decide +kernel
theorem dX10_undo_18 : decode cX10_undo 18 = .ok (.iconst 0, 1) := by decide +kernel
theorem dX10_undo_19 : decode cX10_undo 19 = .ok (.iaload, 1) := by decide +kernel
theorem dX10_undo_20 : decode cX10_undo 20 = .ok (.putfield 15, 3) := by decide +kernel
theorem dX10_undo_23 : decode cX10_undo 23 = .ok (.aload_n 0, 1) := by decide +kernel
theorem dX10_undo_24 : decode cX10_undo 24 = .ok (.aload_n 0, 1) := by decide +kernel
theorem dX10_undo_25 : decode cX10_undo 25 = .ok (.getfield 51, 3) := by decide +kernel
theorem dX10_undo_28 : decode cX10_undo 28 = .ok (.iconst 1, 1) := by decide +kernel
theorem dX10_undo_29 : decode cX10_undo 29 = .ok (.iaload, 1) := by decide +kernel
theorem dX10_undo_30 : decode cX10_undo 30 = .ok (.putfield 74, 3) := by decide +kernel
theorem dX10_undo_33 : decode cX10_undo 33 = .ok (.aload_n 0, 1) := by decide +kernel
theorem dX10_undo_34 : decode cX10_undo 34 = .ok (.aload_n 0, 1) := by decide +kernel
theorem dX10_undo_35 : decode cX10_undo 35 = .ok (.getfield 51, 3) := by decide +kernel
theorem dX10_undo_38 : decode cX10_undo 38 = .ok (.iconst 2, 1) := by decide +kernel
theorem dX10_undo_39 : decode cX10_undo 39 = .ok (.iaload, 1) := by decide +kernel
theorem dX10_undo_40 : decode cX10_undo 40 = .ok (.putfield 61, 3) := by decide +kernel
theorem dX10_undo_43 : decode cX10_undo 43 = .ok (.aload_n 0, 1) := by decide +kernel
theorem dX10_undo_44 : decode cX10_undo 44 = .ok (.aload_n 0, 1) := by decide +kernel
theorem dX10_undo_45 : decode cX10_undo 45 = .ok (.getfield 51, 3) := by decide +kernel
theorem dX10_undo_48 : decode cX10_undo 48 = .ok (.iconst 3, 1) := by decide +kernel
theorem dX10_undo_49 : decode cX10_undo 49 = .ok (.iaload, 1) := by decide +kernel
theorem dX10_undo_50 : decode cX10_undo 50 = .ok (.putfield 117, 3) := by decide +kernel
theorem dX10_undo_53 : decode cX10_undo 53 = .ok (.aload_n 0, 1) := by decide +kernel
theorem dX10_undo_54 : decode cX10_undo 54 = .ok (.getfield 25, 3) := by decide +kernel
theorem dX10_undo_57 : decode cX10_undo 57 = .ok (.iconst 0, 1) := by decide +kernel
theorem dX10_undo_58 : decode cX10_undo 58 = .ok (.aload_n 0, 1) := by decide +kernel
theorem dX10_undo_59 : decode cX10_undo 59 = .ok (.getfield 51, 3) := by decide +kernel
theorem dX10_undo_62 : decode cX10_undo 62 = .ok (.iconst 4, 1) := by decide +kernel
theorem dX10_undo_63 : decode cX10_undo 63 = .ok (.iaload, 1) := by decide +kernel
theorem dX10_undo_64 : decode cX10_undo 64 = .ok (.iastore, 1) := by decide +kernel
theorem dX10_undo_65 : decode cX10_undo 65 = .ok (.aload_n 0, 1) := by decide +kernel
theorem dX10_undo_66 : decode cX10_undo 66 = .ok (.getfield 25, 3) := by decide +kernel
theorem dX10_undo_69 : decode cX10_undo 69 = .ok (.iconst 1, 1) := by decide +kernel
theorem dX10_undo_70 : decode cX10_undo 70 = .ok (.aload_n 0, 1) := by decide +kernel
theorem dX10_undo_71 : decode cX10_undo 71 = .ok (.getfield 51, 3) := by decide +kernel
theorem dX10_undo_74 : decode cX10_undo 74 = .ok (.iconst 5, 1) := by decide +kernel
theorem dX10_undo_75 : decode cX10_undo 75 = .ok (.iaload, 1) := by decide +kernel
theorem dX10_undo_76 : decode cX10_undo 76 = .ok (.iastore, 1) := by decide +kernel
theorem dX10_undo_77 : decode cX10_undo 77 = .ok (.iconst 0, 1) := by decide +kernel
theorem dX10_undo_78 : decode cX10_undo 78 = .ok (.istore_n 1, 1) := by decide +kernel
theorem dX10_undo_79 : decode cX10_undo 79 = .ok (.iload_n 1, 1) := by decide +kernel
theorem dX10_undo_80 : decode cX10_undo 80 = .ok (.aload_n 0, 1) := by decide +kernel
theorem dX10_undo_81 : decode cX10_undo 81 = .ok (.getfield 19, 3) := by decide +kernel
theorem dX10_undo_84 : decode cX10_undo 84 = .ok (.arraylength, 1) := by decide +kernel
theorem dX10_undo_85 : decode cX10_undo 85 = .ok (.if_icmp .ge 24, 3) := by decide +kernel
theorem dX10_undo_88 : decode cX10_undo 88 = .ok (.aload_n 0, 1) := by decide +kernel
theorem dX10_undo_89 : decode cX10_undo 89 = .ok (.getfield 19, 3) := by decide +kernel
theorem dX10_undo_92 : decode cX10_undo 92 = .ok (.iload_n 1, 1) := by decide +kernel
theorem dX10_undo_93 : decode cX10_undo 93 = .ok (.aload_n 0, 1) := by decide +kernel
theorem dX10_undo_94 : decode cX10_undo 94 = .ok (.getfield 51, 3) := by decide +kernel
theorem dX10_undo_97 : decode cX10_undo 97 = .ok (.bipush 6, 2) := by decide +kernel
theorem dX10_undo_99 : decode cX10_undo 99 = .ok (.iload_n 1, 1) := by decide +kernel
theorem dX10_undo_100 : decode cX10_undo 100 = .ok (.iadd, 1) := by decide +kernel
theorem dX10_undo_101 : decode cX10_undo 101 = .ok (.iaload, 1) := by decide +kernel
theorem dX10_undo_102 : decode cX10_undo 102 = .ok (.iastore, 1) := by decide +kernel
theorem dX10_undo_103 : decode cX10_undo 103 = .ok (.iinc 1 1, 3) := by decide +kernel
theorem dX10_undo_106 : decode cX10_undo 106 = .ok (.goto (-27), 3) := by decide +kernel
theorem dX10_undo_109 : decode cX10_undo 109 = .ok (.iconst 0, 1) := by decide +kernel
theorem dX10_undo_110 : decode cX10_undo 110 = .ok (.istore_n 1, 1) := by decide +kernel
theorem dX10_undo_111 : decode cX10_undo 111 = .ok (.iload_n 1, 1) := by decide +kernel
theorem dX10_undo_112 : decode cX10_undo 112 = .ok (.aload_n 0, 1) := by decide +kernel
theorem dX10_undo_113 : decode cX10_undo 113 = .ok (.getfield 22, 3) := by decide +kernel
theorem dX10_undo_116 : decode cX10_undo 116 = .ok (.arraylength, 1) := by decide +kernel
theorem dX10_undo_117 : decode cX10_undo 117 = .ok (.if_icmp .ge 24, 3) := by decide +kernel
theorem dX10_undo_120 : decode cX10_undo 120 = .ok (.aload_n 0, 1) := by decide +kernel
theorem dX10_undo_121 : decode cX10_undo 121 = .ok (.getfield 22, 3) := by decide +kernel
theorem dX10_undo_124 : decode cX10_undo 124 = .ok (.iload_n 1, 1) := by decide +kernel
theorem dX10_undo_125 : decode cX10_undo 125 = .ok (.aload_n 0, 1) := by decide +kernel
theorem dX10_undo_126 : decode cX10_undo 126 = .ok (.getfield 51, 3) := by decide +kernel
theorem dX10_undo_129 : decode cX10_undo 129 = .ok (.bipush 90, 2) := by decide +kernel
theorem dX10_undo_131 : decode cX10_undo 131 = .ok (.iload_n 1, 1) := by decide +kernel
theorem dX10_undo_132 : decode cX10_undo 132 = .ok (.iadd, 1) := by decide +kernel
theorem dX10_undo_133 : decode cX10_undo 133 = .ok (.iaload, 1) := by decide +kernel
theorem dX10_undo_134 : decode cX10_undo 134 = .ok (.iastore, 1) := by decide +kernel
theorem dX10_undo_135 : decode cX10_undo 135 = .ok (.iinc 1 1, 3) := by decide +kernel
theorem dX10_undo_138 : decode cX10_undo 138 = .ok (.goto (-27), 3) := by decide +kernel
theorem dX10_undo_141 : decode cX10_undo 141 = .ok (.aload_n 0, 1) := by decide +kernel
theorem dX10_undo_142 : decode cX10_undo 142 = .ok (.getfield 61, 3) := by decide +kernel
theorem dX10_undo_145 : decode cX10_undo 145 = .ok (.ireturn, 1) := by decide +kernel
def e_X10_undo_L111  : Nat → Int32 → ES → Option (Int32 × ES)
  | 0, _, _ => none
  | n + 1, x1, σ => if (Int32.ofNat 24) ≤ x1 then (some ((eI σ 69 3), σ)) else (if mib ((90 : Int32) + x1) 114 = true then (if mib x1 24 = true then (e_X10_undo_L111 n (x1 + 1) (uI σ 72 x1.toNatClampNeg (eI σ 81 ((90 : Int32) + x1).toNatClampNeg))) else none) else none)
set_option maxRecDepth 100000 in
set_option maxHeartbeats 4000000 in
theorem p_X10_undo_L111 {l : Launch} {E : MX} {out : (Int32 × ES)}   : ∀ (n : Nat) (x1 : Int32) (σ : ES), e_X10_undo_L111 n x1 σ = some out → MV l E cX10_undo RX10 2 (some .int) 2 (82, (some (.int out.1)), mkS out.2) (mkS σ) 111 [(0, .ref 69), (1, .int x1)] [] := by
  intro n
  induction n with
  | zero =>
    intro x1 σ h
    exact nomatch h
  | succ n ih =>
    intro x1 σ h
    rw [e_X10_undo_L111] at h
    refine mw_iload_n dX10_undo_111 1 rfl ?_
    refine mw_aload_n dX10_undo_112 0 rfl ?_
    refine ev_getR (q := 72) fd_RX10_22_9 dX10_undo_113 rfl rfl rfl ?_
    refine mw_alen (N := 24) dX10_undo_116 (by decide) (by decide) rfl ?_
    refine mw_icmp_ge (tgt := 141) dX10_undo_117 (by decide) (fun hc => ?_) (fun hc => ?_)
    · have h := mit hc h
      refine mw_aload_n dX10_undo_141 0 rfl ?_
      refine ev_getI fd_RX10_61_9 dX10_undo_142 rfl rfl ?_
      exact mw_iret dX10_undo_145 rfl (ers_im h) rfl rfl
    · have h := mie hc h
      refine mw_aload_n dX10_undo_120 0 rfl ?_
      refine ev_getR (q := 72) fd_RX10_22_9 dX10_undo_121 rfl rfl rfl ?_
      refine mw_iload_n dX10_undo_124 1 rfl ?_
      refine mw_aload_n dX10_undo_125 0 rfl ?_
      refine ev_getR (q := 81) fd_RX10_51_9 dX10_undo_126 rfl rfl rfl ?_
      refine mw_bipush (v := 90) dX10_undo_129 (by decide) ?_
      refine mw_iload_n dX10_undo_131 1 rfl ?_
      refine mw_iadd dX10_undo_132 ?_
      obtain ⟨m1, h⟩ := mif h
      refine ev_iald dX10_undo_133 (by decide) rfl m1 ?_
      obtain ⟨m2, h⟩ := mif h
      refine ev_iast dX10_undo_134 (by decide) rfl m2 ?_
      refine mw_iinc (v := (x1 + 1)) (L' := [(1, .int (x1 + 1)), (0, .ref 69)]) dX10_undo_135 1 rfl rfl (by decide) rfl ?_
      refine mw_goto (tgt := 111) dX10_undo_138 (by decide) ?_
      exact mw_sub (L' := [(0, .ref 69), (1, .int (x1 + 1))]) [1, 0] rfl (ih _ _ h)
def e_X10_undo_L79  : Nat → Int32 → ES → Option (Int32 × ES)
  | 0, _, _ => none
  | n + 1, x1, σ => if (Int32.ofNat 84) ≤ x1 then (e_X10_undo_L111 mN (0 : Int32) σ) else (if mib ((6 : Int32) + x1) 114 = true then (if mib x1 84 = true then (e_X10_undo_L79 n (x1 + 1) (uI σ 71 x1.toNatClampNeg (eI σ 81 ((6 : Int32) + x1).toNatClampNeg))) else none) else none)
set_option maxRecDepth 100000 in
set_option maxHeartbeats 4000000 in
theorem p_X10_undo_L79 {l : Launch} {E : MX} {out : (Int32 × ES)}   : ∀ (n : Nat) (x1 : Int32) (σ : ES), e_X10_undo_L79 n x1 σ = some out → MV l E cX10_undo RX10 2 (some .int) 2 (82, (some (.int out.1)), mkS out.2) (mkS σ) 79 [(0, .ref 69), (1, .int x1)] [] := by
  intro n
  induction n with
  | zero =>
    intro x1 σ h
    exact nomatch h
  | succ n ih =>
    intro x1 σ h
    rw [e_X10_undo_L79] at h
    refine mw_iload_n dX10_undo_79 1 rfl ?_
    refine mw_aload_n dX10_undo_80 0 rfl ?_
    refine ev_getR (q := 71) fd_RX10_19_9 dX10_undo_81 rfl rfl rfl ?_
    refine mw_alen (N := 84) dX10_undo_84 (by decide) (by decide) rfl ?_
    refine mw_icmp_ge (tgt := 109) dX10_undo_85 (by decide) (fun hc => ?_) (fun hc => ?_)
    · have h := mit hc h
      refine mw_iconst (v := 0) dX10_undo_109 (by decide) ?_
      refine mw_istore_n (L' := [(1, .int (0 : Int32)), (0, .ref 69)]) dX10_undo_110 rfl (by decide) rfl ?_
      exact mw_sub (L' := [(0, .ref 69), (1, .int (0 : Int32))]) [1, 0] rfl (p_X10_undo_L111  mN _ _ h)
    · have h := mie hc h
      refine mw_aload_n dX10_undo_88 0 rfl ?_
      refine ev_getR (q := 71) fd_RX10_19_9 dX10_undo_89 rfl rfl rfl ?_
      refine mw_iload_n dX10_undo_92 1 rfl ?_
      refine mw_aload_n dX10_undo_93 0 rfl ?_
      refine ev_getR (q := 81) fd_RX10_51_9 dX10_undo_94 rfl rfl rfl ?_
      refine mw_bipush (v := 6) dX10_undo_97 (by decide) ?_
      refine mw_iload_n dX10_undo_99 1 rfl ?_
      refine mw_iadd dX10_undo_100 ?_
      obtain ⟨m1, h⟩ := mif h
      refine ev_iald dX10_undo_101 (by decide) rfl m1 ?_
      obtain ⟨m2, h⟩ := mif h
      refine ev_iast dX10_undo_102 (by decide) rfl m2 ?_
      refine mw_iinc (v := (x1 + 1)) (L' := [(1, .int (x1 + 1)), (0, .ref 69)]) dX10_undo_103 1 rfl rfl (by decide) rfl ?_
      refine mw_goto (tgt := 79) dX10_undo_106 (by decide) ?_
      exact mw_sub (L' := [(0, .ref 69), (1, .int (x1 + 1))]) [1, 0] rfl (ih _ _ h)
def e_X10_undo (σ : ES) : Option (Int32 × ES) := if (eI σ 69 35) = 0 then ((e_X10_finds (3 : Int32) σ).bind (fun r9 => some (r9.1, r9.2))) else (if mib (0 : Int32) 114 = true then (if mib (1 : Int32) 114 = true then (if mib (2 : Int32) 114 = true then (if mib (3 : Int32) 114 = true then (if mib (4 : Int32) 114 = true then (if mib (0 : Int32) 2 = true then (if mib (5 : Int32) 114 = true then (if mib (1 : Int32) 2 = true then (e_X10_undo_L79 mN (0 : Int32) (uI (uI (uI (uI (uI (uI σ 69 1 (eI σ 81 (0 : Int32).toNatClampNeg)) 69 2 (eI (uI σ 69 1 (eI σ 81 (0 : Int32).toNatClampNeg)) 81 (1 : Int32).toNatClampNeg)) 69 3 (eI (uI (uI σ 69 1 (eI σ 81 (0 : Int32).toNatClampNeg)) 69 2 (eI (uI σ 69 1 (eI σ 81 (0 : Int32).toNatClampNeg)) 81 (1 : Int32).toNatClampNeg)) 81 (2 : Int32).toNatClampNeg)) 69 5 (eI (uI (uI (uI σ 69 1 (eI σ 81 (0 : Int32).toNatClampNeg)) 69 2 (eI (uI σ 69 1 (eI σ 81 (0 : Int32).toNatClampNeg)) 81 (1 : Int32).toNatClampNeg)) 69 3 (eI (uI (uI σ 69 1 (eI σ 81 (0 : Int32).toNatClampNeg)) 69 2 (eI (uI σ 69 1 (eI σ 81 (0 : Int32).toNatClampNeg)) 81 (1 : Int32).toNatClampNeg)) 81 (2 : Int32).toNatClampNeg)) 81 (3 : Int32).toNatClampNeg)) 73 (0 : Int32).toNatClampNeg (eI (uI (uI (uI (uI σ 69 1 (eI σ 81 (0 : Int32).toNatClampNeg)) 69 2 (eI (uI σ 69 1 (eI σ 81 (0 : Int32).toNatClampNeg)) 81 (1 : Int32).toNatClampNeg)) 69 3 (eI (uI (uI σ 69 1 (eI σ 81 (0 : Int32).toNatClampNeg)) 69 2 (eI (uI σ 69 1 (eI σ 81 (0 : Int32).toNatClampNeg)) 81 (1 : Int32).toNatClampNeg)) 81 (2 : Int32).toNatClampNeg)) 69 5 (eI (uI (uI (uI σ 69 1 (eI σ 81 (0 : Int32).toNatClampNeg)) 69 2 (eI (uI σ 69 1 (eI σ 81 (0 : Int32).toNatClampNeg)) 81 (1 : Int32).toNatClampNeg)) 69 3 (eI (uI (uI σ 69 1 (eI σ 81 (0 : Int32).toNatClampNeg)) 69 2 (eI (uI σ 69 1 (eI σ 81 (0 : Int32).toNatClampNeg)) 81 (1 : Int32).toNatClampNeg)) 81 (2 : Int32).toNatClampNeg)) 81 (3 : Int32).toNatClampNeg)) 81 (4 : Int32).toNatClampNeg)) 73 (1 : Int32).toNatClampNeg (eI (uI (uI (uI (uI (uI σ 69 1 (eI σ 81 (0 : Int32).toNatClampNeg)) 69 2 (eI (uI σ 69 1 (eI σ 81 (0 : Int32).toNatClampNeg)) 81 (1 : Int32).toNatClampNeg)) 69 3 (eI (uI (uI σ 69 1 (eI σ 81 (0 : Int32).toNatClampNeg)) 69 2 (eI (uI σ 69 1 (eI σ 81 (0 : Int32).toNatClampNeg)) 81 (1 : Int32).toNatClampNeg)) 81 (2 : Int32).toNatClampNeg)) 69 5 (eI (uI (uI (uI σ 69 1 (eI σ 81 (0 : Int32).toNatClampNeg)) 69 2 (eI (uI σ 69 1 (eI σ 81 (0 : Int32).toNatClampNeg)) 81 (1 : Int32).toNatClampNeg)) 69 3 (eI (uI (uI σ 69 1 (eI σ 81 (0 : Int32).toNatClampNeg)) 69 2 (eI (uI σ 69 1 (eI σ 81 (0 : Int32).toNatClampNeg)) 81 (1 : Int32).toNatClampNeg)) 81 (2 : Int32).toNatClampNeg)) 81 (3 : Int32).toNatClampNeg)) 73 (0 : Int32).toNatClampNeg (eI (uI (uI (uI (uI σ 69 1 (eI σ 81 (0 : Int32).toNatClampNeg)) 69 2 (eI (uI σ 69 1 (eI σ 81 (0 : Int32).toNatClampNeg)) 81 (1 : Int32).toNatClampNeg)) 69 3 (eI (uI (uI σ 69 1 (eI σ 81 (0 : Int32).toNatClampNeg)) 69 2 (eI (uI σ 69 1 (eI σ 81 (0 : Int32).toNatClampNeg)) 81 (1 : Int32).toNatClampNeg)) 81 (2 : Int32).toNatClampNeg)) 69 5 (eI (uI (uI (uI σ 69 1 (eI σ 81 (0 : Int32).toNatClampNeg)) 69 2 (eI (uI σ 69 1 (eI σ 81 (0 : Int32).toNatClampNeg)) 81 (1 : Int32).toNatClampNeg)) 69 3 (eI (uI (uI σ 69 1 (eI σ 81 (0 : Int32).toNatClampNeg)) 69 2 (eI (uI σ 69 1 (eI σ 81 (0 : Int32).toNatClampNeg)) 81 (1 : Int32).toNatClampNeg)) 81 (2 : Int32).toNatClampNeg)) 81 (3 : Int32).toNatClampNeg)) 81 (4 : Int32).toNatClampNeg)) 81 (5 : Int32).toNatClampNeg))) else none) else none) else none) else none) else none) else none) else none) else none)
set_option maxRecDepth 100000 in
set_option maxHeartbeats 4000000 in
theorem k_X10_undo {l : Launch} {σ : ES}  {out : (Int32 × ES)} (h : e_X10_undo σ = some out) : MK l yX10_undo cX10_undo 2 (some .int) 2 [.ref 69] (mkS σ) (some (.int out.1)) (mkS out.2) := by
  unfold e_X10_undo at h
  refine mw_entry (own := RX10) (ini := false) (L := [(0, .ref 69)]) (by decide +kernel) rfl (fun h => nomatch h) rfl (Nat.le_of_ble_eq_true rfl) (Nat.le_of_ble_eq_true rfl) (fun E => ?_)
  refine mw_aload_n dX10_undo_0 0 rfl ?_
  refine ev_getZ fd_RX10_337_9 dX10_undo_1 rfl rfl ?_
  refine mw_if_ne (tgt := 13) dX10_undo_4 (by decide) (fun hc => ?_) (fun hc => ?_)
  · have h := mie hc h
    refine mw_aload_n dX10_undo_13 0 rfl ?_
    refine mw_aload_n dX10_undo_14 0 rfl ?_
    refine ev_getR (q := 81) fd_RX10_51_9 dX10_undo_15 rfl rfl rfl ?_
    refine mw_iconst (v := 0) dX10_undo_18 (by decide) ?_
    obtain ⟨m1, h⟩ := mif h
    refine ev_iald dX10_undo_19 (by decide) rfl m1 ?_
    refine ev_putI fw_RX10_15_9 dX10_undo_20 rfl rfl ?_
    refine mw_aload_n dX10_undo_23 0 rfl ?_
    refine mw_aload_n dX10_undo_24 0 rfl ?_
    refine ev_getR (q := 81) fd_RX10_51_9 dX10_undo_25 rfl rfl rfl ?_
    refine mw_iconst (v := 1) dX10_undo_28 (by decide) ?_
    obtain ⟨m2, h⟩ := mif h
    refine ev_iald dX10_undo_29 (by decide) rfl m2 ?_
    refine ev_putI fw_RX10_74_9 dX10_undo_30 rfl rfl ?_
    refine mw_aload_n dX10_undo_33 0 rfl ?_
    refine mw_aload_n dX10_undo_34 0 rfl ?_
    refine ev_getR (q := 81) fd_RX10_51_9 dX10_undo_35 rfl rfl rfl ?_
    refine mw_iconst (v := 2) dX10_undo_38 (by decide) ?_
    obtain ⟨m3, h⟩ := mif h
    refine ev_iald dX10_undo_39 (by decide) rfl m3 ?_
    refine ev_putI fw_RX10_61_9 dX10_undo_40 rfl rfl ?_
    refine mw_aload_n dX10_undo_43 0 rfl ?_
    refine mw_aload_n dX10_undo_44 0 rfl ?_
    refine ev_getR (q := 81) fd_RX10_51_9 dX10_undo_45 rfl rfl rfl ?_
    refine mw_iconst (v := 3) dX10_undo_48 (by decide) ?_
    obtain ⟨m4, h⟩ := mif h
    refine ev_iald dX10_undo_49 (by decide) rfl m4 ?_
    refine ev_putI fw_RX10_117_9 dX10_undo_50 rfl rfl ?_
    refine mw_aload_n dX10_undo_53 0 rfl ?_
    refine ev_getR (q := 73) fd_RX10_25_9 dX10_undo_54 rfl rfl rfl ?_
    refine mw_iconst (v := 0) dX10_undo_57 (by decide) ?_
    refine mw_aload_n dX10_undo_58 0 rfl ?_
    refine ev_getR (q := 81) fd_RX10_51_9 dX10_undo_59 rfl rfl rfl ?_
    refine mw_iconst (v := 4) dX10_undo_62 (by decide) ?_
    obtain ⟨m5, h⟩ := mif h
    refine ev_iald dX10_undo_63 (by decide) rfl m5 ?_
    obtain ⟨m6, h⟩ := mif h
    refine ev_iast dX10_undo_64 (by decide) rfl m6 ?_
    refine mw_aload_n dX10_undo_65 0 rfl ?_
    refine ev_getR (q := 73) fd_RX10_25_9 dX10_undo_66 rfl rfl rfl ?_
    refine mw_iconst (v := 1) dX10_undo_69 (by decide) ?_
    refine mw_aload_n dX10_undo_70 0 rfl ?_
    refine ev_getR (q := 81) fd_RX10_51_9 dX10_undo_71 rfl rfl rfl ?_
    refine mw_iconst (v := 5) dX10_undo_74 (by decide) ?_
    obtain ⟨m7, h⟩ := mif h
    refine ev_iald dX10_undo_75 (by decide) rfl m7 ?_
    obtain ⟨m8, h⟩ := mif h
    refine ev_iast dX10_undo_76 (by decide) rfl m8 ?_
    refine mw_iconst (v := 0) dX10_undo_77 (by decide) ?_
    refine mw_istore_n (L' := [(1, .int (0 : Int32)), (0, .ref 69)]) dX10_undo_78 rfl (by decide) rfl ?_
    exact mw_sub (L' := [(0, .ref 69), (1, .int (0 : Int32))]) [1, 0] rfl (p_X10_undo_L79  mN _ _ h)
  · have h := mit hc h
    refine mw_aload_n dX10_undo_7 0 rfl ?_
    refine mw_iconst (v := 3) dX10_undo_8 (by decide) ?_
    obtain ⟨r9, e10, h⟩ := mbd h
    refine mv_callV_i (As := [.int (3 : Int32)]) (ci := 9) lkV_RX10_81_yX10_finds dX10_undo_9 (k_X10_finds e10) rfl rfl rfl rfl (Nat.le_of_ble_eq_true rfl) (by decide) (by decide) ?_
    exact mw_iret dX10_undo_12 rfl (ers_im h) rfl rfl

theorem dX10_tear_0 : decode cX10_tear 0 = .ok (.aload_n 0, 1) := by decide +kernel
theorem dX10_tear_1 : decode cX10_tear 1 = .ok (.getfield 337, 3) := by decide +kernel
theorem dX10_tear_4 : decode cX10_tear 4 = .ok (.ifCond .eq 7, 3) := by decide +kernel
theorem dX10_tear_7 : decode cX10_tear 7 = .ok (.iconst 1, 1) := by decide +kernel
theorem dX10_tear_8 : decode cX10_tear 8 = .ok (.goto 4, 3) := by decide +kernel
theorem dX10_tear_11 : decode cX10_tear 11 = .ok (.iconst 0, 1) := by decide +kernel
theorem dX10_tear_12 : decode cX10_tear 12 = .ok (.istore_n 1, 1) := by decide +kernel
theorem dX10_tear_13 : decode cX10_tear 13 = .ok (.aload_n 0, 1) := by decide +kernel
theorem dX10_tear_14 : decode cX10_tear 14 = .ok (.iconst 0, 1) := by decide +kernel
theorem dX10_tear_15 : decode cX10_tear 15 = .ok (.putfield 337, 3) := by decide +kernel
theorem dX10_tear_18 : decode cX10_tear 18 = .ok (.iload_n 1, 1) := by decide +kernel
theorem dX10_tear_19 : decode cX10_tear 19 = .ok (.ireturn, 1) := by decide +kernel
def e_X10_tear (σ : ES) : Option (Int32 × ES) := if (eI σ 69 35) = 0 then (some ((0 : Int32), (uI σ 69 35 (0 : Int32)))) else (some ((1 : Int32), (uI σ 69 35 (0 : Int32))))
set_option maxRecDepth 100000 in
set_option maxHeartbeats 4000000 in
theorem k_X10_tear {l : Launch} {σ : ES}  {out : (Int32 × ES)} (h : e_X10_tear σ = some out) : MK l yX10_tear cX10_tear 2 (some .int) 1 [.ref 69] (mkS σ) (some (.int out.1)) (mkS out.2) := by
  unfold e_X10_tear at h
  refine mw_entry (own := RX10) (ini := false) (L := [(0, .ref 69)]) (by decide +kernel) rfl (fun h => nomatch h) rfl (Nat.le_of_ble_eq_true rfl) (Nat.le_of_ble_eq_true rfl) (fun E => ?_)
  refine mw_aload_n dX10_tear_0 0 rfl ?_
  refine ev_getZ fd_RX10_337_9 dX10_tear_1 rfl rfl ?_
  refine mw_if_eq (tgt := 11) dX10_tear_4 (by decide) (fun hc => ?_) (fun hc => ?_)
  · have h := mit hc h
    refine mw_iconst (v := 0) dX10_tear_11 (by decide) ?_
    refine mw_istore_n (L' := [(1, .int (0 : Int32)), (0, .ref 69)]) dX10_tear_12 rfl (by decide) rfl ?_
    refine mw_aload_n dX10_tear_13 1 rfl ?_
    refine mw_iconst (v := 0) dX10_tear_14 (by decide) ?_
    refine ev_putZ fw_RX10_337_9 dX10_tear_15 rfl rfl (by decide) ?_
    refine mw_iload_n dX10_tear_18 0 rfl ?_
    exact mw_iret dX10_tear_19 rfl (ers_im h) rfl rfl
  · have h := mie hc h
    refine mw_iconst (v := 1) dX10_tear_7 (by decide) ?_
    refine mw_goto (tgt := 12) dX10_tear_8 (by decide) ?_
    refine mw_istore_n (L' := [(1, .int (1 : Int32)), (0, .ref 69)]) dX10_tear_12 rfl (by decide) rfl ?_
    refine mw_aload_n dX10_tear_13 1 rfl ?_
    refine mw_iconst (v := 0) dX10_tear_14 (by decide) ?_
    refine ev_putZ fw_RX10_337_9 dX10_tear_15 rfl rfl (by decide) ?_
    refine mw_iload_n dX10_tear_18 0 rfl ?_
    exact mw_iret dX10_tear_19 rfl (ers_im h) rfl rfl

theorem dX10_count_0 : decode cX10_count 0 = .ok (.iload_n 1, 1) := by decide +kernel
theorem dX10_count_1 : decode cX10_count 1 = .ok (.tableswitch 77 0 5 #[39, 44, 49, 54, 67, 72], 39) := by decide +kernel
theorem dX10_count_40 : decode cX10_count 40 = .ok (.aload_n 0, 1) := by decide +kernel
theorem dX10_count_41 : decode cX10_count 41 = .ok (.getfield 15, 3) := by decide +kernel
theorem dX10_count_44 : decode cX10_count 44 = .ok (.ireturn, 1) := by decide +kernel
theorem dX10_count_45 : decode cX10_count 45 = .ok (.aload_n 0, 1) := by decide +kernel
theorem dX10_count_46 : decode cX10_count 46 = .ok (.getfield 61, 3) := by decide +kernel
theorem dX10_count_49 : decode cX10_count 49 = .ok (.ireturn, 1) := by decide +kernel
theorem dX10_count_50 : decode cX10_count 50 = .ok (.aload_n 0, 1) := by decide +kernel
theorem dX10_count_51 : decode cX10_count 51 = .ok (.getfield 117, 3) := by decide +kernel
theorem dX10_count_54 : decode cX10_count 54 = .ok (.ireturn, 1) := by decide +kernel
theorem dX10_count_55 : decode cX10_count 55 = .ok (.aload_n 0, 1) := by decide +kernel
theorem dX10_count_56 : decode cX10_count 56 = .ok (.getfield 61, 3) := by decide +kernel
theorem dX10_count_59 : decode cX10_count 59 = .ok (.aload_n 0, 1) := by decide +kernel
theorem dX10_count_60 : decode cX10_count 60 = .ok (.invokevirtual 157, 3) := by decide +kernel
theorem dX10_count_63 : decode cX10_count 63 = .ok (.invokestatic 203, 3) := by decide +kernel
theorem dX10_count_66 : decode cX10_count 66 = .ok (.isub, 1) := by decide +kernel
theorem dX10_count_67 : decode cX10_count 67 = .ok (.ireturn, 1) := by decide +kernel
theorem dX10_count_68 : decode cX10_count 68 = .ok (.aload_n 0, 1) := by decide +kernel
theorem dX10_count_69 : decode cX10_count 69 = .ok (.getfield 74, 3) := by decide +kernel
theorem dX10_count_72 : decode cX10_count 72 = .ok (.ireturn, 1) := by decide +kernel
theorem dX10_count_73 : decode cX10_count 73 = .ok (.aload_n 0, 1) := by decide +kernel
theorem dX10_count_74 : decode cX10_count 74 = .ok (.getfield 274, 3) := by decide +kernel
theorem dX10_count_77 : decode cX10_count 77 = .ok (.ireturn, 1) := by decide +kernel
theorem dX10_count_78 : decode cX10_count 78 = .ok (.aload_n 0, 1) := by decide +kernel
theorem dX10_count_79 : decode cX10_count 79 = .ok (.iconst 0, 1) := by decide +kernel
theorem dX10_count_80 : decode cX10_count 80 = .ok (.invokevirtual 81, 3) := by decide +kernel
theorem dX10_count_83 : decode cX10_count 83 = .ok (.ireturn, 1) := by decide +kernel
def e_X10_count (a1 : Int32) (σ : ES) : Option (Int32 × ES) := if a1 = 0 then (some ((eI σ 69 1), σ)) else (if a1 = 1 then (some ((eI σ 69 3), σ)) else (if a1 = 2 then (some ((eI σ 69 5), σ)) else (if a1 = 3 then ((e_X10_openWays σ).bind (fun r1 => (e_X10_bits r1).bind (fun r3 => some (((eI σ 69 3) - r3), σ)))) else (if a1 = 4 then (some ((eI σ 69 2), σ)) else (if a1 = 5 then (some ((eI σ 69 25), σ)) else ((e_X10_finds (0 : Int32) σ).bind (fun r5 => some (r5.1, r5.2))))))))
set_option maxRecDepth 100000 in
set_option maxHeartbeats 4000000 in
theorem k_X10_count {l : Launch} {σ : ES} {a1 : Int32} {out : (Int32 × ES)} (h : e_X10_count a1 σ = some out) : MK l yX10_count cX10_count 2 (some .int) 3 [.ref 69, .int a1] (mkS σ) (some (.int out.1)) (mkS out.2) := by
  unfold e_X10_count at h
  refine mw_entry (own := RX10) (ini := false) (L := [(0, .ref 69), (1, .int a1)]) (by decide +kernel) rfl (fun h => nomatch h) rfl (Nat.le_of_ble_eq_true rfl) (Nat.le_of_ble_eq_true rfl) (fun E => ?_)
  refine mw_iload_n dX10_count_0 1 rfl ?_
  by_cases hs0 : a1 = 0
  · have h := mit hs0 h
    refine mv_tabIn (tgt := 40) 0 dX10_count_1 hs0 (by decide) (by decide) rfl (by decide) ?_
    refine mw_aload_n dX10_count_40 0 rfl ?_
    refine ev_getI fd_RX10_15_9 dX10_count_41 rfl rfl ?_
    exact mw_iret dX10_count_44 rfl (ers_im h) rfl rfl
  have h := mie hs0 h
  by_cases hs1 : a1 = 1
  · have h := mit hs1 h
    refine mv_tabIn (tgt := 45) 1 dX10_count_1 hs1 (by decide) (by decide) rfl (by decide) ?_
    refine mw_aload_n dX10_count_45 0 rfl ?_
    refine ev_getI fd_RX10_61_9 dX10_count_46 rfl rfl ?_
    exact mw_iret dX10_count_49 rfl (ers_im h) rfl rfl
  have h := mie hs1 h
  by_cases hs2 : a1 = 2
  · have h := mit hs2 h
    refine mv_tabIn (tgt := 50) 2 dX10_count_1 hs2 (by decide) (by decide) rfl (by decide) ?_
    refine mw_aload_n dX10_count_50 0 rfl ?_
    refine ev_getI fd_RX10_117_9 dX10_count_51 rfl rfl ?_
    exact mw_iret dX10_count_54 rfl (ers_im h) rfl rfl
  have h := mie hs2 h
  by_cases hs3 : a1 = 3
  · have h := mit hs3 h
    refine mv_tabIn (tgt := 55) 3 dX10_count_1 hs3 (by decide) (by decide) rfl (by decide) ?_
    refine mw_aload_n dX10_count_55 0 rfl ?_
    refine ev_getI fd_RX10_61_9 dX10_count_56 rfl rfl ?_
    refine mw_aload_n dX10_count_59 0 rfl ?_
    obtain ⟨r1, e2, h⟩ := mbd h
    refine mv_callV_i (As := []) (ci := 9) lkV_RX10_157_yX10_openWays dX10_count_60 (k_X10_openWays e2) rfl rfl rfl rfl (Nat.le_of_ble_eq_true rfl) (by decide) (by decide) ?_
    obtain ⟨r3, e4, h⟩ := mbd h
    refine mv_callS_i (As := [.int r1]) lkS_RX10_203_yX10_bits dX10_count_63 (k_X10_bits e4) rfl rfl (Nat.le_of_ble_eq_true rfl) (by decide) (by decide) ?_
    refine mw_isub dX10_count_66 ?_
    exact mw_iret dX10_count_67 rfl (ers_im h) rfl rfl
  have h := mie hs3 h
  by_cases hs4 : a1 = 4
  · have h := mit hs4 h
    refine mv_tabIn (tgt := 68) 4 dX10_count_1 hs4 (by decide) (by decide) rfl (by decide) ?_
    refine mw_aload_n dX10_count_68 0 rfl ?_
    refine ev_getI fd_RX10_74_9 dX10_count_69 rfl rfl ?_
    exact mw_iret dX10_count_72 rfl (ers_im h) rfl rfl
  have h := mie hs4 h
  by_cases hs5 : a1 = 5
  · have h := mit hs5 h
    refine mv_tabIn (tgt := 73) 5 dX10_count_1 hs5 (by decide) (by decide) rfl (by decide) ?_
    refine mw_aload_n dX10_count_73 0 rfl ?_
    refine ev_getI fd_RX10_274_9 dX10_count_74 rfl rfl ?_
    exact mw_iret dX10_count_77 rfl (ers_im h) rfl rfl
  have h := mie hs5 h
  have g0 := mne32 hs0
  have g1 := mne32 hs1
  have g2 := mne32 hs2
  have g3 := mne32 hs3
  have g4 := mne32 hs4
  have g5 := mne32 hs5
  refine mv_tabOut (tgt := 78) dX10_count_1 (by simp only [mti_0, mti_1, mti_2, mti_3, mti_4, mti_5] at g0 g1 g2 g3 g4 g5; omega) (by decide) ?_
  refine mw_aload_n dX10_count_78 0 rfl ?_
  refine mw_iconst (v := 0) dX10_count_79 (by decide) ?_
  obtain ⟨r5, e6, h⟩ := mbd h
  refine mv_callV_i (As := [.int (0 : Int32)]) (ci := 9) lkV_RX10_81_yX10_finds dX10_count_80 (k_X10_finds e6) rfl rfl rfl rfl (Nat.le_of_ble_eq_true rfl) (by decide) (by decide) ?_
  exact mw_iret dX10_count_83 rfl (ers_im h) rfl rfl

theorem dX10_status_0 : decode cX10_status 0 = .ok (.iload_n 1, 1) := by decide +kernel
theorem dX10_status_1 : decode cX10_status 1 = .ok (.i2l, 1) := by decide +kernel
theorem dX10_status_2 : decode cX10_status 2 = .ok (.ldc2_w 120, 3) := by decide +kernel
theorem dX10_status_5 : decode cX10_status 5 = .ok (.ldc2_w 340, 3) := by decide +kernel
theorem dX10_status_8 : decode cX10_status 8 = .ok (.invokestatic 57, 3) := by decide +kernel
theorem dX10_status_11 : decode cX10_status 11 = .ok (.ifCond .ne 9, 3) := by decide +kernel
theorem dX10_status_14 : decode cX10_status 14 = .ok (.aload_n 0, 1) := by decide +kernel
theorem dX10_status_15 : decode cX10_status 15 = .ok (.iconst 0, 1) := by decide +kernel
theorem dX10_status_16 : decode cX10_status 16 = .ok (.invokevirtual 81, 3) := by decide +kernel
theorem dX10_status_19 : decode cX10_status 19 = .ok (.ireturn, 1) := by decide +kernel
theorem dX10_status_20 : decode cX10_status 20 = .ok (.iconst 0, 1) := by decide +kernel
theorem dX10_status_21 : decode cX10_status 21 = .ok (.istore_n 2, 1) := by decide +kernel
theorem dX10_status_22 : decode cX10_status 22 = .ok (.iconst 0, 1) := by decide +kernel
theorem dX10_status_23 : decode cX10_status 23 = .ok (.istore_n 3, 1) := by decide +kernel
theorem dX10_status_24 : decode cX10_status 24 = .ok (.iload_n 3, 1) := by decide +kernel
theorem dX10_status_25 : decode cX10_status 25 = .ok (.bipush 9, 2) := by decide +kernel
theorem dX10_status_27 : decode cX10_status 27 = .ok (.if_icmp .ge 31, 3) := by decide +kernel
theorem dX10_status_30 : decode cX10_status 30 = .ok (.iload_n 2, 1) := by decide +kernel
theorem dX10_status_31 : decode cX10_status 31 = .ok (.iload_n 1, 1) := by decide +kernel
theorem dX10_status_32 : decode cX10_status 32 = .ok (.ifCond .lt 8, 3) := by decide +kernel
theorem dX10_status_35 : decode cX10_status 35 = .ok (.iload_n 1, 1) := by decide +kernel
theorem dX10_status_36 : decode cX10_status 36 = .ok (.iload_n 3, 1) := by decide +kernel
theorem dX10_status_37 : decode cX10_status 37 = .ok (.if_icmp .ne 12, 3) := by decide +kernel
theorem dX10_status_40 : decode cX10_status 40 = .ok (.aload_n 0, 1) := by decide +kernel
theorem dX10_status_41 : decode cX10_status 41 = .ok (.getfield 9, 3) := by decide +kernel
theorem dX10_status_44 : decode cX10_status 44 = .ok (.iload_n 3, 1) := by decide +kernel
theorem dX10_status_45 : decode cX10_status 45 = .ok (.iaload, 1) := by decide +kernel
theorem dX10_status_46 : decode cX10_status 46 = .ok (.goto 4, 3) := by decide +kernel
theorem dX10_status_49 : decode cX10_status 49 = .ok (.iconst 0, 1) := by decide +kernel
theorem dX10_status_50 : decode cX10_status 50 = .ok (.iadd, 1) := by decide +kernel
theorem dX10_status_51 : decode cX10_status 51 = .ok (.istore_n 2, 1) := by decide +kernel
theorem dX10_status_52 : decode cX10_status 52 = .ok (.iinc 3 1, 3) := by decide +kernel
theorem dX10_status_55 : decode cX10_status 55 = .ok (.goto (-31), 3) := by decide +kernel
theorem dX10_status_58 : decode cX10_status 58 = .ok (.iload_n 2, 1) := by decide +kernel
theorem dX10_status_59 : decode cX10_status 59 = .ok (.ireturn, 1) := by decide +kernel
def e_X10_status_J40 (a1 : Int32) (k24 : Int32 → Int32 → ES → Option (Int32 × ES)) (x3 : Int32) (s0 : Int32) (σ : ES) : Option (Int32 × ES) := if mib x3 9 = true then (k24 (s0 + (eI σ 70 x3.toNatClampNeg)) (x3 + 1) σ) else none
set_option maxRecDepth 100000 in
set_option maxHeartbeats 4000000 in
theorem p_X10_status_J40 {l : Launch} {E : MX} {out : (Int32 × ES)} {a1 : Int32} {k24 : Int32 → Int32 → ES → Option (Int32 × ES)} (hk24 : ∀ (z0 : Int32) (z1 : Int32) (τ : ES), k24 z0 z1 τ = some out → MV l E cX10_status RX10 4 (some .int) 2 (82, (some (.int out.1)), mkS out.2) (mkS τ) 24 [(0, .ref 69), (1, .int a1), (2, .int z0), (3, .int z1)] []) {x3 : Int32} {s0 : Int32} {σ : ES} (h : e_X10_status_J40 a1 k24 x3 s0 σ = some out) : MV l E cX10_status RX10 4 (some .int) 2 (82, (some (.int out.1)), mkS out.2) (mkS σ) 40 [(0, .ref 69), (1, .int a1), (3, .int x3)] [.int s0] := by
  unfold e_X10_status_J40 at h
  refine mw_aload_n dX10_status_40 0 rfl ?_
  refine ev_getR (q := 70) fd_RX10_9_9 dX10_status_41 rfl rfl rfl ?_
  refine mw_iload_n dX10_status_44 2 rfl ?_
  obtain ⟨m1, h⟩ := mif h
  refine ev_iald dX10_status_45 (by decide) rfl m1 ?_
  refine mw_goto (tgt := 50) dX10_status_46 (by decide) ?_
  refine mw_iadd dX10_status_50 ?_
  refine mw_istore_n (L' := [(2, .int (s0 + (eI σ 70 x3.toNatClampNeg))), (0, .ref 69), (1, .int a1), (3, .int x3)]) dX10_status_51 rfl (by decide) rfl ?_
  refine mw_iinc (v := (x3 + 1)) (L' := [(3, .int (x3 + 1)), (2, .int (s0 + (eI σ 70 x3.toNatClampNeg))), (0, .ref 69), (1, .int a1)]) dX10_status_52 3 rfl rfl (by decide) rfl ?_
  refine mw_goto (tgt := 24) dX10_status_55 (by decide) ?_
  exact mw_sub (L' := [(0, .ref 69), (1, .int a1), (2, .int (s0 + (eI σ 70 x3.toNatClampNeg))), (3, .int (x3 + 1))]) [2, 3, 1, 0] rfl (hk24 _ _ _ h)
def e_X10_status_L24 (a1 : Int32) : Nat → Int32 → Int32 → ES → Option (Int32 × ES)
  | 0, _, _, _ => none
  | n + 1, x2, x3, σ => if (9 : Int32) ≤ x3 then (some (x2, σ)) else (if a1 < 0 then (e_X10_status_J40 a1 (e_X10_status_L24 a1 n) x3 x2 σ) else (if a1 = x3 then (e_X10_status_J40 a1 (e_X10_status_L24 a1 n) x3 x2 σ) else (e_X10_status_L24 a1 n (x2 + (0 : Int32)) (x3 + 1) σ)))
set_option maxRecDepth 100000 in
set_option maxHeartbeats 4000000 in
theorem p_X10_status_L24 {l : Launch} {E : MX} {out : (Int32 × ES)} {a1 : Int32}  : ∀ (n : Nat) (x2 : Int32) (x3 : Int32) (σ : ES), e_X10_status_L24 a1 n x2 x3 σ = some out → MV l E cX10_status RX10 4 (some .int) 2 (82, (some (.int out.1)), mkS out.2) (mkS σ) 24 [(0, .ref 69), (1, .int a1), (2, .int x2), (3, .int x3)] [] := by
  intro n
  induction n with
  | zero =>
    intro x2 x3 σ h
    exact nomatch h
  | succ n ih =>
    intro x2 x3 σ h
    rw [e_X10_status_L24] at h
    refine mw_iload_n dX10_status_24 3 rfl ?_
    refine mw_bipush (v := 9) dX10_status_25 (by decide) ?_
    refine mw_icmp_ge (tgt := 58) dX10_status_27 (by decide) (fun hc => ?_) (fun hc => ?_)
    · have h := mit hc h
      refine mw_iload_n dX10_status_58 2 rfl ?_
      exact mw_iret dX10_status_59 rfl (ers_im h) rfl rfl
    · have h := mie hc h
      refine mw_iload_n dX10_status_30 2 rfl ?_
      refine mw_iload_n dX10_status_31 1 rfl ?_
      refine mw_if_lt (tgt := 40) dX10_status_32 (by decide) (fun hc => ?_) (fun hc => ?_)
      · have h := mit hc h
        exact mw_sub (L' := [(0, .ref 69), (1, .int a1), (3, .int x3)]) [0, 1, 3] rfl (p_X10_status_J40 ih h)
      · have h := mie hc h
        refine mw_iload_n dX10_status_35 1 rfl ?_
        refine mw_iload_n dX10_status_36 3 rfl ?_
        refine mw_icmp_ne (tgt := 49) dX10_status_37 (by decide) (fun hc => ?_) (fun hc => ?_)
        · have h := mie hc h
          refine mw_iconst (v := 0) dX10_status_49 (by decide) ?_
          refine mw_iadd dX10_status_50 ?_
          refine mw_istore_n (L' := [(2, .int (x2 + (0 : Int32))), (0, .ref 69), (1, .int a1), (3, .int x3)]) dX10_status_51 rfl (by decide) rfl ?_
          refine mw_iinc (v := (x3 + 1)) (L' := [(3, .int (x3 + 1)), (2, .int (x2 + (0 : Int32))), (0, .ref 69), (1, .int a1)]) dX10_status_52 3 rfl rfl (by decide) rfl ?_
          refine mw_goto (tgt := 24) dX10_status_55 (by decide) ?_
          exact mw_sub (L' := [(0, .ref 69), (1, .int a1), (2, .int (x2 + (0 : Int32))), (3, .int (x3 + 1))]) [2, 3, 1, 0] rfl (ih _ _ _ h)
        · have h := mit hc h
          exact mw_sub (L' := [(0, .ref 69), (1, .int a1), (3, .int x3)]) [0, 1, 3] rfl (p_X10_status_J40 ih h)
def e_X10_status (a1 : Int32) (σ : ES) : Option (Int32 × ES) := (e_X10_in a1.toInt64 (-1 : Int64) (8 : Int64)).bind (fun r1 => if r1 = 0 then ((e_X10_finds (0 : Int32) σ).bind (fun r3 => some (r3.1, r3.2))) else (e_X10_status_L24 a1 mN (0 : Int32) (0 : Int32) σ))
set_option maxRecDepth 100000 in
set_option maxHeartbeats 4000000 in
theorem k_X10_status {l : Launch} {σ : ES} {a1 : Int32} {out : (Int32 × ES)} (h : e_X10_status a1 σ = some out) : MK l yX10_status cX10_status 4 (some .int) 2 [.ref 69, .int a1] (mkS σ) (some (.int out.1)) (mkS out.2) := by
  unfold e_X10_status at h
  refine mw_entry (own := RX10) (ini := false) (L := [(0, .ref 69), (1, .int a1)]) (by decide +kernel) rfl (fun h => nomatch h) rfl (Nat.le_of_ble_eq_true rfl) (Nat.le_of_ble_eq_true rfl) (fun E => ?_)
  refine mw_iload_n dX10_status_0 1 rfl ?_
  refine mw_i2l dX10_status_1 ?_
  refine mw_ldc2 dX10_status_2 wt_637 ?_
  refine mw_ldc2 dX10_status_5 wt_833 ?_
  obtain ⟨r1, e2, h⟩ := mbd h
  refine mv_callS_i (As := [.long a1.toInt64, .long (-1 : Int64), .long (8 : Int64)]) lkS_RX10_57_yX10_in dX10_status_8 (k_X10_in e2) rfl rfl (Nat.le_of_ble_eq_true rfl) (by decide) (by decide) ?_
  refine mw_if_ne (tgt := 20) dX10_status_11 (by decide) (fun hc => ?_) (fun hc => ?_)
  · have h := mie hc h
    refine mw_iconst (v := 0) dX10_status_20 (by decide) ?_
    refine mw_istore_n (L' := [(2, .int (0 : Int32)), (0, .ref 69), (1, .int a1)]) dX10_status_21 rfl (by decide) rfl ?_
    refine mw_iconst (v := 0) dX10_status_22 (by decide) ?_
    refine mw_istore_n (L' := [(3, .int (0 : Int32)), (2, .int (0 : Int32)), (0, .ref 69), (1, .int a1)]) dX10_status_23 rfl (by decide) rfl ?_
    exact mw_sub (L' := [(0, .ref 69), (1, .int a1), (2, .int (0 : Int32)), (3, .int (0 : Int32))]) [2, 3, 1, 0] rfl (p_X10_status_L24  mN _ _ _ h)
  · have h := mit hc h
    refine mw_aload_n dX10_status_14 0 rfl ?_
    refine mw_iconst (v := 0) dX10_status_15 (by decide) ?_
    obtain ⟨r3, e4, h⟩ := mbd h
    refine mv_callV_i (As := [.int (0 : Int32)]) (ci := 9) lkV_RX10_81_yX10_finds dX10_status_16 (k_X10_finds e4) rfl rfl rfl rfl (Nat.le_of_ble_eq_true rfl) (by decide) (by decide) ?_
    exact mw_iret dX10_status_19 rfl (ers_im h) rfl rfl
