/-! ===== methods as functions, and that the machine does so (written by gen/all.py) ===== -/
theorem dX10_load_0 : decode cX10_load 0 = .ok (.iload_n 2, 1) := by decide +kernel
theorem dX10_load_1 : decode cX10_load 1 = .ok (.i2l, 1) := by decide +kernel
theorem dX10_load_2 : decode cX10_load 2 = .ok (.lconst 0, 1) := by decide +kernel
theorem dX10_load_3 : decode cX10_load 3 = .ok (.ldc2_w 253, 3) := by decide +kernel
theorem dX10_load_6 : decode cX10_load 6 = .ok (.invokestatic 57, 3) := by decide +kernel
theorem dX10_load_9 : decode cX10_load 9 = .ok (.ifCond .eq 17, 3) := by decide +kernel
theorem dX10_load_12 : decode cX10_load 12 = .ok (.iload_n 1, 1) := by decide +kernel
theorem dX10_load_13 : decode cX10_load 13 = .ok (.i2l, 1) := by decide +kernel
theorem dX10_load_14 : decode cX10_load 14 = .ok (.lconst 1, 1) := by decide +kernel
theorem dX10_load_15 : decode cX10_load 15 = .ok (.aload_n 0, 1) := by decide +kernel
theorem dX10_load_16 : decode cX10_load 16 = .ok (.getfield 117, 3) := by decide +kernel
theorem dX10_load_19 : decode cX10_load 19 = .ok (.i2l, 1) := by decide +kernel
theorem dX10_load_20 : decode cX10_load 20 = .ok (.invokestatic 57, 3) := by decide +kernel
theorem dX10_load_23 : decode cX10_load 23 = .ok (.ifCond .ne 9, 3) := by decide +kernel
theorem dX10_load_26 : decode cX10_load 26 = .ok (.aload_n 0, 1) := by decide +kernel
theorem dX10_load_27 : decode cX10_load 27 = .ok (.iconst 0, 1) := by decide +kernel
theorem dX10_load_28 : decode cX10_load 28 = .ok (.invokevirtual 165, 3) := by decide +kernel
theorem dX10_load_31 : decode cX10_load 31 = .ok (.lreturn, 1) := by decide +kernel
theorem dX10_load_32 : decode cX10_load 32 = .ok (.aload_n 0, 1) := by decide +kernel
theorem dX10_load_33 : decode cX10_load 33 = .ok (.iconst 2, 1) := by decide +kernel
theorem dX10_load_34 : decode cX10_load 34 = .ok (.putfield 212, 3) := by decide +kernel
theorem dX10_load_37 : decode cX10_load 37 = .ok (.aload_n 0, 1) := by decide +kernel
theorem dX10_load_38 : decode cX10_load 38 = .ok (.iload_n 1, 1) := by decide +kernel
theorem dX10_load_39 : decode cX10_load 39 = .ok (.putfield 215, 3) := by decide +kernel
theorem dX10_load_42 : decode cX10_load 42 = .ok (.aload_n 0, 1) := by decide +kernel
theorem dX10_load_43 : decode cX10_load 43 = .ok (.iload_n 2, 1) := by decide +kernel
theorem dX10_load_44 : decode cX10_load 44 = .ok (.invokevirtual 255, 3) := by decide +kernel
theorem dX10_load_47 : decode cX10_load 47 = .ok (.lreturn, 1) := by decide +kernel
def f_X10_load (a0 : Nat) (a1 : Int32) (a2 : Int32) (σ : MSt) : Option (Int64 × MSt) := (f_X10_in a2.toInt64 (0 : Int64) (3 : Int64)).bind (fun r1 => if r1 = 0 then ((f_X10_farFinds a0 (0 : Int32) σ).bind (fun r3 => if mob 9 a0 = true then (some (r3.1, r3.2)) else none)) else (if mob 9 a0 = true then ((f_X10_in a1.toInt64 (1 : Int64) ((mmI σ a0 5).toInt64)).bind (fun r7 => if r7 = 0 then ((f_X10_farFinds a0 (0 : Int32) σ).bind (fun r11 => some (r11.1, r11.2))) else ((f_X10_told a0 a2 (muI (muI σ a0 16 (2 : Int32)) a0 19 a1)).bind (fun r9 => some (r9.1, r9.2))))) else none))
set_option maxRecDepth 100000 in
set_option maxHeartbeats 4000000 in
theorem k_X10_load {l : Launch} {σ : MSt} {a0 : Nat} {a1 : Int32} {a2 : Int32} {out : (Int64 × MSt)} (h : f_X10_load a0 a1 a2 σ = some out) : MK l yX10_load cX10_load 3 (some .long) 8 [.ref a0, .int a1, .int a2] σ (some (.long out.1)) out.2 := by
  unfold f_X10_load at h
  refine mw_entry (own := RX10) (ini := false) (L := [(0, .ref a0), (1, .int a1), (2, .int a2)]) (by decide +kernel) rfl (fun h => nomatch h) rfl (Nat.le_of_ble_eq_true rfl) (Nat.le_of_ble_eq_true rfl) (fun E => ?_)
  refine mw_iload_n dX10_load_0 2 rfl ?_
  refine mw_i2l dX10_load_1 ?_
  refine mw_lconst (v := 0) dX10_load_2 (by decide) ?_
  refine mw_ldc2 dX10_load_3 wt_697 ?_
  obtain ⟨r1, e2, h⟩ := mbd h
  refine mv_callS_i (As := [.long a2.toInt64, .long (0 : Int64), .long (3 : Int64)]) lkS_RX10_57_yX10_in dX10_load_6 (k_X10_in e2) rfl rfl (Nat.le_of_ble_eq_true rfl) (by decide) (by decide) ?_
  refine mw_if_eq (tgt := 26) dX10_load_9 (by decide) (fun hc => ?_) (fun hc => ?_)
  · have h := mit hc h
    refine mw_aload_n dX10_load_26 0 rfl ?_
    refine mw_iconst (v := 0) dX10_load_27 (by decide) ?_
    obtain ⟨r3, e4, h⟩ := mbd h
    obtain ⟨m5, h⟩ := mif h
    refine mv_callV_l (As := [.int (0 : Int32)]) lkV_RX10_165_yX10_farFinds dX10_load_28 (k_X10_farFinds e4) rfl m5 rfl rfl (Nat.le_of_ble_eq_true rfl) (by decide) (by decide) ?_
    exact mw_lret dX10_load_31 rfl (mrs_lm h) rfl rfl
  · have h := mie hc h
    refine mw_iload_n dX10_load_12 1 rfl ?_
    refine mw_i2l dX10_load_13 ?_
    refine mw_lconst (v := 1) dX10_load_14 (by decide) ?_
    refine mw_aload_n dX10_load_15 0 rfl ?_
    obtain ⟨m6, h⟩ := mif h
    refine mv_getI fd_RX10_117_9 dX10_load_16 m6 rfl ?_
    refine mw_i2l dX10_load_19 ?_
    obtain ⟨r7, e8, h⟩ := mbd h
    refine mv_callS_i (As := [.long a1.toInt64, .long (1 : Int64), .long (mmI σ a0 5).toInt64]) lkS_RX10_57_yX10_in dX10_load_20 (k_X10_in e8) rfl rfl (Nat.le_of_ble_eq_true rfl) (by decide) (by decide) ?_
    refine mw_if_ne (tgt := 32) dX10_load_23 (by decide) (fun hc => ?_) (fun hc => ?_)
    · have h := mie hc h
      refine mw_aload_n dX10_load_32 0 rfl ?_
      refine mw_iconst (v := 2) dX10_load_33 (by decide) ?_
      refine mv_putI fw_RX10_212_9 dX10_load_34 m6 rfl ?_
      refine mw_aload_n dX10_load_37 0 rfl ?_
      refine mw_iload_n dX10_load_38 1 rfl ?_
      refine mv_putI fw_RX10_215_9 dX10_load_39 m6 rfl ?_
      refine mw_aload_n dX10_load_42 0 rfl ?_
      refine mw_iload_n dX10_load_43 2 rfl ?_
      obtain ⟨r9, e10, h⟩ := mbd h
      refine mv_callV_l (As := [.int a2]) lkV_RX10_255_yX10_told dX10_load_44 (k_X10_told e10) rfl m6 rfl rfl (Nat.le_of_ble_eq_true rfl) (by decide) (by decide) ?_
      exact mw_lret dX10_load_47 rfl (mrs_lm h) rfl rfl
    · have h := mit hc h
      refine mw_aload_n dX10_load_26 0 rfl ?_
      refine mw_iconst (v := 0) dX10_load_27 (by decide) ?_
      obtain ⟨r11, e12, h⟩ := mbd h
      refine mv_callV_l (As := [.int (0 : Int32)]) lkV_RX10_165_yX10_farFinds dX10_load_28 (k_X10_farFinds e12) rfl m6 rfl rfl (Nat.le_of_ble_eq_true rfl) (by decide) (by decide) ?_
      exact mw_lret dX10_load_31 rfl (mrs_lm h) rfl rfl

theorem dX10_ratio_0 : decode cX10_ratio 0 = .ok (.iload_n 1, 1) := by decide +kernel
theorem dX10_ratio_1 : decode cX10_ratio 1 = .ok (.i2l, 1) := by decide +kernel
theorem dX10_ratio_2 : decode cX10_ratio 2 = .ok (.lconst 0, 1) := by decide +kernel
theorem dX10_ratio_3 : decode cX10_ratio 3 = .ok (.ldc2_w 77, 3) := by decide +kernel
theorem dX10_ratio_6 : decode cX10_ratio 6 = .ok (.invokestatic 57, 3) := by decide +kernel
theorem dX10_ratio_9 : decode cX10_ratio 9 = .ok (.ifCond .eq 13, 3) := by decide +kernel
theorem dX10_ratio_12 : decode cX10_ratio 12 = .ok (.iload_n 3, 1) := by decide +kernel
theorem dX10_ratio_13 : decode cX10_ratio 13 = .ok (.i2l, 1) := by decide +kernel
theorem dX10_ratio_14 : decode cX10_ratio 14 = .ok (.lconst 0, 1) := by decide +kernel
theorem dX10_ratio_15 : decode cX10_ratio 15 = .ok (.lconst 1, 1) := by decide +kernel
theorem dX10_ratio_16 : decode cX10_ratio 16 = .ok (.invokestatic 57, 3) := by decide +kernel
theorem dX10_ratio_19 : decode cX10_ratio 19 = .ok (.ifCond .ne 9, 3) := by decide +kernel
theorem dX10_ratio_22 : decode cX10_ratio 22 = .ok (.aload_n 0, 1) := by decide +kernel
theorem dX10_ratio_23 : decode cX10_ratio 23 = .ok (.iconst 0, 1) := by decide +kernel
theorem dX10_ratio_24 : decode cX10_ratio 24 = .ok (.invokevirtual 165, 3) := by decide +kernel
theorem dX10_ratio_27 : decode cX10_ratio 27 = .ok (.lreturn, 1) := by decide +kernel
theorem dX10_ratio_28 : decode cX10_ratio 28 = .ok (.aload_n 0, 1) := by decide +kernel
theorem dX10_ratio_29 : decode cX10_ratio 29 = .ok (.iload_n 1, 1) := by decide +kernel
theorem dX10_ratio_30 : decode cX10_ratio 30 = .ok (.putfield 212, 3) := by decide +kernel
theorem dX10_ratio_33 : decode cX10_ratio 33 = .ok (.aload_n 0, 1) := by decide +kernel
theorem dX10_ratio_34 : decode cX10_ratio 34 = .ok (.iload_n 2, 1) := by decide +kernel
theorem dX10_ratio_35 : decode cX10_ratio 35 = .ok (.invokestatic 203, 3) := by decide +kernel
theorem dX10_ratio_38 : decode cX10_ratio 38 = .ok (.putfield 215, 3) := by decide +kernel
theorem dX10_ratio_41 : decode cX10_ratio 41 = .ok (.iload_n 2, 1) := by decide +kernel
theorem dX10_ratio_42 : decode cX10_ratio 42 = .ok (.i2l, 1) := by decide +kernel
theorem dX10_ratio_43 : decode cX10_ratio 43 = .ok (.lconst 1, 1) := by decide +kernel
theorem dX10_ratio_44 : decode cX10_ratio 44 = .ok (.aload_n 0, 1) := by decide +kernel
theorem dX10_ratio_45 : decode cX10_ratio 45 = .ok (.invokevirtual 227, 3) := by decide +kernel
theorem dX10_ratio_48 : decode cX10_ratio 48 = .ok (.iconst 1, 1) := by decide +kernel
theorem dX10_ratio_49 : decode cX10_ratio 49 = .ok (.isub, 1) := by decide +kernel
theorem dX10_ratio_50 : decode cX10_ratio 50 = .ok (.i2l, 1) := by decide +kernel
theorem dX10_ratio_51 : decode cX10_ratio 51 = .ok (.invokestatic 57, 3) := by decide +kernel
theorem dX10_ratio_54 : decode cX10_ratio 54 = .ok (.ifCond .eq 11, 3) := by decide +kernel
theorem dX10_ratio_57 : decode cX10_ratio 57 = .ok (.aload_n 0, 1) := by decide +kernel
theorem dX10_ratio_58 : decode cX10_ratio 58 = .ok (.iload_n 2, 1) := by decide +kernel
theorem dX10_ratio_59 : decode cX10_ratio 59 = .ok (.invokevirtual 230, 3) := by decide +kernel
theorem dX10_ratio_62 : decode cX10_ratio 62 = .ok (.ifCond .ne 9, 3) := by decide +kernel
theorem dX10_ratio_65 : decode cX10_ratio 65 = .ok (.aload_n 0, 1) := by decide +kernel
theorem dX10_ratio_66 : decode cX10_ratio 66 = .ok (.iconst 4, 1) := by decide +kernel
theorem dX10_ratio_67 : decode cX10_ratio 67 = .ok (.invokevirtual 165, 3) := by decide +kernel
theorem dX10_ratio_70 : decode cX10_ratio 70 = .ok (.lreturn, 1) := by decide +kernel
theorem dX10_ratio_71 : decode cX10_ratio 71 = .ok (.aload_n 0, 1) := by decide +kernel
theorem dX10_ratio_72 : decode cX10_ratio 72 = .ok (.iload_n 2, 1) := by decide +kernel
theorem dX10_ratio_73 : decode cX10_ratio 73 = .ok (.invokevirtual 233, 3) := by decide +kernel
theorem dX10_ratio_76 : decode cX10_ratio 76 = .ok (.aload_n 0, 1) := by decide +kernel
theorem dX10_ratio_77 : decode cX10_ratio 77 = .ok (.iload_n 2, 1) := by decide +kernel
theorem dX10_ratio_78 : decode cX10_ratio 78 = .ok (.invokevirtual 236, 3) := by decide +kernel
theorem dX10_ratio_81 : decode cX10_ratio 81 = .ok (.iload_n 3, 1) := by decide +kernel
theorem dX10_ratio_82 : decode cX10_ratio 82 = .ok (.invokestatic 173, 3) := by decide +kernel
theorem dX10_ratio_85 : decode cX10_ratio 85 = .ok (.lreturn, 1) := by decide +kernel
def f_X10_ratio (a0 : Nat) (a1 : Int32) (a2 : Int32) (a3 : Int32) (σ : MSt) : Option (Int64 × MSt) := (f_X10_in a1.toInt64 (0 : Int64) (2 : Int64)).bind (fun r1 => if r1 = 0 then ((f_X10_farFinds a0 (0 : Int32) σ).bind (fun r3 => if mob 9 a0 = true then (some (r3.1, r3.2)) else none)) else ((f_X10_in a3.toInt64 (0 : Int64) (1 : Int64)).bind (fun r6 => if r6 = 0 then ((f_X10_farFinds a0 (0 : Int32) σ).bind (fun r27 => if mob 9 a0 = true then (some (r27.1, r27.2)) else none)) else (if mob 9 a0 = true then ((f_X10_bits a2).bind (fun r9 => (f_X10_allSets (muI (muI σ a0 16 a1) a0 19 r9) a0).bind (fun r11 => (f_X10_in a2.toInt64 (1 : Int64) ((r11 - (1 : Int32)).toInt64)).bind (fun r13 => if r13 = 0 then ((f_X10_farFinds a0 (4 : Int32) (muI (muI σ a0 16 a1) a0 19 r9)).bind (fun r15 => some (r15.1, r15.2))) else ((f_X10_isChoice (muI (muI σ a0 16 a1) a0 19 r9) a0 a2).bind (fun r17 => if r17 = 0 then ((f_X10_farFinds a0 (4 : Int32) (muI (muI σ a0 16 a1) a0 19 r9)).bind (fun r25 => some (r25.1, r25.2))) else ((f_X10_aboveOf (muI (muI σ a0 16 a1) a0 19 r9) a0 a2).bind (fun r19 => (f_X10_belowOf (muI (muI σ a0 16 a1) a0 19 r9) a0 a2).bind (fun r21 => (f_X10_lowest r19 r21 a3).bind (fun r23 => some (r23, (muI (muI σ a0 16 a1) a0 19 r9)))))))))))) else none))))
set_option maxRecDepth 100000 in
set_option maxHeartbeats 4000000 in
theorem k_X10_ratio {l : Launch} {σ : MSt} {a0 : Nat} {a1 : Int32} {a2 : Int32} {a3 : Int32} {out : (Int64 × MSt)} (h : f_X10_ratio a0 a1 a2 a3 σ = some out) : MK l yX10_ratio cX10_ratio 4 (some .long) 5 [.ref a0, .int a1, .int a2, .int a3] σ (some (.long out.1)) out.2 := by
  unfold f_X10_ratio at h
  refine mw_entry (own := RX10) (ini := false) (L := [(0, .ref a0), (1, .int a1), (2, .int a2), (3, .int a3)]) (by decide +kernel) rfl (fun h => nomatch h) rfl (Nat.le_of_ble_eq_true rfl) (Nat.le_of_ble_eq_true rfl) (fun E => ?_)
  refine mw_iload_n dX10_ratio_0 1 rfl ?_
  refine mw_i2l dX10_ratio_1 ?_
  refine mw_lconst (v := 0) dX10_ratio_2 (by decide) ?_
  refine mw_ldc2 dX10_ratio_3 wt_589 ?_
  obtain ⟨r1, e2, h⟩ := mbd h
  refine mv_callS_i (As := [.long a1.toInt64, .long (0 : Int64), .long (2 : Int64)]) lkS_RX10_57_yX10_in dX10_ratio_6 (k_X10_in e2) rfl rfl (Nat.le_of_ble_eq_true rfl) (by decide) (by decide) ?_
  refine mw_if_eq (tgt := 22) dX10_ratio_9 (by decide) (fun hc => ?_) (fun hc => ?_)
  · have h := mit hc h
    refine mw_aload_n dX10_ratio_22 0 rfl ?_
    refine mw_iconst (v := 0) dX10_ratio_23 (by decide) ?_
    obtain ⟨r3, e4, h⟩ := mbd h
    obtain ⟨m5, h⟩ := mif h
    refine mv_callV_l (As := [.int (0 : Int32)]) lkV_RX10_165_yX10_farFinds dX10_ratio_24 (k_X10_farFinds e4) rfl m5 rfl rfl (Nat.le_of_ble_eq_true rfl) (by decide) (by decide) ?_
    exact mw_lret dX10_ratio_27 rfl (mrs_lm h) rfl rfl
  · have h := mie hc h
    refine mw_iload_n dX10_ratio_12 3 rfl ?_
    refine mw_i2l dX10_ratio_13 ?_
    refine mw_lconst (v := 0) dX10_ratio_14 (by decide) ?_
    refine mw_lconst (v := 1) dX10_ratio_15 (by decide) ?_
    obtain ⟨r6, e7, h⟩ := mbd h
    refine mv_callS_i (As := [.long a3.toInt64, .long (0 : Int64), .long (1 : Int64)]) lkS_RX10_57_yX10_in dX10_ratio_16 (k_X10_in e7) rfl rfl (Nat.le_of_ble_eq_true rfl) (by decide) (by decide) ?_
    refine mw_if_ne (tgt := 28) dX10_ratio_19 (by decide) (fun hc => ?_) (fun hc => ?_)
    · have h := mie hc h
      refine mw_aload_n dX10_ratio_28 0 rfl ?_
      refine mw_iload_n dX10_ratio_29 1 rfl ?_
      obtain ⟨m8, h⟩ := mif h
      refine mv_putI fw_RX10_212_9 dX10_ratio_30 m8 rfl ?_
      refine mw_aload_n dX10_ratio_33 0 rfl ?_
      refine mw_iload_n dX10_ratio_34 2 rfl ?_
      obtain ⟨r9, e10, h⟩ := mbd h
      refine mv_callS_i (As := [.int a2]) lkS_RX10_203_yX10_bits dX10_ratio_35 (k_X10_bits e10) rfl rfl (Nat.le_of_ble_eq_true rfl) (by decide) (by decide) ?_
      refine mv_putI fw_RX10_215_9 dX10_ratio_38 m8 rfl ?_
      refine mw_iload_n dX10_ratio_41 2 rfl ?_
      refine mw_i2l dX10_ratio_42 ?_
      refine mw_lconst (v := 1) dX10_ratio_43 (by decide) ?_
      refine mw_aload_n dX10_ratio_44 0 rfl ?_
      obtain ⟨r11, e12, h⟩ := mbd h
      refine mv_callV_i (As := []) lkV_RX10_227_yX10_allSets dX10_ratio_45 (k_X10_allSets e12) rfl m8 rfl rfl (Nat.le_of_ble_eq_true rfl) (by decide) (by decide) ?_
      refine mw_iconst (v := 1) dX10_ratio_48 (by decide) ?_
      refine mw_isub dX10_ratio_49 ?_
      refine mw_i2l dX10_ratio_50 ?_
      obtain ⟨r13, e14, h⟩ := mbd h
      refine mv_callS_i (As := [.long a2.toInt64, .long (1 : Int64), .long (r11 - (1 : Int32)).toInt64]) lkS_RX10_57_yX10_in dX10_ratio_51 (k_X10_in e14) rfl rfl (Nat.le_of_ble_eq_true rfl) (by decide) (by decide) ?_
      refine mw_if_eq (tgt := 65) dX10_ratio_54 (by decide) (fun hc => ?_) (fun hc => ?_)
      · have h := mit hc h
        refine mw_aload_n dX10_ratio_65 0 rfl ?_
        refine mw_iconst (v := 4) dX10_ratio_66 (by decide) ?_
        obtain ⟨r15, e16, h⟩ := mbd h
        refine mv_callV_l (As := [.int (4 : Int32)]) lkV_RX10_165_yX10_farFinds dX10_ratio_67 (k_X10_farFinds e16) rfl m8 rfl rfl (Nat.le_of_ble_eq_true rfl) (by decide) (by decide) ?_
        exact mw_lret dX10_ratio_70 rfl (mrs_lm h) rfl rfl
      · have h := mie hc h
        refine mw_aload_n dX10_ratio_57 0 rfl ?_
        refine mw_iload_n dX10_ratio_58 2 rfl ?_
        obtain ⟨r17, e18, h⟩ := mbd h
        refine mv_callV_i (As := [.int a2]) lkV_RX10_230_yX10_isChoice dX10_ratio_59 (k_X10_isChoice e18) rfl m8 rfl rfl (Nat.le_of_ble_eq_true rfl) (by decide) (by decide) ?_
        refine mw_if_ne (tgt := 71) dX10_ratio_62 (by decide) (fun hc => ?_) (fun hc => ?_)
        · have h := mie hc h
          refine mw_aload_n dX10_ratio_71 0 rfl ?_
          refine mw_iload_n dX10_ratio_72 2 rfl ?_
          obtain ⟨r19, e20, h⟩ := mbd h
          refine mv_callV_l (As := [.int a2]) lkV_RX10_233_yX10_aboveOf dX10_ratio_73 (k_X10_aboveOf e20) rfl m8 rfl rfl (Nat.le_of_ble_eq_true rfl) (by decide) (by decide) ?_
          refine mw_aload_n dX10_ratio_76 0 rfl ?_
          refine mw_iload_n dX10_ratio_77 2 rfl ?_
          obtain ⟨r21, e22, h⟩ := mbd h
          refine mv_callV_l (As := [.int a2]) lkV_RX10_236_yX10_belowOf dX10_ratio_78 (k_X10_belowOf e22) rfl m8 rfl rfl (Nat.le_of_ble_eq_true rfl) (by decide) (by decide) ?_
          refine mw_iload_n dX10_ratio_81 3 rfl ?_
          obtain ⟨r23, e24, h⟩ := mbd h
          refine mv_callS_l (As := [.long r19, .long r21, .int a3]) lkS_RX10_173_yX10_lowest dX10_ratio_82 (k_X10_lowest e24) rfl rfl (Nat.le_of_ble_eq_true rfl) (by decide) (by decide) ?_
          exact mw_lret dX10_ratio_85 rfl (mrs_lm h) rfl rfl
        · have h := mit hc h
          refine mw_aload_n dX10_ratio_65 0 rfl ?_
          refine mw_iconst (v := 4) dX10_ratio_66 (by decide) ?_
          obtain ⟨r25, e26, h⟩ := mbd h
          refine mv_callV_l (As := [.int (4 : Int32)]) lkV_RX10_165_yX10_farFinds dX10_ratio_67 (k_X10_farFinds e26) rfl m8 rfl rfl (Nat.le_of_ble_eq_true rfl) (by decide) (by decide) ?_
          exact mw_lret dX10_ratio_70 rfl (mrs_lm h) rfl rfl
    · have h := mit hc h
      refine mw_aload_n dX10_ratio_22 0 rfl ?_
      refine mw_iconst (v := 0) dX10_ratio_23 (by decide) ?_
      obtain ⟨r27, e28, h⟩ := mbd h
      obtain ⟨m29, h⟩ := mif h
      refine mv_callV_l (As := [.int (0 : Int32)]) lkV_RX10_165_yX10_farFinds dX10_ratio_24 (k_X10_farFinds e28) rfl m29 rfl rfl (Nat.le_of_ble_eq_true rfl) (by decide) (by decide) ?_
      exact mw_lret dX10_ratio_27 rfl (mrs_lm h) rfl rfl

theorem dX10_isSheet_0 : decode cX10_isSheet 0 = .ok (.iload_n 0, 1) := by decide +kernel
theorem dX10_isSheet_1 : decode cX10_isSheet 1 = .ok (.i2l, 1) := by decide +kernel
theorem dX10_isSheet_2 : decode cX10_isSheet 2 = .ok (.lconst 0, 1) := by decide +kernel
theorem dX10_isSheet_3 : decode cX10_isSheet 3 = .ok (.ldc2_w 253, 3) := by decide +kernel
theorem dX10_isSheet_6 : decode cX10_isSheet 6 = .ok (.invokestatic 57, 3) := by decide +kernel
theorem dX10_isSheet_9 : decode cX10_isSheet 9 = .ok (.ireturn, 1) := by decide +kernel
def f_X10_isSheet (a0 : Int32) : Option Int32 := (f_X10_in a0.toInt64 (0 : Int64) (3 : Int64)).bind (fun r1 => if r1 = 0 ∨ r1 = 1 then (some r1) else none)
set_option maxRecDepth 100000 in
set_option maxHeartbeats 4000000 in
theorem k_X10_isSheet {l : Launch} {σ : MSt} {a0 : Int32} {out : Int32} (h : f_X10_isSheet a0 = some out) : MK l yX10_isSheet cX10_isSheet 1 (some .boolean) 2 [.int a0] σ (some (.int out)) σ := by
  unfold f_X10_isSheet at h
  refine mw_entry (own := RX10) (ini := false) (L := [(0, .int a0)]) (by decide +kernel) rfl (fun h => nomatch h) rfl (Nat.le_of_ble_eq_true rfl) (Nat.le_of_ble_eq_true rfl) (fun E => ?_)
  refine mw_iload_n dX10_isSheet_0 0 rfl ?_
  refine mw_i2l dX10_isSheet_1 ?_
  refine mw_lconst (v := 0) dX10_isSheet_2 (by decide) ?_
  refine mw_ldc2 dX10_isSheet_3 wt_697 ?_
  obtain ⟨r1, e2, h⟩ := mbd h
  refine mv_callS_i (As := [.long a0.toInt64, .long (0 : Int64), .long (3 : Int64)]) lkS_RX10_57_yX10_in dX10_isSheet_6 (k_X10_in e2) rfl rfl (Nat.le_of_ble_eq_true rfl) (by decide) (by decide) ?_
  obtain ⟨m3, h⟩ := mif h
  exact mw_zret dX10_isSheet_9 rfl m3 (mrs_i h) rfl rfl

theorem dX10_wrong_0 : decode cX10_wrong 0 = .ok (.iload_n 1, 1) := by decide +kernel
theorem dX10_wrong_1 : decode cX10_wrong 1 = .ok (.invokestatic 258, 3) := by decide +kernel
theorem dX10_wrong_4 : decode cX10_wrong 4 = .ok (.ifCond .ne 5, 3) := by decide +kernel
theorem dX10_wrong_7 : decode cX10_wrong 7 = .ok (.iconst 0, 1) := by decide +kernel
theorem dX10_wrong_8 : decode cX10_wrong 8 = .ok (.ireturn, 1) := by decide +kernel
theorem dX10_wrong_9 : decode cX10_wrong 9 = .ok (.aload_n 0, 1) := by decide +kernel
theorem dX10_wrong_10 : decode cX10_wrong 10 = .ok (.getfield 32, 3) := by decide +kernel
theorem dX10_wrong_13 : decode cX10_wrong 13 = .ok (.iload_n 1, 1) := by decide +kernel
theorem dX10_wrong_14 : decode cX10_wrong 14 = .ok (.iaload, 1) := by decide +kernel
theorem dX10_wrong_15 : decode cX10_wrong 15 = .ok (.ifCond .ne 5, 3) := by decide +kernel
theorem dX10_wrong_18 : decode cX10_wrong 18 = .ok (.iconst 5, 1) := by decide +kernel
theorem dX10_wrong_19 : decode cX10_wrong 19 = .ok (.ireturn, 1) := by decide +kernel
theorem dX10_wrong_20 : decode cX10_wrong 20 = .ok (.iload_n 2, 1) := by decide +kernel
theorem dX10_wrong_21 : decode cX10_wrong 21 = .ok (.i2l, 1) := by decide +kernel
theorem dX10_wrong_22 : decode cX10_wrong 22 = .ok (.lconst 0, 1) := by decide +kernel
theorem dX10_wrong_23 : decode cX10_wrong 23 = .ok (.aload_n 0, 1) := by decide +kernel
theorem dX10_wrong_24 : decode cX10_wrong 24 = .ok (.getfield 35, 3) := by decide +kernel
theorem dX10_wrong_27 : decode cX10_wrong 27 = .ok (.iload_n 1, 1) := by decide +kernel
theorem dX10_wrong_28 : decode cX10_wrong 28 = .ok (.iaload, 1) := by decide +kernel
theorem dX10_wrong_29 : decode cX10_wrong 29 = .ok (.iconst 2, 1) := by decide +kernel
theorem dX10_wrong_30 : decode cX10_wrong 30 = .ok (.isub, 1) := by decide +kernel
theorem dX10_wrong_31 : decode cX10_wrong 31 = .ok (.i2l, 1) := by decide +kernel
theorem dX10_wrong_32 : decode cX10_wrong 32 = .ok (.invokestatic 57, 3) := by decide +kernel
theorem dX10_wrong_35 : decode cX10_wrong 35 = .ok (.ifCond .eq 21, 3) := by decide +kernel
theorem dX10_wrong_38 : decode cX10_wrong 38 = .ok (.iload_n 3, 1) := by decide +kernel
theorem dX10_wrong_39 : decode cX10_wrong 39 = .ok (.i2l, 1) := by decide +kernel
theorem dX10_wrong_40 : decode cX10_wrong 40 = .ok (.lconst 0, 1) := by decide +kernel
theorem dX10_wrong_41 : decode cX10_wrong 41 = .ok (.aload_n 0, 1) := by decide +kernel
theorem dX10_wrong_42 : decode cX10_wrong 42 = .ok (.getfield 35, 3) := by decide +kernel
theorem dX10_wrong_45 : decode cX10_wrong 45 = .ok (.iload_n 1, 1) := by decide +kernel
theorem dX10_wrong_46 : decode cX10_wrong 46 = .ok (.iaload, 1) := by decide +kernel
theorem dX10_wrong_47 : decode cX10_wrong 47 = .ok (.iconst 2, 1) := by decide +kernel
theorem dX10_wrong_48 : decode cX10_wrong 48 = .ok (.isub, 1) := by decide +kernel
theorem dX10_wrong_49 : decode cX10_wrong 49 = .ok (.i2l, 1) := by decide +kernel
theorem dX10_wrong_50 : decode cX10_wrong 50 = .ok (.invokestatic 57, 3) := by decide +kernel
theorem dX10_wrong_53 : decode cX10_wrong 53 = .ok (.ifCond .ne 5, 3) := by decide +kernel
theorem dX10_wrong_56 : decode cX10_wrong 56 = .ok (.iconst 0, 1) := by decide +kernel
theorem dX10_wrong_57 : decode cX10_wrong 57 = .ok (.ireturn, 1) := by decide +kernel
theorem dX10_wrong_58 : decode cX10_wrong 58 = .ok (.aload_n 0, 1) := by decide +kernel
theorem dX10_wrong_59 : decode cX10_wrong 59 = .ok (.getfield 38, 3) := by decide +kernel
theorem dX10_wrong_62 : decode cX10_wrong 62 = .ok (.bipush 40, 2) := by decide +kernel
theorem dX10_wrong_64 : decode cX10_wrong 64 = .ok (.iload_n 1, 1) := by decide +kernel
theorem dX10_wrong_65 : decode cX10_wrong 65 = .ok (.imul, 1) := by decide +kernel
theorem dX10_wrong_66 : decode cX10_wrong 66 = .ok (.iload_n 2, 1) := by decide +kernel
theorem dX10_wrong_67 : decode cX10_wrong 67 = .ok (.iadd, 1) := by decide +kernel
theorem dX10_wrong_68 : decode cX10_wrong 68 = .ok (.iconst 1, 1) := by decide +kernel
theorem dX10_wrong_69 : decode cX10_wrong 69 = .ok (.iadd, 1) := by decide +kernel
theorem dX10_wrong_70 : decode cX10_wrong 70 = .ok (.laload, 1) := by decide +kernel
theorem dX10_wrong_71 : decode cX10_wrong 71 = .ok (.lconst 0, 1) := by decide +kernel
theorem dX10_wrong_72 : decode cX10_wrong 72 = .ok (.lcmp, 1) := by decide +kernel
theorem dX10_wrong_73 : decode cX10_wrong 73 = .ok (.ifCond .eq 21, 3) := by decide +kernel
theorem dX10_wrong_76 : decode cX10_wrong 76 = .ok (.aload_n 0, 1) := by decide +kernel
theorem dX10_wrong_77 : decode cX10_wrong 77 = .ok (.getfield 38, 3) := by decide +kernel
theorem dX10_wrong_80 : decode cX10_wrong 80 = .ok (.bipush 40, 2) := by decide +kernel
theorem dX10_wrong_82 : decode cX10_wrong 82 = .ok (.iload_n 1, 1) := by decide +kernel
theorem dX10_wrong_83 : decode cX10_wrong 83 = .ok (.imul, 1) := by decide +kernel
theorem dX10_wrong_84 : decode cX10_wrong 84 = .ok (.iload_n 3, 1) := by decide +kernel
theorem dX10_wrong_85 : decode cX10_wrong 85 = .ok (.iadd, 1) := by decide +kernel
theorem dX10_wrong_86 : decode cX10_wrong 86 = .ok (.iconst 1, 1) := by decide +kernel
theorem dX10_wrong_87 : decode cX10_wrong 87 = .ok (.iadd, 1) := by decide +kernel
theorem dX10_wrong_88 : decode cX10_wrong 88 = .ok (.laload, 1) := by decide +kernel
theorem dX10_wrong_89 : decode cX10_wrong 89 = .ok (.lconst 0, 1) := by decide +kernel
theorem dX10_wrong_90 : decode cX10_wrong 90 = .ok (.lcmp, 1) := by decide +kernel
theorem dX10_wrong_91 : decode cX10_wrong 91 = .ok (.ifCond .ne 8, 3) := by decide +kernel
theorem dX10_wrong_94 : decode cX10_wrong 94 = .ok (.bipush 7, 2) := by decide +kernel
theorem dX10_wrong_96 : decode cX10_wrong 96 = .ok (.goto 4, 3) := by decide +kernel
theorem dX10_wrong_99 : decode cX10_wrong 99 = .ok (.iconst (-1), 1) := by decide +kernel
theorem dX10_wrong_100 : decode cX10_wrong 100 = .ok (.ireturn, 1) := by decide +kernel
def f_X10_wrong (σ : MSt) (a0 : Nat) (a1 : Int32) (a2 : Int32) (a3 : Int32) : Option Int32 := (f_X10_isSheet a1).bind (fun r1 => if r1 = 0 then (some (0 : Int32)) else (if mob 9 a0 = true then ((mmR σ a0 20).bind (fun q4 => if mix 0 q4 a1 = true then (if (mmI σ q4 a1.toNatClampNeg) = 0 then (some (5 : Int32)) else ((mmR σ a0 21).bind (fun q7 => if mix 0 q7 a1 = true then ((f_X10_in a2.toInt64 (0 : Int64) (((mmI σ q7 a1.toNatClampNeg) - (2 : Int32)).toInt64)).bind (fun r10 => if r10 = 0 then (some (0 : Int32)) else ((f_X10_in a3.toInt64 (0 : Int64) (((mmI σ q7 a1.toNatClampNeg) - (2 : Int32)).toInt64)).bind (fun r12 => if r12 = 0 then (some (0 : Int32)) else ((mmR σ a0 22).bind (fun q14 => if mix 1 q14 ((((40 : Int32) * a1) + a2) + (1 : Int32)) = true then (if (mmL σ q14 ((((40 : Int32) * a1) + a2) + (1 : Int32)).toNatClampNeg) = (0 : Int64) then (some (7 : Int32)) else (if mix 1 q14 ((((40 : Int32) * a1) + a3) + (1 : Int32)) = true then (if (mmL σ q14 ((((40 : Int32) * a1) + a3) + (1 : Int32)).toNatClampNeg) = (0 : Int64) then (some (7 : Int32)) else (some (-1 : Int32))) else none)) else none)))))) else none))) else none)) else none))
set_option maxRecDepth 100000 in
set_option maxHeartbeats 4000000 in
theorem k_X10_wrong {l : Launch} {σ : MSt} {a0 : Nat} {a1 : Int32} {a2 : Int32} {a3 : Int32} {out : Int32} (h : f_X10_wrong σ a0 a1 a2 a3 = some out) : MK l yX10_wrong cX10_wrong 4 (some .int) 3 [.ref a0, .int a1, .int a2, .int a3] σ (some (.int out)) σ := by
  unfold f_X10_wrong at h
  refine mw_entry (own := RX10) (ini := false) (L := [(0, .ref a0), (1, .int a1), (2, .int a2), (3, .int a3)]) (by decide +kernel) rfl (fun h => nomatch h) rfl (Nat.le_of_ble_eq_true rfl) (Nat.le_of_ble_eq_true rfl) (fun E => ?_)
  refine mw_iload_n dX10_wrong_0 1 rfl ?_
  obtain ⟨r1, e2, h⟩ := mbd h
  refine mv_callS_i (As := [.int a1]) lkS_RX10_258_yX10_isSheet dX10_wrong_1 (k_X10_isSheet e2) rfl rfl (Nat.le_of_ble_eq_true rfl) (by decide) (by decide) ?_
  refine mw_if_ne (tgt := 9) dX10_wrong_4 (by decide) (fun hc => ?_) (fun hc => ?_)
  · have h := mie hc h
    refine mw_aload_n dX10_wrong_9 0 rfl ?_
    obtain ⟨m3, h⟩ := mif h
    obtain ⟨q4, e5, h⟩ := mbd h
    refine mv_getR fd_RX10_32_9 dX10_wrong_10 m3 rfl e5 ?_
    refine mw_iload_n dX10_wrong_13 1 rfl ?_
    obtain ⟨m6, h⟩ := mif h
    refine mv_iald dX10_wrong_14 m6 ?_
    refine mw_if_ne (tgt := 20) dX10_wrong_15 (by decide) (fun hc => ?_) (fun hc => ?_)
    · have h := mie hc h
      refine mw_iload_n dX10_wrong_20 2 rfl ?_
      refine mw_i2l dX10_wrong_21 ?_
      refine mw_lconst (v := 0) dX10_wrong_22 (by decide) ?_
      refine mw_aload_n dX10_wrong_23 0 rfl ?_
      obtain ⟨q7, e8, h⟩ := mbd h
      refine mv_getR fd_RX10_35_9 dX10_wrong_24 m3 rfl e8 ?_
      refine mw_iload_n dX10_wrong_27 1 rfl ?_
      obtain ⟨m9, h⟩ := mif h
      refine mv_iald dX10_wrong_28 m9 ?_
      refine mw_iconst (v := 2) dX10_wrong_29 (by decide) ?_
      refine mw_isub dX10_wrong_30 ?_
      refine mw_i2l dX10_wrong_31 ?_
      obtain ⟨r10, e11, h⟩ := mbd h
      refine mv_callS_i (As := [.long a2.toInt64, .long (0 : Int64), .long ((mmI σ q7 a1.toNatClampNeg) - (2 : Int32)).toInt64]) lkS_RX10_57_yX10_in dX10_wrong_32 (k_X10_in e11) rfl rfl (Nat.le_of_ble_eq_true rfl) (by decide) (by decide) ?_
      refine mw_if_eq (tgt := 56) dX10_wrong_35 (by decide) (fun hc => ?_) (fun hc => ?_)
      · have h := mit hc h
        refine mw_iconst (v := 0) dX10_wrong_56 (by decide) ?_
        exact mw_iret dX10_wrong_57 rfl (mrs_i h) rfl rfl
      · have h := mie hc h
        refine mw_iload_n dX10_wrong_38 3 rfl ?_
        refine mw_i2l dX10_wrong_39 ?_
        refine mw_lconst (v := 0) dX10_wrong_40 (by decide) ?_
        refine mw_aload_n dX10_wrong_41 0 rfl ?_
        refine mv_getR fd_RX10_35_9 dX10_wrong_42 m3 rfl e8 ?_
        refine mw_iload_n dX10_wrong_45 1 rfl ?_
        refine mv_iald dX10_wrong_46 m9 ?_
        refine mw_iconst (v := 2) dX10_wrong_47 (by decide) ?_
        refine mw_isub dX10_wrong_48 ?_
        refine mw_i2l dX10_wrong_49 ?_
        obtain ⟨r12, e13, h⟩ := mbd h
        refine mv_callS_i (As := [.long a3.toInt64, .long (0 : Int64), .long ((mmI σ q7 a1.toNatClampNeg) - (2 : Int32)).toInt64]) lkS_RX10_57_yX10_in dX10_wrong_50 (k_X10_in e13) rfl rfl (Nat.le_of_ble_eq_true rfl) (by decide) (by decide) ?_
        refine mw_if_ne (tgt := 58) dX10_wrong_53 (by decide) (fun hc => ?_) (fun hc => ?_)
        · have h := mie hc h
          refine mw_aload_n dX10_wrong_58 0 rfl ?_
          obtain ⟨q14, e15, h⟩ := mbd h
          refine mv_getR fd_RX10_38_9 dX10_wrong_59 m3 rfl e15 ?_
          refine mw_bipush (v := 40) dX10_wrong_62 (by decide) ?_
          refine mw_iload_n dX10_wrong_64 1 rfl ?_
          refine mw_imul dX10_wrong_65 ?_
          refine mw_iload_n dX10_wrong_66 2 rfl ?_
          refine mw_iadd dX10_wrong_67 ?_
          refine mw_iconst (v := 1) dX10_wrong_68 (by decide) ?_
          refine mw_iadd dX10_wrong_69 ?_
          obtain ⟨m16, h⟩ := mif h
          refine mv_lald dX10_wrong_70 m16 ?_
          refine mw_lconst (v := 0) dX10_wrong_71 (by decide) ?_
          refine mw_lc_eq (tgt := 94) dX10_wrong_72 dX10_wrong_73 (by decide) (fun hc => ?_) (fun hc => ?_)
          · have h := mit hc h
            refine mw_bipush (v := 7) dX10_wrong_94 (by decide) ?_
            refine mw_goto (tgt := 100) dX10_wrong_96 (by decide) ?_
            exact mw_iret dX10_wrong_100 rfl (mrs_i h) rfl rfl
          · have h := mie hc h
            refine mw_aload_n dX10_wrong_76 0 rfl ?_
            refine mv_getR fd_RX10_38_9 dX10_wrong_77 m3 rfl e15 ?_
            refine mw_bipush (v := 40) dX10_wrong_80 (by decide) ?_
            refine mw_iload_n dX10_wrong_82 1 rfl ?_
            refine mw_imul dX10_wrong_83 ?_
            refine mw_iload_n dX10_wrong_84 3 rfl ?_
            refine mw_iadd dX10_wrong_85 ?_
            refine mw_iconst (v := 1) dX10_wrong_86 (by decide) ?_
            refine mw_iadd dX10_wrong_87 ?_
            obtain ⟨m17, h⟩ := mif h
            refine mv_lald dX10_wrong_88 m17 ?_
            refine mw_lconst (v := 0) dX10_wrong_89 (by decide) ?_
            refine mw_lc_ne (tgt := 99) dX10_wrong_90 dX10_wrong_91 (by decide) (fun hc => ?_) (fun hc => ?_)
            · have h := mie hc h
              refine mw_iconst (v := -1) dX10_wrong_99 (by decide) ?_
              exact mw_iret dX10_wrong_100 rfl (mrs_i h) rfl rfl
            · have h := mit hc h
              refine mw_bipush (v := 7) dX10_wrong_94 (by decide) ?_
              refine mw_goto (tgt := 100) dX10_wrong_96 (by decide) ?_
              exact mw_iret dX10_wrong_100 rfl (mrs_i h) rfl rfl
        · have h := mit hc h
          refine mw_iconst (v := 0) dX10_wrong_56 (by decide) ?_
          exact mw_iret dX10_wrong_57 rfl (mrs_i h) rfl rfl
    · have h := mit hc h
      refine mw_iconst (v := 5) dX10_wrong_18 (by decide) ?_
      exact mw_iret dX10_wrong_19 rfl (mrs_i h) rfl rfl
  · have h := mit hc h
    refine mw_iconst (v := 0) dX10_wrong_7 (by decide) ?_
    exact mw_iret dX10_wrong_8 rfl (mrs_i h) rfl rfl

theorem dX10_compare_0 : decode cX10_compare 0 = .ok (.aload_n 0, 1) := by decide +kernel
theorem dX10_compare_1 : decode cX10_compare 1 = .ok (.iload_n 1, 1) := by decide +kernel
theorem dX10_compare_2 : decode cX10_compare 2 = .ok (.iload_n 2, 1) := by decide +kernel
theorem dX10_compare_3 : decode cX10_compare 3 = .ok (.iload_n 3, 1) := by decide +kernel
theorem dX10_compare_4 : decode cX10_compare 4 = .ok (.invokevirtual 261, 3) := by decide +kernel
theorem dX10_compare_7 : decode cX10_compare 7 = .ok (.istore 4, 2) := by decide +kernel
theorem dX10_compare_9 : decode cX10_compare 9 = .ok (.iload 4, 2) := by decide +kernel
theorem dX10_compare_11 : decode cX10_compare 11 = .ok (.ifCond .lt 10, 3) := by decide +kernel
theorem dX10_compare_14 : decode cX10_compare 14 = .ok (.aload_n 0, 1) := by decide +kernel
theorem dX10_compare_15 : decode cX10_compare 15 = .ok (.iload 4, 2) := by decide +kernel
theorem dX10_compare_17 : decode cX10_compare 17 = .ok (.invokevirtual 81, 3) := by decide +kernel
theorem dX10_compare_20 : decode cX10_compare 20 = .ok (.ireturn, 1) := by decide +kernel
theorem dX10_compare_21 : decode cX10_compare 21 = .ok (.bipush 40, 2) := by decide +kernel
theorem dX10_compare_23 : decode cX10_compare 23 = .ok (.iload_n 1, 1) := by decide +kernel
theorem dX10_compare_24 : decode cX10_compare 24 = .ok (.imul, 1) := by decide +kernel
theorem dX10_compare_25 : decode cX10_compare 25 = .ok (.iload_n 2, 1) := by decide +kernel
theorem dX10_compare_26 : decode cX10_compare 26 = .ok (.iadd, 1) := by decide +kernel
theorem dX10_compare_27 : decode cX10_compare 27 = .ok (.istore 5, 2) := by decide +kernel
theorem dX10_compare_29 : decode cX10_compare 29 = .ok (.bipush 40, 2) := by decide +kernel
theorem dX10_compare_31 : decode cX10_compare 31 = .ok (.iload_n 1, 1) := by decide +kernel
theorem dX10_compare_32 : decode cX10_compare 32 = .ok (.imul, 1) := by decide +kernel
theorem dX10_compare_33 : decode cX10_compare 33 = .ok (.iload_n 3, 1) := by decide +kernel
theorem dX10_compare_34 : decode cX10_compare 34 = .ok (.iadd, 1) := by decide +kernel
theorem dX10_compare_35 : decode cX10_compare 35 = .ok (.istore 6, 2) := by decide +kernel
theorem dX10_compare_37 : decode cX10_compare 37 = .ok (.aload_n 0, 1) := by decide +kernel
theorem dX10_compare_38 : decode cX10_compare 38 = .ok (.iconst 1, 1) := by decide +kernel
theorem dX10_compare_39 : decode cX10_compare 39 = .ok (.putfield 183, 3) := by decide +kernel
theorem dX10_compare_42 : decode cX10_compare 42 = .ok (.aload_n 0, 1) := by decide +kernel
theorem dX10_compare_43 : decode cX10_compare 43 = .ok (.aload_n 0, 1) := by decide +kernel
theorem dX10_compare_44 : decode cX10_compare 44 = .ok (.getfield 38, 3) := by decide +kernel
theorem dX10_compare_47 : decode cX10_compare 47 = .ok (.iload 5, 2) := by decide +kernel
theorem dX10_compare_49 : decode cX10_compare 49 = .ok (.laload, 1) := by decide +kernel
theorem dX10_compare_50 : decode cX10_compare 50 = .ok (.aload_n 0, 1) := by decide +kernel
theorem dX10_compare_51 : decode cX10_compare 51 = .ok (.getfield 38, 3) := by decide +kernel
theorem dX10_compare_54 : decode cX10_compare 54 = .ok (.iload 6, 2) := by decide +kernel
theorem dX10_compare_56 : decode cX10_compare 56 = .ok (.iconst 1, 1) := by decide +kernel
theorem dX10_compare_57 : decode cX10_compare 57 = .ok (.iadd, 1) := by decide +kernel
theorem dX10_compare_58 : decode cX10_compare 58 = .ok (.laload, 1) := by decide +kernel
theorem dX10_compare_59 : decode cX10_compare 59 = .ok (.invokevirtual 186, 3) := by decide +kernel
theorem dX10_compare_62 : decode cX10_compare 62 = .ok (.lstore 7, 2) := by decide +kernel
theorem dX10_compare_64 : decode cX10_compare 64 = .ok (.aload_n 0, 1) := by decide +kernel
theorem dX10_compare_65 : decode cX10_compare 65 = .ok (.aload_n 0, 1) := by decide +kernel
theorem dX10_compare_66 : decode cX10_compare 66 = .ok (.getfield 38, 3) := by decide +kernel
theorem dX10_compare_69 : decode cX10_compare 69 = .ok (.iload 6, 2) := by decide +kernel
theorem dX10_compare_71 : decode cX10_compare 71 = .ok (.laload, 1) := by decide +kernel
theorem dX10_compare_72 : decode cX10_compare 72 = .ok (.aload_n 0, 1) := by decide +kernel
theorem dX10_compare_73 : decode cX10_compare 73 = .ok (.getfield 38, 3) := by decide +kernel
theorem dX10_compare_76 : decode cX10_compare 76 = .ok (.iload 5, 2) := by decide +kernel
theorem dX10_compare_78 : decode cX10_compare 78 = .ok (.iconst 1, 1) := by decide +kernel
theorem dX10_compare_79 : decode cX10_compare 79 = .ok (.iadd, 1) := by decide +kernel
theorem dX10_compare_80 : decode cX10_compare 80 = .ok (.laload, 1) := by decide +kernel
theorem dX10_compare_81 : decode cX10_compare 81 = .ok (.invokevirtual 186, 3) := by decide +kernel
theorem dX10_compare_84 : decode cX10_compare 84 = .ok (.lstore 9, 2) := by decide +kernel
theorem dX10_compare_86 : decode cX10_compare 86 = .ok (.aload_n 0, 1) := by decide +kernel
theorem dX10_compare_87 : decode cX10_compare 87 = .ok (.getfield 183, 3) := by decide +kernel
theorem dX10_compare_90 : decode cX10_compare 90 = .ok (.ifCond .ne 10, 3) := by decide +kernel
theorem dX10_compare_93 : decode cX10_compare 93 = .ok (.aload_n 0, 1) := by decide +kernel
theorem dX10_compare_94 : decode cX10_compare 94 = .ok (.bipush 8, 2) := by decide +kernel
theorem dX10_compare_96 : decode cX10_compare 96 = .ok (.invokevirtual 81, 3) := by decide +kernel
theorem dX10_compare_99 : decode cX10_compare 99 = .ok (.ireturn, 1) := by decide +kernel
theorem dX10_compare_100 : decode cX10_compare 100 = .ok (.lload 7, 2) := by decide +kernel
theorem dX10_compare_102 : decode cX10_compare 102 = .ok (.lload 9, 2) := by decide +kernel
theorem dX10_compare_104 : decode cX10_compare 104 = .ok (.lcmp, 1) := by decide +kernel
theorem dX10_compare_105 : decode cX10_compare 105 = .ok (.ifCond .ge 7, 3) := by decide +kernel
theorem dX10_compare_108 : decode cX10_compare 108 = .ok (.iconst (-1), 1) := by decide +kernel
theorem dX10_compare_109 : decode cX10_compare 109 = .ok (.goto 16, 3) := by decide +kernel
theorem dX10_compare_112 : decode cX10_compare 112 = .ok (.lload 7, 2) := by decide +kernel
theorem dX10_compare_114 : decode cX10_compare 114 = .ok (.lload 9, 2) := by decide +kernel
theorem dX10_compare_116 : decode cX10_compare 116 = .ok (.lcmp, 1) := by decide +kernel
theorem dX10_compare_117 : decode cX10_compare 117 = .ok (.ifCond .le 7, 3) := by decide +kernel
theorem dX10_compare_120 : decode cX10_compare 120 = .ok (.iconst 1, 1) := by decide +kernel
theorem dX10_compare_121 : decode cX10_compare 121 = .ok (.goto 4, 3) := by decide +kernel
theorem dX10_compare_124 : decode cX10_compare 124 = .ok (.iconst 0, 1) := by decide +kernel
theorem dX10_compare_125 : decode cX10_compare 125 = .ok (.istore 11, 2) := by decide +kernel
theorem dX10_compare_127 : decode cX10_compare 127 = .ok (.aload_n 0, 1) := by decide +kernel
theorem dX10_compare_128 : decode cX10_compare 128 = .ok (.getfield 38, 3) := by decide +kernel
theorem dX10_compare_131 : decode cX10_compare 131 = .ok (.iload 5, 2) := by decide +kernel
theorem dX10_compare_133 : decode cX10_compare 133 = .ok (.iconst 1, 1) := by decide +kernel
theorem dX10_compare_134 : decode cX10_compare 134 = .ok (.iadd, 1) := by decide +kernel
theorem dX10_compare_135 : decode cX10_compare 135 = .ok (.laload, 1) := by decide +kernel
theorem dX10_compare_136 : decode cX10_compare 136 = .ok (.lconst 0, 1) := by decide +kernel
theorem dX10_compare_137 : decode cX10_compare 137 = .ok (.lcmp, 1) := by decide +kernel
theorem dX10_compare_138 : decode cX10_compare 138 = .ok (.ifCond .ge 7, 3) := by decide +kernel
theorem dX10_compare_141 : decode cX10_compare 141 = .ok (.iconst 1, 1) := by decide +kernel
theorem dX10_compare_142 : decode cX10_compare 142 = .ok (.goto 4, 3) := by decide +kernel
theorem dX10_compare_145 : decode cX10_compare 145 = .ok (.iconst 0, 1) := by decide +kernel
theorem dX10_compare_146 : decode cX10_compare 146 = .ok (.aload_n 0, 1) := by decide +kernel
theorem dX10_compare_147 : decode cX10_compare 147 = .ok (.getfield 38, 3) := by decide +kernel
theorem dX10_compare_150 : decode cX10_compare 150 = .ok (.iload 6, 2) := by decide +kernel
theorem dX10_compare_152 : decode cX10_compare 152 = .ok (.iconst 1, 1) := by decide +kernel
theorem dX10_compare_153 : decode cX10_compare 153 = .ok (.iadd, 1) := by decide +kernel
theorem dX10_compare_154 : decode cX10_compare 154 = .ok (.laload, 1) := by decide +kernel
theorem dX10_compare_155 : decode cX10_compare 155 = .ok (.lconst 0, 1) := by decide +kernel
theorem dX10_compare_156 : decode cX10_compare 156 = .ok (.lcmp, 1) := by decide +kernel
theorem dX10_compare_157 : decode cX10_compare 157 = .ok (.ifCond .ge 7, 3) := by decide +kernel
theorem dX10_compare_160 : decode cX10_compare 160 = .ok (.iconst 1, 1) := by decide +kernel
theorem dX10_compare_161 : decode cX10_compare 161 = .ok (.goto 4, 3) := by decide +kernel
theorem dX10_compare_164 : decode cX10_compare 164 = .ok (.iconst 0, 1) := by decide +kernel
theorem dX10_compare_165 : decode cX10_compare 165 = .ok (.if_icmp .ne 8, 3) := by decide +kernel
theorem dX10_compare_168 : decode cX10_compare 168 = .ok (.iload 11, 2) := by decide +kernel
theorem dX10_compare_170 : decode cX10_compare 170 = .ok (.goto 6, 3) := by decide +kernel
theorem dX10_compare_173 : decode cX10_compare 173 = .ok (.iload 11, 2) := by decide +kernel
theorem dX10_compare_175 : decode cX10_compare 175 = .ok (.ineg, 1) := by decide +kernel
theorem dX10_compare_176 : decode cX10_compare 176 = .ok (.ireturn, 1) := by decide +kernel
def f_X10_compare_J146 (a0 : Nat) (a1 : Int32) (a2 : Int32) (a3 : Int32) (x6 : Int32) (x11 : Int32) (s0 : Int32) (σ : MSt) : Option (Int32 × MSt) := if mob 9 a0 = true then ((mmR σ a0 22).bind (fun q2 => if mix 1 q2 (x6 + (1 : Int32)) = true then (if (0 : Int64) ≤ (mmL σ q2 (x6 + (1 : Int32)).toNatClampNeg) then (if s0 = (0 : Int32) then (some (x11, σ)) else (some ((-x11), σ))) else (if s0 = (1 : Int32) then (some (x11, σ)) else (some ((-x11), σ)))) else none)) else none
set_option maxRecDepth 100000 in
set_option maxHeartbeats 4000000 in
theorem p_X10_compare_J146 {l : Launch} {E : MX} {out : (Int32 × MSt)} {a0 : Nat} {a1 : Int32} {a2 : Int32} {a3 : Int32}  {x6 : Int32} {x11 : Int32} {s0 : Int32} {σ : MSt} (h : f_X10_compare_J146 a0 a1 a2 a3 x6 x11 s0 σ = some out) : MV l E cX10_compare RX10 12 (some .int) 4 (82, (some (.int out.1)), out.2) σ 146 [(0, .ref a0), (1, .int a1), (2, .int a2), (3, .int a3), (6, .int x6), (11, .int x11)] [.int s0] := by
  unfold f_X10_compare_J146 at h
  refine mw_aload_n dX10_compare_146 0 rfl ?_
  obtain ⟨m1, h⟩ := mif h
  obtain ⟨q2, e3, h⟩ := mbd h
  refine mv_getR fd_RX10_38_9 dX10_compare_147 m1 rfl e3 ?_
  refine mw_iload dX10_compare_150 4 rfl ?_
  refine mw_iconst (v := 1) dX10_compare_152 (by decide) ?_
  refine mw_iadd dX10_compare_153 ?_
  obtain ⟨m4, h⟩ := mif h
  refine mv_lald dX10_compare_154 m4 ?_
  refine mw_lconst (v := 0) dX10_compare_155 (by decide) ?_
  refine mw_lc_ge (tgt := 164) dX10_compare_156 dX10_compare_157 (by decide) (fun hc => ?_) (fun hc => ?_)
  · have h := mit hc h
    refine mw_iconst (v := 0) dX10_compare_164 (by decide) ?_
    refine mw_icmp_ne (tgt := 173) dX10_compare_165 (by decide) (fun hc => ?_) (fun hc => ?_)
    · have h := mie hc h
      refine mw_iload dX10_compare_173 5 rfl ?_
      refine mw_ineg dX10_compare_175 ?_
      exact mw_iret dX10_compare_176 rfl (mrs_im h) rfl rfl
    · have h := mit hc h
      refine mw_iload dX10_compare_168 5 rfl ?_
      refine mw_goto (tgt := 176) dX10_compare_170 (by decide) ?_
      exact mw_iret dX10_compare_176 rfl (mrs_im h) rfl rfl
  · have h := mie hc h
    refine mw_iconst (v := 1) dX10_compare_160 (by decide) ?_
    refine mw_goto (tgt := 165) dX10_compare_161 (by decide) ?_
    refine mw_icmp_ne (tgt := 173) dX10_compare_165 (by decide) (fun hc => ?_) (fun hc => ?_)
    · have h := mie hc h
      refine mw_iload dX10_compare_173 5 rfl ?_
      refine mw_ineg dX10_compare_175 ?_
      exact mw_iret dX10_compare_176 rfl (mrs_im h) rfl rfl
    · have h := mit hc h
      refine mw_iload dX10_compare_168 5 rfl ?_
      refine mw_goto (tgt := 176) dX10_compare_170 (by decide) ?_
      exact mw_iret dX10_compare_176 rfl (mrs_im h) rfl rfl
def f_X10_compare_J125 (a0 : Nat) (a1 : Int32) (a2 : Int32) (a3 : Int32) (x5 : Int32) (x6 : Int32) (s0 : Int32) (σ : MSt) : Option (Int32 × MSt) := if mob 9 a0 = true then ((mmR σ a0 22).bind (fun q2 => if mix 1 q2 (x5 + (1 : Int32)) = true then (if (0 : Int64) ≤ (mmL σ q2 (x5 + (1 : Int32)).toNatClampNeg) then (f_X10_compare_J146 a0 a1 a2 a3 x6 s0 (0 : Int32) σ) else (f_X10_compare_J146 a0 a1 a2 a3 x6 s0 (1 : Int32) σ)) else none)) else none
set_option maxRecDepth 100000 in
set_option maxHeartbeats 4000000 in
theorem p_X10_compare_J125 {l : Launch} {E : MX} {out : (Int32 × MSt)} {a0 : Nat} {a1 : Int32} {a2 : Int32} {a3 : Int32}  {x5 : Int32} {x6 : Int32} {s0 : Int32} {σ : MSt} (h : f_X10_compare_J125 a0 a1 a2 a3 x5 x6 s0 σ = some out) : MV l E cX10_compare RX10 12 (some .int) 4 (82, (some (.int out.1)), out.2) σ 125 [(0, .ref a0), (1, .int a1), (2, .int a2), (3, .int a3), (5, .int x5), (6, .int x6)] [.int s0] := by
  unfold f_X10_compare_J125 at h
  refine mw_istore (L' := [(11, .int s0), (0, .ref a0), (1, .int a1), (2, .int a2), (3, .int a3), (5, .int x5), (6, .int x6)]) dX10_compare_125 (by decide) rfl ?_
  refine mw_aload_n dX10_compare_127 1 rfl ?_
  obtain ⟨m1, h⟩ := mif h
  obtain ⟨q2, e3, h⟩ := mbd h
  refine mv_getR fd_RX10_38_9 dX10_compare_128 m1 rfl e3 ?_
  refine mw_iload dX10_compare_131 5 rfl ?_
  refine mw_iconst (v := 1) dX10_compare_133 (by decide) ?_
  refine mw_iadd dX10_compare_134 ?_
  obtain ⟨m4, h⟩ := mif h
  refine mv_lald dX10_compare_135 m4 ?_
  refine mw_lconst (v := 0) dX10_compare_136 (by decide) ?_
  refine mw_lc_ge (tgt := 145) dX10_compare_137 dX10_compare_138 (by decide) (fun hc => ?_) (fun hc => ?_)
  · have h := mit hc h
    refine mw_iconst (v := 0) dX10_compare_145 (by decide) ?_
    exact mw_sub (L' := [(0, .ref a0), (1, .int a1), (2, .int a2), (3, .int a3), (6, .int x6), (11, .int s0)]) [1, 2, 3, 4, 6, 0] rfl (p_X10_compare_J146  h)
  · have h := mie hc h
    refine mw_iconst (v := 1) dX10_compare_141 (by decide) ?_
    refine mw_goto (tgt := 146) dX10_compare_142 (by decide) ?_
    exact mw_sub (L' := [(0, .ref a0), (1, .int a1), (2, .int a2), (3, .int a3), (6, .int x6), (11, .int s0)]) [1, 2, 3, 4, 6, 0] rfl (p_X10_compare_J146  h)
def f_X10_compare (a0 : Nat) (a1 : Int32) (a2 : Int32) (a3 : Int32) (σ : MSt) : Option (Int32 × MSt) := (f_X10_wrong σ a0 a1 a2 a3).bind (fun r1 => if mob 9 a0 = true then (if r1 < 0 then ((mmR (muI σ a0 15 (1 : Int32)) a0 22).bind (fun q4 => if mix 1 q4 (((40 : Int32) * a1) + a2) = true then (if mix 1 q4 ((((40 : Int32) * a1) + a3) + (1 : Int32)) = true then ((f_X10_product a0 (mmL (muI σ a0 15 (1 : Int32)) q4 (((40 : Int32) * a1) + a2).toNatClampNeg) (mmL (muI σ a0 15 (1 : Int32)) q4 ((((40 : Int32) * a1) + a3) + (1 : Int32)).toNatClampNeg) (muI σ a0 15 (1 : Int32))).bind (fun r8 => (mmR r8.2 a0 22).bind (fun q10 => if mix 1 q10 (((40 : Int32) * a1) + a3) = true then (if mix 1 q10 ((((40 : Int32) * a1) + a2) + (1 : Int32)) = true then ((f_X10_product a0 (mmL r8.2 q10 (((40 : Int32) * a1) + a3).toNatClampNeg) (mmL r8.2 q10 ((((40 : Int32) * a1) + a2) + (1 : Int32)).toNatClampNeg) r8.2).bind (fun r14 => if (mmI r14.2 a0 15) = 0 then ((f_X10_finds a0 (8 : Int32) r14.2).bind (fun r16 => some (r16.1, r16.2))) else (if r14.1 ≤ r8.1 then (if r8.1 ≤ r14.1 then (f_X10_compare_J125 a0 a1 a2 a3 (((40 : Int32) * a1) + a2) (((40 : Int32) * a1) + a3) (0 : Int32) r14.2) else (f_X10_compare_J125 a0 a1 a2 a3 (((40 : Int32) * a1) + a2) (((40 : Int32) * a1) + a3) (1 : Int32) r14.2)) else (f_X10_compare_J125 a0 a1 a2 a3 (((40 : Int32) * a1) + a2) (((40 : Int32) * a1) + a3) (-1 : Int32) r14.2)))) else none) else none))) else none) else none)) else ((f_X10_finds a0 r1 σ).bind (fun r18 => some (r18.1, r18.2)))) else none)
set_option maxRecDepth 100000 in
set_option maxHeartbeats 4000000 in
theorem k_X10_compare {l : Launch} {σ : MSt} {a0 : Nat} {a1 : Int32} {a2 : Int32} {a3 : Int32} {out : (Int32 × MSt)} (h : f_X10_compare a0 a1 a2 a3 σ = some out) : MK l yX10_compare cX10_compare 12 (some .int) 4 [.ref a0, .int a1, .int a2, .int a3] σ (some (.int out.1)) out.2 := by
  unfold f_X10_compare at h
  refine mw_entry (own := RX10) (ini := false) (L := [(0, .ref a0), (1, .int a1), (2, .int a2), (3, .int a3)]) (by decide +kernel) rfl (fun h => nomatch h) rfl (Nat.le_of_ble_eq_true rfl) (Nat.le_of_ble_eq_true rfl) (fun E => ?_)
  refine mw_aload_n dX10_compare_0 0 rfl ?_
  refine mw_iload_n dX10_compare_1 1 rfl ?_
  refine mw_iload_n dX10_compare_2 2 rfl ?_
  refine mw_iload_n dX10_compare_3 3 rfl ?_
  obtain ⟨r1, e2, h⟩ := mbd h
  obtain ⟨m3, h⟩ := mif h
  refine mv_callV_i (As := [.int a1, .int a2, .int a3]) lkV_RX10_261_yX10_wrong dX10_compare_4 (k_X10_wrong e2) rfl m3 rfl rfl (Nat.le_of_ble_eq_true rfl) (by decide) (by decide) ?_
  refine mw_istore (L' := [(4, .int r1), (0, .ref a0), (1, .int a1), (2, .int a2), (3, .int a3)]) dX10_compare_7 (by decide) rfl ?_
  refine mw_iload dX10_compare_9 0 rfl ?_
  refine mw_if_lt (tgt := 21) dX10_compare_11 (by decide) (fun hc => ?_) (fun hc => ?_)
  · have h := mit hc h
    refine mw_bipush (v := 40) dX10_compare_21 (by decide) ?_
    refine mw_iload_n dX10_compare_23 2 rfl ?_
    refine mw_imul dX10_compare_24 ?_
    refine mw_iload_n dX10_compare_25 3 rfl ?_
    refine mw_iadd dX10_compare_26 ?_
    refine mw_istore (L' := [(5, .int (((40 : Int32) * a1) + a2)), (4, .int r1), (0, .ref a0), (1, .int a1), (2, .int a2), (3, .int a3)]) dX10_compare_27 (by decide) rfl ?_
    refine mw_bipush (v := 40) dX10_compare_29 (by decide) ?_
    refine mw_iload_n dX10_compare_31 3 rfl ?_
    refine mw_imul dX10_compare_32 ?_
    refine mw_iload_n dX10_compare_33 5 rfl ?_
    refine mw_iadd dX10_compare_34 ?_
    refine mw_istore (L' := [(6, .int (((40 : Int32) * a1) + a3)), (5, .int (((40 : Int32) * a1) + a2)), (4, .int r1), (0, .ref a0), (1, .int a1), (2, .int a2), (3, .int a3)]) dX10_compare_35 (by decide) rfl ?_
    refine mw_aload_n dX10_compare_37 3 rfl ?_
    refine mw_iconst (v := 1) dX10_compare_38 (by decide) ?_
    refine mv_putZ fw_RX10_183_9 dX10_compare_39 m3 rfl (by decide) ?_
    refine mw_aload_n dX10_compare_42 3 rfl ?_
    refine mw_aload_n dX10_compare_43 3 rfl ?_
    obtain ⟨q4, e5, h⟩ := mbd h
    refine mv_getR fd_RX10_38_9 dX10_compare_44 m3 rfl e5 ?_
    refine mw_iload dX10_compare_47 1 rfl ?_
    obtain ⟨m6, h⟩ := mif h
    refine mv_lald dX10_compare_49 m6 ?_
    refine mw_aload_n dX10_compare_50 3 rfl ?_
    refine mv_getR fd_RX10_38_9 dX10_compare_51 m3 rfl e5 ?_
    refine mw_iload dX10_compare_54 0 rfl ?_
    refine mw_iconst (v := 1) dX10_compare_56 (by decide) ?_
    refine mw_iadd dX10_compare_57 ?_
    obtain ⟨m7, h⟩ := mif h
    refine mv_lald dX10_compare_58 m7 ?_
    obtain ⟨r8, e9, h⟩ := mbd h
    refine mv_callV_l (As := [.long (mmL (muI σ a0 15 (1 : Int32)) q4 (((40 : Int32) * a1) + a2).toNatClampNeg), .long (mmL (muI σ a0 15 (1 : Int32)) q4 ((((40 : Int32) * a1) + a3) + (1 : Int32)).toNatClampNeg)]) lkV_RX10_186_yX10_product dX10_compare_59 (k_X10_product e9) rfl m3 rfl rfl (Nat.le_of_ble_eq_true rfl) (by decide) (by decide) ?_
    refine mw_lstore (L' := [(7, .long r8.1), (6, .int (((40 : Int32) * a1) + a3)), (5, .int (((40 : Int32) * a1) + a2)), (4, .int r1), (0, .ref a0), (1, .int a1), (2, .int a2), (3, .int a3)]) dX10_compare_62 (by decide) rfl ?_
    refine mw_aload_n dX10_compare_64 4 rfl ?_
    refine mw_aload_n dX10_compare_65 4 rfl ?_
    obtain ⟨q10, e11, h⟩ := mbd h
    refine mv_getR fd_RX10_38_9 dX10_compare_66 m3 rfl e11 ?_
    refine mw_iload dX10_compare_69 1 rfl ?_
    obtain ⟨m12, h⟩ := mif h
    refine mv_lald dX10_compare_71 m12 ?_
    refine mw_aload_n dX10_compare_72 4 rfl ?_
    refine mv_getR fd_RX10_38_9 dX10_compare_73 m3 rfl e11 ?_
    refine mw_iload dX10_compare_76 2 rfl ?_
    refine mw_iconst (v := 1) dX10_compare_78 (by decide) ?_
    refine mw_iadd dX10_compare_79 ?_
    obtain ⟨m13, h⟩ := mif h
    refine mv_lald dX10_compare_80 m13 ?_
    obtain ⟨r14, e15, h⟩ := mbd h
    refine mv_callV_l (As := [.long (mmL r8.2 q10 (((40 : Int32) * a1) + a3).toNatClampNeg), .long (mmL r8.2 q10 ((((40 : Int32) * a1) + a2) + (1 : Int32)).toNatClampNeg)]) lkV_RX10_186_yX10_product dX10_compare_81 (k_X10_product e15) rfl m3 rfl rfl (Nat.le_of_ble_eq_true rfl) (by decide) (by decide) ?_
    refine mw_lstore (L' := [(9, .long r14.1), (7, .long r8.1), (6, .int (((40 : Int32) * a1) + a3)), (5, .int (((40 : Int32) * a1) + a2)), (4, .int r1), (0, .ref a0), (1, .int a1), (2, .int a2), (3, .int a3)]) dX10_compare_84 (by decide) rfl ?_
    refine mw_aload_n dX10_compare_86 5 rfl ?_
    refine mv_getZ fd_RX10_183_9 dX10_compare_87 m3 rfl ?_
    refine mw_if_ne (tgt := 100) dX10_compare_90 (by decide) (fun hc => ?_) (fun hc => ?_)
    · have h := mie hc h
      refine mw_lload dX10_compare_100 1 rfl ?_
      refine mw_lload dX10_compare_102 0 rfl ?_
      refine mw_lc_ge (tgt := 112) dX10_compare_104 dX10_compare_105 (by decide) (fun hc => ?_) (fun hc => ?_)
      · have h := mit hc h
        refine mw_lload dX10_compare_112 1 rfl ?_
        refine mw_lload dX10_compare_114 0 rfl ?_
        refine mw_lc_le (tgt := 124) dX10_compare_116 dX10_compare_117 (by decide) (fun hc => ?_) (fun hc => ?_)
        · have h := mit hc h
          refine mw_iconst (v := 0) dX10_compare_124 (by decide) ?_
          exact mw_sub (L' := [(0, .ref a0), (1, .int a1), (2, .int a2), (3, .int a3), (5, .int (((40 : Int32) * a1) + a2)), (6, .int (((40 : Int32) * a1) + a3))]) [5, 6, 7, 8, 3, 2] rfl (p_X10_compare_J125  h)
        · have h := mie hc h
          refine mw_iconst (v := 1) dX10_compare_120 (by decide) ?_
          refine mw_goto (tgt := 125) dX10_compare_121 (by decide) ?_
          exact mw_sub (L' := [(0, .ref a0), (1, .int a1), (2, .int a2), (3, .int a3), (5, .int (((40 : Int32) * a1) + a2)), (6, .int (((40 : Int32) * a1) + a3))]) [5, 6, 7, 8, 3, 2] rfl (p_X10_compare_J125  h)
      · have h := mie hc h
        refine mw_iconst (v := -1) dX10_compare_108 (by decide) ?_
        refine mw_goto (tgt := 125) dX10_compare_109 (by decide) ?_
        exact mw_sub (L' := [(0, .ref a0), (1, .int a1), (2, .int a2), (3, .int a3), (5, .int (((40 : Int32) * a1) + a2)), (6, .int (((40 : Int32) * a1) + a3))]) [5, 6, 7, 8, 3, 2] rfl (p_X10_compare_J125  h)
    · have h := mit hc h
      refine mw_aload_n dX10_compare_93 5 rfl ?_
      refine mw_bipush (v := 8) dX10_compare_94 (by decide) ?_
      obtain ⟨r16, e17, h⟩ := mbd h
      refine mv_callV_i (As := [.int (8 : Int32)]) lkV_RX10_81_yX10_finds dX10_compare_96 (k_X10_finds e17) rfl m3 rfl rfl (Nat.le_of_ble_eq_true rfl) (by decide) (by decide) ?_
      exact mw_iret dX10_compare_99 rfl (mrs_im h) rfl rfl
  · have h := mie hc h
    refine mw_aload_n dX10_compare_14 1 rfl ?_
    refine mw_iload dX10_compare_15 0 rfl ?_
    obtain ⟨r18, e19, h⟩ := mbd h
    refine mv_callV_i (As := [.int r1]) lkV_RX10_81_yX10_finds dX10_compare_17 (k_X10_finds e19) rfl m3 rfl rfl (Nat.le_of_ble_eq_true rfl) (by decide) (by decide) ?_
    exact mw_iret dX10_compare_20 rfl (mrs_im h) rfl rfl

theorem dX10_narrow_0 : decode cX10_narrow 0 = .ok (.iload_n 0, 1) := by decide +kernel
theorem dX10_narrow_1 : decode cX10_narrow 1 = .ok (.bipush 16, 2) := by decide +kernel
theorem dX10_narrow_3 : decode cX10_narrow 3 = .ok (.if_icmp .ne 10, 3) := by decide +kernel
theorem dX10_narrow_6 : decode cX10_narrow 6 = .ok (.lload_n 1, 1) := by decide +kernel
theorem dX10_narrow_7 : decode cX10_narrow 7 = .ok (.l2i, 1) := by decide +kernel
theorem dX10_narrow_8 : decode cX10_narrow 8 = .ok (.i2s, 1) := by decide +kernel
theorem dX10_narrow_9 : decode cX10_narrow 9 = .ok (.i2l, 1) := by decide +kernel
theorem dX10_narrow_10 : decode cX10_narrow 10 = .ok (.goto 16, 3) := by decide +kernel
theorem dX10_narrow_13 : decode cX10_narrow 13 = .ok (.iload_n 0, 1) := by decide +kernel
theorem dX10_narrow_14 : decode cX10_narrow 14 = .ok (.bipush 32, 2) := by decide +kernel
theorem dX10_narrow_16 : decode cX10_narrow 16 = .ok (.if_icmp .ne 9, 3) := by decide +kernel
theorem dX10_narrow_19 : decode cX10_narrow 19 = .ok (.lload_n 1, 1) := by decide +kernel
theorem dX10_narrow_20 : decode cX10_narrow 20 = .ok (.l2i, 1) := by decide +kernel
theorem dX10_narrow_21 : decode cX10_narrow 21 = .ok (.i2l, 1) := by decide +kernel
theorem dX10_narrow_22 : decode cX10_narrow 22 = .ok (.goto 4, 3) := by decide +kernel
theorem dX10_narrow_25 : decode cX10_narrow 25 = .ok (.lload_n 1, 1) := by decide +kernel
theorem dX10_narrow_26 : decode cX10_narrow 26 = .ok (.lreturn, 1) := by decide +kernel
def f_X10_narrow (a0 : Int32) (a1 : Int64) : Option Int64 := if a0 = (16 : Int32) then (some a1.toInt32.toInt16.toInt32.toInt64) else (if a0 = (32 : Int32) then (some a1.toInt32.toInt64) else (some a1))
set_option maxRecDepth 100000 in
set_option maxHeartbeats 4000000 in
theorem k_X10_narrow {l : Launch} {σ : MSt} {a0 : Int32} {a1 : Int64} {out : Int64} (h : f_X10_narrow a0 a1 = some out) : MK l yX10_narrow cX10_narrow 3 (some .long) 1 [.int a0, .long a1] σ (some (.long out)) σ := by
  unfold f_X10_narrow at h
  refine mw_entry (own := RX10) (ini := false) (L := [(0, .int a0), (1, .long a1)]) (by decide +kernel) rfl (fun h => nomatch h) rfl (Nat.le_of_ble_eq_true rfl) (Nat.le_of_ble_eq_true rfl) (fun E => ?_)
  refine mw_iload_n dX10_narrow_0 0 rfl ?_
  refine mw_bipush (v := 16) dX10_narrow_1 (by decide) ?_
  refine mw_icmp_ne (tgt := 13) dX10_narrow_3 (by decide) (fun hc => ?_) (fun hc => ?_)
  · have h := mie hc h
    refine mw_iload_n dX10_narrow_13 0 rfl ?_
    refine mw_bipush (v := 32) dX10_narrow_14 (by decide) ?_
    refine mw_icmp_ne (tgt := 25) dX10_narrow_16 (by decide) (fun hc => ?_) (fun hc => ?_)
    · have h := mie hc h
      refine mw_lload_n dX10_narrow_25 1 rfl ?_
      exact mw_lret dX10_narrow_26 rfl (mrs_l h) rfl rfl
    · have h := mit hc h
      refine mw_lload_n dX10_narrow_19 1 rfl ?_
      refine mw_l2i dX10_narrow_20 ?_
      refine mw_i2l dX10_narrow_21 ?_
      refine mw_goto (tgt := 26) dX10_narrow_22 (by decide) ?_
      exact mw_lret dX10_narrow_26 rfl (mrs_l h) rfl rfl
  · have h := mit hc h
    refine mw_lload_n dX10_narrow_6 1 rfl ?_
    refine mw_l2i dX10_narrow_7 ?_
    refine mw_i2s dX10_narrow_8 ?_
    refine mw_i2l dX10_narrow_9 ?_
    refine mw_goto (tgt := 26) dX10_narrow_10 (by decide) ?_
    exact mw_lret dX10_narrow_26 rfl (mrs_l h) rfl rfl

theorem dX10_reduce_0 : decode cX10_reduce 0 = .ok (.aload_n 0, 1) := by decide +kernel
theorem dX10_reduce_1 : decode cX10_reduce 1 = .ok (.iload_n 1, 1) := by decide +kernel
theorem dX10_reduce_2 : decode cX10_reduce 2 = .ok (.iload_n 2, 1) := by decide +kernel
theorem dX10_reduce_3 : decode cX10_reduce 3 = .ok (.iload_n 2, 1) := by decide +kernel
theorem dX10_reduce_4 : decode cX10_reduce 4 = .ok (.invokevirtual 261, 3) := by decide +kernel
theorem dX10_reduce_7 : decode cX10_reduce 7 = .ok (.istore_n 3, 1) := by decide +kernel
theorem dX10_reduce_8 : decode cX10_reduce 8 = .ok (.iload_n 3, 1) := by decide +kernel
theorem dX10_reduce_9 : decode cX10_reduce 9 = .ok (.ifCond .lt 9, 3) := by decide +kernel
theorem dX10_reduce_12 : decode cX10_reduce 12 = .ok (.aload_n 0, 1) := by decide +kernel
theorem dX10_reduce_13 : decode cX10_reduce 13 = .ok (.iload_n 3, 1) := by decide +kernel
theorem dX10_reduce_14 : decode cX10_reduce 14 = .ok (.invokevirtual 165, 3) := by decide +kernel
theorem dX10_reduce_17 : decode cX10_reduce 17 = .ok (.lreturn, 1) := by decide +kernel
theorem dX10_reduce_18 : decode cX10_reduce 18 = .ok (.bipush 40, 2) := by decide +kernel
theorem dX10_reduce_20 : decode cX10_reduce 20 = .ok (.iload_n 1, 1) := by decide +kernel
theorem dX10_reduce_21 : decode cX10_reduce 21 = .ok (.imul, 1) := by decide +kernel
theorem dX10_reduce_22 : decode cX10_reduce 22 = .ok (.iload_n 2, 1) := by decide +kernel
theorem dX10_reduce_23 : decode cX10_reduce 23 = .ok (.iadd, 1) := by decide +kernel
theorem dX10_reduce_24 : decode cX10_reduce 24 = .ok (.istore 4, 2) := by decide +kernel
theorem dX10_reduce_26 : decode cX10_reduce 26 = .ok (.aload_n 0, 1) := by decide +kernel
theorem dX10_reduce_27 : decode cX10_reduce 27 = .ok (.getfield 38, 3) := by decide +kernel
theorem dX10_reduce_30 : decode cX10_reduce 30 = .ok (.iload 4, 2) := by decide +kernel
theorem dX10_reduce_32 : decode cX10_reduce 32 = .ok (.laload, 1) := by decide +kernel
theorem dX10_reduce_33 : decode cX10_reduce 33 = .ok (.lstore 5, 2) := by decide +kernel
theorem dX10_reduce_35 : decode cX10_reduce 35 = .ok (.aload_n 0, 1) := by decide +kernel
theorem dX10_reduce_36 : decode cX10_reduce 36 = .ok (.getfield 38, 3) := by decide +kernel
theorem dX10_reduce_39 : decode cX10_reduce 39 = .ok (.iload 4, 2) := by decide +kernel
theorem dX10_reduce_41 : decode cX10_reduce 41 = .ok (.iconst 1, 1) := by decide +kernel
theorem dX10_reduce_42 : decode cX10_reduce 42 = .ok (.iadd, 1) := by decide +kernel
theorem dX10_reduce_43 : decode cX10_reduce 43 = .ok (.laload, 1) := by decide +kernel
theorem dX10_reduce_44 : decode cX10_reduce 44 = .ok (.lstore 7, 2) := by decide +kernel
theorem dX10_reduce_46 : decode cX10_reduce 46 = .ok (.lload 5, 2) := by decide +kernel
theorem dX10_reduce_48 : decode cX10_reduce 48 = .ok (.lconst 0, 1) := by decide +kernel
theorem dX10_reduce_49 : decode cX10_reduce 49 = .ok (.lcmp, 1) := by decide +kernel
theorem dX10_reduce_50 : decode cX10_reduce 50 = .ok (.ifCond .le 9, 3) := by decide +kernel
theorem dX10_reduce_53 : decode cX10_reduce 53 = .ok (.lload 5, 2) := by decide +kernel
theorem dX10_reduce_55 : decode cX10_reduce 55 = .ok (.lneg, 1) := by decide +kernel
theorem dX10_reduce_56 : decode cX10_reduce 56 = .ok (.goto 5, 3) := by decide +kernel
theorem dX10_reduce_59 : decode cX10_reduce 59 = .ok (.lload 5, 2) := by decide +kernel
theorem dX10_reduce_61 : decode cX10_reduce 61 = .ok (.lstore 9, 2) := by decide +kernel
theorem dX10_reduce_63 : decode cX10_reduce 63 = .ok (.lload 7, 2) := by decide +kernel
theorem dX10_reduce_65 : decode cX10_reduce 65 = .ok (.lconst 0, 1) := by decide +kernel
theorem dX10_reduce_66 : decode cX10_reduce 66 = .ok (.lcmp, 1) := by decide +kernel
theorem dX10_reduce_67 : decode cX10_reduce 67 = .ok (.ifCond .le 9, 3) := by decide +kernel
theorem dX10_reduce_70 : decode cX10_reduce 70 = .ok (.lload 7, 2) := by decide +kernel
theorem dX10_reduce_72 : decode cX10_reduce 72 = .ok (.lneg, 1) := by decide +kernel
theorem dX10_reduce_73 : decode cX10_reduce 73 = .ok (.goto 5, 3) := by decide +kernel
theorem dX10_reduce_76 : decode cX10_reduce 76 = .ok (.lload 7, 2) := by decide +kernel
theorem dX10_reduce_78 : decode cX10_reduce 78 = .ok (.lstore 11, 2) := by decide +kernel
theorem dX10_reduce_80 : decode cX10_reduce 80 = .ok (.lload 11, 2) := by decide +kernel
theorem dX10_reduce_82 : decode cX10_reduce 82 = .ok (.lconst 0, 1) := by decide +kernel
theorem dX10_reduce_83 : decode cX10_reduce 83 = .ok (.lcmp, 1) := by decide +kernel
theorem dX10_reduce_84 : decode cX10_reduce 84 = .ok (.ifCond .eq 21, 3) := by decide +kernel
theorem dX10_reduce_87 : decode cX10_reduce 87 = .ok (.lload 9, 2) := by decide +kernel
theorem dX10_reduce_89 : decode cX10_reduce 89 = .ok (.lload 11, 2) := by decide +kernel
theorem dX10_reduce_91 : decode cX10_reduce 91 = .ok (.lrem, 1) := by decide +kernel
theorem dX10_reduce_92 : decode cX10_reduce 92 = .ok (.lstore 13, 2) := by decide +kernel
theorem dX10_reduce_94 : decode cX10_reduce 94 = .ok (.lload 11, 2) := by decide +kernel
theorem dX10_reduce_96 : decode cX10_reduce 96 = .ok (.lstore 9, 2) := by decide +kernel
theorem dX10_reduce_98 : decode cX10_reduce 98 = .ok (.lload 13, 2) := by decide +kernel
theorem dX10_reduce_100 : decode cX10_reduce 100 = .ok (.lstore 11, 2) := by decide +kernel
theorem dX10_reduce_102 : decode cX10_reduce 102 = .ok (.goto (-22), 3) := by decide +kernel
theorem dX10_reduce_105 : decode cX10_reduce 105 = .ok (.lload 9, 2) := by decide +kernel
theorem dX10_reduce_107 : decode cX10_reduce 107 = .ok (.ldc2_w 177, 3) := by decide +kernel
theorem dX10_reduce_110 : decode cX10_reduce 110 = .ok (.lcmp, 1) := by decide +kernel
theorem dX10_reduce_111 : decode cX10_reduce 111 = .ok (.ifCond .ne 10, 3) := by decide +kernel
theorem dX10_reduce_114 : decode cX10_reduce 114 = .ok (.aload_n 0, 1) := by decide +kernel
theorem dX10_reduce_115 : decode cX10_reduce 115 = .ok (.bipush 8, 2) := by decide +kernel
theorem dX10_reduce_117 : decode cX10_reduce 117 = .ok (.invokevirtual 165, 3) := by decide +kernel
theorem dX10_reduce_120 : decode cX10_reduce 120 = .ok (.lreturn, 1) := by decide +kernel
theorem dX10_reduce_121 : decode cX10_reduce 121 = .ok (.lload 9, 2) := by decide +kernel
theorem dX10_reduce_123 : decode cX10_reduce 123 = .ok (.lneg, 1) := by decide +kernel
theorem dX10_reduce_124 : decode cX10_reduce 124 = .ok (.lstore 13, 2) := by decide +kernel
theorem dX10_reduce_126 : decode cX10_reduce 126 = .ok (.lload 5, 2) := by decide +kernel
theorem dX10_reduce_128 : decode cX10_reduce 128 = .ok (.lload 13, 2) := by decide +kernel
theorem dX10_reduce_130 : decode cX10_reduce 130 = .ok (.ldiv, 1) := by decide +kernel
theorem dX10_reduce_131 : decode cX10_reduce 131 = .ok (.lstore 15, 2) := by decide +kernel
theorem dX10_reduce_133 : decode cX10_reduce 133 = .ok (.lload 7, 2) := by decide +kernel
theorem dX10_reduce_135 : decode cX10_reduce 135 = .ok (.lload 13, 2) := by decide +kernel
theorem dX10_reduce_137 : decode cX10_reduce 137 = .ok (.ldiv, 1) := by decide +kernel
theorem dX10_reduce_138 : decode cX10_reduce 138 = .ok (.lstore 17, 2) := by decide +kernel
theorem dX10_reduce_140 : decode cX10_reduce 140 = .ok (.lload 7, 2) := by decide +kernel
theorem dX10_reduce_142 : decode cX10_reduce 142 = .ok (.lconst 0, 1) := by decide +kernel
theorem dX10_reduce_143 : decode cX10_reduce 143 = .ok (.lcmp, 1) := by decide +kernel
theorem dX10_reduce_144 : decode cX10_reduce 144 = .ok (.ifCond .ge 28, 3) := by decide +kernel
theorem dX10_reduce_147 : decode cX10_reduce 147 = .ok (.lload 15, 2) := by decide +kernel
theorem dX10_reduce_149 : decode cX10_reduce 149 = .ok (.ldc2_w 177, 3) := by decide +kernel
theorem dX10_reduce_152 : decode cX10_reduce 152 = .ok (.lcmp, 1) := by decide +kernel
theorem dX10_reduce_153 : decode cX10_reduce 153 = .ok (.ifCond .eq 12, 3) := by decide +kernel
theorem dX10_reduce_156 : decode cX10_reduce 156 = .ok (.lload 17, 2) := by decide +kernel
theorem dX10_reduce_158 : decode cX10_reduce 158 = .ok (.ldc2_w 177, 3) := by decide +kernel
theorem dX10_reduce_161 : decode cX10_reduce 161 = .ok (.lcmp, 1) := by decide +kernel
theorem dX10_reduce_162 : decode cX10_reduce 162 = .ok (.ifCond .ne 10, 3) := by decide +kernel
theorem dX10_reduce_165 : decode cX10_reduce 165 = .ok (.aload_n 0, 1) := by decide +kernel
theorem dX10_reduce_166 : decode cX10_reduce 166 = .ok (.bipush 8, 2) := by decide +kernel
theorem dX10_reduce_168 : decode cX10_reduce 168 = .ok (.invokevirtual 165, 3) := by decide +kernel
theorem dX10_reduce_171 : decode cX10_reduce 171 = .ok (.lreturn, 1) := by decide +kernel
theorem dX10_reduce_172 : decode cX10_reduce 172 = .ok (.aload_n 0, 1) := by decide +kernel
theorem dX10_reduce_173 : decode cX10_reduce 173 = .ok (.getfield 38, 3) := by decide +kernel
theorem dX10_reduce_176 : decode cX10_reduce 176 = .ok (.iload 4, 2) := by decide +kernel
theorem dX10_reduce_178 : decode cX10_reduce 178 = .ok (.aload_n 0, 1) := by decide +kernel
theorem dX10_reduce_179 : decode cX10_reduce 179 = .ok (.getfield 32, 3) := by decide +kernel
theorem dX10_reduce_182 : decode cX10_reduce 182 = .ok (.iload_n 1, 1) := by decide +kernel
theorem dX10_reduce_183 : decode cX10_reduce 183 = .ok (.iaload, 1) := by decide +kernel
theorem dX10_reduce_184 : decode cX10_reduce 184 = .ok (.lload 7, 2) := by decide +kernel
theorem dX10_reduce_186 : decode cX10_reduce 186 = .ok (.lconst 0, 1) := by decide +kernel
theorem dX10_reduce_187 : decode cX10_reduce 187 = .ok (.lcmp, 1) := by decide +kernel
theorem dX10_reduce_188 : decode cX10_reduce 188 = .ok (.ifCond .ge 9, 3) := by decide +kernel
theorem dX10_reduce_191 : decode cX10_reduce 191 = .ok (.lload 15, 2) := by decide +kernel
theorem dX10_reduce_193 : decode cX10_reduce 193 = .ok (.lneg, 1) := by decide +kernel
theorem dX10_reduce_194 : decode cX10_reduce 194 = .ok (.goto 5, 3) := by decide +kernel
theorem dX10_reduce_197 : decode cX10_reduce 197 = .ok (.lload 15, 2) := by decide +kernel
theorem dX10_reduce_199 : decode cX10_reduce 199 = .ok (.invokestatic 265, 3) := by decide +kernel
theorem dX10_reduce_202 : decode cX10_reduce 202 = .ok (.lastore, 1) := by decide +kernel
theorem dX10_reduce_203 : decode cX10_reduce 203 = .ok (.aload_n 0, 1) := by decide +kernel
theorem dX10_reduce_204 : decode cX10_reduce 204 = .ok (.getfield 38, 3) := by decide +kernel
theorem dX10_reduce_207 : decode cX10_reduce 207 = .ok (.iload 4, 2) := by decide +kernel
theorem dX10_reduce_209 : decode cX10_reduce 209 = .ok (.iconst 1, 1) := by decide +kernel
theorem dX10_reduce_210 : decode cX10_reduce 210 = .ok (.iadd, 1) := by decide +kernel
theorem dX10_reduce_211 : decode cX10_reduce 211 = .ok (.aload_n 0, 1) := by decide +kernel
theorem dX10_reduce_212 : decode cX10_reduce 212 = .ok (.getfield 32, 3) := by decide +kernel
theorem dX10_reduce_215 : decode cX10_reduce 215 = .ok (.iload_n 1, 1) := by decide +kernel
theorem dX10_reduce_216 : decode cX10_reduce 216 = .ok (.iaload, 1) := by decide +kernel
theorem dX10_reduce_217 : decode cX10_reduce 217 = .ok (.lload 7, 2) := by decide +kernel
theorem dX10_reduce_219 : decode cX10_reduce 219 = .ok (.lconst 0, 1) := by decide +kernel
theorem dX10_reduce_220 : decode cX10_reduce 220 = .ok (.lcmp, 1) := by decide +kernel
theorem dX10_reduce_221 : decode cX10_reduce 221 = .ok (.ifCond .ge 9, 3) := by decide +kernel
theorem dX10_reduce_224 : decode cX10_reduce 224 = .ok (.lload 17, 2) := by decide +kernel
theorem dX10_reduce_226 : decode cX10_reduce 226 = .ok (.lneg, 1) := by decide +kernel
theorem dX10_reduce_227 : decode cX10_reduce 227 = .ok (.goto 5, 3) := by decide +kernel
theorem dX10_reduce_230 : decode cX10_reduce 230 = .ok (.lload 17, 2) := by decide +kernel
theorem dX10_reduce_232 : decode cX10_reduce 232 = .ok (.invokestatic 265, 3) := by decide +kernel
theorem dX10_reduce_235 : decode cX10_reduce 235 = .ok (.lastore, 1) := by decide +kernel
theorem dX10_reduce_236 : decode cX10_reduce 236 = .ok (.lload 13, 2) := by decide +kernel
theorem dX10_reduce_238 : decode cX10_reduce 238 = .ok (.lreturn, 1) := by decide +kernel
def f_X10_reduce_J199 (a0 : Nat) (a1 : Int32) (a2 : Int32) (x4 : Int32) (x7 : Int64) (x13 : Int64) (x17 : Int64) (s0 : Nat) (s1 : Int32) (s2 : Int32) (s3 : Int64) (σ : MSt) : Option (Int64 × MSt) := (f_X10_narrow s2 s3).bind (fun r1 => if mix 1 s0 s1 = true then (if mob 9 a0 = true then ((mmR (muL σ s0 s1.toNatClampNeg r1) a0 22).bind (fun q5 => (mmR (muL σ s0 s1.toNatClampNeg r1) a0 20).bind (fun q7 => if mix 0 q7 a1 = true then (if (0 : Int64) ≤ x7 then ((f_X10_narrow (mmI (muL σ s0 s1.toNatClampNeg r1) q7 a1.toNatClampNeg) x17).bind (fun r10 => if mix 1 q5 (x4 + (1 : Int32)) = true then (some (x13, (muL (muL σ s0 s1.toNatClampNeg r1) q5 (x4 + (1 : Int32)).toNatClampNeg r10))) else none)) else ((f_X10_narrow (mmI (muL σ s0 s1.toNatClampNeg r1) q7 a1.toNatClampNeg) (-x17)).bind (fun r13 => if mix 1 q5 (x4 + (1 : Int32)) = true then (some (x13, (muL (muL σ s0 s1.toNatClampNeg r1) q5 (x4 + (1 : Int32)).toNatClampNeg r13))) else none))) else none))) else none) else none)
set_option maxRecDepth 100000 in
set_option maxHeartbeats 4000000 in
theorem p_X10_reduce_J199 {l : Launch} {E : MX} {out : (Int64 × MSt)} {a0 : Nat} {a1 : Int32} {a2 : Int32}  {x4 : Int32} {x7 : Int64} {x13 : Int64} {x17 : Int64} {s0 : Nat} {s1 : Int32} {s2 : Int32} {s3 : Int64} {σ : MSt} (h : f_X10_reduce_J199 a0 a1 a2 x4 x7 x13 x17 s0 s1 s2 s3 σ = some out) : MV l E cX10_reduce RX10 19 (some .long) 4 (82, (some (.long out.1)), out.2) σ 199 [(0, .ref a0), (1, .int a1), (2, .int a2), (4, .int x4), (7, .long x7), (13, .long x13), (17, .long x17)] [.long s3, .int s2, .int s1, .ref s0] := by
  unfold f_X10_reduce_J199 at h
  obtain ⟨r1, e2, h⟩ := mbd h
  refine mv_callS_l (As := [.int s2, .long s3]) lkS_RX10_265_yX10_narrow dX10_reduce_199 (k_X10_narrow e2) rfl rfl (Nat.le_of_ble_eq_true rfl) (by decide) (by decide) ?_
  obtain ⟨m3, h⟩ := mif h
  refine mv_last dX10_reduce_202 m3 ?_
  refine mw_aload_n dX10_reduce_203 0 rfl ?_
  obtain ⟨m4, h⟩ := mif h
  obtain ⟨q5, e6, h⟩ := mbd h
  refine mv_getR fd_RX10_38_9 dX10_reduce_204 m4 rfl e6 ?_
  refine mw_iload dX10_reduce_207 3 rfl ?_
  refine mw_iconst (v := 1) dX10_reduce_209 (by decide) ?_
  refine mw_iadd dX10_reduce_210 ?_
  refine mw_aload_n dX10_reduce_211 0 rfl ?_
  obtain ⟨q7, e8, h⟩ := mbd h
  refine mv_getR fd_RX10_32_9 dX10_reduce_212 m4 rfl e8 ?_
  refine mw_iload_n dX10_reduce_215 1 rfl ?_
  obtain ⟨m9, h⟩ := mif h
  refine mv_iald dX10_reduce_216 m9 ?_
  refine mw_lload dX10_reduce_217 4 rfl ?_
  refine mw_lconst (v := 0) dX10_reduce_219 (by decide) ?_
  refine mw_lc_ge (tgt := 230) dX10_reduce_220 dX10_reduce_221 (by decide) (fun hc => ?_) (fun hc => ?_)
  · have h := mit hc h
    refine mw_lload dX10_reduce_230 6 rfl ?_
    obtain ⟨r10, e11, h⟩ := mbd h
    refine mv_callS_l (As := [.int (mmI (muL σ s0 s1.toNatClampNeg r1) q7 a1.toNatClampNeg), .long x17]) lkS_RX10_265_yX10_narrow dX10_reduce_232 (k_X10_narrow e11) rfl rfl (Nat.le_of_ble_eq_true rfl) (by decide) (by decide) ?_
    obtain ⟨m12, h⟩ := mif h
    refine mv_last dX10_reduce_235 m12 ?_
    refine mw_lload dX10_reduce_236 5 rfl ?_
    exact mw_lret dX10_reduce_238 rfl (mrs_lm h) rfl rfl
  · have h := mie hc h
    refine mw_lload dX10_reduce_224 6 rfl ?_
    refine mw_lneg dX10_reduce_226 ?_
    refine mw_goto (tgt := 232) dX10_reduce_227 (by decide) ?_
    obtain ⟨r13, e14, h⟩ := mbd h
    refine mv_callS_l (As := [.int (mmI (muL σ s0 s1.toNatClampNeg r1) q7 a1.toNatClampNeg), .long (-x17)]) lkS_RX10_265_yX10_narrow dX10_reduce_232 (k_X10_narrow e14) rfl rfl (Nat.le_of_ble_eq_true rfl) (by decide) (by decide) ?_
    obtain ⟨m15, h⟩ := mif h
    refine mv_last dX10_reduce_235 m15 ?_
    refine mw_lload dX10_reduce_236 5 rfl ?_
    exact mw_lret dX10_reduce_238 rfl (mrs_lm h) rfl rfl
def f_X10_reduce_J172 (a0 : Nat) (a1 : Int32) (a2 : Int32) (x4 : Int32) (x7 : Int64) (x13 : Int64) (x15 : Int64) (x17 : Int64) (σ : MSt) : Option (Int64 × MSt) := if mob 9 a0 = true then ((mmR σ a0 22).bind (fun q2 => (mmR σ a0 20).bind (fun q4 => if mix 0 q4 a1 = true then (if (0 : Int64) ≤ x7 then (f_X10_reduce_J199 a0 a1 a2 x4 x7 x13 x17 q2 x4 (mmI σ q4 a1.toNatClampNeg) x15 σ) else (f_X10_reduce_J199 a0 a1 a2 x4 x7 x13 x17 q2 x4 (mmI σ q4 a1.toNatClampNeg) (-x15) σ)) else none))) else none
set_option maxRecDepth 100000 in
set_option maxHeartbeats 4000000 in
theorem p_X10_reduce_J172 {l : Launch} {E : MX} {out : (Int64 × MSt)} {a0 : Nat} {a1 : Int32} {a2 : Int32}  {x4 : Int32} {x7 : Int64} {x13 : Int64} {x15 : Int64} {x17 : Int64} {σ : MSt} (h : f_X10_reduce_J172 a0 a1 a2 x4 x7 x13 x15 x17 σ = some out) : MV l E cX10_reduce RX10 19 (some .long) 4 (82, (some (.long out.1)), out.2) σ 172 [(0, .ref a0), (1, .int a1), (2, .int a2), (4, .int x4), (7, .long x7), (13, .long x13), (15, .long x15), (17, .long x17)] [] := by
  unfold f_X10_reduce_J172 at h
  refine mw_aload_n dX10_reduce_172 0 rfl ?_
  obtain ⟨m1, h⟩ := mif h
  obtain ⟨q2, e3, h⟩ := mbd h
  refine mv_getR fd_RX10_38_9 dX10_reduce_173 m1 rfl e3 ?_
  refine mw_iload dX10_reduce_176 3 rfl ?_
  refine mw_aload_n dX10_reduce_178 0 rfl ?_
  obtain ⟨q4, e5, h⟩ := mbd h
  refine mv_getR fd_RX10_32_9 dX10_reduce_179 m1 rfl e5 ?_
  refine mw_iload_n dX10_reduce_182 1 rfl ?_
  obtain ⟨m6, h⟩ := mif h
  refine mv_iald dX10_reduce_183 m6 ?_
  refine mw_lload dX10_reduce_184 4 rfl ?_
  refine mw_lconst (v := 0) dX10_reduce_186 (by decide) ?_
  refine mw_lc_ge (tgt := 197) dX10_reduce_187 dX10_reduce_188 (by decide) (fun hc => ?_) (fun hc => ?_)
  · have h := mit hc h
    refine mw_lload dX10_reduce_197 6 rfl ?_
    exact mw_sub (L' := [(0, .ref a0), (1, .int a1), (2, .int a2), (4, .int x4), (7, .long x7), (13, .long x13), (17, .long x17)]) [0, 1, 2, 3, 4, 5, 7] rfl (p_X10_reduce_J199  h)
  · have h := mie hc h
    refine mw_lload dX10_reduce_191 6 rfl ?_
    refine mw_lneg dX10_reduce_193 ?_
    refine mw_goto (tgt := 199) dX10_reduce_194 (by decide) ?_
    exact mw_sub (L' := [(0, .ref a0), (1, .int a1), (2, .int a2), (4, .int x4), (7, .long x7), (13, .long x13), (17, .long x17)]) [0, 1, 2, 3, 4, 5, 7] rfl (p_X10_reduce_J199  h)
def f_X10_reduce_L80 (a0 : Nat) (a1 : Int32) (a2 : Int32) : Nat → Int32 → Int64 → Int64 → Int64 → Int64 → MSt → Option (Int64 × MSt)
  | 0, _, _, _, _, _, _ => none
  | n + 1, x4, x5, x7, x9, x11, σ => if x11 = (0 : Int64) then (if x9 = (-9223372036854775808 : Int64) then ((f_X10_farFinds a0 (8 : Int32) σ).bind (fun r9 => if mob 9 a0 = true then (some (r9.1, r9.2)) else none)) else (if (-x9) = 0 then none else (if (-x9) = 0 then none else (if (0 : Int64) ≤ x7 then (f_X10_reduce_J172 a0 a1 a2 x4 x7 (-x9) (x5 / (-x9)) (x7 / (-x9)) σ) else (if (x5 / (-x9)) = (-9223372036854775808 : Int64) then ((f_X10_farFinds a0 (8 : Int32) σ).bind (fun r3 => if mob 9 a0 = true then (some (r3.1, r3.2)) else none)) else (if (x7 / (-x9)) = (-9223372036854775808 : Int64) then ((f_X10_farFinds a0 (8 : Int32) σ).bind (fun r6 => if mob 9 a0 = true then (some (r6.1, r6.2)) else none)) else (f_X10_reduce_J172 a0 a1 a2 x4 x7 (-x9) (x5 / (-x9)) (x7 / (-x9)) σ))))))) else (if x11 = 0 then none else (f_X10_reduce_L80 a0 a1 a2 n x4 x5 x7 x11 (x9 - x9 / x11 * x11) σ))
set_option maxRecDepth 100000 in
set_option maxHeartbeats 4000000 in
theorem p_X10_reduce_L80 {l : Launch} {E : MX} {out : (Int64 × MSt)} {a0 : Nat} {a1 : Int32} {a2 : Int32}  : ∀ (n : Nat) (x4 : Int32) (x5 : Int64) (x7 : Int64) (x9 : Int64) (x11 : Int64) (σ : MSt), f_X10_reduce_L80 a0 a1 a2 n x4 x5 x7 x9 x11 σ = some out → MV l E cX10_reduce RX10 19 (some .long) 4 (82, (some (.long out.1)), out.2) σ 80 [(0, .ref a0), (1, .int a1), (2, .int a2), (4, .int x4), (5, .long x5), (7, .long x7), (9, .long x9), (11, .long x11)] [] := by
  intro n
  induction n with
  | zero =>
    intro x4 x5 x7 x9 x11 σ h
    exact nomatch h
  | succ n ih =>
    intro x4 x5 x7 x9 x11 σ h
    rw [f_X10_reduce_L80] at h
    refine mw_lload dX10_reduce_80 7 rfl ?_
    refine mw_lconst (v := 0) dX10_reduce_82 (by decide) ?_
    refine mw_lc_eq (tgt := 105) dX10_reduce_83 dX10_reduce_84 (by decide) (fun hc => ?_) (fun hc => ?_)
    · have h := mit hc h
      refine mw_lload dX10_reduce_105 6 rfl ?_
      refine mw_ldc2 dX10_reduce_107 wt_676 ?_
      refine mw_lc_ne (tgt := 121) dX10_reduce_110 dX10_reduce_111 (by decide) (fun hc => ?_) (fun hc => ?_)
      · have h := mie hc h
        refine mw_lload dX10_reduce_121 6 rfl ?_
        refine mw_lneg dX10_reduce_123 ?_
        refine mw_lstore (L' := [(13, .long (-x9)), (0, .ref a0), (1, .int a1), (2, .int a2), (4, .int x4), (5, .long x5), (7, .long x7), (9, .long x9), (11, .long x11)]) dX10_reduce_124 (by decide) rfl ?_
        refine mw_lload dX10_reduce_126 5 rfl ?_
        refine mw_lload dX10_reduce_128 0 rfl ?_
        obtain ⟨m1, h⟩ := mnf h
        refine mw_ldiv dX10_reduce_130 m1 ?_
        refine mw_lstore (L' := [(15, .long (x5 / (-x9))), (13, .long (-x9)), (0, .ref a0), (1, .int a1), (2, .int a2), (4, .int x4), (5, .long x5), (7, .long x7), (9, .long x9), (11, .long x11)]) dX10_reduce_131 (by decide) rfl ?_
        refine mw_lload dX10_reduce_133 7 rfl ?_
        refine mw_lload dX10_reduce_135 1 rfl ?_
        obtain ⟨m2, h⟩ := mnf h
        refine mw_ldiv dX10_reduce_137 m2 ?_
        refine mw_lstore (L' := [(17, .long (x7 / (-x9))), (15, .long (x5 / (-x9))), (13, .long (-x9)), (0, .ref a0), (1, .int a1), (2, .int a2), (4, .int x4), (5, .long x5), (7, .long x7), (9, .long x9), (11, .long x11)]) dX10_reduce_138 (by decide) rfl ?_
        refine mw_lload dX10_reduce_140 8 rfl ?_
        refine mw_lconst (v := 0) dX10_reduce_142 (by decide) ?_
        refine mw_lc_ge (tgt := 172) dX10_reduce_143 dX10_reduce_144 (by decide) (fun hc => ?_) (fun hc => ?_)
        · have h := mit hc h
          exact mw_sub (L' := [(0, .ref a0), (1, .int a1), (2, .int a2), (4, .int x4), (7, .long x7), (13, .long (-x9)), (15, .long (x5 / (-x9))), (17, .long (x7 / (-x9)))]) [3, 4, 5, 6, 8, 2, 1, 0] rfl (p_X10_reduce_J172  h)
        · have h := mie hc h
          refine mw_lload dX10_reduce_147 1 rfl ?_
          refine mw_ldc2 dX10_reduce_149 wt_676 ?_
          refine mw_lc_eq (tgt := 165) dX10_reduce_152 dX10_reduce_153 (by decide) (fun hc => ?_) (fun hc => ?_)
          · have h := mit hc h
            refine mw_aload_n dX10_reduce_165 3 rfl ?_
            refine mw_bipush (v := 8) dX10_reduce_166 (by decide) ?_
            obtain ⟨r3, e4, h⟩ := mbd h
            obtain ⟨m5, h⟩ := mif h
            refine mv_callV_l (As := [.int (8 : Int32)]) lkV_RX10_165_yX10_farFinds dX10_reduce_168 (k_X10_farFinds e4) rfl m5 rfl rfl (Nat.le_of_ble_eq_true rfl) (by decide) (by decide) ?_
            exact mw_lret dX10_reduce_171 rfl (mrs_lm h) rfl rfl
          · have h := mie hc h
            refine mw_lload dX10_reduce_156 0 rfl ?_
            refine mw_ldc2 dX10_reduce_158 wt_676 ?_
            refine mw_lc_ne (tgt := 172) dX10_reduce_161 dX10_reduce_162 (by decide) (fun hc => ?_) (fun hc => ?_)
            · have h := mie hc h
              exact mw_sub (L' := [(0, .ref a0), (1, .int a1), (2, .int a2), (4, .int x4), (7, .long x7), (13, .long (-x9)), (15, .long (x5 / (-x9))), (17, .long (x7 / (-x9)))]) [3, 4, 5, 6, 8, 2, 1, 0] rfl (p_X10_reduce_J172  h)
            · have h := mit hc h
              refine mw_aload_n dX10_reduce_165 3 rfl ?_
              refine mw_bipush (v := 8) dX10_reduce_166 (by decide) ?_
              obtain ⟨r6, e7, h⟩ := mbd h
              obtain ⟨m8, h⟩ := mif h
              refine mv_callV_l (As := [.int (8 : Int32)]) lkV_RX10_165_yX10_farFinds dX10_reduce_168 (k_X10_farFinds e7) rfl m8 rfl rfl (Nat.le_of_ble_eq_true rfl) (by decide) (by decide) ?_
              exact mw_lret dX10_reduce_171 rfl (mrs_lm h) rfl rfl
      · have h := mit hc h
        refine mw_aload_n dX10_reduce_114 0 rfl ?_
        refine mw_bipush (v := 8) dX10_reduce_115 (by decide) ?_
        obtain ⟨r9, e10, h⟩ := mbd h
        obtain ⟨m11, h⟩ := mif h
        refine mv_callV_l (As := [.int (8 : Int32)]) lkV_RX10_165_yX10_farFinds dX10_reduce_117 (k_X10_farFinds e10) rfl m11 rfl rfl (Nat.le_of_ble_eq_true rfl) (by decide) (by decide) ?_
        exact mw_lret dX10_reduce_120 rfl (mrs_lm h) rfl rfl
    · have h := mie hc h
      refine mw_lload dX10_reduce_87 6 rfl ?_
      refine mw_lload dX10_reduce_89 7 rfl ?_
      obtain ⟨m12, h⟩ := mnf h
      refine mw_lrem dX10_reduce_91 m12 ?_
      refine mw_lstore (L' := [(13, .long (x9 - x9 / x11 * x11)), (0, .ref a0), (1, .int a1), (2, .int a2), (4, .int x4), (5, .long x5), (7, .long x7), (9, .long x9), (11, .long x11)]) dX10_reduce_92 (by decide) rfl ?_
      refine mw_lload dX10_reduce_94 8 rfl ?_
      refine mw_lstore (L' := [(9, .long x11), (13, .long (x9 - x9 / x11 * x11)), (0, .ref a0), (1, .int a1), (2, .int a2), (4, .int x4), (5, .long x5), (7, .long x7), (11, .long x11)]) dX10_reduce_96 (by decide) rfl ?_
      refine mw_lload dX10_reduce_98 1 rfl ?_
      refine mw_lstore (L' := [(11, .long (x9 - x9 / x11 * x11)), (9, .long x11), (13, .long (x9 - x9 / x11 * x11)), (0, .ref a0), (1, .int a1), (2, .int a2), (4, .int x4), (5, .long x5), (7, .long x7)]) dX10_reduce_100 (by decide) rfl ?_
      refine mw_goto (tgt := 80) dX10_reduce_102 (by decide) ?_
      exact mw_sub (L' := [(0, .ref a0), (1, .int a1), (2, .int a2), (4, .int x4), (5, .long x5), (7, .long x7), (9, .long x11), (11, .long (x9 - x9 / x11 * x11))]) [3, 4, 5, 6, 7, 8, 1, 0] rfl (ih _ _ _ _ _ _ h)
def f_X10_reduce_J61 (a0 : Nat) (a1 : Int32) (a2 : Int32) (x4 : Int32) (x5 : Int64) (x7 : Int64) (s0 : Int64) (σ : MSt) : Option (Int64 × MSt) := if x7 ≤ (0 : Int64) then (f_X10_reduce_L80 a0 a1 a2 mN x4 x5 x7 s0 x7 σ) else (f_X10_reduce_L80 a0 a1 a2 mN x4 x5 x7 s0 (-x7) σ)
set_option maxRecDepth 100000 in
set_option maxHeartbeats 4000000 in
theorem p_X10_reduce_J61 {l : Launch} {E : MX} {out : (Int64 × MSt)} {a0 : Nat} {a1 : Int32} {a2 : Int32}  {x4 : Int32} {x5 : Int64} {x7 : Int64} {s0 : Int64} {σ : MSt} (h : f_X10_reduce_J61 a0 a1 a2 x4 x5 x7 s0 σ = some out) : MV l E cX10_reduce RX10 19 (some .long) 4 (82, (some (.long out.1)), out.2) σ 61 [(0, .ref a0), (1, .int a1), (2, .int a2), (4, .int x4), (5, .long x5), (7, .long x7)] [.long s0] := by
  unfold f_X10_reduce_J61 at h
  refine mw_lstore (L' := [(9, .long s0), (0, .ref a0), (1, .int a1), (2, .int a2), (4, .int x4), (5, .long x5), (7, .long x7)]) dX10_reduce_61 (by decide) rfl ?_
  refine mw_lload dX10_reduce_63 6 rfl ?_
  refine mw_lconst (v := 0) dX10_reduce_65 (by decide) ?_
  refine mw_lc_le (tgt := 76) dX10_reduce_66 dX10_reduce_67 (by decide) (fun hc => ?_) (fun hc => ?_)
  · have h := mit hc h
    refine mw_lload dX10_reduce_76 6 rfl ?_
    refine mw_lstore (L' := [(11, .long x7), (9, .long s0), (0, .ref a0), (1, .int a1), (2, .int a2), (4, .int x4), (5, .long x5), (7, .long x7)]) dX10_reduce_78 (by decide) rfl ?_
    exact mw_sub (L' := [(0, .ref a0), (1, .int a1), (2, .int a2), (4, .int x4), (5, .long x5), (7, .long x7), (9, .long s0), (11, .long x7)]) [2, 3, 4, 5, 6, 7, 1, 0] rfl (p_X10_reduce_L80  mN _ _ _ _ _ _ h)
  · have h := mie hc h
    refine mw_lload dX10_reduce_70 6 rfl ?_
    refine mw_lneg dX10_reduce_72 ?_
    refine mw_goto (tgt := 78) dX10_reduce_73 (by decide) ?_
    refine mw_lstore (L' := [(11, .long (-x7)), (9, .long s0), (0, .ref a0), (1, .int a1), (2, .int a2), (4, .int x4), (5, .long x5), (7, .long x7)]) dX10_reduce_78 (by decide) rfl ?_
    exact mw_sub (L' := [(0, .ref a0), (1, .int a1), (2, .int a2), (4, .int x4), (5, .long x5), (7, .long x7), (9, .long s0), (11, .long (-x7))]) [2, 3, 4, 5, 6, 7, 1, 0] rfl (p_X10_reduce_L80  mN _ _ _ _ _ _ h)
def f_X10_reduce (a0 : Nat) (a1 : Int32) (a2 : Int32) (σ : MSt) : Option (Int64 × MSt) := (f_X10_wrong σ a0 a1 a2 a2).bind (fun r1 => if mob 9 a0 = true then (if r1 < 0 then ((mmR σ a0 22).bind (fun q4 => if mix 1 q4 (((40 : Int32) * a1) + a2) = true then (if mix 1 q4 ((((40 : Int32) * a1) + a2) + (1 : Int32)) = true then (if (mmL σ q4 (((40 : Int32) * a1) + a2).toNatClampNeg) ≤ (0 : Int64) then (f_X10_reduce_J61 a0 a1 a2 (((40 : Int32) * a1) + a2) (mmL σ q4 (((40 : Int32) * a1) + a2).toNatClampNeg) (mmL σ q4 ((((40 : Int32) * a1) + a2) + (1 : Int32)).toNatClampNeg) (mmL σ q4 (((40 : Int32) * a1) + a2).toNatClampNeg) σ) else (f_X10_reduce_J61 a0 a1 a2 (((40 : Int32) * a1) + a2) (mmL σ q4 (((40 : Int32) * a1) + a2).toNatClampNeg) (mmL σ q4 ((((40 : Int32) * a1) + a2) + (1 : Int32)).toNatClampNeg) (-(mmL σ q4 (((40 : Int32) * a1) + a2).toNatClampNeg)) σ)) else none) else none)) else ((f_X10_farFinds a0 r1 σ).bind (fun r8 => some (r8.1, r8.2)))) else none)
set_option maxRecDepth 100000 in
set_option maxHeartbeats 4000000 in
theorem k_X10_reduce {l : Launch} {σ : MSt} {a0 : Nat} {a1 : Int32} {a2 : Int32} {out : (Int64 × MSt)} (h : f_X10_reduce a0 a1 a2 σ = some out) : MK l yX10_reduce cX10_reduce 19 (some .long) 4 [.ref a0, .int a1, .int a2] σ (some (.long out.1)) out.2 := by
  unfold f_X10_reduce at h
  refine mw_entry (own := RX10) (ini := false) (L := [(0, .ref a0), (1, .int a1), (2, .int a2)]) (by decide +kernel) rfl (fun h => nomatch h) rfl (Nat.le_of_ble_eq_true rfl) (Nat.le_of_ble_eq_true rfl) (fun E => ?_)
  refine mw_aload_n dX10_reduce_0 0 rfl ?_
  refine mw_iload_n dX10_reduce_1 1 rfl ?_
  refine mw_iload_n dX10_reduce_2 2 rfl ?_
  refine mw_iload_n dX10_reduce_3 2 rfl ?_
  obtain ⟨r1, e2, h⟩ := mbd h
  obtain ⟨m3, h⟩ := mif h
  refine mv_callV_i (As := [.int a1, .int a2, .int a2]) lkV_RX10_261_yX10_wrong dX10_reduce_4 (k_X10_wrong e2) rfl m3 rfl rfl (Nat.le_of_ble_eq_true rfl) (by decide) (by decide) ?_
  refine mw_istore_n (L' := [(3, .int r1), (0, .ref a0), (1, .int a1), (2, .int a2)]) dX10_reduce_7 rfl (by decide) rfl ?_
  refine mw_iload_n dX10_reduce_8 0 rfl ?_
  refine mw_if_lt (tgt := 18) dX10_reduce_9 (by decide) (fun hc => ?_) (fun hc => ?_)
  · have h := mit hc h
    refine mw_bipush (v := 40) dX10_reduce_18 (by decide) ?_
    refine mw_iload_n dX10_reduce_20 2 rfl ?_
    refine mw_imul dX10_reduce_21 ?_
    refine mw_iload_n dX10_reduce_22 3 rfl ?_
    refine mw_iadd dX10_reduce_23 ?_
    refine mw_istore (L' := [(4, .int (((40 : Int32) * a1) + a2)), (3, .int r1), (0, .ref a0), (1, .int a1), (2, .int a2)]) dX10_reduce_24 (by decide) rfl ?_
    refine mw_aload_n dX10_reduce_26 2 rfl ?_
    obtain ⟨q4, e5, h⟩ := mbd h
    refine mv_getR fd_RX10_38_9 dX10_reduce_27 m3 rfl e5 ?_
    refine mw_iload dX10_reduce_30 0 rfl ?_
    obtain ⟨m6, h⟩ := mif h
    refine mv_lald dX10_reduce_32 m6 ?_
    refine mw_lstore (L' := [(5, .long (mmL σ q4 (((40 : Int32) * a1) + a2).toNatClampNeg)), (4, .int (((40 : Int32) * a1) + a2)), (3, .int r1), (0, .ref a0), (1, .int a1), (2, .int a2)]) dX10_reduce_33 (by decide) rfl ?_
    refine mw_aload_n dX10_reduce_35 3 rfl ?_
    refine mv_getR fd_RX10_38_9 dX10_reduce_36 m3 rfl e5 ?_
    refine mw_iload dX10_reduce_39 1 rfl ?_
    refine mw_iconst (v := 1) dX10_reduce_41 (by decide) ?_
    refine mw_iadd dX10_reduce_42 ?_
    obtain ⟨m7, h⟩ := mif h
    refine mv_lald dX10_reduce_43 m7 ?_
    refine mw_lstore (L' := [(7, .long (mmL σ q4 ((((40 : Int32) * a1) + a2) + (1 : Int32)).toNatClampNeg)), (5, .long (mmL σ q4 (((40 : Int32) * a1) + a2).toNatClampNeg)), (4, .int (((40 : Int32) * a1) + a2)), (3, .int r1), (0, .ref a0), (1, .int a1), (2, .int a2)]) dX10_reduce_44 (by decide) rfl ?_
    refine mw_lload dX10_reduce_46 1 rfl ?_
    refine mw_lconst (v := 0) dX10_reduce_48 (by decide) ?_
    refine mw_lc_le (tgt := 59) dX10_reduce_49 dX10_reduce_50 (by decide) (fun hc => ?_) (fun hc => ?_)
    · have h := mit hc h
      refine mw_lload dX10_reduce_59 1 rfl ?_
      exact mw_sub (L' := [(0, .ref a0), (1, .int a1), (2, .int a2), (4, .int (((40 : Int32) * a1) + a2)), (5, .long (mmL σ q4 (((40 : Int32) * a1) + a2).toNatClampNeg)), (7, .long (mmL σ q4 ((((40 : Int32) * a1) + a2) + (1 : Int32)).toNatClampNeg))]) [4, 5, 6, 2, 1, 0] rfl (p_X10_reduce_J61  h)
    · have h := mie hc h
      refine mw_lload dX10_reduce_53 1 rfl ?_
      refine mw_lneg dX10_reduce_55 ?_
      refine mw_goto (tgt := 61) dX10_reduce_56 (by decide) ?_
      exact mw_sub (L' := [(0, .ref a0), (1, .int a1), (2, .int a2), (4, .int (((40 : Int32) * a1) + a2)), (5, .long (mmL σ q4 (((40 : Int32) * a1) + a2).toNatClampNeg)), (7, .long (mmL σ q4 ((((40 : Int32) * a1) + a2) + (1 : Int32)).toNatClampNeg))]) [4, 5, 6, 2, 1, 0] rfl (p_X10_reduce_J61  h)
  · have h := mie hc h
    refine mw_aload_n dX10_reduce_12 1 rfl ?_
    refine mw_iload_n dX10_reduce_13 0 rfl ?_
    obtain ⟨r8, e9, h⟩ := mbd h
    refine mv_callV_l (As := [.int r1]) lkV_RX10_165_yX10_farFinds dX10_reduce_14 (k_X10_farFinds e9) rfl m3 rfl rfl (Nat.le_of_ble_eq_true rfl) (by decide) (by decide) ?_
    exact mw_lret dX10_reduce_17 rfl (mrs_lm h) rfl rfl

theorem dX10_sum_0 : decode cX10_sum 0 = .ok (.lload_n 1, 1) := by decide +kernel
theorem dX10_sum_1 : decode cX10_sum 1 = .ok (.lload_n 3, 1) := by decide +kernel
theorem dX10_sum_2 : decode cX10_sum 2 = .ok (.ladd, 1) := by decide +kernel
theorem dX10_sum_3 : decode cX10_sum 3 = .ok (.lstore 5, 2) := by decide +kernel
theorem dX10_sum_5 : decode cX10_sum 5 = .ok (.aload_n 0, 1) := by decide +kernel
theorem dX10_sum_6 : decode cX10_sum 6 = .ok (.aload_n 0, 1) := by decide +kernel
theorem dX10_sum_7 : decode cX10_sum 7 = .ok (.getfield 183, 3) := by decide +kernel
theorem dX10_sum_10 : decode cX10_sum 10 = .ok (.ifCond .eq 58, 3) := by decide +kernel
theorem dX10_sum_13 : decode cX10_sum 13 = .ok (.lload_n 1, 1) := by decide +kernel
theorem dX10_sum_14 : decode cX10_sum 14 = .ok (.lconst 0, 1) := by decide +kernel
theorem dX10_sum_15 : decode cX10_sum 15 = .ok (.lcmp, 1) := by decide +kernel
theorem dX10_sum_16 : decode cX10_sum 16 = .ok (.ifCond .lt 7, 3) := by decide +kernel
theorem dX10_sum_19 : decode cX10_sum 19 = .ok (.iconst 1, 1) := by decide +kernel
theorem dX10_sum_20 : decode cX10_sum 20 = .ok (.goto 4, 3) := by decide +kernel
theorem dX10_sum_23 : decode cX10_sum 23 = .ok (.iconst 0, 1) := by decide +kernel
theorem dX10_sum_24 : decode cX10_sum 24 = .ok (.lload_n 3, 1) := by decide +kernel
theorem dX10_sum_25 : decode cX10_sum 25 = .ok (.lconst 0, 1) := by decide +kernel
theorem dX10_sum_26 : decode cX10_sum 26 = .ok (.lcmp, 1) := by decide +kernel
theorem dX10_sum_27 : decode cX10_sum 27 = .ok (.ifCond .lt 7, 3) := by decide +kernel
theorem dX10_sum_30 : decode cX10_sum 30 = .ok (.iconst 1, 1) := by decide +kernel
theorem dX10_sum_31 : decode cX10_sum 31 = .ok (.goto 4, 3) := by decide +kernel
theorem dX10_sum_34 : decode cX10_sum 34 = .ok (.iconst 0, 1) := by decide +kernel
theorem dX10_sum_35 : decode cX10_sum 35 = .ok (.if_icmp .ne 29, 3) := by decide +kernel
theorem dX10_sum_38 : decode cX10_sum 38 = .ok (.lload 5, 2) := by decide +kernel
theorem dX10_sum_40 : decode cX10_sum 40 = .ok (.lconst 0, 1) := by decide +kernel
theorem dX10_sum_41 : decode cX10_sum 41 = .ok (.lcmp, 1) := by decide +kernel
theorem dX10_sum_42 : decode cX10_sum 42 = .ok (.ifCond .lt 7, 3) := by decide +kernel
theorem dX10_sum_45 : decode cX10_sum 45 = .ok (.iconst 1, 1) := by decide +kernel
theorem dX10_sum_46 : decode cX10_sum 46 = .ok (.goto 4, 3) := by decide +kernel
theorem dX10_sum_49 : decode cX10_sum 49 = .ok (.iconst 0, 1) := by decide +kernel
theorem dX10_sum_50 : decode cX10_sum 50 = .ok (.lload_n 1, 1) := by decide +kernel
theorem dX10_sum_51 : decode cX10_sum 51 = .ok (.lconst 0, 1) := by decide +kernel
theorem dX10_sum_52 : decode cX10_sum 52 = .ok (.lcmp, 1) := by decide +kernel
theorem dX10_sum_53 : decode cX10_sum 53 = .ok (.ifCond .lt 7, 3) := by decide +kernel
theorem dX10_sum_56 : decode cX10_sum 56 = .ok (.iconst 1, 1) := by decide +kernel
theorem dX10_sum_57 : decode cX10_sum 57 = .ok (.goto 4, 3) := by decide +kernel
theorem dX10_sum_60 : decode cX10_sum 60 = .ok (.iconst 0, 1) := by decide +kernel
theorem dX10_sum_61 : decode cX10_sum 61 = .ok (.if_icmp .ne 7, 3) := by decide +kernel
theorem dX10_sum_64 : decode cX10_sum 64 = .ok (.iconst 1, 1) := by decide +kernel
theorem dX10_sum_65 : decode cX10_sum 65 = .ok (.goto 4, 3) := by decide +kernel
theorem dX10_sum_68 : decode cX10_sum 68 = .ok (.iconst 0, 1) := by decide +kernel
theorem dX10_sum_69 : decode cX10_sum 69 = .ok (.putfield 183, 3) := by decide +kernel
theorem dX10_sum_72 : decode cX10_sum 72 = .ok (.lload 5, 2) := by decide +kernel
theorem dX10_sum_74 : decode cX10_sum 74 = .ok (.lreturn, 1) := by decide +kernel
def f_X10_sum_J61 (a0 : Nat) (a1 : Int64) (a3 : Int64) (x5 : Int64) (s0 : Nat) (s1 : Int32) (s2 : Int32) (σ : MSt) : Option (Int64 × MSt) := if s1 = s2 then (if mob 9 s0 = true then (some (x5, (muI σ s0 15 (1 : Int32)))) else none) else (if mob 9 s0 = true then (some (x5, (muI σ s0 15 (0 : Int32)))) else none)
set_option maxRecDepth 100000 in
set_option maxHeartbeats 4000000 in
theorem p_X10_sum_J61 {l : Launch} {E : MX} {out : (Int64 × MSt)} {a0 : Nat} {a1 : Int64} {a3 : Int64}  {x5 : Int64} {s0 : Nat} {s1 : Int32} {s2 : Int32} {σ : MSt} (h : f_X10_sum_J61 a0 a1 a3 x5 s0 s1 s2 σ = some out) : MV l E cX10_sum RX10 7 (some .long) 1 (82, (some (.long out.1)), out.2) σ 61 [(0, .ref a0), (1, .long a1), (3, .long a3), (5, .long x5)] [.int s2, .int s1, .ref s0] := by
  unfold f_X10_sum_J61 at h
  refine mw_icmp_ne (tgt := 68) dX10_sum_61 (by decide) (fun hc => ?_) (fun hc => ?_)
  · have h := mie hc h
    refine mw_iconst (v := 0) dX10_sum_68 (by decide) ?_
    obtain ⟨m1, h⟩ := mif h
    refine mv_putZ fw_RX10_183_9 dX10_sum_69 m1 rfl (by decide) ?_
    refine mw_lload dX10_sum_72 3 rfl ?_
    exact mw_lret dX10_sum_74 rfl (mrs_lm h) rfl rfl
  · have h := mit hc h
    refine mw_iconst (v := 1) dX10_sum_64 (by decide) ?_
    refine mw_goto (tgt := 69) dX10_sum_65 (by decide) ?_
    obtain ⟨m2, h⟩ := mif h
    refine mv_putZ fw_RX10_183_9 dX10_sum_69 m2 rfl (by decide) ?_
    refine mw_lload dX10_sum_72 3 rfl ?_
    exact mw_lret dX10_sum_74 rfl (mrs_lm h) rfl rfl
def f_X10_sum_J50 (a0 : Nat) (a1 : Int64) (a3 : Int64) (x5 : Int64) (s0 : Nat) (s1 : Int32) (σ : MSt) : Option (Int64 × MSt) := if a1 < (0 : Int64) then (f_X10_sum_J61 a0 a1 a3 x5 s0 s1 (0 : Int32) σ) else (f_X10_sum_J61 a0 a1 a3 x5 s0 s1 (1 : Int32) σ)
set_option maxRecDepth 100000 in
set_option maxHeartbeats 4000000 in
theorem p_X10_sum_J50 {l : Launch} {E : MX} {out : (Int64 × MSt)} {a0 : Nat} {a1 : Int64} {a3 : Int64}  {x5 : Int64} {s0 : Nat} {s1 : Int32} {σ : MSt} (h : f_X10_sum_J50 a0 a1 a3 x5 s0 s1 σ = some out) : MV l E cX10_sum RX10 7 (some .long) 1 (82, (some (.long out.1)), out.2) σ 50 [(0, .ref a0), (1, .long a1), (3, .long a3), (5, .long x5)] [.int s1, .ref s0] := by
  unfold f_X10_sum_J50 at h
  refine mw_lload_n dX10_sum_50 1 rfl ?_
  refine mw_lconst (v := 0) dX10_sum_51 (by decide) ?_
  refine mw_lc_lt (tgt := 60) dX10_sum_52 dX10_sum_53 (by decide) (fun hc => ?_) (fun hc => ?_)
  · have h := mit hc h
    refine mw_iconst (v := 0) dX10_sum_60 (by decide) ?_
    exact mw_sub (L' := [(0, .ref a0), (1, .long a1), (3, .long a3), (5, .long x5)]) [0, 1, 2, 3] rfl (p_X10_sum_J61  h)
  · have h := mie hc h
    refine mw_iconst (v := 1) dX10_sum_56 (by decide) ?_
    refine mw_goto (tgt := 61) dX10_sum_57 (by decide) ?_
    exact mw_sub (L' := [(0, .ref a0), (1, .long a1), (3, .long a3), (5, .long x5)]) [0, 1, 2, 3] rfl (p_X10_sum_J61  h)
def f_X10_sum_J35 (a0 : Nat) (a1 : Int64) (a3 : Int64) (x5 : Int64) (s0 : Nat) (s1 : Int32) (s2 : Int32) (σ : MSt) : Option (Int64 × MSt) := if s1 = s2 then (if x5 < (0 : Int64) then (f_X10_sum_J50 a0 a1 a3 x5 s0 (0 : Int32) σ) else (f_X10_sum_J50 a0 a1 a3 x5 s0 (1 : Int32) σ)) else (if mob 9 s0 = true then (some (x5, (muI σ s0 15 (1 : Int32)))) else none)
set_option maxRecDepth 100000 in
set_option maxHeartbeats 4000000 in
theorem p_X10_sum_J35 {l : Launch} {E : MX} {out : (Int64 × MSt)} {a0 : Nat} {a1 : Int64} {a3 : Int64}  {x5 : Int64} {s0 : Nat} {s1 : Int32} {s2 : Int32} {σ : MSt} (h : f_X10_sum_J35 a0 a1 a3 x5 s0 s1 s2 σ = some out) : MV l E cX10_sum RX10 7 (some .long) 1 (82, (some (.long out.1)), out.2) σ 35 [(0, .ref a0), (1, .long a1), (3, .long a3), (5, .long x5)] [.int s2, .int s1, .ref s0] := by
  unfold f_X10_sum_J35 at h
  refine mw_icmp_ne (tgt := 64) dX10_sum_35 (by decide) (fun hc => ?_) (fun hc => ?_)
  · have h := mie hc h
    refine mw_iconst (v := 1) dX10_sum_64 (by decide) ?_
    refine mw_goto (tgt := 69) dX10_sum_65 (by decide) ?_
    obtain ⟨m1, h⟩ := mif h
    refine mv_putZ fw_RX10_183_9 dX10_sum_69 m1 rfl (by decide) ?_
    refine mw_lload dX10_sum_72 3 rfl ?_
    exact mw_lret dX10_sum_74 rfl (mrs_lm h) rfl rfl
  · have h := mit hc h
    refine mw_lload dX10_sum_38 3 rfl ?_
    refine mw_lconst (v := 0) dX10_sum_40 (by decide) ?_
    refine mw_lc_lt (tgt := 49) dX10_sum_41 dX10_sum_42 (by decide) (fun hc => ?_) (fun hc => ?_)
    · have h := mit hc h
      refine mw_iconst (v := 0) dX10_sum_49 (by decide) ?_
      exact mw_sub (L' := [(0, .ref a0), (1, .long a1), (3, .long a3), (5, .long x5)]) [0, 1, 2, 3] rfl (p_X10_sum_J50  h)
    · have h := mie hc h
      refine mw_iconst (v := 1) dX10_sum_45 (by decide) ?_
      refine mw_goto (tgt := 50) dX10_sum_46 (by decide) ?_
      exact mw_sub (L' := [(0, .ref a0), (1, .long a1), (3, .long a3), (5, .long x5)]) [0, 1, 2, 3] rfl (p_X10_sum_J50  h)
def f_X10_sum_J24 (a0 : Nat) (a1 : Int64) (a3 : Int64) (x5 : Int64) (s0 : Nat) (s1 : Int32) (σ : MSt) : Option (Int64 × MSt) := if a3 < (0 : Int64) then (f_X10_sum_J35 a0 a1 a3 x5 s0 s1 (0 : Int32) σ) else (f_X10_sum_J35 a0 a1 a3 x5 s0 s1 (1 : Int32) σ)
set_option maxRecDepth 100000 in
set_option maxHeartbeats 4000000 in
theorem p_X10_sum_J24 {l : Launch} {E : MX} {out : (Int64 × MSt)} {a0 : Nat} {a1 : Int64} {a3 : Int64}  {x5 : Int64} {s0 : Nat} {s1 : Int32} {σ : MSt} (h : f_X10_sum_J24 a0 a1 a3 x5 s0 s1 σ = some out) : MV l E cX10_sum RX10 7 (some .long) 1 (82, (some (.long out.1)), out.2) σ 24 [(0, .ref a0), (1, .long a1), (3, .long a3), (5, .long x5)] [.int s1, .ref s0] := by
  unfold f_X10_sum_J24 at h
  refine mw_lload_n dX10_sum_24 2 rfl ?_
  refine mw_lconst (v := 0) dX10_sum_25 (by decide) ?_
  refine mw_lc_lt (tgt := 34) dX10_sum_26 dX10_sum_27 (by decide) (fun hc => ?_) (fun hc => ?_)
  · have h := mit hc h
    refine mw_iconst (v := 0) dX10_sum_34 (by decide) ?_
    exact mw_sub (L' := [(0, .ref a0), (1, .long a1), (3, .long a3), (5, .long x5)]) [0, 1, 2, 3] rfl (p_X10_sum_J35  h)
  · have h := mie hc h
    refine mw_iconst (v := 1) dX10_sum_30 (by decide) ?_
    refine mw_goto (tgt := 35) dX10_sum_31 (by decide) ?_
    exact mw_sub (L' := [(0, .ref a0), (1, .long a1), (3, .long a3), (5, .long x5)]) [0, 1, 2, 3] rfl (p_X10_sum_J35  h)
def f_X10_sum (a0 : Nat) (a1 : Int64) (a3 : Int64) (σ : MSt) : Option (Int64 × MSt) := if mob 9 a0 = true then (if (mmI σ a0 15) = 0 then (some ((a1 + a3), (muI σ a0 15 (0 : Int32)))) else (if a1 < (0 : Int64) then (f_X10_sum_J24 a0 a1 a3 (a1 + a3) a0 (0 : Int32) σ) else (f_X10_sum_J24 a0 a1 a3 (a1 + a3) a0 (1 : Int32) σ))) else none
set_option maxRecDepth 100000 in
set_option maxHeartbeats 4000000 in
theorem k_X10_sum {l : Launch} {σ : MSt} {a0 : Nat} {a1 : Int64} {a3 : Int64} {out : (Int64 × MSt)} (h : f_X10_sum a0 a1 a3 σ = some out) : MK l yX10_sum cX10_sum 7 (some .long) 1 [.ref a0, .long a1, .long a3] σ (some (.long out.1)) out.2 := by
  unfold f_X10_sum at h
  refine mw_entry (own := RX10) (ini := false) (L := [(0, .ref a0), (1, .long a1), (3, .long a3)]) (by decide +kernel) rfl (fun h => nomatch h) rfl (Nat.le_of_ble_eq_true rfl) (Nat.le_of_ble_eq_true rfl) (fun E => ?_)
  refine mw_lload_n dX10_sum_0 1 rfl ?_
  refine mw_lload_n dX10_sum_1 2 rfl ?_
  refine mw_ladd dX10_sum_2 ?_
  refine mw_lstore (L' := [(5, .long (a1 + a3)), (0, .ref a0), (1, .long a1), (3, .long a3)]) dX10_sum_3 (by decide) rfl ?_
  refine mw_aload_n dX10_sum_5 1 rfl ?_
  refine mw_aload_n dX10_sum_6 1 rfl ?_
  obtain ⟨m1, h⟩ := mif h
  refine mv_getZ fd_RX10_183_9 dX10_sum_7 m1 rfl ?_
  refine mw_if_eq (tgt := 68) dX10_sum_10 (by decide) (fun hc => ?_) (fun hc => ?_)
  · have h := mit hc h
    refine mw_iconst (v := 0) dX10_sum_68 (by decide) ?_
    refine mv_putZ fw_RX10_183_9 dX10_sum_69 m1 rfl (by decide) ?_
    refine mw_lload dX10_sum_72 0 rfl ?_
    exact mw_lret dX10_sum_74 rfl (mrs_lm h) rfl rfl
  · have h := mie hc h
    refine mw_lload_n dX10_sum_13 2 rfl ?_
    refine mw_lconst (v := 0) dX10_sum_14 (by decide) ?_
    refine mw_lc_lt (tgt := 23) dX10_sum_15 dX10_sum_16 (by decide) (fun hc => ?_) (fun hc => ?_)
    · have h := mit hc h
      refine mw_iconst (v := 0) dX10_sum_23 (by decide) ?_
      exact mw_sub (L' := [(0, .ref a0), (1, .long a1), (3, .long a3), (5, .long (a1 + a3))]) [1, 2, 3, 0] rfl (p_X10_sum_J24  h)
    · have h := mie hc h
      refine mw_iconst (v := 1) dX10_sum_19 (by decide) ?_
      refine mw_goto (tgt := 24) dX10_sum_20 (by decide) ?_
      exact mw_sub (L' := [(0, .ref a0), (1, .long a1), (3, .long a3), (5, .long (a1 + a3))]) [1, 2, 3, 0] rfl (p_X10_sum_J24  h)

theorem dX10_add_0 : decode cX10_add 0 = .ok (.aload_n 0, 1) := by decide +kernel
theorem dX10_add_1 : decode cX10_add 1 = .ok (.iload_n 1, 1) := by decide +kernel
theorem dX10_add_2 : decode cX10_add 2 = .ok (.iload_n 2, 1) := by decide +kernel
theorem dX10_add_3 : decode cX10_add 3 = .ok (.iload_n 3, 1) := by decide +kernel
theorem dX10_add_4 : decode cX10_add 4 = .ok (.invokevirtual 261, 3) := by decide +kernel
theorem dX10_add_7 : decode cX10_add 7 = .ok (.istore 4, 2) := by decide +kernel
theorem dX10_add_9 : decode cX10_add 9 = .ok (.iload 4, 2) := by decide +kernel
theorem dX10_add_11 : decode cX10_add 11 = .ok (.ifCond .lt 10, 3) := by decide +kernel
theorem dX10_add_14 : decode cX10_add 14 = .ok (.aload_n 0, 1) := by decide +kernel
theorem dX10_add_15 : decode cX10_add 15 = .ok (.iload 4, 2) := by decide +kernel
theorem dX10_add_17 : decode cX10_add 17 = .ok (.invokevirtual 81, 3) := by decide +kernel
theorem dX10_add_20 : decode cX10_add 20 = .ok (.ireturn, 1) := by decide +kernel
theorem dX10_add_21 : decode cX10_add 21 = .ok (.bipush 40, 2) := by decide +kernel
theorem dX10_add_23 : decode cX10_add 23 = .ok (.iload_n 1, 1) := by decide +kernel
theorem dX10_add_24 : decode cX10_add 24 = .ok (.imul, 1) := by decide +kernel
theorem dX10_add_25 : decode cX10_add 25 = .ok (.iload_n 2, 1) := by decide +kernel
theorem dX10_add_26 : decode cX10_add 26 = .ok (.iadd, 1) := by decide +kernel
theorem dX10_add_27 : decode cX10_add 27 = .ok (.istore 5, 2) := by decide +kernel
theorem dX10_add_29 : decode cX10_add 29 = .ok (.bipush 40, 2) := by decide +kernel
theorem dX10_add_31 : decode cX10_add 31 = .ok (.iload_n 1, 1) := by decide +kernel
theorem dX10_add_32 : decode cX10_add 32 = .ok (.imul, 1) := by decide +kernel
theorem dX10_add_33 : decode cX10_add 33 = .ok (.iload_n 3, 1) := by decide +kernel
theorem dX10_add_34 : decode cX10_add 34 = .ok (.iadd, 1) := by decide +kernel
theorem dX10_add_35 : decode cX10_add 35 = .ok (.istore 6, 2) := by decide +kernel
theorem dX10_add_37 : decode cX10_add 37 = .ok (.aload_n 0, 1) := by decide +kernel
theorem dX10_add_38 : decode cX10_add 38 = .ok (.iconst 1, 1) := by decide +kernel
theorem dX10_add_39 : decode cX10_add 39 = .ok (.putfield 183, 3) := by decide +kernel
theorem dX10_add_42 : decode cX10_add 42 = .ok (.aload_n 0, 1) := by decide +kernel
theorem dX10_add_43 : decode cX10_add 43 = .ok (.aload_n 0, 1) := by decide +kernel
theorem dX10_add_44 : decode cX10_add 44 = .ok (.getfield 38, 3) := by decide +kernel
theorem dX10_add_47 : decode cX10_add 47 = .ok (.iload 5, 2) := by decide +kernel
theorem dX10_add_49 : decode cX10_add 49 = .ok (.laload, 1) := by decide +kernel
theorem dX10_add_50 : decode cX10_add 50 = .ok (.aload_n 0, 1) := by decide +kernel
theorem dX10_add_51 : decode cX10_add 51 = .ok (.getfield 38, 3) := by decide +kernel
theorem dX10_add_54 : decode cX10_add 54 = .ok (.iload 6, 2) := by decide +kernel
theorem dX10_add_56 : decode cX10_add 56 = .ok (.iconst 1, 1) := by decide +kernel
theorem dX10_add_57 : decode cX10_add 57 = .ok (.iadd, 1) := by decide +kernel
theorem dX10_add_58 : decode cX10_add 58 = .ok (.laload, 1) := by decide +kernel
theorem dX10_add_59 : decode cX10_add 59 = .ok (.invokevirtual 186, 3) := by decide +kernel
theorem dX10_add_62 : decode cX10_add 62 = .ok (.lstore 7, 2) := by decide +kernel
theorem dX10_add_64 : decode cX10_add 64 = .ok (.aload_n 0, 1) := by decide +kernel
theorem dX10_add_65 : decode cX10_add 65 = .ok (.aload_n 0, 1) := by decide +kernel
theorem dX10_add_66 : decode cX10_add 66 = .ok (.getfield 38, 3) := by decide +kernel
theorem dX10_add_69 : decode cX10_add 69 = .ok (.iload 6, 2) := by decide +kernel
theorem dX10_add_71 : decode cX10_add 71 = .ok (.laload, 1) := by decide +kernel
theorem dX10_add_72 : decode cX10_add 72 = .ok (.aload_n 0, 1) := by decide +kernel
theorem dX10_add_73 : decode cX10_add 73 = .ok (.getfield 38, 3) := by decide +kernel
theorem dX10_add_76 : decode cX10_add 76 = .ok (.iload 5, 2) := by decide +kernel
theorem dX10_add_78 : decode cX10_add 78 = .ok (.iconst 1, 1) := by decide +kernel
theorem dX10_add_79 : decode cX10_add 79 = .ok (.iadd, 1) := by decide +kernel
theorem dX10_add_80 : decode cX10_add 80 = .ok (.laload, 1) := by decide +kernel
theorem dX10_add_81 : decode cX10_add 81 = .ok (.invokevirtual 186, 3) := by decide +kernel
theorem dX10_add_84 : decode cX10_add 84 = .ok (.lstore 9, 2) := by decide +kernel
theorem dX10_add_86 : decode cX10_add 86 = .ok (.aload_n 0, 1) := by decide +kernel
theorem dX10_add_87 : decode cX10_add 87 = .ok (.lload 7, 2) := by decide +kernel
theorem dX10_add_89 : decode cX10_add 89 = .ok (.lload 9, 2) := by decide +kernel
theorem dX10_add_91 : decode cX10_add 91 = .ok (.invokevirtual 269, 3) := by decide +kernel
theorem dX10_add_94 : decode cX10_add 94 = .ok (.lstore 11, 2) := by decide +kernel
theorem dX10_add_96 : decode cX10_add 96 = .ok (.aload_n 0, 1) := by decide +kernel
theorem dX10_add_97 : decode cX10_add 97 = .ok (.aload_n 0, 1) := by decide +kernel
theorem dX10_add_98 : decode cX10_add 98 = .ok (.getfield 38, 3) := by decide +kernel
theorem dX10_add_101 : decode cX10_add 101 = .ok (.iload 5, 2) := by decide +kernel
theorem dX10_add_103 : decode cX10_add 103 = .ok (.iconst 1, 1) := by decide +kernel
theorem dX10_add_104 : decode cX10_add 104 = .ok (.iadd, 1) := by decide +kernel
theorem dX10_add_105 : decode cX10_add 105 = .ok (.laload, 1) := by decide +kernel
theorem dX10_add_106 : decode cX10_add 106 = .ok (.aload_n 0, 1) := by decide +kernel
theorem dX10_add_107 : decode cX10_add 107 = .ok (.getfield 38, 3) := by decide +kernel
theorem dX10_add_110 : decode cX10_add 110 = .ok (.iload 6, 2) := by decide +kernel
theorem dX10_add_112 : decode cX10_add 112 = .ok (.iconst 1, 1) := by decide +kernel
theorem dX10_add_113 : decode cX10_add 113 = .ok (.iadd, 1) := by decide +kernel
theorem dX10_add_114 : decode cX10_add 114 = .ok (.laload, 1) := by decide +kernel
theorem dX10_add_115 : decode cX10_add 115 = .ok (.invokevirtual 186, 3) := by decide +kernel
theorem dX10_add_118 : decode cX10_add 118 = .ok (.lstore 13, 2) := by decide +kernel
theorem dX10_add_120 : decode cX10_add 120 = .ok (.aload_n 0, 1) := by decide +kernel
theorem dX10_add_121 : decode cX10_add 121 = .ok (.getfield 183, 3) := by decide +kernel
theorem dX10_add_124 : decode cX10_add 124 = .ok (.ifCond .ne 10, 3) := by decide +kernel
theorem dX10_add_127 : decode cX10_add 127 = .ok (.aload_n 0, 1) := by decide +kernel
theorem dX10_add_128 : decode cX10_add 128 = .ok (.bipush 8, 2) := by decide +kernel
theorem dX10_add_130 : decode cX10_add 130 = .ok (.invokevirtual 81, 3) := by decide +kernel
theorem dX10_add_133 : decode cX10_add 133 = .ok (.ireturn, 1) := by decide +kernel
theorem dX10_add_134 : decode cX10_add 134 = .ok (.aload_n 0, 1) := by decide +kernel
theorem dX10_add_135 : decode cX10_add 135 = .ok (.getfield 38, 3) := by decide +kernel
theorem dX10_add_138 : decode cX10_add 138 = .ok (.iload 5, 2) := by decide +kernel
theorem dX10_add_140 : decode cX10_add 140 = .ok (.aload_n 0, 1) := by decide +kernel
theorem dX10_add_141 : decode cX10_add 141 = .ok (.getfield 32, 3) := by decide +kernel
theorem dX10_add_144 : decode cX10_add 144 = .ok (.iload_n 1, 1) := by decide +kernel
theorem dX10_add_145 : decode cX10_add 145 = .ok (.iaload, 1) := by decide +kernel
theorem dX10_add_146 : decode cX10_add 146 = .ok (.lload 11, 2) := by decide +kernel
theorem dX10_add_148 : decode cX10_add 148 = .ok (.invokestatic 265, 3) := by decide +kernel
theorem dX10_add_151 : decode cX10_add 151 = .ok (.lastore, 1) := by decide +kernel
theorem dX10_add_152 : decode cX10_add 152 = .ok (.aload_n 0, 1) := by decide +kernel
theorem dX10_add_153 : decode cX10_add 153 = .ok (.getfield 38, 3) := by decide +kernel
theorem dX10_add_156 : decode cX10_add 156 = .ok (.iload 5, 2) := by decide +kernel
theorem dX10_add_158 : decode cX10_add 158 = .ok (.iconst 1, 1) := by decide +kernel
theorem dX10_add_159 : decode cX10_add 159 = .ok (.iadd, 1) := by decide +kernel
theorem dX10_add_160 : decode cX10_add 160 = .ok (.aload_n 0, 1) := by decide +kernel
theorem dX10_add_161 : decode cX10_add 161 = .ok (.getfield 32, 3) := by decide +kernel
theorem dX10_add_164 : decode cX10_add 164 = .ok (.iload_n 1, 1) := by decide +kernel
theorem dX10_add_165 : decode cX10_add 165 = .ok (.iaload, 1) := by decide +kernel
theorem dX10_add_166 : decode cX10_add 166 = .ok (.lload 13, 2) := by decide +kernel
theorem dX10_add_168 : decode cX10_add 168 = .ok (.invokestatic 265, 3) := by decide +kernel
theorem dX10_add_171 : decode cX10_add 171 = .ok (.lastore, 1) := by decide +kernel
theorem dX10_add_172 : decode cX10_add 172 = .ok (.iconst 1, 1) := by decide +kernel
theorem dX10_add_173 : decode cX10_add 173 = .ok (.ireturn, 1) := by decide +kernel
def f_X10_add (a0 : Nat) (a1 : Int32) (a2 : Int32) (a3 : Int32) (σ : MSt) : Option (Int32 × MSt) := (f_X10_wrong σ a0 a1 a2 a3).bind (fun r1 => if mob 9 a0 = true then (if r1 < 0 then ((mmR (muI σ a0 15 (1 : Int32)) a0 22).bind (fun q4 => if mix 1 q4 (((40 : Int32) * a1) + a2) = true then (if mix 1 q4 ((((40 : Int32) * a1) + a3) + (1 : Int32)) = true then ((f_X10_product a0 (mmL (muI σ a0 15 (1 : Int32)) q4 (((40 : Int32) * a1) + a2).toNatClampNeg) (mmL (muI σ a0 15 (1 : Int32)) q4 ((((40 : Int32) * a1) + a3) + (1 : Int32)).toNatClampNeg) (muI σ a0 15 (1 : Int32))).bind (fun r8 => (mmR r8.2 a0 22).bind (fun q10 => if mix 1 q10 (((40 : Int32) * a1) + a3) = true then (if mix 1 q10 ((((40 : Int32) * a1) + a2) + (1 : Int32)) = true then ((f_X10_product a0 (mmL r8.2 q10 (((40 : Int32) * a1) + a3).toNatClampNeg) (mmL r8.2 q10 ((((40 : Int32) * a1) + a2) + (1 : Int32)).toNatClampNeg) r8.2).bind (fun r14 => (f_X10_sum a0 r8.1 r14.1 r14.2).bind (fun r16 => (mmR r16.2 a0 22).bind (fun q18 => if mix 1 q18 ((((40 : Int32) * a1) + a2) + (1 : Int32)) = true then (if mix 1 q18 ((((40 : Int32) * a1) + a3) + (1 : Int32)) = true then ((f_X10_product a0 (mmL r16.2 q18 ((((40 : Int32) * a1) + a2) + (1 : Int32)).toNatClampNeg) (mmL r16.2 q18 ((((40 : Int32) * a1) + a3) + (1 : Int32)).toNatClampNeg) r16.2).bind (fun r22 => if (mmI r22.2 a0 15) = 0 then ((f_X10_finds a0 (8 : Int32) r22.2).bind (fun r40 => some (r40.1, r40.2))) else ((mmR r22.2 a0 22).bind (fun q24 => (mmR r22.2 a0 20).bind (fun q26 => if mix 0 q26 a1 = true then ((f_X10_narrow (mmI r22.2 q26 a1.toNatClampNeg) r16.1).bind (fun r29 => if mix 1 q24 (((40 : Int32) * a1) + a2) = true then ((mmR (muL r22.2 q24 (((40 : Int32) * a1) + a2).toNatClampNeg r29) a0 22).bind (fun q32 => (mmR (muL r22.2 q24 (((40 : Int32) * a1) + a2).toNatClampNeg r29) a0 20).bind (fun q34 => if mix 0 q34 a1 = true then ((f_X10_narrow (mmI (muL r22.2 q24 (((40 : Int32) * a1) + a2).toNatClampNeg r29) q34 a1.toNatClampNeg) r22.1).bind (fun r37 => if mix 1 q32 ((((40 : Int32) * a1) + a2) + (1 : Int32)) = true then (some ((1 : Int32), (muL (muL r22.2 q24 (((40 : Int32) * a1) + a2).toNatClampNeg r29) q32 ((((40 : Int32) * a1) + a2) + (1 : Int32)).toNatClampNeg r37))) else none)) else none))) else none)) else none))))) else none) else none)))) else none) else none))) else none) else none)) else ((f_X10_finds a0 r1 σ).bind (fun r42 => some (r42.1, r42.2)))) else none)
set_option maxRecDepth 100000 in
set_option maxHeartbeats 4000000 in
theorem k_X10_add {l : Launch} {σ : MSt} {a0 : Nat} {a1 : Int32} {a2 : Int32} {a3 : Int32} {out : (Int32 × MSt)} (h : f_X10_add a0 a1 a2 a3 σ = some out) : MK l yX10_add cX10_add 15 (some .int) 4 [.ref a0, .int a1, .int a2, .int a3] σ (some (.int out.1)) out.2 := by
  unfold f_X10_add at h
  refine mw_entry (own := RX10) (ini := false) (L := [(0, .ref a0), (1, .int a1), (2, .int a2), (3, .int a3)]) (by decide +kernel) rfl (fun h => nomatch h) rfl (Nat.le_of_ble_eq_true rfl) (Nat.le_of_ble_eq_true rfl) (fun E => ?_)
  refine mw_aload_n dX10_add_0 0 rfl ?_
  refine mw_iload_n dX10_add_1 1 rfl ?_
  refine mw_iload_n dX10_add_2 2 rfl ?_
  refine mw_iload_n dX10_add_3 3 rfl ?_
  obtain ⟨r1, e2, h⟩ := mbd h
  obtain ⟨m3, h⟩ := mif h
  refine mv_callV_i (As := [.int a1, .int a2, .int a3]) lkV_RX10_261_yX10_wrong dX10_add_4 (k_X10_wrong e2) rfl m3 rfl rfl (Nat.le_of_ble_eq_true rfl) (by decide) (by decide) ?_
  refine mw_istore (L' := [(4, .int r1), (0, .ref a0), (1, .int a1), (2, .int a2), (3, .int a3)]) dX10_add_7 (by decide) rfl ?_
  refine mw_iload dX10_add_9 0 rfl ?_
  refine mw_if_lt (tgt := 21) dX10_add_11 (by decide) (fun hc => ?_) (fun hc => ?_)
  · have h := mit hc h
    refine mw_bipush (v := 40) dX10_add_21 (by decide) ?_
    refine mw_iload_n dX10_add_23 2 rfl ?_
    refine mw_imul dX10_add_24 ?_
    refine mw_iload_n dX10_add_25 3 rfl ?_
    refine mw_iadd dX10_add_26 ?_
    refine mw_istore (L' := [(5, .int (((40 : Int32) * a1) + a2)), (4, .int r1), (0, .ref a0), (1, .int a1), (2, .int a2), (3, .int a3)]) dX10_add_27 (by decide) rfl ?_
    refine mw_bipush (v := 40) dX10_add_29 (by decide) ?_
    refine mw_iload_n dX10_add_31 3 rfl ?_
    refine mw_imul dX10_add_32 ?_
    refine mw_iload_n dX10_add_33 5 rfl ?_
    refine mw_iadd dX10_add_34 ?_
    refine mw_istore (L' := [(6, .int (((40 : Int32) * a1) + a3)), (5, .int (((40 : Int32) * a1) + a2)), (4, .int r1), (0, .ref a0), (1, .int a1), (2, .int a2), (3, .int a3)]) dX10_add_35 (by decide) rfl ?_
    refine mw_aload_n dX10_add_37 3 rfl ?_
    refine mw_iconst (v := 1) dX10_add_38 (by decide) ?_
    refine mv_putZ fw_RX10_183_9 dX10_add_39 m3 rfl (by decide) ?_
    refine mw_aload_n dX10_add_42 3 rfl ?_
    refine mw_aload_n dX10_add_43 3 rfl ?_
    obtain ⟨q4, e5, h⟩ := mbd h
    refine mv_getR fd_RX10_38_9 dX10_add_44 m3 rfl e5 ?_
    refine mw_iload dX10_add_47 1 rfl ?_
    obtain ⟨m6, h⟩ := mif h
    refine mv_lald dX10_add_49 m6 ?_
    refine mw_aload_n dX10_add_50 3 rfl ?_
    refine mv_getR fd_RX10_38_9 dX10_add_51 m3 rfl e5 ?_
    refine mw_iload dX10_add_54 0 rfl ?_
    refine mw_iconst (v := 1) dX10_add_56 (by decide) ?_
    refine mw_iadd dX10_add_57 ?_
    obtain ⟨m7, h⟩ := mif h
    refine mv_lald dX10_add_58 m7 ?_
    obtain ⟨r8, e9, h⟩ := mbd h
    refine mv_callV_l (As := [.long (mmL (muI σ a0 15 (1 : Int32)) q4 (((40 : Int32) * a1) + a2).toNatClampNeg), .long (mmL (muI σ a0 15 (1 : Int32)) q4 ((((40 : Int32) * a1) + a3) + (1 : Int32)).toNatClampNeg)]) lkV_RX10_186_yX10_product dX10_add_59 (k_X10_product e9) rfl m3 rfl rfl (Nat.le_of_ble_eq_true rfl) (by decide) (by decide) ?_
    refine mw_lstore (L' := [(7, .long r8.1), (6, .int (((40 : Int32) * a1) + a3)), (5, .int (((40 : Int32) * a1) + a2)), (4, .int r1), (0, .ref a0), (1, .int a1), (2, .int a2), (3, .int a3)]) dX10_add_62 (by decide) rfl ?_
    refine mw_aload_n dX10_add_64 4 rfl ?_
    refine mw_aload_n dX10_add_65 4 rfl ?_
    obtain ⟨q10, e11, h⟩ := mbd h
    refine mv_getR fd_RX10_38_9 dX10_add_66 m3 rfl e11 ?_
    refine mw_iload dX10_add_69 1 rfl ?_
    obtain ⟨m12, h⟩ := mif h
    refine mv_lald dX10_add_71 m12 ?_
    refine mw_aload_n dX10_add_72 4 rfl ?_
    refine mv_getR fd_RX10_38_9 dX10_add_73 m3 rfl e11 ?_
    refine mw_iload dX10_add_76 2 rfl ?_
    refine mw_iconst (v := 1) dX10_add_78 (by decide) ?_
    refine mw_iadd dX10_add_79 ?_
    obtain ⟨m13, h⟩ := mif h
    refine mv_lald dX10_add_80 m13 ?_
    obtain ⟨r14, e15, h⟩ := mbd h
    refine mv_callV_l (As := [.long (mmL r8.2 q10 (((40 : Int32) * a1) + a3).toNatClampNeg), .long (mmL r8.2 q10 ((((40 : Int32) * a1) + a2) + (1 : Int32)).toNatClampNeg)]) lkV_RX10_186_yX10_product dX10_add_81 (k_X10_product e15) rfl m3 rfl rfl (Nat.le_of_ble_eq_true rfl) (by decide) (by decide) ?_
    refine mw_lstore (L' := [(9, .long r14.1), (7, .long r8.1), (6, .int (((40 : Int32) * a1) + a3)), (5, .int (((40 : Int32) * a1) + a2)), (4, .int r1), (0, .ref a0), (1, .int a1), (2, .int a2), (3, .int a3)]) dX10_add_84 (by decide) rfl ?_
    refine mw_aload_n dX10_add_86 5 rfl ?_
    refine mw_lload dX10_add_87 1 rfl ?_
    refine mw_lload dX10_add_89 0 rfl ?_
    obtain ⟨r16, e17, h⟩ := mbd h
    refine mv_callV_l (As := [.long r8.1, .long r14.1]) lkV_RX10_269_yX10_sum dX10_add_91 (k_X10_sum e17) rfl m3 rfl rfl (Nat.le_of_ble_eq_true rfl) (by decide) (by decide) ?_
    refine mw_lstore (L' := [(11, .long r16.1), (9, .long r14.1), (7, .long r8.1), (6, .int (((40 : Int32) * a1) + a3)), (5, .int (((40 : Int32) * a1) + a2)), (4, .int r1), (0, .ref a0), (1, .int a1), (2, .int a2), (3, .int a3)]) dX10_add_94 (by decide) rfl ?_
    refine mw_aload_n dX10_add_96 6 rfl ?_
    refine mw_aload_n dX10_add_97 6 rfl ?_
    obtain ⟨q18, e19, h⟩ := mbd h
    refine mv_getR fd_RX10_38_9 dX10_add_98 m3 rfl e19 ?_
    refine mw_iload dX10_add_101 4 rfl ?_
    refine mw_iconst (v := 1) dX10_add_103 (by decide) ?_
    refine mw_iadd dX10_add_104 ?_
    obtain ⟨m20, h⟩ := mif h
    refine mv_lald dX10_add_105 m20 ?_
    refine mw_aload_n dX10_add_106 6 rfl ?_
    refine mv_getR fd_RX10_38_9 dX10_add_107 m3 rfl e19 ?_
    refine mw_iload dX10_add_110 3 rfl ?_
    refine mw_iconst (v := 1) dX10_add_112 (by decide) ?_
    refine mw_iadd dX10_add_113 ?_
    obtain ⟨m21, h⟩ := mif h
    refine mv_lald dX10_add_114 m21 ?_
    obtain ⟨r22, e23, h⟩ := mbd h
    refine mv_callV_l (As := [.long (mmL r16.2 q18 ((((40 : Int32) * a1) + a2) + (1 : Int32)).toNatClampNeg), .long (mmL r16.2 q18 ((((40 : Int32) * a1) + a3) + (1 : Int32)).toNatClampNeg)]) lkV_RX10_186_yX10_product dX10_add_115 (k_X10_product e23) rfl m3 rfl rfl (Nat.le_of_ble_eq_true rfl) (by decide) (by decide) ?_
    refine mw_lstore (L' := [(13, .long r22.1), (11, .long r16.1), (9, .long r14.1), (7, .long r8.1), (6, .int (((40 : Int32) * a1) + a3)), (5, .int (((40 : Int32) * a1) + a2)), (4, .int r1), (0, .ref a0), (1, .int a1), (2, .int a2), (3, .int a3)]) dX10_add_118 (by decide) rfl ?_
    refine mw_aload_n dX10_add_120 7 rfl ?_
    refine mv_getZ fd_RX10_183_9 dX10_add_121 m3 rfl ?_
    refine mw_if_ne (tgt := 134) dX10_add_124 (by decide) (fun hc => ?_) (fun hc => ?_)
    · have h := mie hc h
      refine mw_aload_n dX10_add_134 7 rfl ?_
      obtain ⟨q24, e25, h⟩ := mbd h
      refine mv_getR fd_RX10_38_9 dX10_add_135 m3 rfl e25 ?_
      refine mw_iload dX10_add_138 5 rfl ?_
      refine mw_aload_n dX10_add_140 7 rfl ?_
      obtain ⟨q26, e27, h⟩ := mbd h
      refine mv_getR fd_RX10_32_9 dX10_add_141 m3 rfl e27 ?_
      refine mw_iload_n dX10_add_144 8 rfl ?_
      obtain ⟨m28, h⟩ := mif h
      refine mv_iald dX10_add_145 m28 ?_
      refine mw_lload dX10_add_146 1 rfl ?_
      obtain ⟨r29, e30, h⟩ := mbd h
      refine mv_callS_l (As := [.int (mmI r22.2 q26 a1.toNatClampNeg), .long r16.1]) lkS_RX10_265_yX10_narrow dX10_add_148 (k_X10_narrow e30) rfl rfl (Nat.le_of_ble_eq_true rfl) (by decide) (by decide) ?_
      obtain ⟨m31, h⟩ := mif h
      refine mv_last dX10_add_151 m31 ?_
      refine mw_aload_n dX10_add_152 7 rfl ?_
      obtain ⟨q32, e33, h⟩ := mbd h
      refine mv_getR fd_RX10_38_9 dX10_add_153 m3 rfl e33 ?_
      refine mw_iload dX10_add_156 5 rfl ?_
      refine mw_iconst (v := 1) dX10_add_158 (by decide) ?_
      refine mw_iadd dX10_add_159 ?_
      refine mw_aload_n dX10_add_160 7 rfl ?_
      obtain ⟨q34, e35, h⟩ := mbd h
      refine mv_getR fd_RX10_32_9 dX10_add_161 m3 rfl e35 ?_
      refine mw_iload_n dX10_add_164 8 rfl ?_
      obtain ⟨m36, h⟩ := mif h
      refine mv_iald dX10_add_165 m36 ?_
      refine mw_lload dX10_add_166 0 rfl ?_
      obtain ⟨r37, e38, h⟩ := mbd h
      refine mv_callS_l (As := [.int (mmI (muL r22.2 q24 (((40 : Int32) * a1) + a2).toNatClampNeg r29) q34 a1.toNatClampNeg), .long r22.1]) lkS_RX10_265_yX10_narrow dX10_add_168 (k_X10_narrow e38) rfl rfl (Nat.le_of_ble_eq_true rfl) (by decide) (by decide) ?_
      obtain ⟨m39, h⟩ := mif h
      refine mv_last dX10_add_171 m39 ?_
      refine mw_iconst (v := 1) dX10_add_172 (by decide) ?_
      exact mw_iret dX10_add_173 rfl (mrs_im h) rfl rfl
    · have h := mit hc h
      refine mw_aload_n dX10_add_127 7 rfl ?_
      refine mw_bipush (v := 8) dX10_add_128 (by decide) ?_
      obtain ⟨r40, e41, h⟩ := mbd h
      refine mv_callV_i (As := [.int (8 : Int32)]) lkV_RX10_81_yX10_finds dX10_add_130 (k_X10_finds e41) rfl m3 rfl rfl (Nat.le_of_ble_eq_true rfl) (by decide) (by decide) ?_
      exact mw_iret dX10_add_133 rfl (mrs_im h) rfl rfl
  · have h := mie hc h
    refine mw_aload_n dX10_add_14 1 rfl ?_
    refine mw_iload dX10_add_15 0 rfl ?_
    obtain ⟨r42, e43, h⟩ := mbd h
    refine mv_callV_i (As := [.int r1]) lkV_RX10_81_yX10_finds dX10_add_17 (k_X10_finds e43) rfl m3 rfl rfl (Nat.le_of_ble_eq_true rfl) (by decide) (by decide) ?_
    exact mw_iret dX10_add_20 rfl (mrs_im h) rfl rfl

theorem dX10_feed_0 : decode cX10_feed 0 = .ok (.iload_n 2, 1) := by decide +kernel
theorem dX10_feed_1 : decode cX10_feed 1 = .ok (.i2l, 1) := by decide +kernel
theorem dX10_feed_2 : decode cX10_feed 2 = .ok (.lconst 1, 1) := by decide +kernel
theorem dX10_feed_3 : decode cX10_feed 3 = .ok (.ldc2_w 272, 3) := by decide +kernel
theorem dX10_feed_6 : decode cX10_feed 6 = .ok (.invokestatic 57, 3) := by decide +kernel
theorem dX10_feed_9 : decode cX10_feed 9 = .ok (.ifCond .ne 9, 3) := by decide +kernel
theorem dX10_feed_12 : decode cX10_feed 12 = .ok (.aload_n 0, 1) := by decide +kernel
theorem dX10_feed_13 : decode cX10_feed 13 = .ok (.iconst 0, 1) := by decide +kernel
theorem dX10_feed_14 : decode cX10_feed 14 = .ok (.invokevirtual 81, 3) := by decide +kernel
theorem dX10_feed_17 : decode cX10_feed 17 = .ok (.ireturn, 1) := by decide +kernel
theorem dX10_feed_18 : decode cX10_feed 18 = .ok (.aload_n 0, 1) := by decide +kernel
theorem dX10_feed_19 : decode cX10_feed 19 = .ok (.getfield 274, 3) := by decide +kernel
theorem dX10_feed_22 : decode cX10_feed 22 = .ok (.iload_n 2, 1) := by decide +kernel
theorem dX10_feed_23 : decode cX10_feed 23 = .ok (.iadd, 1) := by decide +kernel
theorem dX10_feed_24 : decode cX10_feed 24 = .ok (.bipush 120, 2) := by decide +kernel
theorem dX10_feed_26 : decode cX10_feed 26 = .ok (.if_icmp .le 9, 3) := by decide +kernel
theorem dX10_feed_29 : decode cX10_feed 29 = .ok (.aload_n 0, 1) := by decide +kernel
theorem dX10_feed_30 : decode cX10_feed 30 = .ok (.iconst 1, 1) := by decide +kernel
theorem dX10_feed_31 : decode cX10_feed 31 = .ok (.invokevirtual 81, 3) := by decide +kernel
theorem dX10_feed_34 : decode cX10_feed 34 = .ok (.ireturn, 1) := by decide +kernel
theorem dX10_feed_35 : decode cX10_feed 35 = .ok (.iload_n 2, 1) := by decide +kernel
theorem dX10_feed_36 : decode cX10_feed 36 = .ok (.iconst 1, 1) := by decide +kernel
theorem dX10_feed_37 : decode cX10_feed 37 = .ok (.isub, 1) := by decide +kernel
theorem dX10_feed_38 : decode cX10_feed 38 = .ok (.istore_n 3, 1) := by decide +kernel
theorem dX10_feed_39 : decode cX10_feed 39 = .ok (.iload_n 3, 1) := by decide +kernel
theorem dX10_feed_40 : decode cX10_feed 40 = .ok (.ifCond .lt 38, 3) := by decide +kernel
theorem dX10_feed_43 : decode cX10_feed 43 = .ok (.aload_n 0, 1) := by decide +kernel
theorem dX10_feed_44 : decode cX10_feed 44 = .ok (.getfield 44, 3) := by decide +kernel
theorem dX10_feed_47 : decode cX10_feed 47 = .ok (.aload_n 0, 1) := by decide +kernel
theorem dX10_feed_48 : decode cX10_feed 48 = .ok (.getfield 274, 3) := by decide +kernel
theorem dX10_feed_51 : decode cX10_feed 51 = .ok (.iload_n 1, 1) := by decide +kernel
theorem dX10_feed_52 : decode cX10_feed 52 = .ok (.bipush 8, 2) := by decide +kernel
theorem dX10_feed_54 : decode cX10_feed 54 = .ok (.iload_n 3, 1) := by decide +kernel
theorem dX10_feed_55 : decode cX10_feed 55 = .ok (.imul, 1) := by decide +kernel
theorem dX10_feed_56 : decode cX10_feed 56 = .ok (.ishr, 1) := by decide +kernel
theorem dX10_feed_57 : decode cX10_feed 57 = .ok (.sipush 255, 3) := by decide +kernel
theorem dX10_feed_60 : decode cX10_feed 60 = .ok (.iand, 1) := by decide +kernel
theorem dX10_feed_61 : decode cX10_feed 61 = .ok (.iastore, 1) := by decide +kernel
theorem dX10_feed_62 : decode cX10_feed 62 = .ok (.aload_n 0, 1) := by decide +kernel
theorem dX10_feed_63 : decode cX10_feed 63 = .ok (.dup, 1) := by decide +kernel
theorem dX10_feed_64 : decode cX10_feed 64 = .ok (.getfield 274, 3) := by decide +kernel
theorem dX10_feed_67 : decode cX10_feed 67 = .ok (.iconst 1, 1) := by decide +kernel
theorem dX10_feed_68 : decode cX10_feed 68 = .ok (.iadd, 1) := by decide +kernel
theorem dX10_feed_69 : decode cX10_feed 69 = .ok (.putfield 274, 3) := by decide +kernel
theorem dX10_feed_72 : decode cX10_feed 72 = .ok (.iinc 3 (-1), 3) := by decide +kernel
theorem dX10_feed_75 : decode cX10_feed 75 = .ok (.goto (-36), 3) := by decide +kernel
theorem dX10_feed_78 : decode cX10_feed 78 = .ok (.aload_n 0, 1) := by decide +kernel
theorem dX10_feed_79 : decode cX10_feed 79 = .ok (.getfield 274, 3) := by decide +kernel
theorem dX10_feed_82 : decode cX10_feed 82 = .ok (.ireturn, 1) := by decide +kernel
def f_X10_feed_L39 (a0 : Nat) (a1 : Int32) (a2 : Int32) : Nat → Int32 → MSt → Option (Int32 × MSt)
  | 0, _, _ => none
  | n + 1, x3, σ => if x3 < 0 then (if mob 9 a0 = true then (some ((mmI σ a0 25), σ)) else none) else (if mob 9 a0 = true then ((mmR σ a0 24).bind (fun q3 => if mix 0 q3 (mmI σ a0 25) = true then (f_X10_feed_L39 a0 a1 a2 n (x3 + (-1)) (muI (muI σ q3 (mmI σ a0 25).toNatClampNeg ((a1 >>> (((8 : Int32) * x3) &&& 31)) &&& (255 : Int32))) a0 25 ((mmI (muI σ q3 (mmI σ a0 25).toNatClampNeg ((a1 >>> (((8 : Int32) * x3) &&& 31)) &&& (255 : Int32))) a0 25) + (1 : Int32)))) else none)) else none)
set_option maxRecDepth 100000 in
set_option maxHeartbeats 4000000 in
theorem p_X10_feed_L39 {l : Launch} {E : MX} {out : (Int32 × MSt)} {a0 : Nat} {a1 : Int32} {a2 : Int32}  : ∀ (n : Nat) (x3 : Int32) (σ : MSt), f_X10_feed_L39 a0 a1 a2 n x3 σ = some out → MV l E cX10_feed RX10 4 (some .int) 2 (82, (some (.int out.1)), out.2) σ 39 [(0, .ref a0), (1, .int a1), (2, .int a2), (3, .int x3)] [] := by
  intro n
  induction n with
  | zero =>
    intro x3 σ h
    exact nomatch h
  | succ n ih =>
    intro x3 σ h
    rw [f_X10_feed_L39] at h
    refine mw_iload_n dX10_feed_39 3 rfl ?_
    refine mw_if_lt (tgt := 78) dX10_feed_40 (by decide) (fun hc => ?_) (fun hc => ?_)
    · have h := mit hc h
      refine mw_aload_n dX10_feed_78 0 rfl ?_
      obtain ⟨m1, h⟩ := mif h
      refine mv_getI fd_RX10_274_9 dX10_feed_79 m1 rfl ?_
      exact mw_iret dX10_feed_82 rfl (mrs_im h) rfl rfl
    · have h := mie hc h
      refine mw_aload_n dX10_feed_43 0 rfl ?_
      obtain ⟨m2, h⟩ := mif h
      obtain ⟨q3, e4, h⟩ := mbd h
      refine mv_getR fd_RX10_44_9 dX10_feed_44 m2 rfl e4 ?_
      refine mw_aload_n dX10_feed_47 0 rfl ?_
      refine mv_getI fd_RX10_274_9 dX10_feed_48 m2 rfl ?_
      refine mw_iload_n dX10_feed_51 1 rfl ?_
      refine mw_bipush (v := 8) dX10_feed_52 (by decide) ?_
      refine mw_iload_n dX10_feed_54 3 rfl ?_
      refine mw_imul dX10_feed_55 ?_
      refine mw_ishr dX10_feed_56 ?_
      refine mw_sipush (v := 255) dX10_feed_57 (by decide) ?_
      refine mw_iand dX10_feed_60 ?_
      obtain ⟨m5, h⟩ := mif h
      refine mv_iast dX10_feed_61 m5 ?_
      refine mw_aload_n dX10_feed_62 0 rfl ?_
      refine mw_dup dX10_feed_63 rfl ?_
      refine mv_getI fd_RX10_274_9 dX10_feed_64 m2 rfl ?_
      refine mw_iconst (v := 1) dX10_feed_67 (by decide) ?_
      refine mw_iadd dX10_feed_68 ?_
      refine mv_putI fw_RX10_274_9 dX10_feed_69 m2 rfl ?_
      refine mw_iinc (v := (x3 + (-1))) (L' := [(3, .int (x3 + (-1))), (0, .ref a0), (1, .int a1), (2, .int a2)]) dX10_feed_72 3 rfl rfl (by decide) rfl ?_
      refine mw_goto (tgt := 39) dX10_feed_75 (by decide) ?_
      exact mw_sub (L' := [(0, .ref a0), (1, .int a1), (2, .int a2), (3, .int (x3 + (-1)))]) [1, 2, 3, 0] rfl (ih _ _ h)
def f_X10_feed (a0 : Nat) (a1 : Int32) (a2 : Int32) (σ : MSt) : Option (Int32 × MSt) := (f_X10_in a2.toInt64 (1 : Int64) (4 : Int64)).bind (fun r1 => if r1 = 0 then ((f_X10_finds a0 (0 : Int32) σ).bind (fun r6 => if mob 9 a0 = true then (some (r6.1, r6.2)) else none)) else (if mob 9 a0 = true then (if ((mmI σ a0 25) + a2) ≤ (120 : Int32) then (f_X10_feed_L39 a0 a1 a2 mN (a2 - (1 : Int32)) σ) else ((f_X10_finds a0 (1 : Int32) σ).bind (fun r4 => some (r4.1, r4.2)))) else none))
set_option maxRecDepth 100000 in
set_option maxHeartbeats 4000000 in
theorem k_X10_feed {l : Launch} {σ : MSt} {a0 : Nat} {a1 : Int32} {a2 : Int32} {out : (Int32 × MSt)} (h : f_X10_feed a0 a1 a2 σ = some out) : MK l yX10_feed cX10_feed 4 (some .int) 2 [.ref a0, .int a1, .int a2] σ (some (.int out.1)) out.2 := by
  unfold f_X10_feed at h
  refine mw_entry (own := RX10) (ini := false) (L := [(0, .ref a0), (1, .int a1), (2, .int a2)]) (by decide +kernel) rfl (fun h => nomatch h) rfl (Nat.le_of_ble_eq_true rfl) (Nat.le_of_ble_eq_true rfl) (fun E => ?_)
  refine mw_iload_n dX10_feed_0 2 rfl ?_
  refine mw_i2l dX10_feed_1 ?_
  refine mw_lconst (v := 1) dX10_feed_2 (by decide) ?_
  refine mw_ldc2 dX10_feed_3 wt_776 ?_
  obtain ⟨r1, e2, h⟩ := mbd h
  refine mv_callS_i (As := [.long a2.toInt64, .long (1 : Int64), .long (4 : Int64)]) lkS_RX10_57_yX10_in dX10_feed_6 (k_X10_in e2) rfl rfl (Nat.le_of_ble_eq_true rfl) (by decide) (by decide) ?_
  refine mw_if_ne (tgt := 18) dX10_feed_9 (by decide) (fun hc => ?_) (fun hc => ?_)
  · have h := mie hc h
    refine mw_aload_n dX10_feed_18 0 rfl ?_
    obtain ⟨m3, h⟩ := mif h
    refine mv_getI fd_RX10_274_9 dX10_feed_19 m3 rfl ?_
    refine mw_iload_n dX10_feed_22 2 rfl ?_
    refine mw_iadd dX10_feed_23 ?_
    refine mw_bipush (v := 120) dX10_feed_24 (by decide) ?_
    refine mw_icmp_le (tgt := 35) dX10_feed_26 (by decide) (fun hc => ?_) (fun hc => ?_)
    · have h := mit hc h
      refine mw_iload_n dX10_feed_35 2 rfl ?_
      refine mw_iconst (v := 1) dX10_feed_36 (by decide) ?_
      refine mw_isub dX10_feed_37 ?_
      refine mw_istore_n (L' := [(3, .int (a2 - (1 : Int32))), (0, .ref a0), (1, .int a1), (2, .int a2)]) dX10_feed_38 rfl (by decide) rfl ?_
      exact mw_sub (L' := [(0, .ref a0), (1, .int a1), (2, .int a2), (3, .int (a2 - (1 : Int32)))]) [1, 2, 3, 0] rfl (p_X10_feed_L39  mN _ _ h)
    · have h := mie hc h
      refine mw_aload_n dX10_feed_29 0 rfl ?_
      refine mw_iconst (v := 1) dX10_feed_30 (by decide) ?_
      obtain ⟨r4, e5, h⟩ := mbd h
      refine mv_callV_i (As := [.int (1 : Int32)]) lkV_RX10_81_yX10_finds dX10_feed_31 (k_X10_finds e5) rfl m3 rfl rfl (Nat.le_of_ble_eq_true rfl) (by decide) (by decide) ?_
      exact mw_iret dX10_feed_34 rfl (mrs_im h) rfl rfl
  · have h := mit hc h
    refine mw_aload_n dX10_feed_12 0 rfl ?_
    refine mw_iconst (v := 0) dX10_feed_13 (by decide) ?_
    obtain ⟨r6, e7, h⟩ := mbd h
    obtain ⟨m8, h⟩ := mif h
    refine mv_callV_i (As := [.int (0 : Int32)]) lkV_RX10_81_yX10_finds dX10_feed_14 (k_X10_finds e7) rfl m8 rfl rfl (Nat.le_of_ble_eq_true rfl) (by decide) (by decide) ?_
    exact mw_iret dX10_feed_17 rfl (mrs_im h) rfl rfl

theorem dX10_wipe_0 : decode cX10_wipe 0 = .ok (.aload_n 0, 1) := by decide +kernel
theorem dX10_wipe_1 : decode cX10_wipe 1 = .ok (.getfield 274, 3) := by decide +kernel
theorem dX10_wipe_4 : decode cX10_wipe 4 = .ok (.istore_n 1, 1) := by decide +kernel
theorem dX10_wipe_5 : decode cX10_wipe 5 = .ok (.aload_n 0, 1) := by decide +kernel
theorem dX10_wipe_6 : decode cX10_wipe 6 = .ok (.iconst 0, 1) := by decide +kernel
theorem dX10_wipe_7 : decode cX10_wipe 7 = .ok (.putfield 274, 3) := by decide +kernel
theorem dX10_wipe_10 : decode cX10_wipe 10 = .ok (.iload_n 1, 1) := by decide +kernel
theorem dX10_wipe_11 : decode cX10_wipe 11 = .ok (.ireturn, 1) := by decide +kernel
def f_X10_wipe (a0 : Nat) (σ : MSt) : Option (Int32 × MSt) := if mob 9 a0 = true then (some ((mmI σ a0 25), (muI σ a0 25 (0 : Int32)))) else none
set_option maxRecDepth 100000 in
set_option maxHeartbeats 4000000 in
theorem k_X10_wipe {l : Launch} {σ : MSt} {a0 : Nat} {out : (Int32 × MSt)} (h : f_X10_wipe a0 σ = some out) : MK l yX10_wipe cX10_wipe 2 (some .int) 1 [.ref a0] σ (some (.int out.1)) out.2 := by
  unfold f_X10_wipe at h
  refine mw_entry (own := RX10) (ini := false) (L := [(0, .ref a0)]) (by decide +kernel) rfl (fun h => nomatch h) rfl (Nat.le_of_ble_eq_true rfl) (Nat.le_of_ble_eq_true rfl) (fun E => ?_)
  refine mw_aload_n dX10_wipe_0 0 rfl ?_
  obtain ⟨m1, h⟩ := mif h
  refine mv_getI fd_RX10_274_9 dX10_wipe_1 m1 rfl ?_
  refine mw_istore_n (L' := [(1, .int (mmI σ a0 25)), (0, .ref a0)]) dX10_wipe_4 rfl (by decide) rfl ?_
  refine mw_aload_n dX10_wipe_5 1 rfl ?_
  refine mw_iconst (v := 0) dX10_wipe_6 (by decide) ?_
  refine mv_putI fw_RX10_274_9 dX10_wipe_7 m1 rfl ?_
  refine mw_iload_n dX10_wipe_10 0 rfl ?_
  exact mw_iret dX10_wipe_11 rfl (mrs_im h) rfl rfl

theorem dX10_byteAt_0 : decode cX10_byteAt 0 = .ok (.iload_n 1, 1) := by decide +kernel
theorem dX10_byteAt_1 : decode cX10_byteAt 1 = .ok (.aload_n 0, 1) := by decide +kernel
theorem dX10_byteAt_2 : decode cX10_byteAt 2 = .ok (.getfield 274, 3) := by decide +kernel
theorem dX10_byteAt_5 : decode cX10_byteAt 5 = .ok (.if_icmp .ge 12, 3) := by decide +kernel
theorem dX10_byteAt_8 : decode cX10_byteAt 8 = .ok (.aload_n 0, 1) := by decide +kernel
theorem dX10_byteAt_9 : decode cX10_byteAt 9 = .ok (.getfield 44, 3) := by decide +kernel
theorem dX10_byteAt_12 : decode cX10_byteAt 12 = .ok (.iload_n 1, 1) := by decide +kernel
theorem dX10_byteAt_13 : decode cX10_byteAt 13 = .ok (.iaload, 1) := by decide +kernel
theorem dX10_byteAt_14 : decode cX10_byteAt 14 = .ok (.goto 4, 3) := by decide +kernel
theorem dX10_byteAt_17 : decode cX10_byteAt 17 = .ok (.iconst (-1), 1) := by decide +kernel
theorem dX10_byteAt_18 : decode cX10_byteAt 18 = .ok (.ireturn, 1) := by decide +kernel
def f_X10_byteAt (σ : MSt) (a0 : Nat) (a1 : Int32) : Option Int32 := if mob 9 a0 = true then (if (mmI σ a0 25) ≤ a1 then (some (-1 : Int32)) else ((mmR σ a0 24).bind (fun q2 => if mix 0 q2 a1 = true then (some (mmI σ q2 a1.toNatClampNeg)) else none))) else none
set_option maxRecDepth 100000 in
set_option maxHeartbeats 4000000 in
theorem k_X10_byteAt {l : Launch} {σ : MSt} {a0 : Nat} {a1 : Int32} {out : Int32} (h : f_X10_byteAt σ a0 a1 = some out) : MK l yX10_byteAt cX10_byteAt 2 (some .int) 1 [.ref a0, .int a1] σ (some (.int out)) σ := by
  unfold f_X10_byteAt at h
  refine mw_entry (own := RX10) (ini := false) (L := [(0, .ref a0), (1, .int a1)]) (by decide +kernel) rfl (fun h => nomatch h) rfl (Nat.le_of_ble_eq_true rfl) (Nat.le_of_ble_eq_true rfl) (fun E => ?_)
  refine mw_iload_n dX10_byteAt_0 1 rfl ?_
  refine mw_aload_n dX10_byteAt_1 0 rfl ?_
  obtain ⟨m1, h⟩ := mif h
  refine mv_getI fd_RX10_274_9 dX10_byteAt_2 m1 rfl ?_
  refine mw_icmp_ge (tgt := 17) dX10_byteAt_5 (by decide) (fun hc => ?_) (fun hc => ?_)
  · have h := mit hc h
    refine mw_iconst (v := -1) dX10_byteAt_17 (by decide) ?_
    exact mw_iret dX10_byteAt_18 rfl (mrs_i h) rfl rfl
  · have h := mie hc h
    refine mw_aload_n dX10_byteAt_8 0 rfl ?_
    obtain ⟨q2, e3, h⟩ := mbd h
    refine mv_getR fd_RX10_44_9 dX10_byteAt_9 m1 rfl e3 ?_
    refine mw_iload_n dX10_byteAt_12 1 rfl ?_
    obtain ⟨m4, h⟩ := mif h
    refine mv_iald dX10_byteAt_13 m4 ?_
    refine mw_goto (tgt := 18) dX10_byteAt_14 (by decide) ?_
    exact mw_iret dX10_byteAt_18 rfl (mrs_i h) rfl rfl

theorem dX10_isWordFrom_0 : decode cX10_isWordFrom 0 = .ok (.aload_n 0, 1) := by decide +kernel
theorem dX10_isWordFrom_1 : decode cX10_isWordFrom 1 = .ok (.getfield 277, 3) := by decide +kernel
theorem dX10_isWordFrom_4 : decode cX10_isWordFrom 4 = .ok (.aload_n 0, 1) := by decide +kernel
theorem dX10_isWordFrom_5 : decode cX10_isWordFrom 5 = .ok (.getfield 280, 3) := by decide +kernel
theorem dX10_isWordFrom_8 : decode cX10_isWordFrom 8 = .ok (.isub, 1) := by decide +kernel
theorem dX10_isWordFrom_9 : decode cX10_isWordFrom 9 = .ok (.bipush 8, 2) := by decide +kernel
theorem dX10_isWordFrom_11 : decode cX10_isWordFrom 11 = .ok (.if_icmp .gt 7, 3) := by decide +kernel
theorem dX10_isWordFrom_14 : decode cX10_isWordFrom 14 = .ok (.iconst 1, 1) := by decide +kernel
theorem dX10_isWordFrom_15 : decode cX10_isWordFrom 15 = .ok (.goto 4, 3) := by decide +kernel
theorem dX10_isWordFrom_18 : decode cX10_isWordFrom 18 = .ok (.iconst 0, 1) := by decide +kernel
theorem dX10_isWordFrom_19 : decode cX10_isWordFrom 19 = .ok (.istore_n 2, 1) := by decide +kernel
theorem dX10_isWordFrom_20 : decode cX10_isWordFrom 20 = .ok (.iconst 0, 1) := by decide +kernel
theorem dX10_isWordFrom_21 : decode cX10_isWordFrom 21 = .ok (.istore_n 3, 1) := by decide +kernel
theorem dX10_isWordFrom_22 : decode cX10_isWordFrom 22 = .ok (.iload_n 3, 1) := by decide +kernel
theorem dX10_isWordFrom_23 : decode cX10_isWordFrom 23 = .ok (.bipush 8, 2) := by decide +kernel
theorem dX10_isWordFrom_25 : decode cX10_isWordFrom 25 = .ok (.if_icmp .ge 61, 3) := by decide +kernel
theorem dX10_isWordFrom_28 : decode cX10_isWordFrom 28 = .ok (.iload_n 2, 1) := by decide +kernel
theorem dX10_isWordFrom_29 : decode cX10_isWordFrom 29 = .ok (.ifCond .eq 57, 3) := by decide +kernel
theorem dX10_isWordFrom_32 : decode cX10_isWordFrom 32 = .ok (.aload_n 0, 1) := by decide +kernel
theorem dX10_isWordFrom_33 : decode cX10_isWordFrom 33 = .ok (.getfield 47, 3) := by decide +kernel
theorem dX10_isWordFrom_36 : decode cX10_isWordFrom 36 = .ok (.bipush 8, 2) := by decide +kernel
theorem dX10_isWordFrom_38 : decode cX10_isWordFrom 38 = .ok (.iload_n 1, 1) := by decide +kernel
theorem dX10_isWordFrom_39 : decode cX10_isWordFrom 39 = .ok (.imul, 1) := by decide +kernel
theorem dX10_isWordFrom_40 : decode cX10_isWordFrom 40 = .ok (.iload_n 3, 1) := by decide +kernel
theorem dX10_isWordFrom_41 : decode cX10_isWordFrom 41 = .ok (.iadd, 1) := by decide +kernel
theorem dX10_isWordFrom_42 : decode cX10_isWordFrom 42 = .ok (.caload, 1) := by decide +kernel
theorem dX10_isWordFrom_43 : decode cX10_isWordFrom 43 = .ok (.aload_n 0, 1) := by decide +kernel
theorem dX10_isWordFrom_44 : decode cX10_isWordFrom 44 = .ok (.getfield 280, 3) := by decide +kernel
theorem dX10_isWordFrom_47 : decode cX10_isWordFrom 47 = .ok (.iload_n 3, 1) := by decide +kernel
theorem dX10_isWordFrom_48 : decode cX10_isWordFrom 48 = .ok (.iadd, 1) := by decide +kernel
theorem dX10_isWordFrom_49 : decode cX10_isWordFrom 49 = .ok (.aload_n 0, 1) := by decide +kernel
theorem dX10_isWordFrom_50 : decode cX10_isWordFrom 50 = .ok (.getfield 277, 3) := by decide +kernel
theorem dX10_isWordFrom_53 : decode cX10_isWordFrom 53 = .ok (.if_icmp .ge 16, 3) := by decide +kernel
theorem dX10_isWordFrom_56 : decode cX10_isWordFrom 56 = .ok (.aload_n 0, 1) := by decide +kernel
theorem dX10_isWordFrom_57 : decode cX10_isWordFrom 57 = .ok (.aload_n 0, 1) := by decide +kernel
theorem dX10_isWordFrom_58 : decode cX10_isWordFrom 58 = .ok (.getfield 280, 3) := by decide +kernel
theorem dX10_isWordFrom_61 : decode cX10_isWordFrom 61 = .ok (.iload_n 3, 1) := by decide +kernel
theorem dX10_isWordFrom_62 : decode cX10_isWordFrom 62 = .ok (.iadd, 1) := by decide +kernel
theorem dX10_isWordFrom_63 : decode cX10_isWordFrom 63 = .ok (.invokevirtual 283, 3) := by decide +kernel
theorem dX10_isWordFrom_66 : decode cX10_isWordFrom 66 = .ok (.goto 5, 3) := by decide +kernel
theorem dX10_isWordFrom_69 : decode cX10_isWordFrom 69 = .ok (.bipush 32, 2) := by decide +kernel
theorem dX10_isWordFrom_71 : decode cX10_isWordFrom 71 = .ok (.if_icmp .ne 7, 3) := by decide +kernel
theorem dX10_isWordFrom_74 : decode cX10_isWordFrom 74 = .ok (.iconst 1, 1) := by decide +kernel
theorem dX10_isWordFrom_75 : decode cX10_isWordFrom 75 = .ok (.goto 4, 3) := by decide +kernel
theorem dX10_isWordFrom_78 : decode cX10_isWordFrom 78 = .ok (.iconst 0, 1) := by decide +kernel
theorem dX10_isWordFrom_79 : decode cX10_isWordFrom 79 = .ok (.istore_n 2, 1) := by decide +kernel
theorem dX10_isWordFrom_80 : decode cX10_isWordFrom 80 = .ok (.iinc 3 1, 3) := by decide +kernel
theorem dX10_isWordFrom_83 : decode cX10_isWordFrom 83 = .ok (.goto (-61), 3) := by decide +kernel
theorem dX10_isWordFrom_86 : decode cX10_isWordFrom 86 = .ok (.iload_n 2, 1) := by decide +kernel
theorem dX10_isWordFrom_87 : decode cX10_isWordFrom 87 = .ok (.ireturn, 1) := by decide +kernel
def f_X10_isWordFrom_J71 (σ : MSt) (a0 : Nat) (a1 : Int32) (k22 : Int32 → Int32 → Option Int32) (x3 : Int32) (s0 : Int32) (s1 : Int32) : Option Int32 := if s0 = s1 then (k22 (1 : Int32) (x3 + 1)) else (k22 (0 : Int32) (x3 + 1))
set_option maxRecDepth 100000 in
set_option maxHeartbeats 4000000 in
theorem p_X10_isWordFrom_J71 {l : Launch} {E : MX} {out : Int32} {σ : MSt} {a0 : Nat} {a1 : Int32} {k22 : Int32 → Int32 → Option Int32} (hk22 : ∀ (z0 : Int32) (z1 : Int32), k22 z0 z1 = some out → MV l E cX10_isWordFrom RX10 4 (some .boolean) 2 (82, (some (.int out)), σ) σ 22 [(0, .ref a0), (1, .int a1), (2, .int z0), (3, .int z1)] []) {x3 : Int32} {s0 : Int32} {s1 : Int32} (h : f_X10_isWordFrom_J71 σ a0 a1 k22 x3 s0 s1 = some out) : MV l E cX10_isWordFrom RX10 4 (some .boolean) 2 (82, (some (.int out)), σ) σ 71 [(0, .ref a0), (1, .int a1), (3, .int x3)] [.int s1, .int s0] := by
  unfold f_X10_isWordFrom_J71 at h
  refine mw_icmp_ne (tgt := 78) dX10_isWordFrom_71 (by decide) (fun hc => ?_) (fun hc => ?_)
  · have h := mie hc h
    refine mw_iconst (v := 0) dX10_isWordFrom_78 (by decide) ?_
    refine mw_istore_n (L' := [(2, .int (0 : Int32)), (0, .ref a0), (1, .int a1), (3, .int x3)]) dX10_isWordFrom_79 rfl (by decide) rfl ?_
    refine mw_iinc (v := (x3 + 1)) (L' := [(3, .int (x3 + 1)), (2, .int (0 : Int32)), (0, .ref a0), (1, .int a1)]) dX10_isWordFrom_80 3 rfl rfl (by decide) rfl ?_
    refine mw_goto (tgt := 22) dX10_isWordFrom_83 (by decide) ?_
    exact mw_sub (L' := [(0, .ref a0), (1, .int a1), (2, .int (0 : Int32)), (3, .int (x3 + 1))]) [2, 3, 1, 0] rfl (hk22 _ _ h)
  · have h := mit hc h
    refine mw_iconst (v := 1) dX10_isWordFrom_74 (by decide) ?_
    refine mw_goto (tgt := 79) dX10_isWordFrom_75 (by decide) ?_
    refine mw_istore_n (L' := [(2, .int (1 : Int32)), (0, .ref a0), (1, .int a1), (3, .int x3)]) dX10_isWordFrom_79 rfl (by decide) rfl ?_
    refine mw_iinc (v := (x3 + 1)) (L' := [(3, .int (x3 + 1)), (2, .int (1 : Int32)), (0, .ref a0), (1, .int a1)]) dX10_isWordFrom_80 3 rfl rfl (by decide) rfl ?_
    refine mw_goto (tgt := 22) dX10_isWordFrom_83 (by decide) ?_
    exact mw_sub (L' := [(0, .ref a0), (1, .int a1), (2, .int (1 : Int32)), (3, .int (x3 + 1))]) [2, 3, 1, 0] rfl (hk22 _ _ h)
def f_X10_isWordFrom_L22 (σ : MSt) (a0 : Nat) (a1 : Int32) : Nat → Int32 → Int32 → Option Int32
  | 0, _, _ => none
  | n + 1, x2, x3 => if (8 : Int32) ≤ x3 then (if x2 = 0 ∨ x2 = 1 then (some x2) else none) else (if x2 = 0 then (if x2 = 0 ∨ x2 = 1 then (some x2) else none) else (if mob 9 a0 = true then ((mmR σ a0 31).bind (fun q4 => if mix 3 q4 (((8 : Int32) * a1) + x3) = true then (if (mmI σ a0 26) ≤ ((mmI σ a0 27) + x3) then (f_X10_isWordFrom_J71 σ a0 a1 (f_X10_isWordFrom_L22 σ a0 a1 n) x3 (mmI σ q4 (((8 : Int32) * a1) + x3).toNatClampNeg) (32 : Int32)) else ((f_X10_byteAt σ a0 ((mmI σ a0 27) + x3)).bind (fun r7 => f_X10_isWordFrom_J71 σ a0 a1 (f_X10_isWordFrom_L22 σ a0 a1 n) x3 (mmI σ q4 (((8 : Int32) * a1) + x3).toNatClampNeg) r7))) else none)) else none))
set_option maxRecDepth 100000 in
set_option maxHeartbeats 4000000 in
theorem p_X10_isWordFrom_L22 {l : Launch} {E : MX} {out : Int32} {σ : MSt} {a0 : Nat} {a1 : Int32}  : ∀ (n : Nat) (x2 : Int32) (x3 : Int32), f_X10_isWordFrom_L22 σ a0 a1 n x2 x3 = some out → MV l E cX10_isWordFrom RX10 4 (some .boolean) 2 (82, (some (.int out)), σ) σ 22 [(0, .ref a0), (1, .int a1), (2, .int x2), (3, .int x3)] [] := by
  intro n
  induction n with
  | zero =>
    intro x2 x3 h
    exact nomatch h
  | succ n ih =>
    intro x2 x3 h
    rw [f_X10_isWordFrom_L22] at h
    refine mw_iload_n dX10_isWordFrom_22 3 rfl ?_
    refine mw_bipush (v := 8) dX10_isWordFrom_23 (by decide) ?_
    refine mw_icmp_ge (tgt := 86) dX10_isWordFrom_25 (by decide) (fun hc => ?_) (fun hc => ?_)
    · have h := mit hc h
      refine mw_iload_n dX10_isWordFrom_86 2 rfl ?_
      obtain ⟨m1, h⟩ := mif h
      exact mw_zret dX10_isWordFrom_87 rfl m1 (mrs_i h) rfl rfl
    · have h := mie hc h
      refine mw_iload_n dX10_isWordFrom_28 2 rfl ?_
      refine mw_if_eq (tgt := 86) dX10_isWordFrom_29 (by decide) (fun hc => ?_) (fun hc => ?_)
      · have h := mit hc h
        refine mw_iload_n dX10_isWordFrom_86 2 rfl ?_
        obtain ⟨m2, h⟩ := mif h
        exact mw_zret dX10_isWordFrom_87 rfl m2 (mrs_i h) rfl rfl
      · have h := mie hc h
        refine mw_aload_n dX10_isWordFrom_32 0 rfl ?_
        obtain ⟨m3, h⟩ := mif h
        obtain ⟨q4, e5, h⟩ := mbd h
        refine mv_getR fd_RX10_47_9 dX10_isWordFrom_33 m3 rfl e5 ?_
        refine mw_bipush (v := 8) dX10_isWordFrom_36 (by decide) ?_
        refine mw_iload_n dX10_isWordFrom_38 1 rfl ?_
        refine mw_imul dX10_isWordFrom_39 ?_
        refine mw_iload_n dX10_isWordFrom_40 3 rfl ?_
        refine mw_iadd dX10_isWordFrom_41 ?_
        obtain ⟨m6, h⟩ := mif h
        refine mv_cald dX10_isWordFrom_42 m6 ?_
        refine mw_aload_n dX10_isWordFrom_43 0 rfl ?_
        refine mv_getI fd_RX10_280_9 dX10_isWordFrom_44 m3 rfl ?_
        refine mw_iload_n dX10_isWordFrom_47 3 rfl ?_
        refine mw_iadd dX10_isWordFrom_48 ?_
        refine mw_aload_n dX10_isWordFrom_49 0 rfl ?_
        refine mv_getI fd_RX10_277_9 dX10_isWordFrom_50 m3 rfl ?_
        refine mw_icmp_ge (tgt := 69) dX10_isWordFrom_53 (by decide) (fun hc => ?_) (fun hc => ?_)
        · have h := mit hc h
          refine mw_bipush (v := 32) dX10_isWordFrom_69 (by decide) ?_
          exact mw_sub (L' := [(0, .ref a0), (1, .int a1), (3, .int x3)]) [0, 1, 3] rfl (p_X10_isWordFrom_J71 ih h)
        · have h := mie hc h
          refine mw_aload_n dX10_isWordFrom_56 0 rfl ?_
          refine mw_aload_n dX10_isWordFrom_57 0 rfl ?_
          refine mv_getI fd_RX10_280_9 dX10_isWordFrom_58 m3 rfl ?_
          refine mw_iload_n dX10_isWordFrom_61 3 rfl ?_
          refine mw_iadd dX10_isWordFrom_62 ?_
          obtain ⟨r7, e8, h⟩ := mbd h
          refine mv_callV_i (As := [.int ((mmI σ a0 27) + x3)]) lkV_RX10_283_yX10_byteAt dX10_isWordFrom_63 (k_X10_byteAt e8) rfl m3 rfl rfl (Nat.le_of_ble_eq_true rfl) (by decide) (by decide) ?_
          refine mw_goto (tgt := 71) dX10_isWordFrom_66 (by decide) ?_
          exact mw_sub (L' := [(0, .ref a0), (1, .int a1), (3, .int x3)]) [0, 1, 3] rfl (p_X10_isWordFrom_J71 ih h)
def f_X10_isWordFrom (σ : MSt) (a0 : Nat) (a1 : Int32) : Option Int32 := if mob 9 a0 = true then (if (8 : Int32) < ((mmI σ a0 26) - (mmI σ a0 27)) then (f_X10_isWordFrom_L22 σ a0 a1 mN (0 : Int32) (0 : Int32)) else (f_X10_isWordFrom_L22 σ a0 a1 mN (1 : Int32) (0 : Int32))) else none
set_option maxRecDepth 100000 in
set_option maxHeartbeats 4000000 in
theorem k_X10_isWordFrom {l : Launch} {σ : MSt} {a0 : Nat} {a1 : Int32} {out : Int32} (h : f_X10_isWordFrom σ a0 a1 = some out) : MK l yX10_isWordFrom cX10_isWordFrom 4 (some .boolean) 2 [.ref a0, .int a1] σ (some (.int out)) σ := by
  unfold f_X10_isWordFrom at h
  refine mw_entry (own := RX10) (ini := false) (L := [(0, .ref a0), (1, .int a1)]) (by decide +kernel) rfl (fun h => nomatch h) rfl (Nat.le_of_ble_eq_true rfl) (Nat.le_of_ble_eq_true rfl) (fun E => ?_)
  refine mw_aload_n dX10_isWordFrom_0 0 rfl ?_
  obtain ⟨m1, h⟩ := mif h
  refine mv_getI fd_RX10_277_9 dX10_isWordFrom_1 m1 rfl ?_
  refine mw_aload_n dX10_isWordFrom_4 0 rfl ?_
  refine mv_getI fd_RX10_280_9 dX10_isWordFrom_5 m1 rfl ?_
  refine mw_isub dX10_isWordFrom_8 ?_
  refine mw_bipush (v := 8) dX10_isWordFrom_9 (by decide) ?_
  refine mw_icmp_gt (tgt := 18) dX10_isWordFrom_11 (by decide) (fun hc => ?_) (fun hc => ?_)
  · have h := mit hc h
    refine mw_iconst (v := 0) dX10_isWordFrom_18 (by decide) ?_
    refine mw_istore_n (L' := [(2, .int (0 : Int32)), (0, .ref a0), (1, .int a1)]) dX10_isWordFrom_19 rfl (by decide) rfl ?_
    refine mw_iconst (v := 0) dX10_isWordFrom_20 (by decide) ?_
    refine mw_istore_n (L' := [(3, .int (0 : Int32)), (2, .int (0 : Int32)), (0, .ref a0), (1, .int a1)]) dX10_isWordFrom_21 rfl (by decide) rfl ?_
    exact mw_sub (L' := [(0, .ref a0), (1, .int a1), (2, .int (0 : Int32)), (3, .int (0 : Int32))]) [2, 3, 1, 0] rfl (p_X10_isWordFrom_L22  mN _ _ h)
  · have h := mie hc h
    refine mw_iconst (v := 1) dX10_isWordFrom_14 (by decide) ?_
    refine mw_goto (tgt := 19) dX10_isWordFrom_15 (by decide) ?_
    refine mw_istore_n (L' := [(2, .int (1 : Int32)), (0, .ref a0), (1, .int a1)]) dX10_isWordFrom_19 rfl (by decide) rfl ?_
    refine mw_iconst (v := 0) dX10_isWordFrom_20 (by decide) ?_
    refine mw_istore_n (L' := [(3, .int (0 : Int32)), (2, .int (1 : Int32)), (0, .ref a0), (1, .int a1)]) dX10_isWordFrom_21 rfl (by decide) rfl ?_
    exact mw_sub (L' := [(0, .ref a0), (1, .int a1), (2, .int (1 : Int32)), (3, .int (0 : Int32))]) [2, 3, 1, 0] rfl (p_X10_isWordFrom_L22  mN _ _ h)

theorem dX10_next_0 : decode cX10_next 0 = .ok (.aload_n 0, 1) := by decide +kernel
theorem dX10_next_1 : decode cX10_next 1 = .ok (.aload_n 0, 1) := by decide +kernel
theorem dX10_next_2 : decode cX10_next 2 = .ok (.getfield 277, 3) := by decide +kernel
theorem dX10_next_5 : decode cX10_next 5 = .ok (.invokevirtual 283, 3) := by decide +kernel
theorem dX10_next_8 : decode cX10_next 8 = .ok (.bipush 32, 2) := by decide +kernel
theorem dX10_next_10 : decode cX10_next 10 = .ok (.if_icmp .ne 16, 3) := by decide +kernel
theorem dX10_next_13 : decode cX10_next 13 = .ok (.aload_n 0, 1) := by decide +kernel
theorem dX10_next_14 : decode cX10_next 14 = .ok (.dup, 1) := by decide +kernel
theorem dX10_next_15 : decode cX10_next 15 = .ok (.getfield 277, 3) := by decide +kernel
theorem dX10_next_18 : decode cX10_next 18 = .ok (.iconst 1, 1) := by decide +kernel
theorem dX10_next_19 : decode cX10_next 19 = .ok (.iadd, 1) := by decide +kernel
theorem dX10_next_20 : decode cX10_next 20 = .ok (.putfield 277, 3) := by decide +kernel
theorem dX10_next_23 : decode cX10_next 23 = .ok (.goto (-23), 3) := by decide +kernel
theorem dX10_next_26 : decode cX10_next 26 = .ok (.aload_n 0, 1) := by decide +kernel
theorem dX10_next_27 : decode cX10_next 27 = .ok (.aload_n 0, 1) := by decide +kernel
theorem dX10_next_28 : decode cX10_next 28 = .ok (.getfield 277, 3) := by decide +kernel
theorem dX10_next_31 : decode cX10_next 31 = .ok (.putfield 280, 3) := by decide +kernel
theorem dX10_next_34 : decode cX10_next 34 = .ok (.aload_n 0, 1) := by decide +kernel
theorem dX10_next_35 : decode cX10_next 35 = .ok (.aload_n 0, 1) := by decide +kernel
theorem dX10_next_36 : decode cX10_next 36 = .ok (.getfield 277, 3) := by decide +kernel
theorem dX10_next_39 : decode cX10_next 39 = .ok (.invokevirtual 283, 3) := by decide +kernel
theorem dX10_next_42 : decode cX10_next 42 = .ok (.istore_n 1, 1) := by decide +kernel
theorem dX10_next_43 : decode cX10_next 43 = .ok (.aload_n 0, 1) := by decide +kernel
theorem dX10_next_44 : decode cX10_next 44 = .ok (.iload_n 1, 1) := by decide +kernel
theorem dX10_next_45 : decode cX10_next 45 = .ok (.ifCond .ge 7, 3) := by decide +kernel
theorem dX10_next_48 : decode cX10_next 48 = .ok (.iconst (-1), 1) := by decide +kernel
theorem dX10_next_49 : decode cX10_next 49 = .ok (.goto 15, 3) := by decide +kernel
theorem dX10_next_52 : decode cX10_next 52 = .ok (.iload_n 1, 1) := by decide +kernel
theorem dX10_next_53 : decode cX10_next 53 = .ok (.bipush 59, 2) := by decide +kernel
theorem dX10_next_55 : decode cX10_next 55 = .ok (.if_icmp .ne 7, 3) := by decide +kernel
theorem dX10_next_58 : decode cX10_next 58 = .ok (.iconst 0, 1) := by decide +kernel
theorem dX10_next_59 : decode cX10_next 59 = .ok (.goto 5, 3) := by decide +kernel
theorem dX10_next_62 : decode cX10_next 62 = .ok (.bipush (-2), 2) := by decide +kernel
theorem dX10_next_64 : decode cX10_next 64 = .ok (.putfield 286, 3) := by decide +kernel
theorem dX10_next_67 : decode cX10_next 67 = .ok (.iload_n 1, 1) := by decide +kernel
theorem dX10_next_68 : decode cX10_next 68 = .ok (.i2l, 1) := by decide +kernel
theorem dX10_next_69 : decode cX10_next 69 = .ok (.ldc2_w 289, 3) := by decide +kernel
theorem dX10_next_72 : decode cX10_next 72 = .ok (.ldc2_w 291, 3) := by decide +kernel
theorem dX10_next_75 : decode cX10_next 75 = .ok (.invokestatic 57, 3) := by decide +kernel
theorem dX10_next_78 : decode cX10_next 78 = .ok (.ifCond .eq 77, 3) := by decide +kernel
theorem dX10_next_81 : decode cX10_next 81 = .ok (.aload_n 0, 1) := by decide +kernel
theorem dX10_next_82 : decode cX10_next 82 = .ok (.aload_n 0, 1) := by decide +kernel
theorem dX10_next_83 : decode cX10_next 83 = .ok (.getfield 277, 3) := by decide +kernel
theorem dX10_next_86 : decode cX10_next 86 = .ok (.invokevirtual 283, 3) := by decide +kernel
theorem dX10_next_89 : decode cX10_next 89 = .ok (.i2l, 1) := by decide +kernel
theorem dX10_next_90 : decode cX10_next 90 = .ok (.ldc2_w 289, 3) := by decide +kernel
theorem dX10_next_93 : decode cX10_next 93 = .ok (.ldc2_w 291, 3) := by decide +kernel
theorem dX10_next_96 : decode cX10_next 96 = .ok (.invokestatic 57, 3) := by decide +kernel
theorem dX10_next_99 : decode cX10_next 99 = .ok (.ifCond .eq 16, 3) := by decide +kernel
theorem dX10_next_102 : decode cX10_next 102 = .ok (.aload_n 0, 1) := by decide +kernel
theorem dX10_next_103 : decode cX10_next 103 = .ok (.dup, 1) := by decide +kernel
theorem dX10_next_104 : decode cX10_next 104 = .ok (.getfield 277, 3) := by decide +kernel
theorem dX10_next_107 : decode cX10_next 107 = .ok (.iconst 1, 1) := by decide +kernel
theorem dX10_next_108 : decode cX10_next 108 = .ok (.iadd, 1) := by decide +kernel
theorem dX10_next_109 : decode cX10_next 109 = .ok (.putfield 277, 3) := by decide +kernel
theorem dX10_next_112 : decode cX10_next 112 = .ok (.goto (-31), 3) := by decide +kernel
theorem dX10_next_115 : decode cX10_next 115 = .ok (.iconst 0, 1) := by decide +kernel
theorem dX10_next_116 : decode cX10_next 116 = .ok (.istore_n 2, 1) := by decide +kernel
theorem dX10_next_117 : decode cX10_next 117 = .ok (.iload_n 2, 1) := by decide +kernel
theorem dX10_next_118 : decode cX10_next 118 = .ok (.bipush 13, 2) := by decide +kernel
theorem dX10_next_120 : decode cX10_next 120 = .ok (.if_icmp .ge 32, 3) := by decide +kernel
theorem dX10_next_123 : decode cX10_next 123 = .ok (.aload_n 0, 1) := by decide +kernel
theorem dX10_next_124 : decode cX10_next 124 = .ok (.aload_n 0, 1) := by decide +kernel
theorem dX10_next_125 : decode cX10_next 125 = .ok (.iload_n 2, 1) := by decide +kernel
theorem dX10_next_126 : decode cX10_next 126 = .ok (.invokevirtual 293, 3) := by decide +kernel
theorem dX10_next_129 : decode cX10_next 129 = .ok (.ifCond .eq 10, 3) := by decide +kernel
theorem dX10_next_132 : decode cX10_next 132 = .ok (.bipush 10, 2) := by decide +kernel
theorem dX10_next_134 : decode cX10_next 134 = .ok (.iload_n 2, 1) := by decide +kernel
theorem dX10_next_135 : decode cX10_next 135 = .ok (.iadd, 1) := by decide +kernel
theorem dX10_next_136 : decode cX10_next 136 = .ok (.goto 7, 3) := by decide +kernel
theorem dX10_next_139 : decode cX10_next 139 = .ok (.aload_n 0, 1) := by decide +kernel
theorem dX10_next_140 : decode cX10_next 140 = .ok (.getfield 286, 3) := by decide +kernel
theorem dX10_next_143 : decode cX10_next 143 = .ok (.putfield 286, 3) := by decide +kernel
theorem dX10_next_146 : decode cX10_next 146 = .ok (.iinc 2 1, 3) := by decide +kernel
theorem dX10_next_149 : decode cX10_next 149 = .ok (.goto (-32), 3) := by decide +kernel
theorem dX10_next_152 : decode cX10_next 152 = .ok (.goto 133, 3) := by decide +kernel
theorem dX10_next_155 : decode cX10_next 155 = .ok (.iload_n 1, 1) := by decide +kernel
theorem dX10_next_156 : decode cX10_next 156 = .ok (.i2l, 1) := by decide +kernel
theorem dX10_next_157 : decode cX10_next 157 = .ok (.ldc2_w 296, 3) := by decide +kernel
theorem dX10_next_160 : decode cX10_next 160 = .ok (.ldc2_w 298, 3) := by decide +kernel
theorem dX10_next_163 : decode cX10_next 163 = .ok (.invokestatic 57, 3) := by decide +kernel
theorem dX10_next_166 : decode cX10_next 166 = .ok (.ifCond .eq 105, 3) := by decide +kernel
theorem dX10_next_169 : decode cX10_next 169 = .ok (.aload_n 0, 1) := by decide +kernel
theorem dX10_next_170 : decode cX10_next 170 = .ok (.iconst 0, 1) := by decide +kernel
theorem dX10_next_171 : decode cX10_next 171 = .ok (.putfield 300, 3) := by decide +kernel
theorem dX10_next_174 : decode cX10_next 174 = .ok (.aload_n 0, 1) := by decide +kernel
theorem dX10_next_175 : decode cX10_next 175 = .ok (.aload_n 0, 1) := by decide +kernel
theorem dX10_next_176 : decode cX10_next 176 = .ok (.getfield 277, 3) := by decide +kernel
theorem dX10_next_179 : decode cX10_next 179 = .ok (.invokevirtual 283, 3) := by decide +kernel
theorem dX10_next_182 : decode cX10_next 182 = .ok (.i2l, 1) := by decide +kernel
theorem dX10_next_183 : decode cX10_next 183 = .ok (.ldc2_w 296, 3) := by decide +kernel
theorem dX10_next_186 : decode cX10_next 186 = .ok (.ldc2_w 298, 3) := by decide +kernel
theorem dX10_next_189 : decode cX10_next 189 = .ok (.invokestatic 57, 3) := by decide +kernel
theorem dX10_next_192 : decode cX10_next 192 = .ok (.ifCond .eq 56, 3) := by decide +kernel
theorem dX10_next_195 : decode cX10_next 195 = .ok (.aload_n 0, 1) := by decide +kernel
theorem dX10_next_196 : decode cX10_next 196 = .ok (.aload_n 0, 1) := by decide +kernel
theorem dX10_next_197 : decode cX10_next 197 = .ok (.getfield 300, 3) := by decide +kernel
theorem dX10_next_200 : decode cX10_next 200 = .ok (.ldc_w 303, 3) := by decide +kernel
theorem dX10_next_203 : decode cX10_next 203 = .ok (.if_icmp .le 10, 3) := by decide +kernel
theorem dX10_next_206 : decode cX10_next 206 = .ok (.aload_n 0, 1) := by decide +kernel
theorem dX10_next_207 : decode cX10_next 207 = .ok (.getfield 300, 3) := by decide +kernel
theorem dX10_next_210 : decode cX10_next 210 = .ok (.goto 22, 3) := by decide +kernel
theorem dX10_next_213 : decode cX10_next 213 = .ok (.bipush 10, 2) := by decide +kernel
theorem dX10_next_215 : decode cX10_next 215 = .ok (.aload_n 0, 1) := by decide +kernel
theorem dX10_next_216 : decode cX10_next 216 = .ok (.getfield 300, 3) := by decide +kernel
theorem dX10_next_219 : decode cX10_next 219 = .ok (.imul, 1) := by decide +kernel
theorem dX10_next_220 : decode cX10_next 220 = .ok (.aload_n 0, 1) := by decide +kernel
theorem dX10_next_221 : decode cX10_next 221 = .ok (.aload_n 0, 1) := by decide +kernel
theorem dX10_next_222 : decode cX10_next 222 = .ok (.getfield 277, 3) := by decide +kernel
theorem dX10_next_225 : decode cX10_next 225 = .ok (.invokevirtual 283, 3) := by decide +kernel
theorem dX10_next_228 : decode cX10_next 228 = .ok (.iadd, 1) := by decide +kernel
theorem dX10_next_229 : decode cX10_next 229 = .ok (.bipush 48, 2) := by decide +kernel
theorem dX10_next_231 : decode cX10_next 231 = .ok (.isub, 1) := by decide +kernel
theorem dX10_next_232 : decode cX10_next 232 = .ok (.putfield 300, 3) := by decide +kernel
theorem dX10_next_235 : decode cX10_next 235 = .ok (.aload_n 0, 1) := by decide +kernel
theorem dX10_next_236 : decode cX10_next 236 = .ok (.dup, 1) := by decide +kernel
theorem dX10_next_237 : decode cX10_next 237 = .ok (.getfield 277, 3) := by decide +kernel
theorem dX10_next_240 : decode cX10_next 240 = .ok (.iconst 1, 1) := by decide +kernel
theorem dX10_next_241 : decode cX10_next 241 = .ok (.iadd, 1) := by decide +kernel
theorem dX10_next_242 : decode cX10_next 242 = .ok (.putfield 277, 3) := by decide +kernel
theorem dX10_next_245 : decode cX10_next 245 = .ok (.goto (-71), 3) := by decide +kernel
theorem dX10_next_248 : decode cX10_next 248 = .ok (.aload_n 0, 1) := by decide +kernel
theorem dX10_next_249 : decode cX10_next 249 = .ok (.aload_n 0, 1) := by decide +kernel
theorem dX10_next_250 : decode cX10_next 250 = .ok (.getfield 300, 3) := by decide +kernel
theorem dX10_next_253 : decode cX10_next 253 = .ok (.ldc_w 303, 3) := by decide +kernel
theorem dX10_next_256 : decode cX10_next 256 = .ok (.if_icmp .le 8, 3) := by decide +kernel
theorem dX10_next_259 : decode cX10_next 259 = .ok (.bipush (-2), 2) := by decide +kernel
theorem dX10_next_261 : decode cX10_next 261 = .ok (.goto 4, 3) := by decide +kernel
theorem dX10_next_264 : decode cX10_next 264 = .ok (.iconst 1, 1) := by decide +kernel
theorem dX10_next_265 : decode cX10_next 265 = .ok (.putfield 286, 3) := by decide +kernel
theorem dX10_next_268 : decode cX10_next 268 = .ok (.goto 17, 3) := by decide +kernel
theorem dX10_next_271 : decode cX10_next 271 = .ok (.iload_n 1, 1) := by decide +kernel
theorem dX10_next_272 : decode cX10_next 272 = .ok (.ifCond .lt 13, 3) := by decide +kernel
theorem dX10_next_275 : decode cX10_next 275 = .ok (.aload_n 0, 1) := by decide +kernel
theorem dX10_next_276 : decode cX10_next 276 = .ok (.dup, 1) := by decide +kernel
theorem dX10_next_277 : decode cX10_next 277 = .ok (.getfield 277, 3) := by decide +kernel
theorem dX10_next_280 : decode cX10_next 280 = .ok (.iconst 1, 1) := by decide +kernel
theorem dX10_next_281 : decode cX10_next 281 = .ok (.iadd, 1) := by decide +kernel
theorem dX10_next_282 : decode cX10_next 282 = .ok (.putfield 277, 3) := by decide +kernel
theorem dX10_next_285 : decode cX10_next 285 = .ok (.return_, 1) := by decide +kernel
def f_X10_next_L117 (a0 : Nat) : Nat → Int32 → MSt → Option MSt
  | 0, _, _ => none
  | n + 1, x2, σ => if (13 : Int32) ≤ x2 then (some σ) else ((f_X10_isWordFrom σ a0 x2).bind (fun r1 => if mob 9 a0 = true then (if r1 = 0 then (f_X10_next_L117 a0 n (x2 + 1) (muI σ a0 28 (mmI σ a0 28))) else (f_X10_next_L117 a0 n (x2 + 1) (muI σ a0 28 ((10 : Int32) + x2)))) else none))
set_option maxRecDepth 100000 in
set_option maxHeartbeats 4000000 in
theorem p_X10_next_L117 {l : Launch} {E : MX} {out : MSt} {a0 : Nat}  : ∀ (n : Nat) (x2 : Int32) (σ : MSt), f_X10_next_L117 a0 n x2 σ = some out → MV l E cX10_next RX10 3 none 3 (82, none, out) σ 117 [(0, .ref a0), (2, .int x2)] [] := by
  intro n
  induction n with
  | zero =>
    intro x2 σ h
    exact nomatch h
  | succ n ih =>
    intro x2 σ h
    rw [f_X10_next_L117] at h
    refine mw_iload_n dX10_next_117 1 rfl ?_
    refine mw_bipush (v := 13) dX10_next_118 (by decide) ?_
    refine mw_icmp_ge (tgt := 152) dX10_next_120 (by decide) (fun hc => ?_) (fun hc => ?_)
    · have h := mit hc h
      refine mw_goto (tgt := 285) dX10_next_152 (by decide) ?_
      exact mw_vret dX10_next_285 rfl (mrs_vm h) rfl rfl
    · have h := mie hc h
      refine mw_aload_n dX10_next_123 0 rfl ?_
      refine mw_aload_n dX10_next_124 0 rfl ?_
      refine mw_iload_n dX10_next_125 1 rfl ?_
      obtain ⟨r1, e2, h⟩ := mbd h
      obtain ⟨m3, h⟩ := mif h
      refine mv_callV_i (As := [.int x2]) lkV_RX10_293_yX10_isWordFrom dX10_next_126 (k_X10_isWordFrom e2) rfl m3 rfl rfl (Nat.le_of_ble_eq_true rfl) (by decide) (by decide) ?_
      refine mw_if_eq (tgt := 139) dX10_next_129 (by decide) (fun hc => ?_) (fun hc => ?_)
      · have h := mit hc h
        refine mw_aload_n dX10_next_139 0 rfl ?_
        refine mv_getI fd_RX10_286_9 dX10_next_140 m3 rfl ?_
        refine mv_putI fw_RX10_286_9 dX10_next_143 m3 rfl ?_
        refine mw_iinc (v := (x2 + 1)) (L' := [(2, .int (x2 + 1)), (0, .ref a0)]) dX10_next_146 1 rfl rfl (by decide) rfl ?_
        refine mw_goto (tgt := 117) dX10_next_149 (by decide) ?_
        exact mw_sub (L' := [(0, .ref a0), (2, .int (x2 + 1))]) [1, 0] rfl (ih _ _ h)
      · have h := mie hc h
        refine mw_bipush (v := 10) dX10_next_132 (by decide) ?_
        refine mw_iload_n dX10_next_134 1 rfl ?_
        refine mw_iadd dX10_next_135 ?_
        refine mw_goto (tgt := 143) dX10_next_136 (by decide) ?_
        refine mv_putI fw_RX10_286_9 dX10_next_143 m3 rfl ?_
        refine mw_iinc (v := (x2 + 1)) (L' := [(2, .int (x2 + 1)), (0, .ref a0)]) dX10_next_146 1 rfl rfl (by decide) rfl ?_
        refine mw_goto (tgt := 117) dX10_next_149 (by decide) ?_
        exact mw_sub (L' := [(0, .ref a0), (2, .int (x2 + 1))]) [1, 0] rfl (ih _ _ h)
def f_X10_next_L81 (a0 : Nat) : Nat → MSt → Option MSt
  | 0, _ => none
  | n + 1, σ => if mob 9 a0 = true then ((f_X10_byteAt σ a0 (mmI σ a0 26)).bind (fun r2 => (f_X10_in r2.toInt64 (97 : Int64) (122 : Int64)).bind (fun r4 => if r4 = 0 then (f_X10_next_L117 a0 mN (0 : Int32) σ) else (f_X10_next_L81 a0 n (muI σ a0 26 ((mmI σ a0 26) + (1 : Int32))))))) else none
set_option maxRecDepth 100000 in
set_option maxHeartbeats 4000000 in
theorem p_X10_next_L81 {l : Launch} {E : MX} {out : MSt} {a0 : Nat}  : ∀ (n : Nat) (σ : MSt), f_X10_next_L81 a0 n σ = some out → MV l E cX10_next RX10 3 none 3 (82, none, out) σ 81 [(0, .ref a0)] [] := by
  intro n
  induction n with
  | zero =>
    intro σ h
    exact nomatch h
  | succ n ih =>
    intro σ h
    rw [f_X10_next_L81] at h
    refine mw_aload_n dX10_next_81 0 rfl ?_
    refine mw_aload_n dX10_next_82 0 rfl ?_
    obtain ⟨m1, h⟩ := mif h
    refine mv_getI fd_RX10_277_9 dX10_next_83 m1 rfl ?_
    obtain ⟨r2, e3, h⟩ := mbd h
    refine mv_callV_i (As := [.int (mmI σ a0 26)]) lkV_RX10_283_yX10_byteAt dX10_next_86 (k_X10_byteAt e3) rfl m1 rfl rfl (Nat.le_of_ble_eq_true rfl) (by decide) (by decide) ?_
    refine mw_i2l dX10_next_89 ?_
    refine mw_ldc2 dX10_next_90 wt_793 ?_
    refine mw_ldc2 dX10_next_93 wt_794 ?_
    obtain ⟨r4, e5, h⟩ := mbd h
    refine mv_callS_i (As := [.long r2.toInt64, .long (97 : Int64), .long (122 : Int64)]) lkS_RX10_57_yX10_in dX10_next_96 (k_X10_in e5) rfl rfl (Nat.le_of_ble_eq_true rfl) (by decide) (by decide) ?_
    refine mw_if_eq (tgt := 115) dX10_next_99 (by decide) (fun hc => ?_) (fun hc => ?_)
    · have h := mit hc h
      refine mw_iconst (v := 0) dX10_next_115 (by decide) ?_
      refine mw_istore_n (L' := [(2, .int (0 : Int32)), (0, .ref a0)]) dX10_next_116 rfl (by decide) rfl ?_
      exact mw_sub (L' := [(0, .ref a0), (2, .int (0 : Int32))]) [1, 0] rfl (p_X10_next_L117  mN _ _ h)
    · have h := mie hc h
      refine mw_aload_n dX10_next_102 0 rfl ?_
      refine mw_dup dX10_next_103 rfl ?_
      refine mv_getI fd_RX10_277_9 dX10_next_104 m1 rfl ?_
      refine mw_iconst (v := 1) dX10_next_107 (by decide) ?_
      refine mw_iadd dX10_next_108 ?_
      refine mv_putI fw_RX10_277_9 dX10_next_109 m1 rfl ?_
      refine mw_goto (tgt := 81) dX10_next_112 (by decide) ?_
      exact mw_sub (L' := [(0, .ref a0)]) [0] rfl (ih _ h)
def f_X10_next_J232 (a0 : Nat) (k174 : MSt → Option MSt) (s0 : Nat) (s1 : Int32) (σ : MSt) : Option MSt := if mob 9 s0 = true then (if mob 9 a0 = true then (k174 (muI (muI σ s0 29 s1) a0 26 ((mmI (muI σ s0 29 s1) a0 26) + (1 : Int32)))) else none) else none
set_option maxRecDepth 100000 in
set_option maxHeartbeats 4000000 in
theorem p_X10_next_J232 {l : Launch} {E : MX} {out : MSt} {a0 : Nat} {k174 : MSt → Option MSt} (hk174 : ∀  (τ : MSt), k174 τ = some out → MV l E cX10_next RX10 3 none 3 (82, none, out) τ 174 [(0, .ref a0)] []) {s0 : Nat} {s1 : Int32} {σ : MSt} (h : f_X10_next_J232 a0 k174 s0 s1 σ = some out) : MV l E cX10_next RX10 3 none 3 (82, none, out) σ 232 [(0, .ref a0)] [.int s1, .ref s0] := by
  unfold f_X10_next_J232 at h
  obtain ⟨m1, h⟩ := mif h
  refine mv_putI fw_RX10_300_9 dX10_next_232 m1 rfl ?_
  refine mw_aload_n dX10_next_235 0 rfl ?_
  refine mw_dup dX10_next_236 rfl ?_
  obtain ⟨m2, h⟩ := mif h
  refine mv_getI fd_RX10_277_9 dX10_next_237 m2 rfl ?_
  refine mw_iconst (v := 1) dX10_next_240 (by decide) ?_
  refine mw_iadd dX10_next_241 ?_
  refine mv_putI fw_RX10_277_9 dX10_next_242 m2 rfl ?_
  refine mw_goto (tgt := 174) dX10_next_245 (by decide) ?_
  exact mw_sub (L' := [(0, .ref a0)]) [0] rfl (hk174 _ h)
def f_X10_next_L174 (a0 : Nat) : Nat → MSt → Option MSt
  | 0, _ => none
  | n + 1, σ => if mob 9 a0 = true then ((f_X10_byteAt σ a0 (mmI σ a0 26)).bind (fun r2 => (f_X10_in r2.toInt64 (48 : Int64) (57 : Int64)).bind (fun r4 => if r4 = 0 then (if (mmI σ a0 29) ≤ (999999 : Int32) then (some (muI σ a0 28 (1 : Int32))) else (some (muI σ a0 28 (-2 : Int32)))) else (if (mmI σ a0 29) ≤ (999999 : Int32) then ((f_X10_byteAt σ a0 (mmI σ a0 26)).bind (fun r6 => f_X10_next_J232 a0 (f_X10_next_L174 a0 n) a0 ((((10 : Int32) * (mmI σ a0 29)) + r6) - (48 : Int32)) σ)) else (f_X10_next_J232 a0 (f_X10_next_L174 a0 n) a0 (mmI σ a0 29) σ))))) else none
set_option maxRecDepth 100000 in
set_option maxHeartbeats 4000000 in
theorem p_X10_next_L174 {l : Launch} {E : MX} {out : MSt} {a0 : Nat}  : ∀ (n : Nat) (σ : MSt), f_X10_next_L174 a0 n σ = some out → MV l E cX10_next RX10 3 none 3 (82, none, out) σ 174 [(0, .ref a0)] [] := by
  intro n
  induction n with
  | zero =>
    intro σ h
    exact nomatch h
  | succ n ih =>
    intro σ h
    rw [f_X10_next_L174] at h
    refine mw_aload_n dX10_next_174 0 rfl ?_
    refine mw_aload_n dX10_next_175 0 rfl ?_
    obtain ⟨m1, h⟩ := mif h
    refine mv_getI fd_RX10_277_9 dX10_next_176 m1 rfl ?_
    obtain ⟨r2, e3, h⟩ := mbd h
    refine mv_callV_i (As := [.int (mmI σ a0 26)]) lkV_RX10_283_yX10_byteAt dX10_next_179 (k_X10_byteAt e3) rfl m1 rfl rfl (Nat.le_of_ble_eq_true rfl) (by decide) (by decide) ?_
    refine mw_i2l dX10_next_182 ?_
    refine mw_ldc2 dX10_next_183 wt_796 ?_
    refine mw_ldc2 dX10_next_186 wt_797 ?_
    obtain ⟨r4, e5, h⟩ := mbd h
    refine mv_callS_i (As := [.long r2.toInt64, .long (48 : Int64), .long (57 : Int64)]) lkS_RX10_57_yX10_in dX10_next_189 (k_X10_in e5) rfl rfl (Nat.le_of_ble_eq_true rfl) (by decide) (by decide) ?_
    refine mw_if_eq (tgt := 248) dX10_next_192 (by decide) (fun hc => ?_) (fun hc => ?_)
    · have h := mit hc h
      refine mw_aload_n dX10_next_248 0 rfl ?_
      refine mw_aload_n dX10_next_249 0 rfl ?_
      refine mv_getI fd_RX10_300_9 dX10_next_250 m1 rfl ?_
      refine mw_ldcw dX10_next_253 wt_798 ?_
      refine mw_icmp_le (tgt := 264) dX10_next_256 (by decide) (fun hc => ?_) (fun hc => ?_)
      · have h := mit hc h
        refine mw_iconst (v := 1) dX10_next_264 (by decide) ?_
        refine mv_putI fw_RX10_286_9 dX10_next_265 m1 rfl ?_
        refine mw_goto (tgt := 285) dX10_next_268 (by decide) ?_
        exact mw_vret dX10_next_285 rfl (mrs_vm h) rfl rfl
      · have h := mie hc h
        refine mw_bipush (v := -2) dX10_next_259 (by decide) ?_
        refine mw_goto (tgt := 265) dX10_next_261 (by decide) ?_
        refine mv_putI fw_RX10_286_9 dX10_next_265 m1 rfl ?_
        refine mw_goto (tgt := 285) dX10_next_268 (by decide) ?_
        exact mw_vret dX10_next_285 rfl (mrs_vm h) rfl rfl
    · have h := mie hc h
      refine mw_aload_n dX10_next_195 0 rfl ?_
      refine mw_aload_n dX10_next_196 0 rfl ?_
      refine mv_getI fd_RX10_300_9 dX10_next_197 m1 rfl ?_
      refine mw_ldcw dX10_next_200 wt_798 ?_
      refine mw_icmp_le (tgt := 213) dX10_next_203 (by decide) (fun hc => ?_) (fun hc => ?_)
      · have h := mit hc h
        refine mw_bipush (v := 10) dX10_next_213 (by decide) ?_
        refine mw_aload_n dX10_next_215 0 rfl ?_
        refine mv_getI fd_RX10_300_9 dX10_next_216 m1 rfl ?_
        refine mw_imul dX10_next_219 ?_
        refine mw_aload_n dX10_next_220 0 rfl ?_
        refine mw_aload_n dX10_next_221 0 rfl ?_
        refine mv_getI fd_RX10_277_9 dX10_next_222 m1 rfl ?_
        obtain ⟨r6, e7, h⟩ := mbd h
        refine mv_callV_i (As := [.int (mmI σ a0 26)]) lkV_RX10_283_yX10_byteAt dX10_next_225 (k_X10_byteAt e7) rfl m1 rfl rfl (Nat.le_of_ble_eq_true rfl) (by decide) (by decide) ?_
        refine mw_iadd dX10_next_228 ?_
        refine mw_bipush (v := 48) dX10_next_229 (by decide) ?_
        refine mw_isub dX10_next_231 ?_
        exact mw_sub (L' := [(0, .ref a0)]) [0] rfl (p_X10_next_J232 ih h)
      · have h := mie hc h
        refine mw_aload_n dX10_next_206 0 rfl ?_
        refine mv_getI fd_RX10_300_9 dX10_next_207 m1 rfl ?_
        refine mw_goto (tgt := 232) dX10_next_210 (by decide) ?_
        exact mw_sub (L' := [(0, .ref a0)]) [0] rfl (p_X10_next_J232 ih h)
def f_X10_next_J64 (a0 : Nat) (x1 : Int32) (s0 : Nat) (s1 : Int32) (σ : MSt) : Option MSt := if mob 9 s0 = true then ((f_X10_in x1.toInt64 (97 : Int64) (122 : Int64)).bind (fun r2 => if r2 = 0 then ((f_X10_in x1.toInt64 (48 : Int64) (57 : Int64)).bind (fun r4 => if r4 = 0 then (if x1 < 0 then (some (muI σ s0 28 s1)) else (if mob 9 a0 = true then (some (muI (muI σ s0 28 s1) a0 26 ((mmI (muI σ s0 28 s1) a0 26) + (1 : Int32)))) else none)) else (if mob 9 a0 = true then (f_X10_next_L174 a0 mN (muI (muI σ s0 28 s1) a0 29 (0 : Int32))) else none))) else (f_X10_next_L81 a0 mN (muI σ s0 28 s1)))) else none
set_option maxRecDepth 100000 in
set_option maxHeartbeats 4000000 in
theorem p_X10_next_J64 {l : Launch} {E : MX} {out : MSt} {a0 : Nat}  {x1 : Int32} {s0 : Nat} {s1 : Int32} {σ : MSt} (h : f_X10_next_J64 a0 x1 s0 s1 σ = some out) : MV l E cX10_next RX10 3 none 3 (82, none, out) σ 64 [(0, .ref a0), (1, .int x1)] [.int s1, .ref s0] := by
  unfold f_X10_next_J64 at h
  obtain ⟨m1, h⟩ := mif h
  refine mv_putI fw_RX10_286_9 dX10_next_64 m1 rfl ?_
  refine mw_iload_n dX10_next_67 1 rfl ?_
  refine mw_i2l dX10_next_68 ?_
  refine mw_ldc2 dX10_next_69 wt_793 ?_
  refine mw_ldc2 dX10_next_72 wt_794 ?_
  obtain ⟨r2, e3, h⟩ := mbd h
  refine mv_callS_i (As := [.long x1.toInt64, .long (97 : Int64), .long (122 : Int64)]) lkS_RX10_57_yX10_in dX10_next_75 (k_X10_in e3) rfl rfl (Nat.le_of_ble_eq_true rfl) (by decide) (by decide) ?_
  refine mw_if_eq (tgt := 155) dX10_next_78 (by decide) (fun hc => ?_) (fun hc => ?_)
  · have h := mit hc h
    refine mw_iload_n dX10_next_155 1 rfl ?_
    refine mw_i2l dX10_next_156 ?_
    refine mw_ldc2 dX10_next_157 wt_796 ?_
    refine mw_ldc2 dX10_next_160 wt_797 ?_
    obtain ⟨r4, e5, h⟩ := mbd h
    refine mv_callS_i (As := [.long x1.toInt64, .long (48 : Int64), .long (57 : Int64)]) lkS_RX10_57_yX10_in dX10_next_163 (k_X10_in e5) rfl rfl (Nat.le_of_ble_eq_true rfl) (by decide) (by decide) ?_
    refine mw_if_eq (tgt := 271) dX10_next_166 (by decide) (fun hc => ?_) (fun hc => ?_)
    · have h := mit hc h
      refine mw_iload_n dX10_next_271 1 rfl ?_
      refine mw_if_lt (tgt := 285) dX10_next_272 (by decide) (fun hc => ?_) (fun hc => ?_)
      · have h := mit hc h
        exact mw_vret dX10_next_285 rfl (mrs_vm h) rfl rfl
      · have h := mie hc h
        refine mw_aload_n dX10_next_275 0 rfl ?_
        refine mw_dup dX10_next_276 rfl ?_
        obtain ⟨m6, h⟩ := mif h
        refine mv_getI fd_RX10_277_9 dX10_next_277 m6 rfl ?_
        refine mw_iconst (v := 1) dX10_next_280 (by decide) ?_
        refine mw_iadd dX10_next_281 ?_
        refine mv_putI fw_RX10_277_9 dX10_next_282 m6 rfl ?_
        exact mw_vret dX10_next_285 rfl (mrs_vm h) rfl rfl
    · have h := mie hc h
      refine mw_aload_n dX10_next_169 0 rfl ?_
      refine mw_iconst (v := 0) dX10_next_170 (by decide) ?_
      obtain ⟨m7, h⟩ := mif h
      refine mv_putI fw_RX10_300_9 dX10_next_171 m7 rfl ?_
      exact mw_sub (L' := [(0, .ref a0)]) [0] rfl (p_X10_next_L174  mN _ h)
  · have h := mie hc h
    exact mw_sub (L' := [(0, .ref a0)]) [0] rfl (p_X10_next_L81  mN _ h)
def f_X10_next_L0 (a0 : Nat) : Nat → MSt → Option MSt
  | 0, _ => none
  | n + 1, σ => if mob 9 a0 = true then ((f_X10_byteAt σ a0 (mmI σ a0 26)).bind (fun r2 => if r2 = (32 : Int32) then (f_X10_next_L0 a0 n (muI σ a0 26 ((mmI σ a0 26) + (1 : Int32)))) else ((f_X10_byteAt (muI σ a0 27 (mmI σ a0 26)) a0 (mmI (muI σ a0 27 (mmI σ a0 26)) a0 26)).bind (fun r4 => if 0 ≤ r4 then (if r4 = (59 : Int32) then (f_X10_next_J64 a0 r4 a0 (0 : Int32) (muI σ a0 27 (mmI σ a0 26))) else (f_X10_next_J64 a0 r4 a0 (-2 : Int32) (muI σ a0 27 (mmI σ a0 26)))) else (f_X10_next_J64 a0 r4 a0 (-1 : Int32) (muI σ a0 27 (mmI σ a0 26))))))) else none
set_option maxRecDepth 100000 in
set_option maxHeartbeats 4000000 in
theorem p_X10_next_L0 {l : Launch} {E : MX} {out : MSt} {a0 : Nat}  : ∀ (n : Nat) (σ : MSt), f_X10_next_L0 a0 n σ = some out → MV l E cX10_next RX10 3 none 3 (82, none, out) σ 0 [(0, .ref a0)] [] := by
  intro n
  induction n with
  | zero =>
    intro σ h
    exact nomatch h
  | succ n ih =>
    intro σ h
    rw [f_X10_next_L0] at h
    refine mw_aload_n dX10_next_0 0 rfl ?_
    refine mw_aload_n dX10_next_1 0 rfl ?_
    obtain ⟨m1, h⟩ := mif h
    refine mv_getI fd_RX10_277_9 dX10_next_2 m1 rfl ?_
    obtain ⟨r2, e3, h⟩ := mbd h
    refine mv_callV_i (As := [.int (mmI σ a0 26)]) lkV_RX10_283_yX10_byteAt dX10_next_5 (k_X10_byteAt e3) rfl m1 rfl rfl (Nat.le_of_ble_eq_true rfl) (by decide) (by decide) ?_
    refine mw_bipush (v := 32) dX10_next_8 (by decide) ?_
    refine mw_icmp_ne (tgt := 26) dX10_next_10 (by decide) (fun hc => ?_) (fun hc => ?_)
    · have h := mie hc h
      refine mw_aload_n dX10_next_26 0 rfl ?_
      refine mw_aload_n dX10_next_27 0 rfl ?_
      refine mv_getI fd_RX10_277_9 dX10_next_28 m1 rfl ?_
      refine mv_putI fw_RX10_280_9 dX10_next_31 m1 rfl ?_
      refine mw_aload_n dX10_next_34 0 rfl ?_
      refine mw_aload_n dX10_next_35 0 rfl ?_
      refine mv_getI fd_RX10_277_9 dX10_next_36 m1 rfl ?_
      obtain ⟨r4, e5, h⟩ := mbd h
      refine mv_callV_i (As := [.int (mmI (muI σ a0 27 (mmI σ a0 26)) a0 26)]) lkV_RX10_283_yX10_byteAt dX10_next_39 (k_X10_byteAt e5) rfl m1 rfl rfl (Nat.le_of_ble_eq_true rfl) (by decide) (by decide) ?_
      refine mw_istore_n (L' := [(1, .int r4), (0, .ref a0)]) dX10_next_42 rfl (by decide) rfl ?_
      refine mw_aload_n dX10_next_43 1 rfl ?_
      refine mw_iload_n dX10_next_44 0 rfl ?_
      refine mw_if_ge (tgt := 52) dX10_next_45 (by decide) (fun hc => ?_) (fun hc => ?_)
      · have h := mit hc h
        refine mw_iload_n dX10_next_52 0 rfl ?_
        refine mw_bipush (v := 59) dX10_next_53 (by decide) ?_
        refine mw_icmp_ne (tgt := 62) dX10_next_55 (by decide) (fun hc => ?_) (fun hc => ?_)
        · have h := mie hc h
          refine mw_bipush (v := -2) dX10_next_62 (by decide) ?_
          exact mw_sub (L' := [(0, .ref a0), (1, .int r4)]) [1, 0] rfl (p_X10_next_J64  h)
        · have h := mit hc h
          refine mw_iconst (v := 0) dX10_next_58 (by decide) ?_
          refine mw_goto (tgt := 64) dX10_next_59 (by decide) ?_
          exact mw_sub (L' := [(0, .ref a0), (1, .int r4)]) [1, 0] rfl (p_X10_next_J64  h)
      · have h := mie hc h
        refine mw_iconst (v := -1) dX10_next_48 (by decide) ?_
        refine mw_goto (tgt := 64) dX10_next_49 (by decide) ?_
        exact mw_sub (L' := [(0, .ref a0), (1, .int r4)]) [1, 0] rfl (p_X10_next_J64  h)
    · have h := mit hc h
      refine mw_aload_n dX10_next_13 0 rfl ?_
      refine mw_dup dX10_next_14 rfl ?_
      refine mv_getI fd_RX10_277_9 dX10_next_15 m1 rfl ?_
      refine mw_iconst (v := 1) dX10_next_18 (by decide) ?_
      refine mw_iadd dX10_next_19 ?_
      refine mv_putI fw_RX10_277_9 dX10_next_20 m1 rfl ?_
      refine mw_goto (tgt := 0) dX10_next_23 (by decide) ?_
      exact mw_sub (L' := [(0, .ref a0)]) [0] rfl (ih _ h)
def f_X10_next (a0 : Nat) (σ : MSt) : Option MSt := if mob 9 a0 = true then ((f_X10_byteAt σ a0 (mmI σ a0 26)).bind (fun r2 => if r2 = (32 : Int32) then (f_X10_next_L0 a0 mN (muI σ a0 26 ((mmI σ a0 26) + (1 : Int32)))) else ((f_X10_byteAt (muI σ a0 27 (mmI σ a0 26)) a0 (mmI (muI σ a0 27 (mmI σ a0 26)) a0 26)).bind (fun r4 => if 0 ≤ r4 then (if r4 = (59 : Int32) then (f_X10_next_J64 a0 r4 a0 (0 : Int32) (muI σ a0 27 (mmI σ a0 26))) else (f_X10_next_J64 a0 r4 a0 (-2 : Int32) (muI σ a0 27 (mmI σ a0 26)))) else (f_X10_next_J64 a0 r4 a0 (-1 : Int32) (muI σ a0 27 (mmI σ a0 26))))))) else none
set_option maxRecDepth 100000 in
set_option maxHeartbeats 4000000 in
theorem k_X10_next {l : Launch} {σ : MSt} {a0 : Nat} {out : MSt} (h : f_X10_next a0 σ = some out) : MK l yX10_next cX10_next 3 none 3 [.ref a0] σ none out := by
  unfold f_X10_next at h
  refine mw_entry (own := RX10) (ini := false) (L := [(0, .ref a0)]) (by decide +kernel) rfl (fun h => nomatch h) rfl (Nat.le_of_ble_eq_true rfl) (Nat.le_of_ble_eq_true rfl) (fun E => ?_)
  refine mw_aload_n dX10_next_0 0 rfl ?_
  refine mw_aload_n dX10_next_1 0 rfl ?_
  obtain ⟨m1, h⟩ := mif h
  refine mv_getI fd_RX10_277_9 dX10_next_2 m1 rfl ?_
  obtain ⟨r2, e3, h⟩ := mbd h
  refine mv_callV_i (As := [.int (mmI σ a0 26)]) lkV_RX10_283_yX10_byteAt dX10_next_5 (k_X10_byteAt e3) rfl m1 rfl rfl (Nat.le_of_ble_eq_true rfl) (by decide) (by decide) ?_
  refine mw_bipush (v := 32) dX10_next_8 (by decide) ?_
  refine mw_icmp_ne (tgt := 26) dX10_next_10 (by decide) (fun hc => ?_) (fun hc => ?_)
  · have h := mie hc h
    refine mw_aload_n dX10_next_26 0 rfl ?_
    refine mw_aload_n dX10_next_27 0 rfl ?_
    refine mv_getI fd_RX10_277_9 dX10_next_28 m1 rfl ?_
    refine mv_putI fw_RX10_280_9 dX10_next_31 m1 rfl ?_
    refine mw_aload_n dX10_next_34 0 rfl ?_
    refine mw_aload_n dX10_next_35 0 rfl ?_
    refine mv_getI fd_RX10_277_9 dX10_next_36 m1 rfl ?_
    obtain ⟨r4, e5, h⟩ := mbd h
    refine mv_callV_i (As := [.int (mmI (muI σ a0 27 (mmI σ a0 26)) a0 26)]) lkV_RX10_283_yX10_byteAt dX10_next_39 (k_X10_byteAt e5) rfl m1 rfl rfl (Nat.le_of_ble_eq_true rfl) (by decide) (by decide) ?_
    refine mw_istore_n (L' := [(1, .int r4), (0, .ref a0)]) dX10_next_42 rfl (by decide) rfl ?_
    refine mw_aload_n dX10_next_43 1 rfl ?_
    refine mw_iload_n dX10_next_44 0 rfl ?_
    refine mw_if_ge (tgt := 52) dX10_next_45 (by decide) (fun hc => ?_) (fun hc => ?_)
    · have h := mit hc h
      refine mw_iload_n dX10_next_52 0 rfl ?_
      refine mw_bipush (v := 59) dX10_next_53 (by decide) ?_
      refine mw_icmp_ne (tgt := 62) dX10_next_55 (by decide) (fun hc => ?_) (fun hc => ?_)
      · have h := mie hc h
        refine mw_bipush (v := -2) dX10_next_62 (by decide) ?_
        exact mw_sub (L' := [(0, .ref a0), (1, .int r4)]) [1, 0] rfl (p_X10_next_J64  h)
      · have h := mit hc h
        refine mw_iconst (v := 0) dX10_next_58 (by decide) ?_
        refine mw_goto (tgt := 64) dX10_next_59 (by decide) ?_
        exact mw_sub (L' := [(0, .ref a0), (1, .int r4)]) [1, 0] rfl (p_X10_next_J64  h)
    · have h := mie hc h
      refine mw_iconst (v := -1) dX10_next_48 (by decide) ?_
      refine mw_goto (tgt := 64) dX10_next_49 (by decide) ?_
      exact mw_sub (L' := [(0, .ref a0), (1, .int r4)]) [1, 0] rfl (p_X10_next_J64  h)
  · have h := mit hc h
    refine mw_aload_n dX10_next_13 0 rfl ?_
    refine mw_dup dX10_next_14 rfl ?_
    refine mv_getI fd_RX10_277_9 dX10_next_15 m1 rfl ?_
    refine mw_iconst (v := 1) dX10_next_18 (by decide) ?_
    refine mw_iadd dX10_next_19 ?_
    refine mv_putI fw_RX10_277_9 dX10_next_20 m1 rfl ?_
    refine mw_goto (tgt := 0) dX10_next_23 (by decide) ?_
    exact mw_sub (L' := [(0, .ref a0)]) [0] rfl (p_X10_next_L0  mN _ h)

theorem dX10_takesNumber_0 : decode cX10_takesNumber 0 = .ok (.aload_n 0, 1) := by decide +kernel
theorem dX10_takesNumber_1 : decode cX10_takesNumber 1 = .ok (.getfield 286, 3) := by decide +kernel
theorem dX10_takesNumber_4 : decode cX10_takesNumber 4 = .ok (.iconst 1, 1) := by decide +kernel
theorem dX10_takesNumber_5 : decode cX10_takesNumber 5 = .ok (.if_icmp .ne 18, 3) := by decide +kernel
theorem dX10_takesNumber_8 : decode cX10_takesNumber 8 = .ok (.aload_n 0, 1) := by decide +kernel
theorem dX10_takesNumber_9 : decode cX10_takesNumber 9 = .ok (.getfield 300, 3) := by decide +kernel
theorem dX10_takesNumber_12 : decode cX10_takesNumber 12 = .ok (.i2l, 1) := by decide +kernel
theorem dX10_takesNumber_13 : decode cX10_takesNumber 13 = .ok (.iload_n 1, 1) := by decide +kernel
theorem dX10_takesNumber_14 : decode cX10_takesNumber 14 = .ok (.i2l, 1) := by decide +kernel
theorem dX10_takesNumber_15 : decode cX10_takesNumber 15 = .ok (.iload_n 2, 1) := by decide +kernel
theorem dX10_takesNumber_16 : decode cX10_takesNumber 16 = .ok (.i2l, 1) := by decide +kernel
theorem dX10_takesNumber_17 : decode cX10_takesNumber 17 = .ok (.invokestatic 57, 3) := by decide +kernel
theorem dX10_takesNumber_20 : decode cX10_takesNumber 20 = .ok (.ifCond .ne 5, 3) := by decide +kernel
theorem dX10_takesNumber_23 : decode cX10_takesNumber 23 = .ok (.iconst 0, 1) := by decide +kernel
theorem dX10_takesNumber_24 : decode cX10_takesNumber 24 = .ok (.ireturn, 1) := by decide +kernel
theorem dX10_takesNumber_25 : decode cX10_takesNumber 25 = .ok (.aload_n 0, 1) := by decide +kernel
theorem dX10_takesNumber_26 : decode cX10_takesNumber 26 = .ok (.aload_n 0, 1) := by decide +kernel
theorem dX10_takesNumber_27 : decode cX10_takesNumber 27 = .ok (.getfield 300, 3) := by decide +kernel
theorem dX10_takesNumber_30 : decode cX10_takesNumber 30 = .ok (.putfield 304, 3) := by decide +kernel
theorem dX10_takesNumber_33 : decode cX10_takesNumber 33 = .ok (.aload_n 0, 1) := by decide +kernel
theorem dX10_takesNumber_34 : decode cX10_takesNumber 34 = .ok (.invokevirtual 307, 3) := by decide +kernel
theorem dX10_takesNumber_37 : decode cX10_takesNumber 37 = .ok (.iconst 1, 1) := by decide +kernel
theorem dX10_takesNumber_38 : decode cX10_takesNumber 38 = .ok (.ireturn, 1) := by decide +kernel
def f_X10_takesNumber (a0 : Nat) (a1 : Int32) (a2 : Int32) (σ : MSt) : Option (Int32 × MSt) := if mob 9 a0 = true then (if (mmI σ a0 28) = (1 : Int32) then ((f_X10_in ((mmI σ a0 29).toInt64) a1.toInt64 a2.toInt64).bind (fun r2 => if r2 = 0 then (some ((0 : Int32), σ)) else ((f_X10_next a0 (muI σ a0 30 (mmI σ a0 29))).bind (fun r4 => some ((1 : Int32), r4))))) else (some ((0 : Int32), σ))) else none
set_option maxRecDepth 100000 in
set_option maxHeartbeats 4000000 in
theorem k_X10_takesNumber {l : Launch} {σ : MSt} {a0 : Nat} {a1 : Int32} {a2 : Int32} {out : (Int32 × MSt)} (h : f_X10_takesNumber a0 a1 a2 σ = some out) : MK l yX10_takesNumber cX10_takesNumber 3 (some .boolean) 4 [.ref a0, .int a1, .int a2] σ (some (.int out.1)) out.2 := by
  unfold f_X10_takesNumber at h
  refine mw_entry (own := RX10) (ini := false) (L := [(0, .ref a0), (1, .int a1), (2, .int a2)]) (by decide +kernel) rfl (fun h => nomatch h) rfl (Nat.le_of_ble_eq_true rfl) (Nat.le_of_ble_eq_true rfl) (fun E => ?_)
  refine mw_aload_n dX10_takesNumber_0 0 rfl ?_
  obtain ⟨m1, h⟩ := mif h
  refine mv_getI fd_RX10_286_9 dX10_takesNumber_1 m1 rfl ?_
  refine mw_iconst (v := 1) dX10_takesNumber_4 (by decide) ?_
  refine mw_icmp_ne (tgt := 23) dX10_takesNumber_5 (by decide) (fun hc => ?_) (fun hc => ?_)
  · have h := mie hc h
    refine mw_iconst (v := 0) dX10_takesNumber_23 (by decide) ?_
    exact mw_zret dX10_takesNumber_24 rfl (by decide) (mrs_im h) rfl rfl
  · have h := mit hc h
    refine mw_aload_n dX10_takesNumber_8 0 rfl ?_
    refine mv_getI fd_RX10_300_9 dX10_takesNumber_9 m1 rfl ?_
    refine mw_i2l dX10_takesNumber_12 ?_
    refine mw_iload_n dX10_takesNumber_13 1 rfl ?_
    refine mw_i2l dX10_takesNumber_14 ?_
    refine mw_iload_n dX10_takesNumber_15 2 rfl ?_
    refine mw_i2l dX10_takesNumber_16 ?_
    obtain ⟨r2, e3, h⟩ := mbd h
    refine mv_callS_i (As := [.long (mmI σ a0 29).toInt64, .long a1.toInt64, .long a2.toInt64]) lkS_RX10_57_yX10_in dX10_takesNumber_17 (k_X10_in e3) rfl rfl (Nat.le_of_ble_eq_true rfl) (by decide) (by decide) ?_
    refine mw_if_ne (tgt := 25) dX10_takesNumber_20 (by decide) (fun hc => ?_) (fun hc => ?_)
    · have h := mie hc h
      refine mw_aload_n dX10_takesNumber_25 0 rfl ?_
      refine mw_aload_n dX10_takesNumber_26 0 rfl ?_
      refine mv_getI fd_RX10_300_9 dX10_takesNumber_27 m1 rfl ?_
      refine mv_putI fw_RX10_304_9 dX10_takesNumber_30 m1 rfl ?_
      refine mw_aload_n dX10_takesNumber_33 0 rfl ?_
      obtain ⟨r4, e5, h⟩ := mbd h
      refine mv_callV_v (As := []) lkV_RX10_307_yX10_next dX10_takesNumber_34 (k_X10_next e5) rfl m1 rfl rfl (Nat.le_of_ble_eq_true rfl) (by decide) (by decide) ?_
      refine mw_iconst (v := 1) dX10_takesNumber_37 (by decide) ?_
      exact mw_zret dX10_takesNumber_38 rfl (by decide) (mrs_im h) rfl rfl
    · have h := mit hc h
      refine mw_iconst (v := 0) dX10_takesNumber_23 (by decide) ?_
      exact mw_zret dX10_takesNumber_24 rfl (by decide) (mrs_im h) rfl rfl

theorem dX10_isWord_0 : decode cX10_isWord 0 = .ok (.aload_n 0, 1) := by decide +kernel
theorem dX10_isWord_1 : decode cX10_isWord 1 = .ok (.getfield 286, 3) := by decide +kernel
theorem dX10_isWord_4 : decode cX10_isWord 4 = .ok (.bipush 10, 2) := by decide +kernel
theorem dX10_isWord_6 : decode cX10_isWord 6 = .ok (.iload_n 1, 1) := by decide +kernel
theorem dX10_isWord_7 : decode cX10_isWord 7 = .ok (.iadd, 1) := by decide +kernel
theorem dX10_isWord_8 : decode cX10_isWord 8 = .ok (.if_icmp .ne 7, 3) := by decide +kernel
theorem dX10_isWord_11 : decode cX10_isWord 11 = .ok (.iconst 1, 1) := by decide +kernel
theorem dX10_isWord_12 : decode cX10_isWord 12 = .ok (.goto 4, 3) := by decide +kernel
theorem dX10_isWord_15 : decode cX10_isWord 15 = .ok (.iconst 0, 1) := by decide +kernel
theorem dX10_isWord_16 : decode cX10_isWord 16 = .ok (.ireturn, 1) := by decide +kernel
def f_X10_isWord (σ : MSt) (a0 : Nat) (a1 : Int32) : Option Int32 := if mob 9 a0 = true then (if (mmI σ a0 28) = ((10 : Int32) + a1) then (some (1 : Int32)) else (some (0 : Int32))) else none
set_option maxRecDepth 100000 in
set_option maxHeartbeats 4000000 in
theorem k_X10_isWord {l : Launch} {σ : MSt} {a0 : Nat} {a1 : Int32} {out : Int32} (h : f_X10_isWord σ a0 a1 = some out) : MK l yX10_isWord cX10_isWord 2 (some .boolean) 1 [.ref a0, .int a1] σ (some (.int out)) σ := by
  unfold f_X10_isWord at h
  refine mw_entry (own := RX10) (ini := false) (L := [(0, .ref a0), (1, .int a1)]) (by decide +kernel) rfl (fun h => nomatch h) rfl (Nat.le_of_ble_eq_true rfl) (Nat.le_of_ble_eq_true rfl) (fun E => ?_)
  refine mw_aload_n dX10_isWord_0 0 rfl ?_
  obtain ⟨m1, h⟩ := mif h
  refine mv_getI fd_RX10_286_9 dX10_isWord_1 m1 rfl ?_
  refine mw_bipush (v := 10) dX10_isWord_4 (by decide) ?_
  refine mw_iload_n dX10_isWord_6 1 rfl ?_
  refine mw_iadd dX10_isWord_7 ?_
  refine mw_icmp_ne (tgt := 15) dX10_isWord_8 (by decide) (fun hc => ?_) (fun hc => ?_)
  · have h := mie hc h
    refine mw_iconst (v := 0) dX10_isWord_15 (by decide) ?_
    exact mw_zret dX10_isWord_16 rfl (by decide) (mrs_i h) rfl rfl
  · have h := mit hc h
    refine mw_iconst (v := 1) dX10_isWord_11 (by decide) ?_
    refine mw_goto (tgt := 16) dX10_isWord_12 (by decide) ?_
    exact mw_zret dX10_isWord_16 rfl (by decide) (mrs_i h) rfl rfl

theorem dX10_readsGainAndTime_0 : decode cX10_readsGainAndTime 0 = .ok (.aload_n 0, 1) := by decide +kernel
theorem dX10_readsGainAndTime_1 : decode cX10_readsGainAndTime 1 = .ok (.iconst 0, 1) := by decide +kernel
theorem dX10_readsGainAndTime_2 : decode cX10_readsGainAndTime 2 = .ok (.putfield 310, 3) := by decide +kernel
theorem dX10_readsGainAndTime_5 : decode cX10_readsGainAndTime 5 = .ok (.aload_n 0, 1) := by decide +kernel
theorem dX10_readsGainAndTime_6 : decode cX10_readsGainAndTime 6 = .ok (.iconst 1, 1) := by decide +kernel
theorem dX10_readsGainAndTime_7 : decode cX10_readsGainAndTime 7 = .ok (.putfield 313, 3) := by decide +kernel
theorem dX10_readsGainAndTime_10 : decode cX10_readsGainAndTime 10 = .ok (.aload_n 0, 1) := by decide +kernel
theorem dX10_readsGainAndTime_11 : decode cX10_readsGainAndTime 11 = .ok (.bipush 9, 2) := by decide +kernel
theorem dX10_readsGainAndTime_13 : decode cX10_readsGainAndTime 13 = .ok (.invokevirtual 316, 3) := by decide +kernel
theorem dX10_readsGainAndTime_16 : decode cX10_readsGainAndTime 16 = .ok (.ifCond .ne 12, 3) := by decide +kernel
theorem dX10_readsGainAndTime_19 : decode cX10_readsGainAndTime 19 = .ok (.aload_n 0, 1) := by decide +kernel
theorem dX10_readsGainAndTime_20 : decode cX10_readsGainAndTime 20 = .ok (.bipush 10, 2) := by decide +kernel
theorem dX10_readsGainAndTime_22 : decode cX10_readsGainAndTime 22 = .ok (.invokevirtual 316, 3) := by decide +kernel
theorem dX10_readsGainAndTime_25 : decode cX10_readsGainAndTime 25 = .ok (.ifCond .eq 47, 3) := by decide +kernel
theorem dX10_readsGainAndTime_28 : decode cX10_readsGainAndTime 28 = .ok (.aload_n 0, 1) := by decide +kernel
theorem dX10_readsGainAndTime_29 : decode cX10_readsGainAndTime 29 = .ok (.bipush 10, 2) := by decide +kernel
theorem dX10_readsGainAndTime_31 : decode cX10_readsGainAndTime 31 = .ok (.invokevirtual 316, 3) := by decide +kernel
theorem dX10_readsGainAndTime_34 : decode cX10_readsGainAndTime 34 = .ok (.istore_n 1, 1) := by decide +kernel
theorem dX10_readsGainAndTime_35 : decode cX10_readsGainAndTime 35 = .ok (.aload_n 0, 1) := by decide +kernel
theorem dX10_readsGainAndTime_36 : decode cX10_readsGainAndTime 36 = .ok (.invokevirtual 307, 3) := by decide +kernel
theorem dX10_readsGainAndTime_39 : decode cX10_readsGainAndTime 39 = .ok (.aload_n 0, 1) := by decide +kernel
theorem dX10_readsGainAndTime_40 : decode cX10_readsGainAndTime 40 = .ok (.iconst 0, 1) := by decide +kernel
theorem dX10_readsGainAndTime_41 : decode cX10_readsGainAndTime 41 = .ok (.ldc_w 303, 3) := by decide +kernel
theorem dX10_readsGainAndTime_44 : decode cX10_readsGainAndTime 44 = .ok (.invokevirtual 319, 3) := by decide +kernel
theorem dX10_readsGainAndTime_47 : decode cX10_readsGainAndTime 47 = .ok (.ifCond .ne 5, 3) := by decide +kernel
theorem dX10_readsGainAndTime_50 : decode cX10_readsGainAndTime 50 = .ok (.iconst 0, 1) := by decide +kernel
theorem dX10_readsGainAndTime_51 : decode cX10_readsGainAndTime 51 = .ok (.ireturn, 1) := by decide +kernel
theorem dX10_readsGainAndTime_52 : decode cX10_readsGainAndTime 52 = .ok (.aload_n 0, 1) := by decide +kernel
theorem dX10_readsGainAndTime_53 : decode cX10_readsGainAndTime 53 = .ok (.iload_n 1, 1) := by decide +kernel
theorem dX10_readsGainAndTime_54 : decode cX10_readsGainAndTime 54 = .ok (.ifCond .eq 11, 3) := by decide +kernel
theorem dX10_readsGainAndTime_57 : decode cX10_readsGainAndTime 57 = .ok (.aload_n 0, 1) := by decide +kernel
theorem dX10_readsGainAndTime_58 : decode cX10_readsGainAndTime 58 = .ok (.getfield 304, 3) := by decide +kernel
theorem dX10_readsGainAndTime_61 : decode cX10_readsGainAndTime 61 = .ok (.ineg, 1) := by decide +kernel
theorem dX10_readsGainAndTime_62 : decode cX10_readsGainAndTime 62 = .ok (.goto 7, 3) := by decide +kernel
theorem dX10_readsGainAndTime_65 : decode cX10_readsGainAndTime 65 = .ok (.aload_n 0, 1) := by decide +kernel
theorem dX10_readsGainAndTime_66 : decode cX10_readsGainAndTime 66 = .ok (.getfield 304, 3) := by decide +kernel
theorem dX10_readsGainAndTime_69 : decode cX10_readsGainAndTime 69 = .ok (.putfield 310, 3) := by decide +kernel
theorem dX10_readsGainAndTime_72 : decode cX10_readsGainAndTime 72 = .ok (.aload_n 0, 1) := by decide +kernel
theorem dX10_readsGainAndTime_73 : decode cX10_readsGainAndTime 73 = .ok (.bipush 11, 2) := by decide +kernel
theorem dX10_readsGainAndTime_75 : decode cX10_readsGainAndTime 75 = .ok (.invokevirtual 316, 3) := by decide +kernel
theorem dX10_readsGainAndTime_78 : decode cX10_readsGainAndTime 78 = .ok (.ifCond .eq 28, 3) := by decide +kernel
theorem dX10_readsGainAndTime_81 : decode cX10_readsGainAndTime 81 = .ok (.aload_n 0, 1) := by decide +kernel
theorem dX10_readsGainAndTime_82 : decode cX10_readsGainAndTime 82 = .ok (.invokevirtual 307, 3) := by decide +kernel
theorem dX10_readsGainAndTime_85 : decode cX10_readsGainAndTime 85 = .ok (.aload_n 0, 1) := by decide +kernel
theorem dX10_readsGainAndTime_86 : decode cX10_readsGainAndTime 86 = .ok (.iconst 1, 1) := by decide +kernel
theorem dX10_readsGainAndTime_87 : decode cX10_readsGainAndTime 87 = .ok (.ldc_w 303, 3) := by decide +kernel
theorem dX10_readsGainAndTime_90 : decode cX10_readsGainAndTime 90 = .ok (.invokevirtual 319, 3) := by decide +kernel
theorem dX10_readsGainAndTime_93 : decode cX10_readsGainAndTime 93 = .ok (.ifCond .ne 5, 3) := by decide +kernel
theorem dX10_readsGainAndTime_96 : decode cX10_readsGainAndTime 96 = .ok (.iconst 0, 1) := by decide +kernel
theorem dX10_readsGainAndTime_97 : decode cX10_readsGainAndTime 97 = .ok (.ireturn, 1) := by decide +kernel
theorem dX10_readsGainAndTime_98 : decode cX10_readsGainAndTime 98 = .ok (.aload_n 0, 1) := by decide +kernel
theorem dX10_readsGainAndTime_99 : decode cX10_readsGainAndTime 99 = .ok (.aload_n 0, 1) := by decide +kernel
theorem dX10_readsGainAndTime_100 : decode cX10_readsGainAndTime 100 = .ok (.getfield 304, 3) := by decide +kernel
theorem dX10_readsGainAndTime_103 : decode cX10_readsGainAndTime 103 = .ok (.putfield 313, 3) := by decide +kernel
theorem dX10_readsGainAndTime_106 : decode cX10_readsGainAndTime 106 = .ok (.iconst 1, 1) := by decide +kernel
theorem dX10_readsGainAndTime_107 : decode cX10_readsGainAndTime 107 = .ok (.ireturn, 1) := by decide +kernel
def f_X10_readsGainAndTime_J72 (a0 : Nat) (σ : MSt) : Option (Int32 × MSt) := (f_X10_isWord σ a0 (11 : Int32)).bind (fun r1 => if mob 9 a0 = true then (if r1 = 0 then (some ((1 : Int32), σ)) else ((f_X10_next a0 σ).bind (fun r4 => (f_X10_takesNumber a0 (1 : Int32) (999999 : Int32) r4).bind (fun r6 => if r6.1 = 0 then (some ((0 : Int32), r6.2)) else (some ((1 : Int32), (muI r6.2 a0 33 (mmI r6.2 a0 30)))))))) else none)
set_option maxRecDepth 100000 in
set_option maxHeartbeats 4000000 in
theorem p_X10_readsGainAndTime_J72 {l : Launch} {E : MX} {out : (Int32 × MSt)} {a0 : Nat}  {σ : MSt} (h : f_X10_readsGainAndTime_J72 a0 σ = some out) : MV l E cX10_readsGainAndTime RX10 2 (some .boolean) 5 (82, (some (.int out.1)), out.2) σ 72 [(0, .ref a0)] [] := by
  unfold f_X10_readsGainAndTime_J72 at h
  refine mw_aload_n dX10_readsGainAndTime_72 0 rfl ?_
  refine mw_bipush (v := 11) dX10_readsGainAndTime_73 (by decide) ?_
  obtain ⟨r1, e2, h⟩ := mbd h
  obtain ⟨m3, h⟩ := mif h
  refine mv_callV_i (As := [.int (11 : Int32)]) lkV_RX10_316_yX10_isWord dX10_readsGainAndTime_75 (k_X10_isWord e2) rfl m3 rfl rfl (Nat.le_of_ble_eq_true rfl) (by decide) (by decide) ?_
  refine mw_if_eq (tgt := 106) dX10_readsGainAndTime_78 (by decide) (fun hc => ?_) (fun hc => ?_)
  · have h := mit hc h
    refine mw_iconst (v := 1) dX10_readsGainAndTime_106 (by decide) ?_
    exact mw_zret dX10_readsGainAndTime_107 rfl (by decide) (mrs_im h) rfl rfl
  · have h := mie hc h
    refine mw_aload_n dX10_readsGainAndTime_81 0 rfl ?_
    obtain ⟨r4, e5, h⟩ := mbd h
    refine mv_callV_v (As := []) lkV_RX10_307_yX10_next dX10_readsGainAndTime_82 (k_X10_next e5) rfl m3 rfl rfl (Nat.le_of_ble_eq_true rfl) (by decide) (by decide) ?_
    refine mw_aload_n dX10_readsGainAndTime_85 0 rfl ?_
    refine mw_iconst (v := 1) dX10_readsGainAndTime_86 (by decide) ?_
    refine mw_ldcw dX10_readsGainAndTime_87 wt_798 ?_
    obtain ⟨r6, e7, h⟩ := mbd h
    refine mv_callV_i (As := [.int (1 : Int32), .int (999999 : Int32)]) lkV_RX10_319_yX10_takesNumber dX10_readsGainAndTime_90 (k_X10_takesNumber e7) rfl m3 rfl rfl (Nat.le_of_ble_eq_true rfl) (by decide) (by decide) ?_
    refine mw_if_ne (tgt := 98) dX10_readsGainAndTime_93 (by decide) (fun hc => ?_) (fun hc => ?_)
    · have h := mie hc h
      refine mw_aload_n dX10_readsGainAndTime_98 0 rfl ?_
      refine mw_aload_n dX10_readsGainAndTime_99 0 rfl ?_
      refine mv_getI fd_RX10_304_9 dX10_readsGainAndTime_100 m3 rfl ?_
      refine mv_putI fw_RX10_313_9 dX10_readsGainAndTime_103 m3 rfl ?_
      refine mw_iconst (v := 1) dX10_readsGainAndTime_106 (by decide) ?_
      exact mw_zret dX10_readsGainAndTime_107 rfl (by decide) (mrs_im h) rfl rfl
    · have h := mit hc h
      refine mw_iconst (v := 0) dX10_readsGainAndTime_96 (by decide) ?_
      exact mw_zret dX10_readsGainAndTime_97 rfl (by decide) (mrs_im h) rfl rfl
def f_X10_readsGainAndTime_J69 (a0 : Nat) (s0 : Nat) (s1 : Int32) (σ : MSt) : Option (Int32 × MSt) := if mob 9 s0 = true then (f_X10_readsGainAndTime_J72 a0 (muI σ s0 32 s1)) else none
set_option maxRecDepth 100000 in
set_option maxHeartbeats 4000000 in
theorem p_X10_readsGainAndTime_J69 {l : Launch} {E : MX} {out : (Int32 × MSt)} {a0 : Nat}  {s0 : Nat} {s1 : Int32} {σ : MSt} (h : f_X10_readsGainAndTime_J69 a0 s0 s1 σ = some out) : MV l E cX10_readsGainAndTime RX10 2 (some .boolean) 5 (82, (some (.int out.1)), out.2) σ 69 [(0, .ref a0)] [.int s1, .ref s0] := by
  unfold f_X10_readsGainAndTime_J69 at h
  obtain ⟨m1, h⟩ := mif h
  refine mv_putI fw_RX10_310_9 dX10_readsGainAndTime_69 m1 rfl ?_
  exact mw_sub (L' := [(0, .ref a0)]) [0] rfl (p_X10_readsGainAndTime_J72  h)
def f_X10_readsGainAndTime_J28 (a0 : Nat) (σ : MSt) : Option (Int32 × MSt) := (f_X10_isWord σ a0 (10 : Int32)).bind (fun r1 => if mob 9 a0 = true then ((f_X10_next a0 σ).bind (fun r4 => (f_X10_takesNumber a0 (0 : Int32) (999999 : Int32) r4).bind (fun r6 => if r6.1 = 0 then (some ((0 : Int32), r6.2)) else (if r1 = 0 then (f_X10_readsGainAndTime_J69 a0 a0 (mmI r6.2 a0 30) r6.2) else (f_X10_readsGainAndTime_J69 a0 a0 (-(mmI r6.2 a0 30)) r6.2))))) else none)
set_option maxRecDepth 100000 in
set_option maxHeartbeats 4000000 in
theorem p_X10_readsGainAndTime_J28 {l : Launch} {E : MX} {out : (Int32 × MSt)} {a0 : Nat}  {σ : MSt} (h : f_X10_readsGainAndTime_J28 a0 σ = some out) : MV l E cX10_readsGainAndTime RX10 2 (some .boolean) 5 (82, (some (.int out.1)), out.2) σ 28 [(0, .ref a0)] [] := by
  unfold f_X10_readsGainAndTime_J28 at h
  refine mw_aload_n dX10_readsGainAndTime_28 0 rfl ?_
  refine mw_bipush (v := 10) dX10_readsGainAndTime_29 (by decide) ?_
  obtain ⟨r1, e2, h⟩ := mbd h
  obtain ⟨m3, h⟩ := mif h
  refine mv_callV_i (As := [.int (10 : Int32)]) lkV_RX10_316_yX10_isWord dX10_readsGainAndTime_31 (k_X10_isWord e2) rfl m3 rfl rfl (Nat.le_of_ble_eq_true rfl) (by decide) (by decide) ?_
  refine mw_istore_n (L' := [(1, .int r1), (0, .ref a0)]) dX10_readsGainAndTime_34 rfl (by decide) rfl ?_
  refine mw_aload_n dX10_readsGainAndTime_35 1 rfl ?_
  obtain ⟨r4, e5, h⟩ := mbd h
  refine mv_callV_v (As := []) lkV_RX10_307_yX10_next dX10_readsGainAndTime_36 (k_X10_next e5) rfl m3 rfl rfl (Nat.le_of_ble_eq_true rfl) (by decide) (by decide) ?_
  refine mw_aload_n dX10_readsGainAndTime_39 1 rfl ?_
  refine mw_iconst (v := 0) dX10_readsGainAndTime_40 (by decide) ?_
  refine mw_ldcw dX10_readsGainAndTime_41 wt_798 ?_
  obtain ⟨r6, e7, h⟩ := mbd h
  refine mv_callV_i (As := [.int (0 : Int32), .int (999999 : Int32)]) lkV_RX10_319_yX10_takesNumber dX10_readsGainAndTime_44 (k_X10_takesNumber e7) rfl m3 rfl rfl (Nat.le_of_ble_eq_true rfl) (by decide) (by decide) ?_
  refine mw_if_ne (tgt := 52) dX10_readsGainAndTime_47 (by decide) (fun hc => ?_) (fun hc => ?_)
  · have h := mie hc h
    refine mw_aload_n dX10_readsGainAndTime_52 1 rfl ?_
    refine mw_iload_n dX10_readsGainAndTime_53 0 rfl ?_
    refine mw_if_eq (tgt := 65) dX10_readsGainAndTime_54 (by decide) (fun hc => ?_) (fun hc => ?_)
    · have h := mit hc h
      refine mw_aload_n dX10_readsGainAndTime_65 1 rfl ?_
      refine mv_getI fd_RX10_304_9 dX10_readsGainAndTime_66 m3 rfl ?_
      exact mw_sub (L' := [(0, .ref a0)]) [1] rfl (p_X10_readsGainAndTime_J69  h)
    · have h := mie hc h
      refine mw_aload_n dX10_readsGainAndTime_57 1 rfl ?_
      refine mv_getI fd_RX10_304_9 dX10_readsGainAndTime_58 m3 rfl ?_
      refine mw_ineg dX10_readsGainAndTime_61 ?_
      refine mw_goto (tgt := 69) dX10_readsGainAndTime_62 (by decide) ?_
      exact mw_sub (L' := [(0, .ref a0)]) [1] rfl (p_X10_readsGainAndTime_J69  h)
  · have h := mit hc h
    refine mw_iconst (v := 0) dX10_readsGainAndTime_50 (by decide) ?_
    exact mw_zret dX10_readsGainAndTime_51 rfl (by decide) (mrs_im h) rfl rfl
def f_X10_readsGainAndTime (a0 : Nat) (σ : MSt) : Option (Int32 × MSt) := if mob 9 a0 = true then ((f_X10_isWord (muI (muI σ a0 32 (0 : Int32)) a0 33 (1 : Int32)) a0 (9 : Int32)).bind (fun r2 => if r2 = 0 then ((f_X10_isWord (muI (muI σ a0 32 (0 : Int32)) a0 33 (1 : Int32)) a0 (10 : Int32)).bind (fun r4 => if r4 = 0 then (f_X10_readsGainAndTime_J72 a0 (muI (muI σ a0 32 (0 : Int32)) a0 33 (1 : Int32))) else (f_X10_readsGainAndTime_J28 a0 (muI (muI σ a0 32 (0 : Int32)) a0 33 (1 : Int32))))) else (f_X10_readsGainAndTime_J28 a0 (muI (muI σ a0 32 (0 : Int32)) a0 33 (1 : Int32))))) else none
set_option maxRecDepth 100000 in
set_option maxHeartbeats 4000000 in
theorem k_X10_readsGainAndTime {l : Launch} {σ : MSt} {a0 : Nat} {out : (Int32 × MSt)} (h : f_X10_readsGainAndTime a0 σ = some out) : MK l yX10_readsGainAndTime cX10_readsGainAndTime 2 (some .boolean) 5 [.ref a0] σ (some (.int out.1)) out.2 := by
  unfold f_X10_readsGainAndTime at h
  refine mw_entry (own := RX10) (ini := false) (L := [(0, .ref a0)]) (by decide +kernel) rfl (fun h => nomatch h) rfl (Nat.le_of_ble_eq_true rfl) (Nat.le_of_ble_eq_true rfl) (fun E => ?_)
  refine mw_aload_n dX10_readsGainAndTime_0 0 rfl ?_
  refine mw_iconst (v := 0) dX10_readsGainAndTime_1 (by decide) ?_
  obtain ⟨m1, h⟩ := mif h
  refine mv_putI fw_RX10_310_9 dX10_readsGainAndTime_2 m1 rfl ?_
  refine mw_aload_n dX10_readsGainAndTime_5 0 rfl ?_
  refine mw_iconst (v := 1) dX10_readsGainAndTime_6 (by decide) ?_
  refine mv_putI fw_RX10_313_9 dX10_readsGainAndTime_7 m1 rfl ?_
  refine mw_aload_n dX10_readsGainAndTime_10 0 rfl ?_
  refine mw_bipush (v := 9) dX10_readsGainAndTime_11 (by decide) ?_
  obtain ⟨r2, e3, h⟩ := mbd h
  refine mv_callV_i (As := [.int (9 : Int32)]) lkV_RX10_316_yX10_isWord dX10_readsGainAndTime_13 (k_X10_isWord e3) rfl m1 rfl rfl (Nat.le_of_ble_eq_true rfl) (by decide) (by decide) ?_
  refine mw_if_ne (tgt := 28) dX10_readsGainAndTime_16 (by decide) (fun hc => ?_) (fun hc => ?_)
  · have h := mie hc h
    exact mw_sub (L' := [(0, .ref a0)]) [0] rfl (p_X10_readsGainAndTime_J28  h)
  · have h := mit hc h
    refine mw_aload_n dX10_readsGainAndTime_19 0 rfl ?_
    refine mw_bipush (v := 10) dX10_readsGainAndTime_20 (by decide) ?_
    obtain ⟨r4, e5, h⟩ := mbd h
    refine mv_callV_i (As := [.int (10 : Int32)]) lkV_RX10_316_yX10_isWord dX10_readsGainAndTime_22 (k_X10_isWord e5) rfl m1 rfl rfl (Nat.le_of_ble_eq_true rfl) (by decide) (by decide) ?_
    refine mw_if_eq (tgt := 72) dX10_readsGainAndTime_25 (by decide) (fun hc => ?_) (fun hc => ?_)
    · have h := mit hc h
      exact mw_sub (L' := [(0, .ref a0)]) [0] rfl (p_X10_readsGainAndTime_J72  h)
    · have h := mie hc h
      exact mw_sub (L' := [(0, .ref a0)]) [0] rfl (p_X10_readsGainAndTime_J28  h)

theorem dX10_readsThing_0 : decode cX10_readsThing 0 = .ok (.aload_n 0, 1) := by decide +kernel
theorem dX10_readsThing_1 : decode cX10_readsThing 1 = .ok (.getfield 117, 3) := by decide +kernel
theorem dX10_readsThing_4 : decode cX10_readsThing 4 = .ok (.bipush 12, 2) := by decide +kernel
theorem dX10_readsThing_6 : decode cX10_readsThing 6 = .ok (.if_icmp .ne 5, 3) := by decide +kernel
theorem dX10_readsThing_9 : decode cX10_readsThing 9 = .ok (.iconst 0, 1) := by decide +kernel
theorem dX10_readsThing_10 : decode cX10_readsThing 10 = .ok (.ireturn, 1) := by decide +kernel
theorem dX10_readsThing_11 : decode cX10_readsThing 11 = .ok (.aload_n 0, 1) := by decide +kernel
theorem dX10_readsThing_12 : decode cX10_readsThing 12 = .ok (.invokevirtual 307, 3) := by decide +kernel
theorem dX10_readsThing_15 : decode cX10_readsThing 15 = .ok (.aload_n 0, 1) := by decide +kernel
theorem dX10_readsThing_16 : decode cX10_readsThing 16 = .ok (.invokevirtual 322, 3) := by decide +kernel
theorem dX10_readsThing_19 : decode cX10_readsThing 19 = .ok (.ifCond .ne 5, 3) := by decide +kernel
theorem dX10_readsThing_22 : decode cX10_readsThing 22 = .ok (.iconst 0, 1) := by decide +kernel
theorem dX10_readsThing_23 : decode cX10_readsThing 23 = .ok (.ireturn, 1) := by decide +kernel
theorem dX10_readsThing_24 : decode cX10_readsThing 24 = .ok (.aload_n 0, 1) := by decide +kernel
theorem dX10_readsThing_25 : decode cX10_readsThing 25 = .ok (.getfield 22, 3) := by decide +kernel
theorem dX10_readsThing_28 : decode cX10_readsThing 28 = .ok (.iconst 2, 1) := by decide +kernel
theorem dX10_readsThing_29 : decode cX10_readsThing 29 = .ok (.aload_n 0, 1) := by decide +kernel
theorem dX10_readsThing_30 : decode cX10_readsThing 30 = .ok (.getfield 117, 3) := by decide +kernel
theorem dX10_readsThing_33 : decode cX10_readsThing 33 = .ok (.imul, 1) := by decide +kernel
theorem dX10_readsThing_34 : decode cX10_readsThing 34 = .ok (.aload_n 0, 1) := by decide +kernel
theorem dX10_readsThing_35 : decode cX10_readsThing 35 = .ok (.getfield 310, 3) := by decide +kernel
theorem dX10_readsThing_38 : decode cX10_readsThing 38 = .ok (.iastore, 1) := by decide +kernel
theorem dX10_readsThing_39 : decode cX10_readsThing 39 = .ok (.aload_n 0, 1) := by decide +kernel
theorem dX10_readsThing_40 : decode cX10_readsThing 40 = .ok (.getfield 22, 3) := by decide +kernel
theorem dX10_readsThing_43 : decode cX10_readsThing 43 = .ok (.iconst 2, 1) := by decide +kernel
theorem dX10_readsThing_44 : decode cX10_readsThing 44 = .ok (.aload_n 0, 1) := by decide +kernel
theorem dX10_readsThing_45 : decode cX10_readsThing 45 = .ok (.getfield 117, 3) := by decide +kernel
theorem dX10_readsThing_48 : decode cX10_readsThing 48 = .ok (.imul, 1) := by decide +kernel
theorem dX10_readsThing_49 : decode cX10_readsThing 49 = .ok (.iconst 1, 1) := by decide +kernel
theorem dX10_readsThing_50 : decode cX10_readsThing 50 = .ok (.iadd, 1) := by decide +kernel
theorem dX10_readsThing_51 : decode cX10_readsThing 51 = .ok (.aload_n 0, 1) := by decide +kernel
theorem dX10_readsThing_52 : decode cX10_readsThing 52 = .ok (.getfield 313, 3) := by decide +kernel
theorem dX10_readsThing_55 : decode cX10_readsThing 55 = .ok (.iastore, 1) := by decide +kernel
theorem dX10_readsThing_56 : decode cX10_readsThing 56 = .ok (.aload_n 0, 1) := by decide +kernel
theorem dX10_readsThing_57 : decode cX10_readsThing 57 = .ok (.dup, 1) := by decide +kernel
theorem dX10_readsThing_58 : decode cX10_readsThing 58 = .ok (.getfield 117, 3) := by decide +kernel
theorem dX10_readsThing_61 : decode cX10_readsThing 61 = .ok (.iconst 1, 1) := by decide +kernel
theorem dX10_readsThing_62 : decode cX10_readsThing 62 = .ok (.iadd, 1) := by decide +kernel
theorem dX10_readsThing_63 : decode cX10_readsThing 63 = .ok (.putfield 117, 3) := by decide +kernel
theorem dX10_readsThing_66 : decode cX10_readsThing 66 = .ok (.iconst 1, 1) := by decide +kernel
theorem dX10_readsThing_67 : decode cX10_readsThing 67 = .ok (.ireturn, 1) := by decide +kernel
def f_X10_readsThing (a0 : Nat) (σ : MSt) : Option (Int32 × MSt) := if mob 9 a0 = true then (if (mmI σ a0 5) = (12 : Int32) then (some ((0 : Int32), σ)) else ((f_X10_next a0 σ).bind (fun r2 => (f_X10_readsGainAndTime a0 r2).bind (fun r4 => if r4.1 = 0 then (some ((0 : Int32), r4.2)) else ((mmR r4.2 a0 6).bind (fun q6 => if mix 0 q6 ((2 : Int32) * (mmI r4.2 a0 5)) = true then ((mmR (muI r4.2 q6 ((2 : Int32) * (mmI r4.2 a0 5)).toNatClampNeg (mmI r4.2 a0 32)) a0 6).bind (fun q9 => if mix 0 q9 (((2 : Int32) * (mmI (muI r4.2 q6 ((2 : Int32) * (mmI r4.2 a0 5)).toNatClampNeg (mmI r4.2 a0 32)) a0 5)) + (1 : Int32)) = true then (some ((1 : Int32), (muI (muI (muI r4.2 q6 ((2 : Int32) * (mmI r4.2 a0 5)).toNatClampNeg (mmI r4.2 a0 32)) q9 (((2 : Int32) * (mmI (muI r4.2 q6 ((2 : Int32) * (mmI r4.2 a0 5)).toNatClampNeg (mmI r4.2 a0 32)) a0 5)) + (1 : Int32)).toNatClampNeg (mmI (muI r4.2 q6 ((2 : Int32) * (mmI r4.2 a0 5)).toNatClampNeg (mmI r4.2 a0 32)) a0 33)) a0 5 ((mmI (muI (muI r4.2 q6 ((2 : Int32) * (mmI r4.2 a0 5)).toNatClampNeg (mmI r4.2 a0 32)) q9 (((2 : Int32) * (mmI (muI r4.2 q6 ((2 : Int32) * (mmI r4.2 a0 5)).toNatClampNeg (mmI r4.2 a0 32)) a0 5)) + (1 : Int32)).toNatClampNeg (mmI (muI r4.2 q6 ((2 : Int32) * (mmI r4.2 a0 5)).toNatClampNeg (mmI r4.2 a0 32)) a0 33)) a0 5) + (1 : Int32))))) else none)) else none)))))) else none
set_option maxRecDepth 100000 in
set_option maxHeartbeats 4000000 in
theorem k_X10_readsThing {l : Launch} {σ : MSt} {a0 : Nat} {out : (Int32 × MSt)} (h : f_X10_readsThing a0 σ = some out) : MK l yX10_readsThing cX10_readsThing 1 (some .boolean) 6 [.ref a0] σ (some (.int out.1)) out.2 := by
  unfold f_X10_readsThing at h
  refine mw_entry (own := RX10) (ini := false) (L := [(0, .ref a0)]) (by decide +kernel) rfl (fun h => nomatch h) rfl (Nat.le_of_ble_eq_true rfl) (Nat.le_of_ble_eq_true rfl) (fun E => ?_)
  refine mw_aload_n dX10_readsThing_0 0 rfl ?_
  obtain ⟨m1, h⟩ := mif h
  refine mv_getI fd_RX10_117_9 dX10_readsThing_1 m1 rfl ?_
  refine mw_bipush (v := 12) dX10_readsThing_4 (by decide) ?_
  refine mw_icmp_ne (tgt := 11) dX10_readsThing_6 (by decide) (fun hc => ?_) (fun hc => ?_)
  · have h := mie hc h
    refine mw_aload_n dX10_readsThing_11 0 rfl ?_
    obtain ⟨r2, e3, h⟩ := mbd h
    refine mv_callV_v (As := []) lkV_RX10_307_yX10_next dX10_readsThing_12 (k_X10_next e3) rfl m1 rfl rfl (Nat.le_of_ble_eq_true rfl) (by decide) (by decide) ?_
    refine mw_aload_n dX10_readsThing_15 0 rfl ?_
    obtain ⟨r4, e5, h⟩ := mbd h
    refine mv_callV_i (As := []) lkV_RX10_322_yX10_readsGainAndTime dX10_readsThing_16 (k_X10_readsGainAndTime e5) rfl m1 rfl rfl (Nat.le_of_ble_eq_true rfl) (by decide) (by decide) ?_
    refine mw_if_ne (tgt := 24) dX10_readsThing_19 (by decide) (fun hc => ?_) (fun hc => ?_)
    · have h := mie hc h
      refine mw_aload_n dX10_readsThing_24 0 rfl ?_
      obtain ⟨q6, e7, h⟩ := mbd h
      refine mv_getR fd_RX10_22_9 dX10_readsThing_25 m1 rfl e7 ?_
      refine mw_iconst (v := 2) dX10_readsThing_28 (by decide) ?_
      refine mw_aload_n dX10_readsThing_29 0 rfl ?_
      refine mv_getI fd_RX10_117_9 dX10_readsThing_30 m1 rfl ?_
      refine mw_imul dX10_readsThing_33 ?_
      refine mw_aload_n dX10_readsThing_34 0 rfl ?_
      refine mv_getI fd_RX10_310_9 dX10_readsThing_35 m1 rfl ?_
      obtain ⟨m8, h⟩ := mif h
      refine mv_iast dX10_readsThing_38 m8 ?_
      refine mw_aload_n dX10_readsThing_39 0 rfl ?_
      obtain ⟨q9, e10, h⟩ := mbd h
      refine mv_getR fd_RX10_22_9 dX10_readsThing_40 m1 rfl e10 ?_
      refine mw_iconst (v := 2) dX10_readsThing_43 (by decide) ?_
      refine mw_aload_n dX10_readsThing_44 0 rfl ?_
      refine mv_getI fd_RX10_117_9 dX10_readsThing_45 m1 rfl ?_
      refine mw_imul dX10_readsThing_48 ?_
      refine mw_iconst (v := 1) dX10_readsThing_49 (by decide) ?_
      refine mw_iadd dX10_readsThing_50 ?_
      refine mw_aload_n dX10_readsThing_51 0 rfl ?_
      refine mv_getI fd_RX10_313_9 dX10_readsThing_52 m1 rfl ?_
      obtain ⟨m11, h⟩ := mif h
      refine mv_iast dX10_readsThing_55 m11 ?_
      refine mw_aload_n dX10_readsThing_56 0 rfl ?_
      refine mw_dup dX10_readsThing_57 rfl ?_
      refine mv_getI fd_RX10_117_9 dX10_readsThing_58 m1 rfl ?_
      refine mw_iconst (v := 1) dX10_readsThing_61 (by decide) ?_
      refine mw_iadd dX10_readsThing_62 ?_
      refine mv_putI fw_RX10_117_9 dX10_readsThing_63 m1 rfl ?_
      refine mw_iconst (v := 1) dX10_readsThing_66 (by decide) ?_
      exact mw_zret dX10_readsThing_67 rfl (by decide) (mrs_im h) rfl rfl
    · have h := mit hc h
      refine mw_iconst (v := 0) dX10_readsThing_22 (by decide) ?_
      exact mw_zret dX10_readsThing_23 rfl (by decide) (mrs_im h) rfl rfl
  · have h := mit hc h
    refine mw_iconst (v := 0) dX10_readsThing_9 (by decide) ?_
    exact mw_zret dX10_readsThing_10 rfl (by decide) (mrs_im h) rfl rfl
