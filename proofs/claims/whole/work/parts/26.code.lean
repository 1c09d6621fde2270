/-! ===== methods as functions, and that the machine does so (written by gen/all.py) ===== -/
theorem dX10_places_0 : decode cX10_places 0 = .ok (.iload_n 1, 1) := by decide +kernel
theorem dX10_places_1 : decode cX10_places 1 = .ok (.i2l, 1) := by decide +kernel
theorem dX10_places_2 : decode cX10_places 2 = .ok (.ldc2_w 77, 3) := by decide +kernel
theorem dX10_places_5 : decode cX10_places 5 = .ok (.ldc2_w 79, 3) := by decide +kernel
theorem dX10_places_8 : decode cX10_places 8 = .ok (.invokestatic 57, 3) := by decide +kernel
theorem dX10_places_11 : decode cX10_places 11 = .ok (.ifCond .ne 9, 3) := by decide +kernel
theorem dX10_places_14 : decode cX10_places 14 = .ok (.aload_n 0, 1) := by decide +kernel
theorem dX10_places_15 : decode cX10_places 15 = .ok (.iconst 0, 1) := by decide +kernel
theorem dX10_places_16 : decode cX10_places 16 = .ok (.invokevirtual 81, 3) := by decide +kernel
theorem dX10_places_19 : decode cX10_places 19 = .ok (.ireturn, 1) := by decide +kernel
theorem dX10_places_20 : decode cX10_places 20 = .ok (.iconst 0, 1) := by decide +kernel
theorem dX10_places_21 : decode cX10_places 21 = .ok (.istore_n 2, 1) := by decide +kernel
theorem dX10_places_22 : decode cX10_places 22 = .ok (.iload_n 2, 1) := by decide +kernel
theorem dX10_places_23 : decode cX10_places 23 = .ok (.aload_n 0, 1) := by decide +kernel
theorem dX10_places_24 : decode cX10_places 24 = .ok (.getfield 61, 3) := by decide +kernel
theorem dX10_places_27 : decode cX10_places 27 = .ok (.if_icmp .ge 35, 3) := by decide +kernel
theorem dX10_places_30 : decode cX10_places 30 = .ok (.aload_n 0, 1) := by decide +kernel
theorem dX10_places_31 : decode cX10_places 31 = .ok (.iload_n 2, 1) := by decide +kernel
theorem dX10_places_32 : decode cX10_places 32 = .ok (.iconst 1, 1) := by decide +kernel
theorem dX10_places_33 : decode cX10_places 33 = .ok (.invokevirtual 70, 3) := by decide +kernel
theorem dX10_places_36 : decode cX10_places 36 = .ok (.iload_n 1, 1) := by decide +kernel
theorem dX10_places_37 : decode cX10_places 37 = .ok (.if_icmp .ge 13, 3) := by decide +kernel
theorem dX10_places_40 : decode cX10_places 40 = .ok (.aload_n 0, 1) := by decide +kernel
theorem dX10_places_41 : decode cX10_places 41 = .ok (.iload_n 2, 1) := by decide +kernel
theorem dX10_places_42 : decode cX10_places 42 = .ok (.iconst 2, 1) := by decide +kernel
theorem dX10_places_43 : decode cX10_places 43 = .ok (.invokevirtual 70, 3) := by decide +kernel
theorem dX10_places_46 : decode cX10_places 46 = .ok (.iload_n 1, 1) := by decide +kernel
theorem dX10_places_47 : decode cX10_places 47 = .ok (.if_icmp .lt 9, 3) := by decide +kernel
theorem dX10_places_50 : decode cX10_places 50 = .ok (.aload_n 0, 1) := by decide +kernel
theorem dX10_places_51 : decode cX10_places 51 = .ok (.iconst 4, 1) := by decide +kernel
theorem dX10_places_52 : decode cX10_places 52 = .ok (.invokevirtual 81, 3) := by decide +kernel
theorem dX10_places_55 : decode cX10_places 55 = .ok (.ireturn, 1) := by decide +kernel
theorem dX10_places_56 : decode cX10_places 56 = .ok (.iinc 2 1, 3) := by decide +kernel
theorem dX10_places_59 : decode cX10_places 59 = .ok (.goto (-37), 3) := by decide +kernel
theorem dX10_places_62 : decode cX10_places 62 = .ok (.aload_n 0, 1) := by decide +kernel
theorem dX10_places_63 : decode cX10_places 63 = .ok (.getfield 15, 3) := by decide +kernel
theorem dX10_places_66 : decode cX10_places 66 = .ok (.istore_n 2, 1) := by decide +kernel
theorem dX10_places_67 : decode cX10_places 67 = .ok (.aload_n 0, 1) := by decide +kernel
theorem dX10_places_68 : decode cX10_places 68 = .ok (.iload_n 1, 1) := by decide +kernel
theorem dX10_places_69 : decode cX10_places 69 = .ok (.putfield 15, 3) := by decide +kernel
theorem dX10_places_72 : decode cX10_places 72 = .ok (.iload_n 2, 1) := by decide +kernel
theorem dX10_places_73 : decode cX10_places 73 = .ok (.ireturn, 1) := by decide +kernel
def e_X10_places_L22 (a1 : Int32) : Nat → Int32 → ES → Option (Int32 × ES)
  | 0, _, _ => none
  | n + 1, x2, σ => if (eI σ 69 3) ≤ x2 then (some ((eI σ 69 1), (uI σ 69 1 a1))) else ((e_X10_at σ x2 (1 : Int32)).bind (fun r1 => if a1 ≤ r1 then ((e_X10_finds (4 : Int32) σ).bind (fun r3 => some (r3.1, r3.2))) else ((e_X10_at σ x2 (2 : Int32)).bind (fun r5 => if r5 < a1 then (e_X10_places_L22 a1 n (x2 + 1) σ) else ((e_X10_finds (4 : Int32) σ).bind (fun r7 => some (r7.1, r7.2)))))))
set_option maxRecDepth 100000 in
set_option maxHeartbeats 4000000 in
theorem p_X10_places_L22 {l : Launch} {E : MX} {out : (Int32 × ES)} {a1 : Int32}  : ∀ (n : Nat) (x2 : Int32) (σ : ES), e_X10_places_L22 a1 n x2 σ = some out → MV l E cX10_places RX10 3 (some .int) 2 (82, (some (.int out.1)), mkS out.2) (mkS σ) 22 [(0, .ref 69), (1, .int a1), (2, .int x2)] [] := by
  intro n
  induction n with
  | zero =>
    intro x2 σ h
    exact nomatch h
  | succ n ih =>
    intro x2 σ h
    rw [e_X10_places_L22] at h
    refine mw_iload_n dX10_places_22 2 rfl ?_
    refine mw_aload_n dX10_places_23 0 rfl ?_
    refine ev_getI fd_RX10_61_9 dX10_places_24 rfl rfl ?_
    refine mw_icmp_ge (tgt := 62) dX10_places_27 (by decide) (fun hc => ?_) (fun hc => ?_)
    · have h := mit hc h
      refine mw_aload_n dX10_places_62 0 rfl ?_
      refine ev_getI fd_RX10_15_9 dX10_places_63 rfl rfl ?_
      refine mw_istore_n (L' := [(2, .int (eI σ 69 1)), (0, .ref 69), (1, .int a1)]) dX10_places_66 rfl (by decide) rfl ?_
      refine mw_aload_n dX10_places_67 1 rfl ?_
      refine mw_iload_n dX10_places_68 2 rfl ?_
      refine ev_putI fw_RX10_15_9 dX10_places_69 rfl rfl ?_
      refine mw_iload_n dX10_places_72 0 rfl ?_
      exact mw_iret dX10_places_73 rfl (ers_im h) rfl rfl
    · have h := mie hc h
      refine mw_aload_n dX10_places_30 0 rfl ?_
      refine mw_iload_n dX10_places_31 2 rfl ?_
      refine mw_iconst (v := 1) dX10_places_32 (by decide) ?_
      obtain ⟨r1, e2, h⟩ := mbd h
      refine mv_callV_i (As := [.int x2, .int (1 : Int32)]) (ci := 9) lkV_RX10_70_yX10_at dX10_places_33 (k_X10_at e2) rfl rfl rfl rfl (Nat.le_of_ble_eq_true rfl) (by decide) (by decide) ?_
      refine mw_iload_n dX10_places_36 1 rfl ?_
      refine mw_icmp_ge (tgt := 50) dX10_places_37 (by decide) (fun hc => ?_) (fun hc => ?_)
      · have h := mit hc h
        refine mw_aload_n dX10_places_50 0 rfl ?_
        refine mw_iconst (v := 4) dX10_places_51 (by decide) ?_
        obtain ⟨r3, e4, h⟩ := mbd h
        refine mv_callV_i (As := [.int (4 : Int32)]) (ci := 9) lkV_RX10_81_yX10_finds dX10_places_52 (k_X10_finds e4) rfl rfl rfl rfl (Nat.le_of_ble_eq_true rfl) (by decide) (by decide) ?_
        exact mw_iret dX10_places_55 rfl (ers_im h) rfl rfl
      · have h := mie hc h
        refine mw_aload_n dX10_places_40 0 rfl ?_
        refine mw_iload_n dX10_places_41 2 rfl ?_
        refine mw_iconst (v := 2) dX10_places_42 (by decide) ?_
        obtain ⟨r5, e6, h⟩ := mbd h
        refine mv_callV_i (As := [.int x2, .int (2 : Int32)]) (ci := 9) lkV_RX10_70_yX10_at dX10_places_43 (k_X10_at e6) rfl rfl rfl rfl (Nat.le_of_ble_eq_true rfl) (by decide) (by decide) ?_
        refine mw_iload_n dX10_places_46 1 rfl ?_
        refine mw_icmp_lt (tgt := 56) dX10_places_47 (by decide) (fun hc => ?_) (fun hc => ?_)
        · have h := mit hc h
          refine mw_iinc (v := (x2 + 1)) (L' := [(2, .int (x2 + 1)), (0, .ref 69), (1, .int a1)]) dX10_places_56 2 rfl rfl (by decide) rfl ?_
          refine mw_goto (tgt := 22) dX10_places_59 (by decide) ?_
          exact mw_sub (L' := [(0, .ref 69), (1, .int a1), (2, .int (x2 + 1))]) [1, 2, 0] rfl (ih _ _ h)
        · have h := mie hc h
          refine mw_aload_n dX10_places_50 0 rfl ?_
          refine mw_iconst (v := 4) dX10_places_51 (by decide) ?_
          obtain ⟨r7, e8, h⟩ := mbd h
          refine mv_callV_i (As := [.int (4 : Int32)]) (ci := 9) lkV_RX10_81_yX10_finds dX10_places_52 (k_X10_finds e8) rfl rfl rfl rfl (Nat.le_of_ble_eq_true rfl) (by decide) (by decide) ?_
          exact mw_iret dX10_places_55 rfl (ers_im h) rfl rfl
def e_X10_places (a1 : Int32) (σ : ES) : Option (Int32 × ES) := (e_X10_in a1.toInt64 (2 : Int64) (6 : Int64)).bind (fun r1 => if r1 = 0 then ((e_X10_finds (0 : Int32) σ).bind (fun r3 => some (r3.1, r3.2))) else (e_X10_places_L22 a1 mN (0 : Int32) σ))
set_option maxRecDepth 100000 in
set_option maxHeartbeats 4000000 in
theorem k_X10_places {l : Launch} {σ : ES} {a1 : Int32} {out : (Int32 × ES)} (h : e_X10_places a1 σ = some out) : MK l yX10_places cX10_places 3 (some .int) 2 [.ref 69, .int a1] (mkS σ) (some (.int out.1)) (mkS out.2) := by
  unfold e_X10_places at h
  refine mw_entry (own := RX10) (ini := false) (L := [(0, .ref 69), (1, .int a1)]) (by decide +kernel) rfl (fun h => nomatch h) rfl (Nat.le_of_ble_eq_true rfl) (Nat.le_of_ble_eq_true rfl) (fun E => ?_)
  refine mw_iload_n dX10_places_0 1 rfl ?_
  refine mw_i2l dX10_places_1 ?_
  refine mw_ldc2 dX10_places_2 wt_589 ?_
  refine mw_ldc2 dX10_places_5 wt_590 ?_
  obtain ⟨r1, e2, h⟩ := mbd h
  refine mv_callS_i (As := [.long a1.toInt64, .long (2 : Int64), .long (6 : Int64)]) lkS_RX10_57_yX10_in dX10_places_8 (k_X10_in e2) rfl rfl (Nat.le_of_ble_eq_true rfl) (by decide) (by decide) ?_
  refine mw_if_ne (tgt := 20) dX10_places_11 (by decide) (fun hc => ?_) (fun hc => ?_)
  · have h := mie hc h
    refine mw_iconst (v := 0) dX10_places_20 (by decide) ?_
    refine mw_istore_n (L' := [(2, .int (0 : Int32)), (0, .ref 69), (1, .int a1)]) dX10_places_21 rfl (by decide) rfl ?_
    exact mw_sub (L' := [(0, .ref 69), (1, .int a1), (2, .int (0 : Int32))]) [1, 2, 0] rfl (p_X10_places_L22  mN _ _ h)
  · have h := mit hc h
    refine mw_aload_n dX10_places_14 0 rfl ?_
    refine mw_iconst (v := 0) dX10_places_15 (by decide) ?_
    obtain ⟨r3, e4, h⟩ := mbd h
    refine mv_callV_i (As := [.int (0 : Int32)]) (ci := 9) lkV_RX10_81_yX10_finds dX10_places_16 (k_X10_finds e4) rfl rfl rfl rfl (Nat.le_of_ble_eq_true rfl) (by decide) (by decide) ?_
    exact mw_iret dX10_places_19 rfl (ers_im h) rfl rfl

theorem dX10_weather_0 : decode cX10_weather 0 = .ok (.iload_n 1, 1) := by decide +kernel
theorem dX10_weather_1 : decode cX10_weather 1 = .ok (.i2l, 1) := by decide +kernel
theorem dX10_weather_2 : decode cX10_weather 2 = .ok (.lconst 0, 1) := by decide +kernel
theorem dX10_weather_3 : decode cX10_weather 3 = .ok (.ldc2_w 85, 3) := by decide +kernel
theorem dX10_weather_6 : decode cX10_weather 6 = .ok (.invokestatic 57, 3) := by decide +kernel
theorem dX10_weather_9 : decode cX10_weather 9 = .ok (.ifCond .ne 9, 3) := by decide +kernel
theorem dX10_weather_12 : decode cX10_weather 12 = .ok (.aload_n 0, 1) := by decide +kernel
theorem dX10_weather_13 : decode cX10_weather 13 = .ok (.iconst 0, 1) := by decide +kernel
theorem dX10_weather_14 : decode cX10_weather 14 = .ok (.invokevirtual 81, 3) := by decide +kernel
theorem dX10_weather_17 : decode cX10_weather 17 = .ok (.ireturn, 1) := by decide +kernel
theorem dX10_weather_18 : decode cX10_weather 18 = .ok (.aload_n 0, 1) := by decide +kernel
theorem dX10_weather_19 : decode cX10_weather 19 = .ok (.getfield 74, 3) := by decide +kernel
theorem dX10_weather_22 : decode cX10_weather 22 = .ok (.istore_n 2, 1) := by decide +kernel
theorem dX10_weather_23 : decode cX10_weather 23 = .ok (.aload_n 0, 1) := by decide +kernel
theorem dX10_weather_24 : decode cX10_weather 24 = .ok (.iload_n 1, 1) := by decide +kernel
theorem dX10_weather_25 : decode cX10_weather 25 = .ok (.putfield 74, 3) := by decide +kernel
theorem dX10_weather_28 : decode cX10_weather 28 = .ok (.iload_n 2, 1) := by decide +kernel
theorem dX10_weather_29 : decode cX10_weather 29 = .ok (.ireturn, 1) := by decide +kernel
def e_X10_weather (a1 : Int32) (σ : ES) : Option (Int32 × ES) := (e_X10_in a1.toInt64 (0 : Int64) (5 : Int64)).bind (fun r1 => if r1 = 0 then ((e_X10_finds (0 : Int32) σ).bind (fun r3 => some (r3.1, r3.2))) else (some ((eI σ 69 2), (uI σ 69 2 a1))))
set_option maxRecDepth 100000 in
set_option maxHeartbeats 4000000 in
theorem k_X10_weather {l : Launch} {σ : ES} {a1 : Int32} {out : (Int32 × ES)} (h : e_X10_weather a1 σ = some out) : MK l yX10_weather cX10_weather 3 (some .int) 2 [.ref 69, .int a1] (mkS σ) (some (.int out.1)) (mkS out.2) := by
  unfold e_X10_weather at h
  refine mw_entry (own := RX10) (ini := false) (L := [(0, .ref 69), (1, .int a1)]) (by decide +kernel) rfl (fun h => nomatch h) rfl (Nat.le_of_ble_eq_true rfl) (Nat.le_of_ble_eq_true rfl) (fun E => ?_)
  refine mw_iload_n dX10_weather_0 1 rfl ?_
  refine mw_i2l dX10_weather_1 ?_
  refine mw_lconst (v := 0) dX10_weather_2 (by decide) ?_
  refine mw_ldc2 dX10_weather_3 wt_594 ?_
  obtain ⟨r1, e2, h⟩ := mbd h
  refine mv_callS_i (As := [.long a1.toInt64, .long (0 : Int64), .long (5 : Int64)]) lkS_RX10_57_yX10_in dX10_weather_6 (k_X10_in e2) rfl rfl (Nat.le_of_ble_eq_true rfl) (by decide) (by decide) ?_
  refine mw_if_ne (tgt := 18) dX10_weather_9 (by decide) (fun hc => ?_) (fun hc => ?_)
  · have h := mie hc h
    refine mw_aload_n dX10_weather_18 0 rfl ?_
    refine ev_getI fd_RX10_74_9 dX10_weather_19 rfl rfl ?_
    refine mw_istore_n (L' := [(2, .int (eI σ 69 2)), (0, .ref 69), (1, .int a1)]) dX10_weather_22 rfl (by decide) rfl ?_
    refine mw_aload_n dX10_weather_23 1 rfl ?_
    refine mw_iload_n dX10_weather_24 2 rfl ?_
    refine ev_putI fw_RX10_74_9 dX10_weather_25 rfl rfl ?_
    refine mw_iload_n dX10_weather_28 0 rfl ?_
    exact mw_iret dX10_weather_29 rfl (ers_im h) rfl rfl
  · have h := mit hc h
    refine mw_aload_n dX10_weather_12 0 rfl ?_
    refine mw_iconst (v := 0) dX10_weather_13 (by decide) ?_
    obtain ⟨r3, e4, h⟩ := mbd h
    refine mv_callV_i (As := [.int (0 : Int32)]) (ci := 9) lkV_RX10_81_yX10_finds dX10_weather_14 (k_X10_finds e4) rfl rfl rfl rfl (Nat.le_of_ble_eq_true rfl) (by decide) (by decide) ?_
    exact mw_iret dX10_weather_17 rfl (ers_im h) rfl rfl

theorem dX10_isPlace_0 : decode cX10_isPlace 0 = .ok (.iload_n 1, 1) := by decide +kernel
theorem dX10_isPlace_1 : decode cX10_isPlace 1 = .ok (.i2l, 1) := by decide +kernel
theorem dX10_isPlace_2 : decode cX10_isPlace 2 = .ok (.lconst 0, 1) := by decide +kernel
theorem dX10_isPlace_3 : decode cX10_isPlace 3 = .ok (.aload_n 0, 1) := by decide +kernel
theorem dX10_isPlace_4 : decode cX10_isPlace 4 = .ok (.getfield 15, 3) := by decide +kernel
theorem dX10_isPlace_7 : decode cX10_isPlace 7 = .ok (.iconst 1, 1) := by decide +kernel
theorem dX10_isPlace_8 : decode cX10_isPlace 8 = .ok (.isub, 1) := by decide +kernel
theorem dX10_isPlace_9 : decode cX10_isPlace 9 = .ok (.i2l, 1) := by decide +kernel
theorem dX10_isPlace_10 : decode cX10_isPlace 10 = .ok (.invokestatic 57, 3) := by decide +kernel
theorem dX10_isPlace_13 : decode cX10_isPlace 13 = .ok (.ireturn, 1) := by decide +kernel
def e_X10_isPlace (σ : ES) (a1 : Int32) : Option Int32 := (e_X10_in a1.toInt64 (0 : Int64) (((eI σ 69 1) - (1 : Int32)).toInt64)).bind (fun r1 => if r1 = 0 ∨ r1 = 1 then (some r1) else none)
set_option maxRecDepth 100000 in
set_option maxHeartbeats 4000000 in
theorem k_X10_isPlace {l : Launch} {σ : ES} {a1 : Int32} {out : Int32} (h : e_X10_isPlace σ a1 = some out) : MK l yX10_isPlace cX10_isPlace 2 (some .boolean) 2 [.ref 69, .int a1] (mkS σ) (some (.int out)) (mkS σ) := by
  unfold e_X10_isPlace at h
  refine mw_entry (own := RX10) (ini := false) (L := [(0, .ref 69), (1, .int a1)]) (by decide +kernel) rfl (fun h => nomatch h) rfl (Nat.le_of_ble_eq_true rfl) (Nat.le_of_ble_eq_true rfl) (fun E => ?_)
  refine mw_iload_n dX10_isPlace_0 1 rfl ?_
  refine mw_i2l dX10_isPlace_1 ?_
  refine mw_lconst (v := 0) dX10_isPlace_2 (by decide) ?_
  refine mw_aload_n dX10_isPlace_3 0 rfl ?_
  refine ev_getI fd_RX10_15_9 dX10_isPlace_4 rfl rfl ?_
  refine mw_iconst (v := 1) dX10_isPlace_7 (by decide) ?_
  refine mw_isub dX10_isPlace_8 ?_
  refine mw_i2l dX10_isPlace_9 ?_
  obtain ⟨r1, e2, h⟩ := mbd h
  refine mv_callS_i (As := [.long a1.toInt64, .long (0 : Int64), .long ((eI σ 69 1) - (1 : Int32)).toInt64]) lkS_RX10_57_yX10_in dX10_isPlace_10 (k_X10_in e2) rfl rfl (Nat.le_of_ble_eq_true rfl) (by decide) (by decide) ?_
  obtain ⟨m3, h⟩ := mif h
  exact mw_zret dX10_isPlace_13 rfl m3 (ers_i h) rfl rfl

theorem dX10_isGain_0 : decode cX10_isGain 0 = .ok (.lload_n 0, 1) := by decide +kernel
theorem dX10_isGain_1 : decode cX10_isGain 1 = .ok (.ldc2_w 64, 3) := by decide +kernel
theorem dX10_isGain_4 : decode cX10_isGain 4 = .ok (.ldc2_w 66, 3) := by decide +kernel
theorem dX10_isGain_7 : decode cX10_isGain 7 = .ok (.invokestatic 57, 3) := by decide +kernel
theorem dX10_isGain_10 : decode cX10_isGain 10 = .ok (.ireturn, 1) := by decide +kernel
def e_X10_isGain (a0 : Int64) : Option Int32 := (e_X10_in a0 (-999999999 : Int64) (999999999 : Int64)).bind (fun r1 => if r1 = 0 ∨ r1 = 1 then (some r1) else none)
set_option maxRecDepth 100000 in
set_option maxHeartbeats 4000000 in
theorem k_X10_isGain {l : Launch} {σ : ES} {a0 : Int64} {out : Int32} (h : e_X10_isGain a0 = some out) : MK l yX10_isGain cX10_isGain 2 (some .boolean) 2 [.long a0] (mkS σ) (some (.int out)) (mkS σ) := by
  unfold e_X10_isGain at h
  refine mw_entry (own := RX10) (ini := false) (L := [(0, .long a0)]) (by decide +kernel) rfl (fun h => nomatch h) rfl (Nat.le_of_ble_eq_true rfl) (Nat.le_of_ble_eq_true rfl) (fun E => ?_)
  refine mw_lload_n dX10_isGain_0 0 rfl ?_
  refine mw_ldc2 dX10_isGain_1 wt_603 ?_
  refine mw_ldc2 dX10_isGain_4 wt_604 ?_
  obtain ⟨r1, e2, h⟩ := mbd h
  refine mv_callS_i (As := [.long a0, .long (-999999999 : Int64), .long (999999999 : Int64)]) lkS_RX10_57_yX10_in dX10_isGain_7 (k_X10_in e2) rfl rfl (Nat.le_of_ble_eq_true rfl) (by decide) (by decide) ?_
  obtain ⟨m3, h⟩ := mif h
  exact mw_zret dX10_isGain_10 rfl m3 (ers_i h) rfl rfl

theorem dX10_isTime_0 : decode cX10_isTime 0 = .ok (.iload_n 0, 1) := by decide +kernel
theorem dX10_isTime_1 : decode cX10_isTime 1 = .ok (.i2l, 1) := by decide +kernel
theorem dX10_isTime_2 : decode cX10_isTime 2 = .ok (.lconst 1, 1) := by decide +kernel
theorem dX10_isTime_3 : decode cX10_isTime 3 = .ok (.ldc2_w 68, 3) := by decide +kernel
theorem dX10_isTime_6 : decode cX10_isTime 6 = .ok (.invokestatic 57, 3) := by decide +kernel
theorem dX10_isTime_9 : decode cX10_isTime 9 = .ok (.ireturn, 1) := by decide +kernel
def e_X10_isTime (a0 : Int32) : Option Int32 := (e_X10_in a0.toInt64 (1 : Int64) (999999 : Int64)).bind (fun r1 => if r1 = 0 ∨ r1 = 1 then (some r1) else none)
set_option maxRecDepth 100000 in
set_option maxHeartbeats 4000000 in
theorem k_X10_isTime {l : Launch} {σ : ES} {a0 : Int32} {out : Int32} (h : e_X10_isTime a0 = some out) : MK l yX10_isTime cX10_isTime 1 (some .boolean) 2 [.int a0] (mkS σ) (some (.int out)) (mkS σ) := by
  unfold e_X10_isTime at h
  refine mw_entry (own := RX10) (ini := false) (L := [(0, .int a0)]) (by decide +kernel) rfl (fun h => nomatch h) rfl (Nat.le_of_ble_eq_true rfl) (Nat.le_of_ble_eq_true rfl) (fun E => ?_)
  refine mw_iload_n dX10_isTime_0 0 rfl ?_
  refine mw_i2l dX10_isTime_1 ?_
  refine mw_lconst (v := 1) dX10_isTime_2 (by decide) ?_
  refine mw_ldc2 dX10_isTime_3 wt_608 ?_
  obtain ⟨r1, e2, h⟩ := mbd h
  refine mv_callS_i (As := [.long a0.toInt64, .long (1 : Int64), .long (999999 : Int64)]) lkS_RX10_57_yX10_in dX10_isTime_6 (k_X10_in e2) rfl rfl (Nat.le_of_ble_eq_true rfl) (by decide) (by decide) ?_
  obtain ⟨m3, h⟩ := mif h
  exact mw_zret dX10_isTime_9 rfl m3 (ers_i h) rfl rfl

theorem dX10_addWay_0 : decode cX10_addWay 0 = .ok (.bipush 6, 2) := by decide +kernel
theorem dX10_addWay_2 : decode cX10_addWay 2 = .ok (.aload_n 0, 1) := by decide +kernel
theorem dX10_addWay_3 : decode cX10_addWay 3 = .ok (.getfield 61, 3) := by decide +kernel
theorem dX10_addWay_6 : decode cX10_addWay 6 = .ok (.imul, 1) := by decide +kernel
theorem dX10_addWay_7 : decode cX10_addWay 7 = .ok (.istore 6, 2) := by decide +kernel
theorem dX10_addWay_9 : decode cX10_addWay 9 = .ok (.aload_n 0, 1) := by decide +kernel
theorem dX10_addWay_10 : decode cX10_addWay 10 = .ok (.getfield 19, 3) := by decide +kernel
theorem dX10_addWay_13 : decode cX10_addWay 13 = .ok (.iload 6, 2) := by decide +kernel
theorem dX10_addWay_15 : decode cX10_addWay 15 = .ok (.iload_n 1, 1) := by decide +kernel
theorem dX10_addWay_16 : decode cX10_addWay 16 = .ok (.iastore, 1) := by decide +kernel
theorem dX10_addWay_17 : decode cX10_addWay 17 = .ok (.aload_n 0, 1) := by decide +kernel
theorem dX10_addWay_18 : decode cX10_addWay 18 = .ok (.getfield 19, 3) := by decide +kernel
theorem dX10_addWay_21 : decode cX10_addWay 21 = .ok (.iload 6, 2) := by decide +kernel
theorem dX10_addWay_23 : decode cX10_addWay 23 = .ok (.iconst 1, 1) := by decide +kernel
theorem dX10_addWay_24 : decode cX10_addWay 24 = .ok (.iadd, 1) := by decide +kernel
theorem dX10_addWay_25 : decode cX10_addWay 25 = .ok (.iload_n 2, 1) := by decide +kernel
theorem dX10_addWay_26 : decode cX10_addWay 26 = .ok (.iastore, 1) := by decide +kernel
theorem dX10_addWay_27 : decode cX10_addWay 27 = .ok (.aload_n 0, 1) := by decide +kernel
theorem dX10_addWay_28 : decode cX10_addWay 28 = .ok (.getfield 19, 3) := by decide +kernel
theorem dX10_addWay_31 : decode cX10_addWay 31 = .ok (.iload 6, 2) := by decide +kernel
theorem dX10_addWay_33 : decode cX10_addWay 33 = .ok (.iconst 2, 1) := by decide +kernel
theorem dX10_addWay_34 : decode cX10_addWay 34 = .ok (.iadd, 1) := by decide +kernel
theorem dX10_addWay_35 : decode cX10_addWay 35 = .ok (.iload_n 3, 1) := by decide +kernel
theorem dX10_addWay_36 : decode cX10_addWay 36 = .ok (.iastore, 1) := by decide +kernel
theorem dX10_addWay_37 : decode cX10_addWay 37 = .ok (.aload_n 0, 1) := by decide +kernel
theorem dX10_addWay_38 : decode cX10_addWay 38 = .ok (.getfield 19, 3) := by decide +kernel
theorem dX10_addWay_41 : decode cX10_addWay 41 = .ok (.iload 6, 2) := by decide +kernel
theorem dX10_addWay_43 : decode cX10_addWay 43 = .ok (.iconst 3, 1) := by decide +kernel
theorem dX10_addWay_44 : decode cX10_addWay 44 = .ok (.iadd, 1) := by decide +kernel
theorem dX10_addWay_45 : decode cX10_addWay 45 = .ok (.iload 4, 2) := by decide +kernel
theorem dX10_addWay_47 : decode cX10_addWay 47 = .ok (.iastore, 1) := by decide +kernel
theorem dX10_addWay_48 : decode cX10_addWay 48 = .ok (.aload_n 0, 1) := by decide +kernel
theorem dX10_addWay_49 : decode cX10_addWay 49 = .ok (.getfield 19, 3) := by decide +kernel
theorem dX10_addWay_52 : decode cX10_addWay 52 = .ok (.iload 6, 2) := by decide +kernel
theorem dX10_addWay_54 : decode cX10_addWay 54 = .ok (.iconst 4, 1) := by decide +kernel
theorem dX10_addWay_55 : decode cX10_addWay 55 = .ok (.iadd, 1) := by decide +kernel
theorem dX10_addWay_56 : decode cX10_addWay 56 = .ok (.iload 5, 2) := by decide +kernel
theorem dX10_addWay_58 : decode cX10_addWay 58 = .ok (.iastore, 1) := by decide +kernel
theorem dX10_addWay_59 : decode cX10_addWay 59 = .ok (.aload_n 0, 1) := by decide +kernel
theorem dX10_addWay_60 : decode cX10_addWay 60 = .ok (.getfield 19, 3) := by decide +kernel
theorem dX10_addWay_63 : decode cX10_addWay 63 = .ok (.iload 6, 2) := by decide +kernel
theorem dX10_addWay_65 : decode cX10_addWay 65 = .ok (.iconst 5, 1) := by decide +kernel
theorem dX10_addWay_66 : decode cX10_addWay 66 = .ok (.iadd, 1) := by decide +kernel
theorem dX10_addWay_67 : decode cX10_addWay 67 = .ok (.iconst 0, 1) := by decide +kernel
theorem dX10_addWay_68 : decode cX10_addWay 68 = .ok (.iastore, 1) := by decide +kernel
theorem dX10_addWay_69 : decode cX10_addWay 69 = .ok (.aload_n 0, 1) := by decide +kernel
theorem dX10_addWay_70 : decode cX10_addWay 70 = .ok (.dup, 1) := by decide +kernel
theorem dX10_addWay_71 : decode cX10_addWay 71 = .ok (.getfield 61, 3) := by decide +kernel
theorem dX10_addWay_74 : decode cX10_addWay 74 = .ok (.iconst 1, 1) := by decide +kernel
theorem dX10_addWay_75 : decode cX10_addWay 75 = .ok (.iadd, 1) := by decide +kernel
theorem dX10_addWay_76 : decode cX10_addWay 76 = .ok (.putfield 61, 3) := by decide +kernel
theorem dX10_addWay_79 : decode cX10_addWay 79 = .ok (.return_, 1) := by decide +kernel
def e_X10_addWay (a1 : Int32) (a2 : Int32) (a3 : Int32) (a4 : Int32) (a5 : Int32) (σ : ES) : Option ES := if mib ((6 : Int32) * (eI σ 69 3)) 84 = true then (if mib (((6 : Int32) * (eI σ 69 3)) + (1 : Int32)) 84 = true then (if mib (((6 : Int32) * (eI σ 69 3)) + (2 : Int32)) 84 = true then (if mib (((6 : Int32) * (eI σ 69 3)) + (3 : Int32)) 84 = true then (if mib (((6 : Int32) * (eI σ 69 3)) + (4 : Int32)) 84 = true then (if mib (((6 : Int32) * (eI σ 69 3)) + (5 : Int32)) 84 = true then (some (uI (uI (uI (uI (uI (uI (uI σ 71 ((6 : Int32) * (eI σ 69 3)).toNatClampNeg a1) 71 (((6 : Int32) * (eI σ 69 3)) + (1 : Int32)).toNatClampNeg a2) 71 (((6 : Int32) * (eI σ 69 3)) + (2 : Int32)).toNatClampNeg a3) 71 (((6 : Int32) * (eI σ 69 3)) + (3 : Int32)).toNatClampNeg a4) 71 (((6 : Int32) * (eI σ 69 3)) + (4 : Int32)).toNatClampNeg a5) 71 (((6 : Int32) * (eI σ 69 3)) + (5 : Int32)).toNatClampNeg (0 : Int32)) 69 3 ((eI (uI (uI (uI (uI (uI (uI σ 71 ((6 : Int32) * (eI σ 69 3)).toNatClampNeg a1) 71 (((6 : Int32) * (eI σ 69 3)) + (1 : Int32)).toNatClampNeg a2) 71 (((6 : Int32) * (eI σ 69 3)) + (2 : Int32)).toNatClampNeg a3) 71 (((6 : Int32) * (eI σ 69 3)) + (3 : Int32)).toNatClampNeg a4) 71 (((6 : Int32) * (eI σ 69 3)) + (4 : Int32)).toNatClampNeg a5) 71 (((6 : Int32) * (eI σ 69 3)) + (5 : Int32)).toNatClampNeg (0 : Int32)) 69 3) + (1 : Int32)))) else none) else none) else none) else none) else none) else none
set_option maxRecDepth 100000 in
set_option maxHeartbeats 4000000 in
theorem k_X10_addWay {l : Launch} {σ : ES} {a1 : Int32} {a2 : Int32} {a3 : Int32} {a4 : Int32} {a5 : Int32} {out : ES} (h : e_X10_addWay a1 a2 a3 a4 a5 σ = some out) : MK l yX10_addWay cX10_addWay 7 none 1 [.ref 69, .int a1, .int a2, .int a3, .int a4, .int a5] (mkS σ) none (mkS out) := by
  unfold e_X10_addWay at h
  refine mw_entry (own := RX10) (ini := false) (L := [(0, .ref 69), (1, .int a1), (2, .int a2), (3, .int a3), (4, .int a4), (5, .int a5)]) (by decide +kernel) rfl (fun h => nomatch h) rfl (Nat.le_of_ble_eq_true rfl) (Nat.le_of_ble_eq_true rfl) (fun E => ?_)
  refine mw_bipush (v := 6) dX10_addWay_0 (by decide) ?_
  refine mw_aload_n dX10_addWay_2 0 rfl ?_
  refine ev_getI fd_RX10_61_9 dX10_addWay_3 rfl rfl ?_
  refine mw_imul dX10_addWay_6 ?_
  refine mw_istore (L' := [(6, .int ((6 : Int32) * (eI σ 69 3))), (0, .ref 69), (1, .int a1), (2, .int a2), (3, .int a3), (4, .int a4), (5, .int a5)]) dX10_addWay_7 (by decide) rfl ?_
  refine mw_aload_n dX10_addWay_9 1 rfl ?_
  refine ev_getR (q := 71) fd_RX10_19_9 dX10_addWay_10 rfl rfl rfl ?_
  refine mw_iload dX10_addWay_13 0 rfl ?_
  refine mw_iload_n dX10_addWay_15 2 rfl ?_
  obtain ⟨m1, h⟩ := mif h
  refine ev_iast dX10_addWay_16 (by decide) rfl m1 ?_
  refine mw_aload_n dX10_addWay_17 1 rfl ?_
  refine ev_getR (q := 71) fd_RX10_19_9 dX10_addWay_18 rfl rfl rfl ?_
  refine mw_iload dX10_addWay_21 0 rfl ?_
  refine mw_iconst (v := 1) dX10_addWay_23 (by decide) ?_
  refine mw_iadd dX10_addWay_24 ?_
  refine mw_iload_n dX10_addWay_25 3 rfl ?_
  obtain ⟨m2, h⟩ := mif h
  refine ev_iast dX10_addWay_26 (by decide) rfl m2 ?_
  refine mw_aload_n dX10_addWay_27 1 rfl ?_
  refine ev_getR (q := 71) fd_RX10_19_9 dX10_addWay_28 rfl rfl rfl ?_
  refine mw_iload dX10_addWay_31 0 rfl ?_
  refine mw_iconst (v := 2) dX10_addWay_33 (by decide) ?_
  refine mw_iadd dX10_addWay_34 ?_
  refine mw_iload_n dX10_addWay_35 4 rfl ?_
  obtain ⟨m3, h⟩ := mif h
  refine ev_iast dX10_addWay_36 (by decide) rfl m3 ?_
  refine mw_aload_n dX10_addWay_37 1 rfl ?_
  refine ev_getR (q := 71) fd_RX10_19_9 dX10_addWay_38 rfl rfl rfl ?_
  refine mw_iload dX10_addWay_41 0 rfl ?_
  refine mw_iconst (v := 3) dX10_addWay_43 (by decide) ?_
  refine mw_iadd dX10_addWay_44 ?_
  refine mw_iload dX10_addWay_45 5 rfl ?_
  obtain ⟨m4, h⟩ := mif h
  refine ev_iast dX10_addWay_47 (by decide) rfl m4 ?_
  refine mw_aload_n dX10_addWay_48 1 rfl ?_
  refine ev_getR (q := 71) fd_RX10_19_9 dX10_addWay_49 rfl rfl rfl ?_
  refine mw_iload dX10_addWay_52 0 rfl ?_
  refine mw_iconst (v := 4) dX10_addWay_54 (by decide) ?_
  refine mw_iadd dX10_addWay_55 ?_
  refine mw_iload dX10_addWay_56 6 rfl ?_
  obtain ⟨m5, h⟩ := mif h
  refine ev_iast dX10_addWay_58 (by decide) rfl m5 ?_
  refine mw_aload_n dX10_addWay_59 1 rfl ?_
  refine ev_getR (q := 71) fd_RX10_19_9 dX10_addWay_60 rfl rfl rfl ?_
  refine mw_iload dX10_addWay_63 0 rfl ?_
  refine mw_iconst (v := 5) dX10_addWay_65 (by decide) ?_
  refine mw_iadd dX10_addWay_66 ?_
  refine mw_iconst (v := 0) dX10_addWay_67 (by decide) ?_
  obtain ⟨m6, h⟩ := mif h
  refine ev_iast dX10_addWay_68 (by decide) rfl m6 ?_
  refine mw_aload_n dX10_addWay_69 1 rfl ?_
  refine mw_dup dX10_addWay_70 rfl ?_
  refine ev_getI fd_RX10_61_9 dX10_addWay_71 rfl rfl ?_
  refine mw_iconst (v := 1) dX10_addWay_74 (by decide) ?_
  refine mw_iadd dX10_addWay_75 ?_
  refine ev_putI fw_RX10_61_9 dX10_addWay_76 rfl rfl ?_
  exact mw_vret dX10_addWay_79 rfl (ers_vm h) rfl rfl

theorem dX10_way_0 : decode cX10_way 0 = .ok (.iload_n 1, 1) := by decide +kernel
theorem dX10_way_1 : decode cX10_way 1 = .ok (.i2l, 1) := by decide +kernel
theorem dX10_way_2 : decode cX10_way 2 = .ok (.lconst 0, 1) := by decide +kernel
theorem dX10_way_3 : decode cX10_way 3 = .ok (.ldc2_w 85, 3) := by decide +kernel
theorem dX10_way_6 : decode cX10_way 6 = .ok (.invokestatic 57, 3) := by decide +kernel
theorem dX10_way_9 : decode cX10_way 9 = .ok (.ifCond .eq 41, 3) := by decide +kernel
theorem dX10_way_12 : decode cX10_way 12 = .ok (.aload_n 0, 1) := by decide +kernel
theorem dX10_way_13 : decode cX10_way 13 = .ok (.iload_n 2, 1) := by decide +kernel
theorem dX10_way_14 : decode cX10_way 14 = .ok (.invokevirtual 87, 3) := by decide +kernel
theorem dX10_way_17 : decode cX10_way 17 = .ok (.ifCond .eq 33, 3) := by decide +kernel
theorem dX10_way_20 : decode cX10_way 20 = .ok (.aload_n 0, 1) := by decide +kernel
theorem dX10_way_21 : decode cX10_way 21 = .ok (.iload_n 3, 1) := by decide +kernel
theorem dX10_way_22 : decode cX10_way 22 = .ok (.invokevirtual 87, 3) := by decide +kernel
theorem dX10_way_25 : decode cX10_way 25 = .ok (.ifCond .eq 25, 3) := by decide +kernel
theorem dX10_way_28 : decode cX10_way 28 = .ok (.iload_n 2, 1) := by decide +kernel
theorem dX10_way_29 : decode cX10_way 29 = .ok (.iload_n 3, 1) := by decide +kernel
theorem dX10_way_30 : decode cX10_way 30 = .ok (.if_icmp .eq 20, 3) := by decide +kernel
theorem dX10_way_33 : decode cX10_way 33 = .ok (.iload 4, 2) := by decide +kernel
theorem dX10_way_35 : decode cX10_way 35 = .ok (.i2l, 1) := by decide +kernel
theorem dX10_way_36 : decode cX10_way 36 = .ok (.invokestatic 91, 3) := by decide +kernel
theorem dX10_way_39 : decode cX10_way 39 = .ok (.ifCond .eq 11, 3) := by decide +kernel
theorem dX10_way_42 : decode cX10_way 42 = .ok (.iload 5, 2) := by decide +kernel
theorem dX10_way_44 : decode cX10_way 44 = .ok (.invokestatic 95, 3) := by decide +kernel
theorem dX10_way_47 : decode cX10_way 47 = .ok (.ifCond .ne 9, 3) := by decide +kernel
theorem dX10_way_50 : decode cX10_way 50 = .ok (.aload_n 0, 1) := by decide +kernel
theorem dX10_way_51 : decode cX10_way 51 = .ok (.iconst 0, 1) := by decide +kernel
theorem dX10_way_52 : decode cX10_way 52 = .ok (.invokevirtual 81, 3) := by decide +kernel
theorem dX10_way_55 : decode cX10_way 55 = .ok (.ireturn, 1) := by decide +kernel
theorem dX10_way_56 : decode cX10_way 56 = .ok (.aload_n 0, 1) := by decide +kernel
theorem dX10_way_57 : decode cX10_way 57 = .ok (.getfield 61, 3) := by decide +kernel
theorem dX10_way_60 : decode cX10_way 60 = .ok (.bipush 14, 2) := by decide +kernel
theorem dX10_way_62 : decode cX10_way 62 = .ok (.if_icmp .ne 9, 3) := by decide +kernel
theorem dX10_way_65 : decode cX10_way 65 = .ok (.aload_n 0, 1) := by decide +kernel
theorem dX10_way_66 : decode cX10_way 66 = .ok (.iconst 1, 1) := by decide +kernel
theorem dX10_way_67 : decode cX10_way 67 = .ok (.invokevirtual 81, 3) := by decide +kernel
theorem dX10_way_70 : decode cX10_way 70 = .ok (.ireturn, 1) := by decide +kernel
theorem dX10_way_71 : decode cX10_way 71 = .ok (.aload_n 0, 1) := by decide +kernel
theorem dX10_way_72 : decode cX10_way 72 = .ok (.iload_n 1, 1) := by decide +kernel
theorem dX10_way_73 : decode cX10_way 73 = .ok (.iload_n 2, 1) := by decide +kernel
theorem dX10_way_74 : decode cX10_way 74 = .ok (.iload_n 3, 1) := by decide +kernel
theorem dX10_way_75 : decode cX10_way 75 = .ok (.iload 4, 2) := by decide +kernel
theorem dX10_way_77 : decode cX10_way 77 = .ok (.iload 5, 2) := by decide +kernel
theorem dX10_way_79 : decode cX10_way 79 = .ok (.invokevirtual 98, 3) := by decide +kernel
theorem dX10_way_82 : decode cX10_way 82 = .ok (.aload_n 0, 1) := by decide +kernel
theorem dX10_way_83 : decode cX10_way 83 = .ok (.getfield 61, 3) := by decide +kernel
theorem dX10_way_86 : decode cX10_way 86 = .ok (.iconst 1, 1) := by decide +kernel
theorem dX10_way_87 : decode cX10_way 87 = .ok (.isub, 1) := by decide +kernel
theorem dX10_way_88 : decode cX10_way 88 = .ok (.ireturn, 1) := by decide +kernel
def e_X10_way (a1 : Int32) (a2 : Int32) (a3 : Int32) (a4 : Int32) (a5 : Int32) (σ : ES) : Option (Int32 × ES) := (e_X10_in a1.toInt64 (0 : Int64) (5 : Int64)).bind (fun r1 => if r1 = 0 then ((e_X10_finds (0 : Int32) σ).bind (fun r3 => some (r3.1, r3.2))) else ((e_X10_isPlace σ a2).bind (fun r5 => if r5 = 0 then ((e_X10_finds (0 : Int32) σ).bind (fun r7 => some (r7.1, r7.2))) else ((e_X10_isPlace σ a3).bind (fun r9 => if r9 = 0 then ((e_X10_finds (0 : Int32) σ).bind (fun r11 => some (r11.1, r11.2))) else (if a2 = a3 then ((e_X10_finds (0 : Int32) σ).bind (fun r13 => some (r13.1, r13.2))) else ((e_X10_isGain a4.toInt64).bind (fun r15 => if r15 = 0 then ((e_X10_finds (0 : Int32) σ).bind (fun r17 => some (r17.1, r17.2))) else ((e_X10_isTime a5).bind (fun r19 => if r19 = 0 then ((e_X10_finds (0 : Int32) σ).bind (fun r25 => some (r25.1, r25.2))) else (if (eI σ 69 3) = (14 : Int32) then ((e_X10_finds (1 : Int32) σ).bind (fun r23 => some (r23.1, r23.2))) else ((e_X10_addWay a1 a2 a3 a4 a5 σ).bind (fun r21 => some (((eI r21 69 3) - (1 : Int32)), r21))))))))))))))
set_option maxRecDepth 100000 in
set_option maxHeartbeats 4000000 in
theorem k_X10_way {l : Launch} {σ : ES} {a1 : Int32} {a2 : Int32} {a3 : Int32} {a4 : Int32} {a5 : Int32} {out : (Int32 × ES)} (h : e_X10_way a1 a2 a3 a4 a5 σ = some out) : MK l yX10_way cX10_way 6 (some .int) 3 [.ref 69, .int a1, .int a2, .int a3, .int a4, .int a5] (mkS σ) (some (.int out.1)) (mkS out.2) := by
  unfold e_X10_way at h
  refine mw_entry (own := RX10) (ini := false) (L := [(0, .ref 69), (1, .int a1), (2, .int a2), (3, .int a3), (4, .int a4), (5, .int a5)]) (by decide +kernel) rfl (fun h => nomatch h) rfl (Nat.le_of_ble_eq_true rfl) (Nat.le_of_ble_eq_true rfl) (fun E => ?_)
  refine mw_iload_n dX10_way_0 1 rfl ?_
  refine mw_i2l dX10_way_1 ?_
  refine mw_lconst (v := 0) dX10_way_2 (by decide) ?_
  refine mw_ldc2 dX10_way_3 wt_594 ?_
  obtain ⟨r1, e2, h⟩ := mbd h
  refine mv_callS_i (As := [.long a1.toInt64, .long (0 : Int64), .long (5 : Int64)]) lkS_RX10_57_yX10_in dX10_way_6 (k_X10_in e2) rfl rfl (Nat.le_of_ble_eq_true rfl) (by decide) (by decide) ?_
  refine mw_if_eq (tgt := 50) dX10_way_9 (by decide) (fun hc => ?_) (fun hc => ?_)
  · have h := mit hc h
    refine mw_aload_n dX10_way_50 0 rfl ?_
    refine mw_iconst (v := 0) dX10_way_51 (by decide) ?_
    obtain ⟨r3, e4, h⟩ := mbd h
    refine mv_callV_i (As := [.int (0 : Int32)]) (ci := 9) lkV_RX10_81_yX10_finds dX10_way_52 (k_X10_finds e4) rfl rfl rfl rfl (Nat.le_of_ble_eq_true rfl) (by decide) (by decide) ?_
    exact mw_iret dX10_way_55 rfl (ers_im h) rfl rfl
  · have h := mie hc h
    refine mw_aload_n dX10_way_12 0 rfl ?_
    refine mw_iload_n dX10_way_13 2 rfl ?_
    obtain ⟨r5, e6, h⟩ := mbd h
    refine mv_callV_i (As := [.int a2]) (ci := 9) lkV_RX10_87_yX10_isPlace dX10_way_14 (k_X10_isPlace e6) rfl rfl rfl rfl (Nat.le_of_ble_eq_true rfl) (by decide) (by decide) ?_
    refine mw_if_eq (tgt := 50) dX10_way_17 (by decide) (fun hc => ?_) (fun hc => ?_)
    · have h := mit hc h
      refine mw_aload_n dX10_way_50 0 rfl ?_
      refine mw_iconst (v := 0) dX10_way_51 (by decide) ?_
      obtain ⟨r7, e8, h⟩ := mbd h
      refine mv_callV_i (As := [.int (0 : Int32)]) (ci := 9) lkV_RX10_81_yX10_finds dX10_way_52 (k_X10_finds e8) rfl rfl rfl rfl (Nat.le_of_ble_eq_true rfl) (by decide) (by decide) ?_
      exact mw_iret dX10_way_55 rfl (ers_im h) rfl rfl
    · have h := mie hc h
      refine mw_aload_n dX10_way_20 0 rfl ?_
      refine mw_iload_n dX10_way_21 3 rfl ?_
      obtain ⟨r9, e10, h⟩ := mbd h
      refine mv_callV_i (As := [.int a3]) (ci := 9) lkV_RX10_87_yX10_isPlace dX10_way_22 (k_X10_isPlace e10) rfl rfl rfl rfl (Nat.le_of_ble_eq_true rfl) (by decide) (by decide) ?_
      refine mw_if_eq (tgt := 50) dX10_way_25 (by decide) (fun hc => ?_) (fun hc => ?_)
      · have h := mit hc h
        refine mw_aload_n dX10_way_50 0 rfl ?_
        refine mw_iconst (v := 0) dX10_way_51 (by decide) ?_
        obtain ⟨r11, e12, h⟩ := mbd h
        refine mv_callV_i (As := [.int (0 : Int32)]) (ci := 9) lkV_RX10_81_yX10_finds dX10_way_52 (k_X10_finds e12) rfl rfl rfl rfl (Nat.le_of_ble_eq_true rfl) (by decide) (by decide) ?_
        exact mw_iret dX10_way_55 rfl (ers_im h) rfl rfl
      · have h := mie hc h
        refine mw_iload_n dX10_way_28 2 rfl ?_
        refine mw_iload_n dX10_way_29 3 rfl ?_
        refine mw_icmp_eq (tgt := 50) dX10_way_30 (by decide) (fun hc => ?_) (fun hc => ?_)
        · have h := mit hc h
          refine mw_aload_n dX10_way_50 0 rfl ?_
          refine mw_iconst (v := 0) dX10_way_51 (by decide) ?_
          obtain ⟨r13, e14, h⟩ := mbd h
          refine mv_callV_i (As := [.int (0 : Int32)]) (ci := 9) lkV_RX10_81_yX10_finds dX10_way_52 (k_X10_finds e14) rfl rfl rfl rfl (Nat.le_of_ble_eq_true rfl) (by decide) (by decide) ?_
          exact mw_iret dX10_way_55 rfl (ers_im h) rfl rfl
        · have h := mie hc h
          refine mw_iload dX10_way_33 4 rfl ?_
          refine mw_i2l dX10_way_35 ?_
          obtain ⟨r15, e16, h⟩ := mbd h
          refine mv_callS_i (As := [.long a4.toInt64]) lkS_RX10_91_yX10_isGain dX10_way_36 (k_X10_isGain e16) rfl rfl (Nat.le_of_ble_eq_true rfl) (by decide) (by decide) ?_
          refine mw_if_eq (tgt := 50) dX10_way_39 (by decide) (fun hc => ?_) (fun hc => ?_)
          · have h := mit hc h
            refine mw_aload_n dX10_way_50 0 rfl ?_
            refine mw_iconst (v := 0) dX10_way_51 (by decide) ?_
            obtain ⟨r17, e18, h⟩ := mbd h
            refine mv_callV_i (As := [.int (0 : Int32)]) (ci := 9) lkV_RX10_81_yX10_finds dX10_way_52 (k_X10_finds e18) rfl rfl rfl rfl (Nat.le_of_ble_eq_true rfl) (by decide) (by decide) ?_
            exact mw_iret dX10_way_55 rfl (ers_im h) rfl rfl
          · have h := mie hc h
            refine mw_iload dX10_way_42 5 rfl ?_
            obtain ⟨r19, e20, h⟩ := mbd h
            refine mv_callS_i (As := [.int a5]) lkS_RX10_95_yX10_isTime dX10_way_44 (k_X10_isTime e20) rfl rfl (Nat.le_of_ble_eq_true rfl) (by decide) (by decide) ?_
            refine mw_if_ne (tgt := 56) dX10_way_47 (by decide) (fun hc => ?_) (fun hc => ?_)
            · have h := mie hc h
              refine mw_aload_n dX10_way_56 0 rfl ?_
              refine ev_getI fd_RX10_61_9 dX10_way_57 rfl rfl ?_
              refine mw_bipush (v := 14) dX10_way_60 (by decide) ?_
              refine mw_icmp_ne (tgt := 71) dX10_way_62 (by decide) (fun hc => ?_) (fun hc => ?_)
              · have h := mie hc h
                refine mw_aload_n dX10_way_71 0 rfl ?_
                refine mw_iload_n dX10_way_72 1 rfl ?_
                refine mw_iload_n dX10_way_73 2 rfl ?_
                refine mw_iload_n dX10_way_74 3 rfl ?_
                refine mw_iload dX10_way_75 4 rfl ?_
                refine mw_iload dX10_way_77 5 rfl ?_
                obtain ⟨r21, e22, h⟩ := mbd h
                refine mv_callV_v (As := [.int a1, .int a2, .int a3, .int a4, .int a5]) (ci := 9) lkV_RX10_98_yX10_addWay dX10_way_79 (k_X10_addWay e22) rfl rfl rfl rfl (Nat.le_of_ble_eq_true rfl) (by decide) (by decide) ?_
                refine mw_aload_n dX10_way_82 0 rfl ?_
                refine ev_getI fd_RX10_61_9 dX10_way_83 rfl rfl ?_
                refine mw_iconst (v := 1) dX10_way_86 (by decide) ?_
                refine mw_isub dX10_way_87 ?_
                exact mw_iret dX10_way_88 rfl (ers_im h) rfl rfl
              · have h := mit hc h
                refine mw_aload_n dX10_way_65 0 rfl ?_
                refine mw_iconst (v := 1) dX10_way_66 (by decide) ?_
                obtain ⟨r23, e24, h⟩ := mbd h
                refine mv_callV_i (As := [.int (1 : Int32)]) (ci := 9) lkV_RX10_81_yX10_finds dX10_way_67 (k_X10_finds e24) rfl rfl rfl rfl (Nat.le_of_ble_eq_true rfl) (by decide) (by decide) ?_
                exact mw_iret dX10_way_70 rfl (ers_im h) rfl rfl
            · have h := mit hc h
              refine mw_aload_n dX10_way_50 0 rfl ?_
              refine mw_iconst (v := 0) dX10_way_51 (by decide) ?_
              obtain ⟨r25, e26, h⟩ := mbd h
              refine mv_callV_i (As := [.int (0 : Int32)]) (ci := 9) lkV_RX10_81_yX10_finds dX10_way_52 (k_X10_finds e26) rfl rfl rfl rfl (Nat.le_of_ble_eq_true rfl) (by decide) (by decide) ?_
              exact mw_iret dX10_way_55 rfl (ers_im h) rfl rfl

theorem dX10_isWay_0 : decode cX10_isWay 0 = .ok (.iload_n 1, 1) := by decide +kernel
theorem dX10_isWay_1 : decode cX10_isWay 1 = .ok (.i2l, 1) := by decide +kernel
theorem dX10_isWay_2 : decode cX10_isWay 2 = .ok (.lconst 0, 1) := by decide +kernel
theorem dX10_isWay_3 : decode cX10_isWay 3 = .ok (.aload_n 0, 1) := by decide +kernel
theorem dX10_isWay_4 : decode cX10_isWay 4 = .ok (.getfield 61, 3) := by decide +kernel
theorem dX10_isWay_7 : decode cX10_isWay 7 = .ok (.iconst 1, 1) := by decide +kernel
theorem dX10_isWay_8 : decode cX10_isWay 8 = .ok (.isub, 1) := by decide +kernel
theorem dX10_isWay_9 : decode cX10_isWay 9 = .ok (.i2l, 1) := by decide +kernel
theorem dX10_isWay_10 : decode cX10_isWay 10 = .ok (.invokestatic 57, 3) := by decide +kernel
theorem dX10_isWay_13 : decode cX10_isWay 13 = .ok (.ireturn, 1) := by decide +kernel
def e_X10_isWay (σ : ES) (a1 : Int32) : Option Int32 := (e_X10_in a1.toInt64 (0 : Int64) (((eI σ 69 3) - (1 : Int32)).toInt64)).bind (fun r1 => if r1 = 0 ∨ r1 = 1 then (some r1) else none)
set_option maxRecDepth 100000 in
set_option maxHeartbeats 4000000 in
theorem k_X10_isWay {l : Launch} {σ : ES} {a1 : Int32} {out : Int32} (h : e_X10_isWay σ a1 = some out) : MK l yX10_isWay cX10_isWay 2 (some .boolean) 2 [.ref 69, .int a1] (mkS σ) (some (.int out)) (mkS σ) := by
  unfold e_X10_isWay at h
  refine mw_entry (own := RX10) (ini := false) (L := [(0, .ref 69), (1, .int a1)]) (by decide +kernel) rfl (fun h => nomatch h) rfl (Nat.le_of_ble_eq_true rfl) (Nat.le_of_ble_eq_true rfl) (fun E => ?_)
  refine mw_iload_n dX10_isWay_0 1 rfl ?_
  refine mw_i2l dX10_isWay_1 ?_
  refine mw_lconst (v := 0) dX10_isWay_2 (by decide) ?_
  refine mw_aload_n dX10_isWay_3 0 rfl ?_
  refine ev_getI fd_RX10_61_9 dX10_isWay_4 rfl rfl ?_
  refine mw_iconst (v := 1) dX10_isWay_7 (by decide) ?_
  refine mw_isub dX10_isWay_8 ?_
  refine mw_i2l dX10_isWay_9 ?_
  obtain ⟨r1, e2, h⟩ := mbd h
  refine mv_callS_i (As := [.long a1.toInt64, .long (0 : Int64), .long ((eI σ 69 3) - (1 : Int32)).toInt64]) lkS_RX10_57_yX10_in dX10_isWay_10 (k_X10_in e2) rfl rfl (Nat.le_of_ble_eq_true rfl) (by decide) (by decide) ?_
  obtain ⟨m3, h⟩ := mif h
  exact mw_zret dX10_isWay_13 rfl m3 (ers_i h) rfl rfl

theorem dX10_lasts_0 : decode cX10_lasts 0 = .ok (.aload_n 0, 1) := by decide +kernel
theorem dX10_lasts_1 : decode cX10_lasts 1 = .ok (.iload_n 1, 1) := by decide +kernel
theorem dX10_lasts_2 : decode cX10_lasts 2 = .ok (.iconst 4, 1) := by decide +kernel
theorem dX10_lasts_3 : decode cX10_lasts 3 = .ok (.invokevirtual 70, 3) := by decide +kernel
theorem dX10_lasts_6 : decode cX10_lasts 6 = .ok (.istore_n 2, 1) := by decide +kernel
theorem dX10_lasts_7 : decode cX10_lasts 7 = .ok (.aload_n 0, 1) := by decide +kernel
theorem dX10_lasts_8 : decode cX10_lasts 8 = .ok (.iload_n 1, 1) := by decide +kernel
theorem dX10_lasts_9 : decode cX10_lasts 9 = .ok (.iconst 0, 1) := by decide +kernel
theorem dX10_lasts_10 : decode cX10_lasts 10 = .ok (.invokevirtual 70, 3) := by decide +kernel
theorem dX10_lasts_13 : decode cX10_lasts 13 = .ok (.tableswitch 71 1 5 #[35, 39, 35, 46, 55], 35) := by decide +kernel
theorem dX10_lasts_48 : decode cX10_lasts 48 = .ok (.iload_n 2, 1) := by decide +kernel
theorem dX10_lasts_49 : decode cX10_lasts 49 = .ok (.iconst 1, 1) := by decide +kernel
theorem dX10_lasts_50 : decode cX10_lasts 50 = .ok (.iadd, 1) := by decide +kernel
theorem dX10_lasts_51 : decode cX10_lasts 51 = .ok (.ireturn, 1) := by decide +kernel
theorem dX10_lasts_52 : decode cX10_lasts 52 = .ok (.iload_n 2, 1) := by decide +kernel
theorem dX10_lasts_53 : decode cX10_lasts 53 = .ok (.aload_n 0, 1) := by decide +kernel
theorem dX10_lasts_54 : decode cX10_lasts 54 = .ok (.getfield 74, 3) := by decide +kernel
theorem dX10_lasts_57 : decode cX10_lasts 57 = .ok (.iadd, 1) := by decide +kernel
theorem dX10_lasts_58 : decode cX10_lasts 58 = .ok (.ireturn, 1) := by decide +kernel
theorem dX10_lasts_59 : decode cX10_lasts 59 = .ok (.iconst 2, 1) := by decide +kernel
theorem dX10_lasts_60 : decode cX10_lasts 60 = .ok (.iload_n 2, 1) := by decide +kernel
theorem dX10_lasts_61 : decode cX10_lasts 61 = .ok (.aload_n 0, 1) := by decide +kernel
theorem dX10_lasts_62 : decode cX10_lasts 62 = .ok (.getfield 74, 3) := by decide +kernel
theorem dX10_lasts_65 : decode cX10_lasts 65 = .ok (.iadd, 1) := by decide +kernel
theorem dX10_lasts_66 : decode cX10_lasts 66 = .ok (.imul, 1) := by decide +kernel
theorem dX10_lasts_67 : decode cX10_lasts 67 = .ok (.ireturn, 1) := by decide +kernel
theorem dX10_lasts_68 : decode cX10_lasts 68 = .ok (.aload_n 0, 1) := by decide +kernel
theorem dX10_lasts_69 : decode cX10_lasts 69 = .ok (.getfield 74, 3) := by decide +kernel
theorem dX10_lasts_72 : decode cX10_lasts 72 = .ok (.iconst 3, 1) := by decide +kernel
theorem dX10_lasts_73 : decode cX10_lasts 73 = .ok (.if_icmp .le 9, 3) := by decide +kernel
theorem dX10_lasts_76 : decode cX10_lasts 76 = .ok (.iload_n 2, 1) := by decide +kernel
theorem dX10_lasts_77 : decode cX10_lasts 77 = .ok (.iconst 2, 1) := by decide +kernel
theorem dX10_lasts_78 : decode cX10_lasts 78 = .ok (.iadd, 1) := by decide +kernel
theorem dX10_lasts_79 : decode cX10_lasts 79 = .ok (.goto 4, 3) := by decide +kernel
theorem dX10_lasts_82 : decode cX10_lasts 82 = .ok (.iload_n 2, 1) := by decide +kernel
theorem dX10_lasts_83 : decode cX10_lasts 83 = .ok (.ireturn, 1) := by decide +kernel
theorem dX10_lasts_84 : decode cX10_lasts 84 = .ok (.iload_n 2, 1) := by decide +kernel
theorem dX10_lasts_85 : decode cX10_lasts 85 = .ok (.ireturn, 1) := by decide +kernel
def e_X10_lasts (σ : ES) (a1 : Int32) : Option Int32 := (e_X10_at σ a1 (4 : Int32)).bind (fun r1 => (e_X10_at σ a1 (0 : Int32)).bind (fun r3 => if r3 = 1 then (some (r1 + (1 : Int32))) else (if r3 = 2 then (some (r1 + (eI σ 69 2))) else (if r3 = 3 then (some (r1 + (1 : Int32))) else (if r3 = 4 then (some ((2 : Int32) * (r1 + (eI σ 69 2)))) else (if r3 = 5 then (if (eI σ 69 2) ≤ (3 : Int32) then (some r1) else (some (r1 + (2 : Int32)))) else (some r1)))))))
set_option maxRecDepth 100000 in
set_option maxHeartbeats 4000000 in
theorem k_X10_lasts {l : Launch} {σ : ES} {a1 : Int32} {out : Int32} (h : e_X10_lasts σ a1 = some out) : MK l yX10_lasts cX10_lasts 3 (some .int) 2 [.ref 69, .int a1] (mkS σ) (some (.int out)) (mkS σ) := by
  unfold e_X10_lasts at h
  refine mw_entry (own := RX10) (ini := false) (L := [(0, .ref 69), (1, .int a1)]) (by decide +kernel) rfl (fun h => nomatch h) rfl (Nat.le_of_ble_eq_true rfl) (Nat.le_of_ble_eq_true rfl) (fun E => ?_)
  refine mw_aload_n dX10_lasts_0 0 rfl ?_
  refine mw_iload_n dX10_lasts_1 1 rfl ?_
  refine mw_iconst (v := 4) dX10_lasts_2 (by decide) ?_
  obtain ⟨r1, e2, h⟩ := mbd h
  refine mv_callV_i (As := [.int a1, .int (4 : Int32)]) (ci := 9) lkV_RX10_70_yX10_at dX10_lasts_3 (k_X10_at e2) rfl rfl rfl rfl (Nat.le_of_ble_eq_true rfl) (by decide) (by decide) ?_
  refine mw_istore_n (L' := [(2, .int r1), (0, .ref 69), (1, .int a1)]) dX10_lasts_6 rfl (by decide) rfl ?_
  refine mw_aload_n dX10_lasts_7 1 rfl ?_
  refine mw_iload_n dX10_lasts_8 2 rfl ?_
  refine mw_iconst (v := 0) dX10_lasts_9 (by decide) ?_
  obtain ⟨r3, e4, h⟩ := mbd h
  refine mv_callV_i (As := [.int a1, .int (0 : Int32)]) (ci := 9) lkV_RX10_70_yX10_at dX10_lasts_10 (k_X10_at e4) rfl rfl rfl rfl (Nat.le_of_ble_eq_true rfl) (by decide) (by decide) ?_
  by_cases hs1 : r3 = 1
  · have h := mit hs1 h
    refine mv_tabIn (tgt := 48) 1 dX10_lasts_13 hs1 (by decide) (by decide) rfl (by decide) ?_
    refine mw_iload_n dX10_lasts_48 0 rfl ?_
    refine mw_iconst (v := 1) dX10_lasts_49 (by decide) ?_
    refine mw_iadd dX10_lasts_50 ?_
    exact mw_iret dX10_lasts_51 rfl (ers_i h) rfl rfl
  have h := mie hs1 h
  by_cases hs2 : r3 = 2
  · have h := mit hs2 h
    refine mv_tabIn (tgt := 52) 2 dX10_lasts_13 hs2 (by decide) (by decide) rfl (by decide) ?_
    refine mw_iload_n dX10_lasts_52 0 rfl ?_
    refine mw_aload_n dX10_lasts_53 1 rfl ?_
    refine ev_getI fd_RX10_74_9 dX10_lasts_54 rfl rfl ?_
    refine mw_iadd dX10_lasts_57 ?_
    exact mw_iret dX10_lasts_58 rfl (ers_i h) rfl rfl
  have h := mie hs2 h
  by_cases hs3 : r3 = 3
  · have h := mit hs3 h
    refine mv_tabIn (tgt := 48) 3 dX10_lasts_13 hs3 (by decide) (by decide) rfl (by decide) ?_
    refine mw_iload_n dX10_lasts_48 0 rfl ?_
    refine mw_iconst (v := 1) dX10_lasts_49 (by decide) ?_
    refine mw_iadd dX10_lasts_50 ?_
    exact mw_iret dX10_lasts_51 rfl (ers_i h) rfl rfl
  have h := mie hs3 h
  by_cases hs4 : r3 = 4
  · have h := mit hs4 h
    refine mv_tabIn (tgt := 59) 4 dX10_lasts_13 hs4 (by decide) (by decide) rfl (by decide) ?_
    refine mw_iconst (v := 2) dX10_lasts_59 (by decide) ?_
    refine mw_iload_n dX10_lasts_60 0 rfl ?_
    refine mw_aload_n dX10_lasts_61 1 rfl ?_
    refine ev_getI fd_RX10_74_9 dX10_lasts_62 rfl rfl ?_
    refine mw_iadd dX10_lasts_65 ?_
    refine mw_imul dX10_lasts_66 ?_
    exact mw_iret dX10_lasts_67 rfl (ers_i h) rfl rfl
  have h := mie hs4 h
  by_cases hs5 : r3 = 5
  · have h := mit hs5 h
    refine mv_tabIn (tgt := 68) 5 dX10_lasts_13 hs5 (by decide) (by decide) rfl (by decide) ?_
    refine mw_aload_n dX10_lasts_68 1 rfl ?_
    refine ev_getI fd_RX10_74_9 dX10_lasts_69 rfl rfl ?_
    refine mw_iconst (v := 3) dX10_lasts_72 (by decide) ?_
    refine mw_icmp_le (tgt := 82) dX10_lasts_73 (by decide) (fun hc => ?_) (fun hc => ?_)
    · have h := mit hc h
      refine mw_iload_n dX10_lasts_82 0 rfl ?_
      exact mw_iret dX10_lasts_83 rfl (ers_i h) rfl rfl
    · have h := mie hc h
      refine mw_iload_n dX10_lasts_76 0 rfl ?_
      refine mw_iconst (v := 2) dX10_lasts_77 (by decide) ?_
      refine mw_iadd dX10_lasts_78 ?_
      refine mw_goto (tgt := 83) dX10_lasts_79 (by decide) ?_
      exact mw_iret dX10_lasts_83 rfl (ers_i h) rfl rfl
  have h := mie hs5 h
  have g0 := mne32 hs1
  have g1 := mne32 hs2
  have g2 := mne32 hs3
  have g3 := mne32 hs4
  have g4 := mne32 hs5
  refine mv_tabOut (tgt := 84) dX10_lasts_13 (by simp only [mti_1, mti_2, mti_3, mti_4, mti_5] at g0 g1 g2 g3 g4; omega) (by decide) ?_
  refine mw_iload_n dX10_lasts_84 0 rfl ?_
  exact mw_iret dX10_lasts_85 rfl (ers_i h) rfl rfl

theorem dX10_brings_0 : decode cX10_brings 0 = .ok (.aload_n 0, 1) := by decide +kernel
theorem dX10_brings_1 : decode cX10_brings 1 = .ok (.iload_n 1, 1) := by decide +kernel
theorem dX10_brings_2 : decode cX10_brings 2 = .ok (.iconst 3, 1) := by decide +kernel
theorem dX10_brings_3 : decode cX10_brings 3 = .ok (.invokevirtual 70, 3) := by decide +kernel
theorem dX10_brings_6 : decode cX10_brings 6 = .ok (.istore_n 2, 1) := by decide +kernel
theorem dX10_brings_7 : decode cX10_brings 7 = .ok (.aload_n 0, 1) := by decide +kernel
theorem dX10_brings_8 : decode cX10_brings 8 = .ok (.iload_n 1, 1) := by decide +kernel
theorem dX10_brings_9 : decode cX10_brings 9 = .ok (.iconst 0, 1) := by decide +kernel
theorem dX10_brings_10 : decode cX10_brings 10 = .ok (.invokevirtual 70, 3) := by decide +kernel
theorem dX10_brings_13 : decode cX10_brings 13 = .ok (.tableswitch 91 1 5 #[35, 40, 49, 61, 73], 35) := by decide +kernel
theorem dX10_brings_48 : decode cX10_brings 48 = .ok (.iload_n 2, 1) := by decide +kernel
theorem dX10_brings_49 : decode cX10_brings 49 = .ok (.bipush 7, 2) := by decide +kernel
theorem dX10_brings_51 : decode cX10_brings 51 = .ok (.isub, 1) := by decide +kernel
theorem dX10_brings_52 : decode cX10_brings 52 = .ok (.ireturn, 1) := by decide +kernel
theorem dX10_brings_53 : decode cX10_brings 53 = .ok (.iload_n 2, 1) := by decide +kernel
theorem dX10_brings_54 : decode cX10_brings 54 = .ok (.iconst 5, 1) := by decide +kernel
theorem dX10_brings_55 : decode cX10_brings 55 = .ok (.aload_n 0, 1) := by decide +kernel
theorem dX10_brings_56 : decode cX10_brings 56 = .ok (.getfield 74, 3) := by decide +kernel
theorem dX10_brings_59 : decode cX10_brings 59 = .ok (.imul, 1) := by decide +kernel
theorem dX10_brings_60 : decode cX10_brings 60 = .ok (.isub, 1) := by decide +kernel
theorem dX10_brings_61 : decode cX10_brings 61 = .ok (.ireturn, 1) := by decide +kernel
theorem dX10_brings_62 : decode cX10_brings 62 = .ok (.iload_n 2, 1) := by decide +kernel
theorem dX10_brings_63 : decode cX10_brings 63 = .ok (.bipush 7, 2) := by decide +kernel
theorem dX10_brings_65 : decode cX10_brings 65 = .ok (.isub, 1) := by decide +kernel
theorem dX10_brings_66 : decode cX10_brings 66 = .ok (.iconst 3, 1) := by decide +kernel
theorem dX10_brings_67 : decode cX10_brings 67 = .ok (.aload_n 0, 1) := by decide +kernel
theorem dX10_brings_68 : decode cX10_brings 68 = .ok (.getfield 74, 3) := by decide +kernel
theorem dX10_brings_71 : decode cX10_brings 71 = .ok (.imul, 1) := by decide +kernel
theorem dX10_brings_72 : decode cX10_brings 72 = .ok (.iadd, 1) := by decide +kernel
theorem dX10_brings_73 : decode cX10_brings 73 = .ok (.ireturn, 1) := by decide +kernel
theorem dX10_brings_74 : decode cX10_brings 74 = .ok (.iload_n 2, 1) := by decide +kernel
theorem dX10_brings_75 : decode cX10_brings 75 = .ok (.iconst 5, 1) := by decide +kernel
theorem dX10_brings_76 : decode cX10_brings 76 = .ok (.aload_n 0, 1) := by decide +kernel
theorem dX10_brings_77 : decode cX10_brings 77 = .ok (.getfield 74, 3) := by decide +kernel
theorem dX10_brings_80 : decode cX10_brings 80 = .ok (.imul, 1) := by decide +kernel
theorem dX10_brings_81 : decode cX10_brings 81 = .ok (.isub, 1) := by decide +kernel
theorem dX10_brings_82 : decode cX10_brings 82 = .ok (.bipush 11, 2) := by decide +kernel
theorem dX10_brings_84 : decode cX10_brings 84 = .ok (.isub, 1) := by decide +kernel
theorem dX10_brings_85 : decode cX10_brings 85 = .ok (.ireturn, 1) := by decide +kernel
theorem dX10_brings_86 : decode cX10_brings 86 = .ok (.aload_n 0, 1) := by decide +kernel
theorem dX10_brings_87 : decode cX10_brings 87 = .ok (.getfield 74, 3) := by decide +kernel
theorem dX10_brings_90 : decode cX10_brings 90 = .ok (.iconst 2, 1) := by decide +kernel
theorem dX10_brings_91 : decode cX10_brings 91 = .ok (.irem, 1) := by decide +kernel
theorem dX10_brings_92 : decode cX10_brings 92 = .ok (.ifCond .ne 10, 3) := by decide +kernel
theorem dX10_brings_95 : decode cX10_brings 95 = .ok (.iload_n 2, 1) := by decide +kernel
theorem dX10_brings_96 : decode cX10_brings 96 = .ok (.bipush 9, 2) := by decide +kernel
theorem dX10_brings_98 : decode cX10_brings 98 = .ok (.iadd, 1) := by decide +kernel
theorem dX10_brings_99 : decode cX10_brings 99 = .ok (.goto 4, 3) := by decide +kernel
theorem dX10_brings_102 : decode cX10_brings 102 = .ok (.iload_n 2, 1) := by decide +kernel
theorem dX10_brings_103 : decode cX10_brings 103 = .ok (.ireturn, 1) := by decide +kernel
theorem dX10_brings_104 : decode cX10_brings 104 = .ok (.iload_n 2, 1) := by decide +kernel
theorem dX10_brings_105 : decode cX10_brings 105 = .ok (.ireturn, 1) := by decide +kernel
def e_X10_brings (σ : ES) (a1 : Int32) : Option Int32 := (e_X10_at σ a1 (3 : Int32)).bind (fun r1 => (e_X10_at σ a1 (0 : Int32)).bind (fun r3 => if r3 = 1 then (some (r1 - (7 : Int32))) else (if r3 = 2 then (some (r1 - ((5 : Int32) * (eI σ 69 2)))) else (if r3 = 3 then (some ((r1 - (7 : Int32)) + ((3 : Int32) * (eI σ 69 2)))) else (if r3 = 4 then (some ((r1 - ((5 : Int32) * (eI σ 69 2))) - (11 : Int32))) else (if r3 = 5 then (if ((eI σ 69 2) - (eI σ 69 2) / (2 : Int32) * (2 : Int32)) = 0 then (some (r1 + (9 : Int32))) else (some r1)) else (some r1)))))))
set_option maxRecDepth 100000 in
set_option maxHeartbeats 4000000 in
theorem k_X10_brings {l : Launch} {σ : ES} {a1 : Int32} {out : Int32} (h : e_X10_brings σ a1 = some out) : MK l yX10_brings cX10_brings 3 (some .int) 2 [.ref 69, .int a1] (mkS σ) (some (.int out)) (mkS σ) := by
  unfold e_X10_brings at h
  refine mw_entry (own := RX10) (ini := false) (L := [(0, .ref 69), (1, .int a1)]) (by decide +kernel) rfl (fun h => nomatch h) rfl (Nat.le_of_ble_eq_true rfl) (Nat.le_of_ble_eq_true rfl) (fun E => ?_)
  refine mw_aload_n dX10_brings_0 0 rfl ?_
  refine mw_iload_n dX10_brings_1 1 rfl ?_
  refine mw_iconst (v := 3) dX10_brings_2 (by decide) ?_
  obtain ⟨r1, e2, h⟩ := mbd h
  refine mv_callV_i (As := [.int a1, .int (3 : Int32)]) (ci := 9) lkV_RX10_70_yX10_at dX10_brings_3 (k_X10_at e2) rfl rfl rfl rfl (Nat.le_of_ble_eq_true rfl) (by decide) (by decide) ?_
  refine mw_istore_n (L' := [(2, .int r1), (0, .ref 69), (1, .int a1)]) dX10_brings_6 rfl (by decide) rfl ?_
  refine mw_aload_n dX10_brings_7 1 rfl ?_
  refine mw_iload_n dX10_brings_8 2 rfl ?_
  refine mw_iconst (v := 0) dX10_brings_9 (by decide) ?_
  obtain ⟨r3, e4, h⟩ := mbd h
  refine mv_callV_i (As := [.int a1, .int (0 : Int32)]) (ci := 9) lkV_RX10_70_yX10_at dX10_brings_10 (k_X10_at e4) rfl rfl rfl rfl (Nat.le_of_ble_eq_true rfl) (by decide) (by decide) ?_
  by_cases hs1 : r3 = 1
  · have h := mit hs1 h
    refine mv_tabIn (tgt := 48) 1 dX10_brings_13 hs1 (by decide) (by decide) rfl (by decide) ?_
    refine mw_iload_n dX10_brings_48 0 rfl ?_
    refine mw_bipush (v := 7) dX10_brings_49 (by decide) ?_
    refine mw_isub dX10_brings_51 ?_
    exact mw_iret dX10_brings_52 rfl (ers_i h) rfl rfl
  have h := mie hs1 h
  by_cases hs2 : r3 = 2
  · have h := mit hs2 h
    refine mv_tabIn (tgt := 53) 2 dX10_brings_13 hs2 (by decide) (by decide) rfl (by decide) ?_
    refine mw_iload_n dX10_brings_53 0 rfl ?_
    refine mw_iconst (v := 5) dX10_brings_54 (by decide) ?_
    refine mw_aload_n dX10_brings_55 1 rfl ?_
    refine ev_getI fd_RX10_74_9 dX10_brings_56 rfl rfl ?_
    refine mw_imul dX10_brings_59 ?_
    refine mw_isub dX10_brings_60 ?_
    exact mw_iret dX10_brings_61 rfl (ers_i h) rfl rfl
  have h := mie hs2 h
  by_cases hs3 : r3 = 3
  · have h := mit hs3 h
    refine mv_tabIn (tgt := 62) 3 dX10_brings_13 hs3 (by decide) (by decide) rfl (by decide) ?_
    refine mw_iload_n dX10_brings_62 0 rfl ?_
    refine mw_bipush (v := 7) dX10_brings_63 (by decide) ?_
    refine mw_isub dX10_brings_65 ?_
    refine mw_iconst (v := 3) dX10_brings_66 (by decide) ?_
    refine mw_aload_n dX10_brings_67 1 rfl ?_
    refine ev_getI fd_RX10_74_9 dX10_brings_68 rfl rfl ?_
    refine mw_imul dX10_brings_71 ?_
    refine mw_iadd dX10_brings_72 ?_
    exact mw_iret dX10_brings_73 rfl (ers_i h) rfl rfl
  have h := mie hs3 h
  by_cases hs4 : r3 = 4
  · have h := mit hs4 h
    refine mv_tabIn (tgt := 74) 4 dX10_brings_13 hs4 (by decide) (by decide) rfl (by decide) ?_
    refine mw_iload_n dX10_brings_74 0 rfl ?_
    refine mw_iconst (v := 5) dX10_brings_75 (by decide) ?_
    refine mw_aload_n dX10_brings_76 1 rfl ?_
    refine ev_getI fd_RX10_74_9 dX10_brings_77 rfl rfl ?_
    refine mw_imul dX10_brings_80 ?_
    refine mw_isub dX10_brings_81 ?_
    refine mw_bipush (v := 11) dX10_brings_82 (by decide) ?_
    refine mw_isub dX10_brings_84 ?_
    exact mw_iret dX10_brings_85 rfl (ers_i h) rfl rfl
  have h := mie hs4 h
  by_cases hs5 : r3 = 5
  · have h := mit hs5 h
    refine mv_tabIn (tgt := 86) 5 dX10_brings_13 hs5 (by decide) (by decide) rfl (by decide) ?_
    refine mw_aload_n dX10_brings_86 1 rfl ?_
    refine ev_getI fd_RX10_74_9 dX10_brings_87 rfl rfl ?_
    refine mw_iconst (v := 2) dX10_brings_90 (by decide) ?_
    refine mw_irem dX10_brings_91 (by decide) ?_
    refine mw_if_ne (tgt := 102) dX10_brings_92 (by decide) (fun hc => ?_) (fun hc => ?_)
    · have h := mie hc h
      refine mw_iload_n dX10_brings_102 0 rfl ?_
      exact mw_iret dX10_brings_103 rfl (ers_i h) rfl rfl
    · have h := mit hc h
      refine mw_iload_n dX10_brings_95 0 rfl ?_
      refine mw_bipush (v := 9) dX10_brings_96 (by decide) ?_
      refine mw_iadd dX10_brings_98 ?_
      refine mw_goto (tgt := 103) dX10_brings_99 (by decide) ?_
      exact mw_iret dX10_brings_103 rfl (ers_i h) rfl rfl
  have h := mie hs5 h
  have g0 := mne32 hs1
  have g1 := mne32 hs2
  have g2 := mne32 hs3
  have g3 := mne32 hs4
  have g4 := mne32 hs5
  refine mv_tabOut (tgt := 104) dX10_brings_13 (by simp only [mti_1, mti_2, mti_3, mti_4, mti_5] at g0 g1 g2 g3 g4; omega) (by decide) ?_
  refine mw_iload_n dX10_brings_104 0 rfl ?_
  exact mw_iret dX10_brings_105 rfl (ers_i h) rfl rfl

theorem dX10_of_0 : decode cX10_of 0 = .ok (.aload_n 0, 1) := by decide +kernel
theorem dX10_of_1 : decode cX10_of 1 = .ok (.iload_n 1, 1) := by decide +kernel
theorem dX10_of_2 : decode cX10_of 2 = .ok (.invokevirtual 102, 3) := by decide +kernel
theorem dX10_of_5 : decode cX10_of 5 = .ok (.ifCond .eq 15, 3) := by decide +kernel
theorem dX10_of_8 : decode cX10_of 8 = .ok (.iload_n 2, 1) := by decide +kernel
theorem dX10_of_9 : decode cX10_of 9 = .ok (.i2l, 1) := by decide +kernel
theorem dX10_of_10 : decode cX10_of 10 = .ok (.lconst 0, 1) := by decide +kernel
theorem dX10_of_11 : decode cX10_of 11 = .ok (.ldc2_w 105, 3) := by decide +kernel
theorem dX10_of_14 : decode cX10_of 14 = .ok (.invokestatic 57, 3) := by decide +kernel
theorem dX10_of_17 : decode cX10_of 17 = .ok (.ifCond .ne 9, 3) := by decide +kernel
theorem dX10_of_20 : decode cX10_of 20 = .ok (.aload_n 0, 1) := by decide +kernel
theorem dX10_of_21 : decode cX10_of 21 = .ok (.iconst 0, 1) := by decide +kernel
theorem dX10_of_22 : decode cX10_of 22 = .ok (.invokevirtual 81, 3) := by decide +kernel
theorem dX10_of_25 : decode cX10_of 25 = .ok (.ireturn, 1) := by decide +kernel
theorem dX10_of_26 : decode cX10_of 26 = .ok (.iload_n 2, 1) := by decide +kernel
theorem dX10_of_27 : decode cX10_of 27 = .ok (.bipush 6, 2) := by decide +kernel
theorem dX10_of_29 : decode cX10_of 29 = .ok (.if_icmp .ge 12, 3) := by decide +kernel
theorem dX10_of_32 : decode cX10_of 32 = .ok (.aload_n 0, 1) := by decide +kernel
theorem dX10_of_33 : decode cX10_of 33 = .ok (.iload_n 1, 1) := by decide +kernel
theorem dX10_of_34 : decode cX10_of 34 = .ok (.iload_n 2, 1) := by decide +kernel
theorem dX10_of_35 : decode cX10_of 35 = .ok (.invokevirtual 70, 3) := by decide +kernel
theorem dX10_of_38 : decode cX10_of 38 = .ok (.goto 22, 3) := by decide +kernel
theorem dX10_of_41 : decode cX10_of 41 = .ok (.iload_n 2, 1) := by decide +kernel
theorem dX10_of_42 : decode cX10_of 42 = .ok (.bipush 6, 2) := by decide +kernel
theorem dX10_of_44 : decode cX10_of 44 = .ok (.if_icmp .ne 11, 3) := by decide +kernel
theorem dX10_of_47 : decode cX10_of 47 = .ok (.aload_n 0, 1) := by decide +kernel
theorem dX10_of_48 : decode cX10_of 48 = .ok (.iload_n 1, 1) := by decide +kernel
theorem dX10_of_49 : decode cX10_of 49 = .ok (.invokevirtual 107, 3) := by decide +kernel
theorem dX10_of_52 : decode cX10_of 52 = .ok (.goto 8, 3) := by decide +kernel
theorem dX10_of_55 : decode cX10_of 55 = .ok (.aload_n 0, 1) := by decide +kernel
theorem dX10_of_56 : decode cX10_of 56 = .ok (.iload_n 1, 1) := by decide +kernel
theorem dX10_of_57 : decode cX10_of 57 = .ok (.invokevirtual 110, 3) := by decide +kernel
theorem dX10_of_60 : decode cX10_of 60 = .ok (.ireturn, 1) := by decide +kernel
def e_X10_of (a1 : Int32) (a2 : Int32) (σ : ES) : Option (Int32 × ES) := (e_X10_isWay σ a1).bind (fun r1 => if r1 = 0 then ((e_X10_finds (0 : Int32) σ).bind (fun r3 => some (r3.1, r3.2))) else ((e_X10_in a2.toInt64 (0 : Int64) (7 : Int64)).bind (fun r5 => if r5 = 0 then ((e_X10_finds (0 : Int32) σ).bind (fun r13 => some (r13.1, r13.2))) else (if (6 : Int32) ≤ a2 then (if a2 = (6 : Int32) then ((e_X10_brings σ a1).bind (fun r9 => some (r9, σ))) else ((e_X10_lasts σ a1).bind (fun r7 => some (r7, σ)))) else ((e_X10_at σ a1 a2).bind (fun r11 => some (r11, σ)))))))
set_option maxRecDepth 100000 in
set_option maxHeartbeats 4000000 in
theorem k_X10_of {l : Launch} {σ : ES} {a1 : Int32} {a2 : Int32} {out : (Int32 × ES)} (h : e_X10_of a1 a2 σ = some out) : MK l yX10_of cX10_of 3 (some .int) 3 [.ref 69, .int a1, .int a2] (mkS σ) (some (.int out.1)) (mkS out.2) := by
  unfold e_X10_of at h
  refine mw_entry (own := RX10) (ini := false) (L := [(0, .ref 69), (1, .int a1), (2, .int a2)]) (by decide +kernel) rfl (fun h => nomatch h) rfl (Nat.le_of_ble_eq_true rfl) (Nat.le_of_ble_eq_true rfl) (fun E => ?_)
  refine mw_aload_n dX10_of_0 0 rfl ?_
  refine mw_iload_n dX10_of_1 1 rfl ?_
  obtain ⟨r1, e2, h⟩ := mbd h
  refine mv_callV_i (As := [.int a1]) (ci := 9) lkV_RX10_102_yX10_isWay dX10_of_2 (k_X10_isWay e2) rfl rfl rfl rfl (Nat.le_of_ble_eq_true rfl) (by decide) (by decide) ?_
  refine mw_if_eq (tgt := 20) dX10_of_5 (by decide) (fun hc => ?_) (fun hc => ?_)
  · have h := mit hc h
    refine mw_aload_n dX10_of_20 0 rfl ?_
    refine mw_iconst (v := 0) dX10_of_21 (by decide) ?_
    obtain ⟨r3, e4, h⟩ := mbd h
    refine mv_callV_i (As := [.int (0 : Int32)]) (ci := 9) lkV_RX10_81_yX10_finds dX10_of_22 (k_X10_finds e4) rfl rfl rfl rfl (Nat.le_of_ble_eq_true rfl) (by decide) (by decide) ?_
    exact mw_iret dX10_of_25 rfl (ers_im h) rfl rfl
  · have h := mie hc h
    refine mw_iload_n dX10_of_8 2 rfl ?_
    refine mw_i2l dX10_of_9 ?_
    refine mw_lconst (v := 0) dX10_of_10 (by decide) ?_
    refine mw_ldc2 dX10_of_11 wt_617 ?_
    obtain ⟨r5, e6, h⟩ := mbd h
    refine mv_callS_i (As := [.long a2.toInt64, .long (0 : Int64), .long (7 : Int64)]) lkS_RX10_57_yX10_in dX10_of_14 (k_X10_in e6) rfl rfl (Nat.le_of_ble_eq_true rfl) (by decide) (by decide) ?_
    refine mw_if_ne (tgt := 26) dX10_of_17 (by decide) (fun hc => ?_) (fun hc => ?_)
    · have h := mie hc h
      refine mw_iload_n dX10_of_26 2 rfl ?_
      refine mw_bipush (v := 6) dX10_of_27 (by decide) ?_
      refine mw_icmp_ge (tgt := 41) dX10_of_29 (by decide) (fun hc => ?_) (fun hc => ?_)
      · have h := mit hc h
        refine mw_iload_n dX10_of_41 2 rfl ?_
        refine mw_bipush (v := 6) dX10_of_42 (by decide) ?_
        refine mw_icmp_ne (tgt := 55) dX10_of_44 (by decide) (fun hc => ?_) (fun hc => ?_)
        · have h := mie hc h
          refine mw_aload_n dX10_of_55 0 rfl ?_
          refine mw_iload_n dX10_of_56 1 rfl ?_
          obtain ⟨r7, e8, h⟩ := mbd h
          refine mv_callV_i (As := [.int a1]) (ci := 9) lkV_RX10_110_yX10_lasts dX10_of_57 (k_X10_lasts e8) rfl rfl rfl rfl (Nat.le_of_ble_eq_true rfl) (by decide) (by decide) ?_
          exact mw_iret dX10_of_60 rfl (ers_im h) rfl rfl
        · have h := mit hc h
          refine mw_aload_n dX10_of_47 0 rfl ?_
          refine mw_iload_n dX10_of_48 1 rfl ?_
          obtain ⟨r9, e10, h⟩ := mbd h
          refine mv_callV_i (As := [.int a1]) (ci := 9) lkV_RX10_107_yX10_brings dX10_of_49 (k_X10_brings e10) rfl rfl rfl rfl (Nat.le_of_ble_eq_true rfl) (by decide) (by decide) ?_
          refine mw_goto (tgt := 60) dX10_of_52 (by decide) ?_
          exact mw_iret dX10_of_60 rfl (ers_im h) rfl rfl
      · have h := mie hc h
        refine mw_aload_n dX10_of_32 0 rfl ?_
        refine mw_iload_n dX10_of_33 1 rfl ?_
        refine mw_iload_n dX10_of_34 2 rfl ?_
        obtain ⟨r11, e12, h⟩ := mbd h
        refine mv_callV_i (As := [.int a1, .int a2]) (ci := 9) lkV_RX10_70_yX10_at dX10_of_35 (k_X10_at e12) rfl rfl rfl rfl (Nat.le_of_ble_eq_true rfl) (by decide) (by decide) ?_
        refine mw_goto (tgt := 60) dX10_of_38 (by decide) ?_
        exact mw_iret dX10_of_60 rfl (ers_im h) rfl rfl
    · have h := mit hc h
      refine mw_aload_n dX10_of_20 0 rfl ?_
      refine mw_iconst (v := 0) dX10_of_21 (by decide) ?_
      obtain ⟨r13, e14, h⟩ := mbd h
      refine mv_callV_i (As := [.int (0 : Int32)]) (ci := 9) lkV_RX10_81_yX10_finds dX10_of_22 (k_X10_finds e14) rfl rfl rfl rfl (Nat.le_of_ble_eq_true rfl) (by decide) (by decide) ?_
      exact mw_iret dX10_of_25 rfl (ers_im h) rfl rfl

theorem dX10_mayBe_0 : decode cX10_mayBe 0 = .ok (.iload_n 2, 1) := by decide +kernel
theorem dX10_mayBe_1 : decode cX10_mayBe 1 = .ok (.tableswitch 116 0 5 #[39, 49, 73, 97, 103, 108], 39) := by decide +kernel
theorem dX10_mayBe_40 : decode cX10_mayBe 40 = .ok (.iload_n 3, 1) := by decide +kernel
theorem dX10_mayBe_41 : decode cX10_mayBe 41 = .ok (.i2l, 1) := by decide +kernel
theorem dX10_mayBe_42 : decode cX10_mayBe 42 = .ok (.lconst 0, 1) := by decide +kernel
theorem dX10_mayBe_43 : decode cX10_mayBe 43 = .ok (.ldc2_w 85, 3) := by decide +kernel
theorem dX10_mayBe_46 : decode cX10_mayBe 46 = .ok (.invokestatic 57, 3) := by decide +kernel
theorem dX10_mayBe_49 : decode cX10_mayBe 49 = .ok (.ireturn, 1) := by decide +kernel
theorem dX10_mayBe_50 : decode cX10_mayBe 50 = .ok (.aload_n 0, 1) := by decide +kernel
theorem dX10_mayBe_51 : decode cX10_mayBe 51 = .ok (.iload_n 3, 1) := by decide +kernel
theorem dX10_mayBe_52 : decode cX10_mayBe 52 = .ok (.invokevirtual 87, 3) := by decide +kernel
theorem dX10_mayBe_55 : decode cX10_mayBe 55 = .ok (.ifCond .eq 17, 3) := by decide +kernel
theorem dX10_mayBe_58 : decode cX10_mayBe 58 = .ok (.iload_n 3, 1) := by decide +kernel
theorem dX10_mayBe_59 : decode cX10_mayBe 59 = .ok (.aload_n 0, 1) := by decide +kernel
theorem dX10_mayBe_60 : decode cX10_mayBe 60 = .ok (.iload_n 1, 1) := by decide +kernel
theorem dX10_mayBe_61 : decode cX10_mayBe 61 = .ok (.iconst 2, 1) := by decide +kernel
theorem dX10_mayBe_62 : decode cX10_mayBe 62 = .ok (.invokevirtual 70, 3) := by decide +kernel
theorem dX10_mayBe_65 : decode cX10_mayBe 65 = .ok (.if_icmp .eq 7, 3) := by decide +kernel
theorem dX10_mayBe_68 : decode cX10_mayBe 68 = .ok (.iconst 1, 1) := by decide +kernel
theorem dX10_mayBe_69 : decode cX10_mayBe 69 = .ok (.goto 4, 3) := by decide +kernel
theorem dX10_mayBe_72 : decode cX10_mayBe 72 = .ok (.iconst 0, 1) := by decide +kernel
theorem dX10_mayBe_73 : decode cX10_mayBe 73 = .ok (.ireturn, 1) := by decide +kernel
theorem dX10_mayBe_74 : decode cX10_mayBe 74 = .ok (.aload_n 0, 1) := by decide +kernel
theorem dX10_mayBe_75 : decode cX10_mayBe 75 = .ok (.iload_n 3, 1) := by decide +kernel
theorem dX10_mayBe_76 : decode cX10_mayBe 76 = .ok (.invokevirtual 87, 3) := by decide +kernel
theorem dX10_mayBe_79 : decode cX10_mayBe 79 = .ok (.ifCond .eq 17, 3) := by decide +kernel
theorem dX10_mayBe_82 : decode cX10_mayBe 82 = .ok (.iload_n 3, 1) := by decide +kernel
theorem dX10_mayBe_83 : decode cX10_mayBe 83 = .ok (.aload_n 0, 1) := by decide +kernel
theorem dX10_mayBe_84 : decode cX10_mayBe 84 = .ok (.iload_n 1, 1) := by decide +kernel
theorem dX10_mayBe_85 : decode cX10_mayBe 85 = .ok (.iconst 1, 1) := by decide +kernel
theorem dX10_mayBe_86 : decode cX10_mayBe 86 = .ok (.invokevirtual 70, 3) := by decide +kernel
theorem dX10_mayBe_89 : decode cX10_mayBe 89 = .ok (.if_icmp .eq 7, 3) := by decide +kernel
theorem dX10_mayBe_92 : decode cX10_mayBe 92 = .ok (.iconst 1, 1) := by decide +kernel
theorem dX10_mayBe_93 : decode cX10_mayBe 93 = .ok (.goto 4, 3) := by decide +kernel
theorem dX10_mayBe_96 : decode cX10_mayBe 96 = .ok (.iconst 0, 1) := by decide +kernel
theorem dX10_mayBe_97 : decode cX10_mayBe 97 = .ok (.ireturn, 1) := by decide +kernel
theorem dX10_mayBe_98 : decode cX10_mayBe 98 = .ok (.iload_n 3, 1) := by decide +kernel
theorem dX10_mayBe_99 : decode cX10_mayBe 99 = .ok (.i2l, 1) := by decide +kernel
theorem dX10_mayBe_100 : decode cX10_mayBe 100 = .ok (.invokestatic 91, 3) := by decide +kernel
theorem dX10_mayBe_103 : decode cX10_mayBe 103 = .ok (.ireturn, 1) := by decide +kernel
theorem dX10_mayBe_104 : decode cX10_mayBe 104 = .ok (.iload_n 3, 1) := by decide +kernel
theorem dX10_mayBe_105 : decode cX10_mayBe 105 = .ok (.invokestatic 95, 3) := by decide +kernel
theorem dX10_mayBe_108 : decode cX10_mayBe 108 = .ok (.ireturn, 1) := by decide +kernel
theorem dX10_mayBe_109 : decode cX10_mayBe 109 = .ok (.iload_n 3, 1) := by decide +kernel
theorem dX10_mayBe_110 : decode cX10_mayBe 110 = .ok (.i2l, 1) := by decide +kernel
theorem dX10_mayBe_111 : decode cX10_mayBe 111 = .ok (.lconst 0, 1) := by decide +kernel
theorem dX10_mayBe_112 : decode cX10_mayBe 112 = .ok (.lconst 1, 1) := by decide +kernel
theorem dX10_mayBe_113 : decode cX10_mayBe 113 = .ok (.invokestatic 57, 3) := by decide +kernel
theorem dX10_mayBe_116 : decode cX10_mayBe 116 = .ok (.ireturn, 1) := by decide +kernel
theorem dX10_mayBe_117 : decode cX10_mayBe 117 = .ok (.iconst 0, 1) := by decide +kernel
theorem dX10_mayBe_118 : decode cX10_mayBe 118 = .ok (.ireturn, 1) := by decide +kernel
def e_X10_mayBe (σ : ES) (a1 : Int32) (a2 : Int32) (a3 : Int32) : Option Int32 := if a2 = 0 then ((e_X10_in a3.toInt64 (0 : Int64) (5 : Int64)).bind (fun r1 => if r1 = 0 ∨ r1 = 1 then (some r1) else none)) else (if a2 = 1 then ((e_X10_isPlace σ a3).bind (fun r4 => if r4 = 0 then (some (0 : Int32)) else ((e_X10_at σ a1 (2 : Int32)).bind (fun r6 => if a3 = r6 then (some (0 : Int32)) else (some (1 : Int32)))))) else (if a2 = 2 then ((e_X10_isPlace σ a3).bind (fun r8 => if r8 = 0 then (some (0 : Int32)) else ((e_X10_at σ a1 (1 : Int32)).bind (fun r10 => if a3 = r10 then (some (0 : Int32)) else (some (1 : Int32)))))) else (if a2 = 3 then ((e_X10_isGain a3.toInt64).bind (fun r12 => if r12 = 0 ∨ r12 = 1 then (some r12) else none)) else (if a2 = 4 then ((e_X10_isTime a3).bind (fun r15 => if r15 = 0 ∨ r15 = 1 then (some r15) else none)) else (if a2 = 5 then ((e_X10_in a3.toInt64 (0 : Int64) (1 : Int64)).bind (fun r18 => if r18 = 0 ∨ r18 = 1 then (some r18) else none)) else (some (0 : Int32)))))))
set_option maxRecDepth 100000 in
set_option maxHeartbeats 4000000 in
theorem k_X10_mayBe {l : Launch} {σ : ES} {a1 : Int32} {a2 : Int32} {a3 : Int32} {out : Int32} (h : e_X10_mayBe σ a1 a2 a3 = some out) : MK l yX10_mayBe cX10_mayBe 4 (some .boolean) 3 [.ref 69, .int a1, .int a2, .int a3] (mkS σ) (some (.int out)) (mkS σ) := by
  unfold e_X10_mayBe at h
  refine mw_entry (own := RX10) (ini := false) (L := [(0, .ref 69), (1, .int a1), (2, .int a2), (3, .int a3)]) (by decide +kernel) rfl (fun h => nomatch h) rfl (Nat.le_of_ble_eq_true rfl) (Nat.le_of_ble_eq_true rfl) (fun E => ?_)
  refine mw_iload_n dX10_mayBe_0 2 rfl ?_
  by_cases hs0 : a2 = 0
  · have h := mit hs0 h
    refine mv_tabIn (tgt := 40) 0 dX10_mayBe_1 hs0 (by decide) (by decide) rfl (by decide) ?_
    refine mw_iload_n dX10_mayBe_40 3 rfl ?_
    refine mw_i2l dX10_mayBe_41 ?_
    refine mw_lconst (v := 0) dX10_mayBe_42 (by decide) ?_
    refine mw_ldc2 dX10_mayBe_43 wt_594 ?_
    obtain ⟨r1, e2, h⟩ := mbd h
    refine mv_callS_i (As := [.long a3.toInt64, .long (0 : Int64), .long (5 : Int64)]) lkS_RX10_57_yX10_in dX10_mayBe_46 (k_X10_in e2) rfl rfl (Nat.le_of_ble_eq_true rfl) (by decide) (by decide) ?_
    obtain ⟨m3, h⟩ := mif h
    exact mw_zret dX10_mayBe_49 rfl m3 (ers_i h) rfl rfl
  have h := mie hs0 h
  by_cases hs1 : a2 = 1
  · have h := mit hs1 h
    refine mv_tabIn (tgt := 50) 1 dX10_mayBe_1 hs1 (by decide) (by decide) rfl (by decide) ?_
    refine mw_aload_n dX10_mayBe_50 0 rfl ?_
    refine mw_iload_n dX10_mayBe_51 3 rfl ?_
    obtain ⟨r4, e5, h⟩ := mbd h
    refine mv_callV_i (As := [.int a3]) (ci := 9) lkV_RX10_87_yX10_isPlace dX10_mayBe_52 (k_X10_isPlace e5) rfl rfl rfl rfl (Nat.le_of_ble_eq_true rfl) (by decide) (by decide) ?_
    refine mw_if_eq (tgt := 72) dX10_mayBe_55 (by decide) (fun hc => ?_) (fun hc => ?_)
    · have h := mit hc h
      refine mw_iconst (v := 0) dX10_mayBe_72 (by decide) ?_
      exact mw_zret dX10_mayBe_73 rfl (by decide) (ers_i h) rfl rfl
    · have h := mie hc h
      refine mw_iload_n dX10_mayBe_58 3 rfl ?_
      refine mw_aload_n dX10_mayBe_59 0 rfl ?_
      refine mw_iload_n dX10_mayBe_60 1 rfl ?_
      refine mw_iconst (v := 2) dX10_mayBe_61 (by decide) ?_
      obtain ⟨r6, e7, h⟩ := mbd h
      refine mv_callV_i (As := [.int a1, .int (2 : Int32)]) (ci := 9) lkV_RX10_70_yX10_at dX10_mayBe_62 (k_X10_at e7) rfl rfl rfl rfl (Nat.le_of_ble_eq_true rfl) (by decide) (by decide) ?_
      refine mw_icmp_eq (tgt := 72) dX10_mayBe_65 (by decide) (fun hc => ?_) (fun hc => ?_)
      · have h := mit hc h
        refine mw_iconst (v := 0) dX10_mayBe_72 (by decide) ?_
        exact mw_zret dX10_mayBe_73 rfl (by decide) (ers_i h) rfl rfl
      · have h := mie hc h
        refine mw_iconst (v := 1) dX10_mayBe_68 (by decide) ?_
        refine mw_goto (tgt := 73) dX10_mayBe_69 (by decide) ?_
        exact mw_zret dX10_mayBe_73 rfl (by decide) (ers_i h) rfl rfl
  have h := mie hs1 h
  by_cases hs2 : a2 = 2
  · have h := mit hs2 h
    refine mv_tabIn (tgt := 74) 2 dX10_mayBe_1 hs2 (by decide) (by decide) rfl (by decide) ?_
    refine mw_aload_n dX10_mayBe_74 0 rfl ?_
    refine mw_iload_n dX10_mayBe_75 3 rfl ?_
    obtain ⟨r8, e9, h⟩ := mbd h
    refine mv_callV_i (As := [.int a3]) (ci := 9) lkV_RX10_87_yX10_isPlace dX10_mayBe_76 (k_X10_isPlace e9) rfl rfl rfl rfl (Nat.le_of_ble_eq_true rfl) (by decide) (by decide) ?_
    refine mw_if_eq (tgt := 96) dX10_mayBe_79 (by decide) (fun hc => ?_) (fun hc => ?_)
    · have h := mit hc h
      refine mw_iconst (v := 0) dX10_mayBe_96 (by decide) ?_
      exact mw_zret dX10_mayBe_97 rfl (by decide) (ers_i h) rfl rfl
    · have h := mie hc h
      refine mw_iload_n dX10_mayBe_82 3 rfl ?_
      refine mw_aload_n dX10_mayBe_83 0 rfl ?_
      refine mw_iload_n dX10_mayBe_84 1 rfl ?_
      refine mw_iconst (v := 1) dX10_mayBe_85 (by decide) ?_
      obtain ⟨r10, e11, h⟩ := mbd h
      refine mv_callV_i (As := [.int a1, .int (1 : Int32)]) (ci := 9) lkV_RX10_70_yX10_at dX10_mayBe_86 (k_X10_at e11) rfl rfl rfl rfl (Nat.le_of_ble_eq_true rfl) (by decide) (by decide) ?_
      refine mw_icmp_eq (tgt := 96) dX10_mayBe_89 (by decide) (fun hc => ?_) (fun hc => ?_)
      · have h := mit hc h
        refine mw_iconst (v := 0) dX10_mayBe_96 (by decide) ?_
        exact mw_zret dX10_mayBe_97 rfl (by decide) (ers_i h) rfl rfl
      · have h := mie hc h
        refine mw_iconst (v := 1) dX10_mayBe_92 (by decide) ?_
        refine mw_goto (tgt := 97) dX10_mayBe_93 (by decide) ?_
        exact mw_zret dX10_mayBe_97 rfl (by decide) (ers_i h) rfl rfl
  have h := mie hs2 h
  by_cases hs3 : a2 = 3
  · have h := mit hs3 h
    refine mv_tabIn (tgt := 98) 3 dX10_mayBe_1 hs3 (by decide) (by decide) rfl (by decide) ?_
    refine mw_iload_n dX10_mayBe_98 3 rfl ?_
    refine mw_i2l dX10_mayBe_99 ?_
    obtain ⟨r12, e13, h⟩ := mbd h
    refine mv_callS_i (As := [.long a3.toInt64]) lkS_RX10_91_yX10_isGain dX10_mayBe_100 (k_X10_isGain e13) rfl rfl (Nat.le_of_ble_eq_true rfl) (by decide) (by decide) ?_
    obtain ⟨m14, h⟩ := mif h
    exact mw_zret dX10_mayBe_103 rfl m14 (ers_i h) rfl rfl
  have h := mie hs3 h
  by_cases hs4 : a2 = 4
  · have h := mit hs4 h
    refine mv_tabIn (tgt := 104) 4 dX10_mayBe_1 hs4 (by decide) (by decide) rfl (by decide) ?_
    refine mw_iload_n dX10_mayBe_104 3 rfl ?_
    obtain ⟨r15, e16, h⟩ := mbd h
    refine mv_callS_i (As := [.int a3]) lkS_RX10_95_yX10_isTime dX10_mayBe_105 (k_X10_isTime e16) rfl rfl (Nat.le_of_ble_eq_true rfl) (by decide) (by decide) ?_
    obtain ⟨m17, h⟩ := mif h
    exact mw_zret dX10_mayBe_108 rfl m17 (ers_i h) rfl rfl
  have h := mie hs4 h
  by_cases hs5 : a2 = 5
  · have h := mit hs5 h
    refine mv_tabIn (tgt := 109) 5 dX10_mayBe_1 hs5 (by decide) (by decide) rfl (by decide) ?_
    refine mw_iload_n dX10_mayBe_109 3 rfl ?_
    refine mw_i2l dX10_mayBe_110 ?_
    refine mw_lconst (v := 0) dX10_mayBe_111 (by decide) ?_
    refine mw_lconst (v := 1) dX10_mayBe_112 (by decide) ?_
    obtain ⟨r18, e19, h⟩ := mbd h
    refine mv_callS_i (As := [.long a3.toInt64, .long (0 : Int64), .long (1 : Int64)]) lkS_RX10_57_yX10_in dX10_mayBe_113 (k_X10_in e19) rfl rfl (Nat.le_of_ble_eq_true rfl) (by decide) (by decide) ?_
    obtain ⟨m20, h⟩ := mif h
    exact mw_zret dX10_mayBe_116 rfl m20 (ers_i h) rfl rfl
  have h := mie hs5 h
  have g0 := mne32 hs0
  have g1 := mne32 hs1
  have g2 := mne32 hs2
  have g3 := mne32 hs3
  have g4 := mne32 hs4
  have g5 := mne32 hs5
  refine mv_tabOut (tgt := 117) dX10_mayBe_1 (by simp only [mti_0, mti_1, mti_2, mti_3, mti_4, mti_5] at g0 g1 g2 g3 g4 g5; omega) (by decide) ?_
  refine mw_iconst (v := 0) dX10_mayBe_117 (by decide) ?_
  exact mw_zret dX10_mayBe_118 rfl (by decide) (ers_i h) rfl rfl

theorem dX10_change_0 : decode cX10_change 0 = .ok (.aload_n 0, 1) := by decide +kernel
theorem dX10_change_1 : decode cX10_change 1 = .ok (.iload_n 1, 1) := by decide +kernel
theorem dX10_change_2 : decode cX10_change 2 = .ok (.invokevirtual 102, 3) := by decide +kernel
theorem dX10_change_5 : decode cX10_change 5 = .ok (.ifCond .eq 13, 3) := by decide +kernel
theorem dX10_change_8 : decode cX10_change 8 = .ok (.aload_n 0, 1) := by decide +kernel
theorem dX10_change_9 : decode cX10_change 9 = .ok (.iload_n 1, 1) := by decide +kernel
theorem dX10_change_10 : decode cX10_change 10 = .ok (.iload_n 2, 1) := by decide +kernel
theorem dX10_change_11 : decode cX10_change 11 = .ok (.iload_n 3, 1) := by decide +kernel
theorem dX10_change_12 : decode cX10_change 12 = .ok (.invokevirtual 113, 3) := by decide +kernel
theorem dX10_change_15 : decode cX10_change 15 = .ok (.ifCond .ne 9, 3) := by decide +kernel
theorem dX10_change_18 : decode cX10_change 18 = .ok (.aload_n 0, 1) := by decide +kernel
theorem dX10_change_19 : decode cX10_change 19 = .ok (.iconst 0, 1) := by decide +kernel
theorem dX10_change_20 : decode cX10_change 20 = .ok (.invokevirtual 81, 3) := by decide +kernel
theorem dX10_change_23 : decode cX10_change 23 = .ok (.ireturn, 1) := by decide +kernel
theorem dX10_change_24 : decode cX10_change 24 = .ok (.aload_n 0, 1) := by decide +kernel
theorem dX10_change_25 : decode cX10_change 25 = .ok (.iload_n 1, 1) := by decide +kernel
theorem dX10_change_26 : decode cX10_change 26 = .ok (.iload_n 2, 1) := by decide +kernel
theorem dX10_change_27 : decode cX10_change 27 = .ok (.invokevirtual 70, 3) := by decide +kernel
theorem dX10_change_30 : decode cX10_change 30 = .ok (.istore 4, 2) := by decide +kernel
theorem dX10_change_32 : decode cX10_change 32 = .ok (.aload_n 0, 1) := by decide +kernel
theorem dX10_change_33 : decode cX10_change 33 = .ok (.getfield 19, 3) := by decide +kernel
theorem dX10_change_36 : decode cX10_change 36 = .ok (.bipush 6, 2) := by decide +kernel
theorem dX10_change_38 : decode cX10_change 38 = .ok (.iload_n 1, 1) := by decide +kernel
theorem dX10_change_39 : decode cX10_change 39 = .ok (.imul, 1) := by decide +kernel
theorem dX10_change_40 : decode cX10_change 40 = .ok (.iload_n 2, 1) := by decide +kernel
theorem dX10_change_41 : decode cX10_change 41 = .ok (.iadd, 1) := by decide +kernel
theorem dX10_change_42 : decode cX10_change 42 = .ok (.iload_n 3, 1) := by decide +kernel
theorem dX10_change_43 : decode cX10_change 43 = .ok (.iastore, 1) := by decide +kernel
theorem dX10_change_44 : decode cX10_change 44 = .ok (.iload 4, 2) := by decide +kernel
theorem dX10_change_46 : decode cX10_change 46 = .ok (.ireturn, 1) := by decide +kernel
def e_X10_change (a1 : Int32) (a2 : Int32) (a3 : Int32) (σ : ES) : Option (Int32 × ES) := (e_X10_isWay σ a1).bind (fun r1 => if r1 = 0 then ((e_X10_finds (0 : Int32) σ).bind (fun r3 => some (r3.1, r3.2))) else ((e_X10_mayBe σ a1 a2 a3).bind (fun r5 => if r5 = 0 then ((e_X10_finds (0 : Int32) σ).bind (fun r10 => some (r10.1, r10.2))) else ((e_X10_at σ a1 a2).bind (fun r7 => if mib (((6 : Int32) * a1) + a2) 84 = true then (some (r7, (uI σ 71 (((6 : Int32) * a1) + a2).toNatClampNeg a3))) else none)))))
set_option maxRecDepth 100000 in
set_option maxHeartbeats 4000000 in
theorem k_X10_change {l : Launch} {σ : ES} {a1 : Int32} {a2 : Int32} {a3 : Int32} {out : (Int32 × ES)} (h : e_X10_change a1 a2 a3 σ = some out) : MK l yX10_change cX10_change 5 (some .int) 4 [.ref 69, .int a1, .int a2, .int a3] (mkS σ) (some (.int out.1)) (mkS out.2) := by
  unfold e_X10_change at h
  refine mw_entry (own := RX10) (ini := false) (L := [(0, .ref 69), (1, .int a1), (2, .int a2), (3, .int a3)]) (by decide +kernel) rfl (fun h => nomatch h) rfl (Nat.le_of_ble_eq_true rfl) (Nat.le_of_ble_eq_true rfl) (fun E => ?_)
  refine mw_aload_n dX10_change_0 0 rfl ?_
  refine mw_iload_n dX10_change_1 1 rfl ?_
  obtain ⟨r1, e2, h⟩ := mbd h
  refine mv_callV_i (As := [.int a1]) (ci := 9) lkV_RX10_102_yX10_isWay dX10_change_2 (k_X10_isWay e2) rfl rfl rfl rfl (Nat.le_of_ble_eq_true rfl) (by decide) (by decide) ?_
  refine mw_if_eq (tgt := 18) dX10_change_5 (by decide) (fun hc => ?_) (fun hc => ?_)
  · have h := mit hc h
    refine mw_aload_n dX10_change_18 0 rfl ?_
    refine mw_iconst (v := 0) dX10_change_19 (by decide) ?_
    obtain ⟨r3, e4, h⟩ := mbd h
    refine mv_callV_i (As := [.int (0 : Int32)]) (ci := 9) lkV_RX10_81_yX10_finds dX10_change_20 (k_X10_finds e4) rfl rfl rfl rfl (Nat.le_of_ble_eq_true rfl) (by decide) (by decide) ?_
    exact mw_iret dX10_change_23 rfl (ers_im h) rfl rfl
  · have h := mie hc h
    refine mw_aload_n dX10_change_8 0 rfl ?_
    refine mw_iload_n dX10_change_9 1 rfl ?_
    refine mw_iload_n dX10_change_10 2 rfl ?_
    refine mw_iload_n dX10_change_11 3 rfl ?_
    obtain ⟨r5, e6, h⟩ := mbd h
    refine mv_callV_i (As := [.int a1, .int a2, .int a3]) (ci := 9) lkV_RX10_113_yX10_mayBe dX10_change_12 (k_X10_mayBe e6) rfl rfl rfl rfl (Nat.le_of_ble_eq_true rfl) (by decide) (by decide) ?_
    refine mw_if_ne (tgt := 24) dX10_change_15 (by decide) (fun hc => ?_) (fun hc => ?_)
    · have h := mie hc h
      refine mw_aload_n dX10_change_24 0 rfl ?_
      refine mw_iload_n dX10_change_25 1 rfl ?_
      refine mw_iload_n dX10_change_26 2 rfl ?_
      obtain ⟨r7, e8, h⟩ := mbd h
      refine mv_callV_i (As := [.int a1, .int a2]) (ci := 9) lkV_RX10_70_yX10_at dX10_change_27 (k_X10_at e8) rfl rfl rfl rfl (Nat.le_of_ble_eq_true rfl) (by decide) (by decide) ?_
      refine mw_istore (L' := [(4, .int r7), (0, .ref 69), (1, .int a1), (2, .int a2), (3, .int a3)]) dX10_change_30 (by decide) rfl ?_
      refine mw_aload_n dX10_change_32 1 rfl ?_
      refine ev_getR (q := 71) fd_RX10_19_9 dX10_change_33 rfl rfl rfl ?_
      refine mw_bipush (v := 6) dX10_change_36 (by decide) ?_
      refine mw_iload_n dX10_change_38 2 rfl ?_
      refine mw_imul dX10_change_39 ?_
      refine mw_iload_n dX10_change_40 3 rfl ?_
      refine mw_iadd dX10_change_41 ?_
      refine mw_iload_n dX10_change_42 4 rfl ?_
      obtain ⟨m9, h⟩ := mif h
      refine ev_iast dX10_change_43 (by decide) rfl m9 ?_
      refine mw_iload dX10_change_44 0 rfl ?_
      exact mw_iret dX10_change_46 rfl (ers_im h) rfl rfl
    · have h := mit hc h
      refine mw_aload_n dX10_change_18 0 rfl ?_
      refine mw_iconst (v := 0) dX10_change_19 (by decide) ?_
      obtain ⟨r10, e11, h⟩ := mbd h
      refine mv_callV_i (As := [.int (0 : Int32)]) (ci := 9) lkV_RX10_81_yX10_finds dX10_change_20 (k_X10_finds e11) rfl rfl rfl rfl (Nat.le_of_ble_eq_true rfl) (by decide) (by decide) ?_
      exact mw_iret dX10_change_23 rfl (ers_im h) rfl rfl

theorem dX10_as_0 : decode cX10_as 0 = .ok (.aload_n 0, 1) := by decide +kernel
theorem dX10_as_1 : decode cX10_as 1 = .ok (.iload_n 1, 1) := by decide +kernel
theorem dX10_as_2 : decode cX10_as 2 = .ok (.invokevirtual 102, 3) := by decide +kernel
theorem dX10_as_5 : decode cX10_as 5 = .ok (.ifCond .eq 15, 3) := by decide +kernel
theorem dX10_as_8 : decode cX10_as 8 = .ok (.iload_n 2, 1) := by decide +kernel
theorem dX10_as_9 : decode cX10_as 9 = .ok (.i2l, 1) := by decide +kernel
theorem dX10_as_10 : decode cX10_as 10 = .ok (.lconst 0, 1) := by decide +kernel
theorem dX10_as_11 : decode cX10_as 11 = .ok (.ldc2_w 85, 3) := by decide +kernel
theorem dX10_as_14 : decode cX10_as 14 = .ok (.invokestatic 57, 3) := by decide +kernel
theorem dX10_as_17 : decode cX10_as 17 = .ok (.ifCond .ne 9, 3) := by decide +kernel
theorem dX10_as_20 : decode cX10_as 20 = .ok (.aload_n 0, 1) := by decide +kernel
theorem dX10_as_21 : decode cX10_as 21 = .ok (.iconst 0, 1) := by decide +kernel
theorem dX10_as_22 : decode cX10_as 22 = .ok (.invokevirtual 81, 3) := by decide +kernel
theorem dX10_as_25 : decode cX10_as 25 = .ok (.ireturn, 1) := by decide +kernel
theorem dX10_as_26 : decode cX10_as 26 = .ok (.aload_n 0, 1) := by decide +kernel
theorem dX10_as_27 : decode cX10_as 27 = .ok (.iload_n 1, 1) := by decide +kernel
theorem dX10_as_28 : decode cX10_as 28 = .ok (.iconst 0, 1) := by decide +kernel
theorem dX10_as_29 : decode cX10_as 29 = .ok (.invokevirtual 70, 3) := by decide +kernel
theorem dX10_as_32 : decode cX10_as 32 = .ok (.istore_n 3, 1) := by decide +kernel
theorem dX10_as_33 : decode cX10_as 33 = .ok (.iload_n 2, 1) := by decide +kernel
theorem dX10_as_34 : decode cX10_as 34 = .ok (.ifCond .eq 28, 3) := by decide +kernel
theorem dX10_as_37 : decode cX10_as 37 = .ok (.iload_n 2, 1) := by decide +kernel
theorem dX10_as_38 : decode cX10_as 38 = .ok (.iload_n 3, 1) := by decide +kernel
theorem dX10_as_39 : decode cX10_as 39 = .ok (.if_icmp .eq 23, 3) := by decide +kernel
theorem dX10_as_42 : decode cX10_as 42 = .ok (.iload_n 2, 1) := by decide +kernel
theorem dX10_as_43 : decode cX10_as 43 = .ok (.iconst 1, 1) := by decide +kernel
theorem dX10_as_44 : decode cX10_as 44 = .ok (.if_icmp .ne 8, 3) := by decide +kernel
theorem dX10_as_47 : decode cX10_as 47 = .ok (.iload_n 3, 1) := by decide +kernel
theorem dX10_as_48 : decode cX10_as 48 = .ok (.iconst 3, 1) := by decide +kernel
theorem dX10_as_49 : decode cX10_as 49 = .ok (.if_icmp .eq 13, 3) := by decide +kernel
theorem dX10_as_52 : decode cX10_as 52 = .ok (.iload_n 2, 1) := by decide +kernel
theorem dX10_as_53 : decode cX10_as 53 = .ok (.iconst 2, 1) := by decide +kernel
theorem dX10_as_54 : decode cX10_as 54 = .ok (.if_icmp .ne 12, 3) := by decide +kernel
theorem dX10_as_57 : decode cX10_as 57 = .ok (.iload_n 3, 1) := by decide +kernel
theorem dX10_as_58 : decode cX10_as 58 = .ok (.iconst 4, 1) := by decide +kernel
theorem dX10_as_59 : decode cX10_as 59 = .ok (.if_icmp .ne 7, 3) := by decide +kernel
theorem dX10_as_62 : decode cX10_as 62 = .ok (.iconst 1, 1) := by decide +kernel
theorem dX10_as_63 : decode cX10_as 63 = .ok (.goto 4, 3) := by decide +kernel
theorem dX10_as_66 : decode cX10_as 66 = .ok (.iconst 0, 1) := by decide +kernel
theorem dX10_as_67 : decode cX10_as 67 = .ok (.istore 4, 2) := by decide +kernel
theorem dX10_as_69 : decode cX10_as 69 = .ok (.iload 4, 2) := by decide +kernel
theorem dX10_as_71 : decode cX10_as 71 = .ok (.ifCond .eq 12, 3) := by decide +kernel
theorem dX10_as_74 : decode cX10_as 74 = .ok (.aload_n 0, 1) := by decide +kernel
theorem dX10_as_75 : decode cX10_as 75 = .ok (.iload_n 1, 1) := by decide +kernel
theorem dX10_as_76 : decode cX10_as 76 = .ok (.iconst 3, 1) := by decide +kernel
theorem dX10_as_77 : decode cX10_as 77 = .ok (.invokevirtual 70, 3) := by decide +kernel
theorem dX10_as_80 : decode cX10_as 80 = .ok (.goto 8, 3) := by decide +kernel
theorem dX10_as_83 : decode cX10_as 83 = .ok (.aload_n 0, 1) := by decide +kernel
theorem dX10_as_84 : decode cX10_as 84 = .ok (.iconst 2, 1) := by decide +kernel
theorem dX10_as_85 : decode cX10_as 85 = .ok (.invokevirtual 81, 3) := by decide +kernel
theorem dX10_as_88 : decode cX10_as 88 = .ok (.ireturn, 1) := by decide +kernel
def e_X10_as_J67 (a1 : Int32) (a2 : Int32) (s0 : Int32) (σ : ES) : Option (Int32 × ES) := if s0 = 0 then ((e_X10_finds (2 : Int32) σ).bind (fun r1 => some (r1.1, r1.2))) else ((e_X10_at σ a1 (3 : Int32)).bind (fun r3 => some (r3, σ)))
set_option maxRecDepth 100000 in
set_option maxHeartbeats 4000000 in
theorem p_X10_as_J67 {l : Launch} {E : MX} {out : (Int32 × ES)} {a1 : Int32} {a2 : Int32}  {s0 : Int32} {σ : ES} (h : e_X10_as_J67 a1 a2 s0 σ = some out) : MV l E cX10_as RX10 5 (some .int) 3 (82, (some (.int out.1)), mkS out.2) (mkS σ) 67 [(0, .ref 69), (1, .int a1), (2, .int a2)] [.int s0] := by
  unfold e_X10_as_J67 at h
  refine mw_istore (L' := [(4, .int s0), (0, .ref 69), (1, .int a1), (2, .int a2)]) dX10_as_67 (by decide) rfl ?_
  refine mw_iload dX10_as_69 0 rfl ?_
  refine mw_if_eq (tgt := 83) dX10_as_71 (by decide) (fun hc => ?_) (fun hc => ?_)
  · have h := mit hc h
    refine mw_aload_n dX10_as_83 1 rfl ?_
    refine mw_iconst (v := 2) dX10_as_84 (by decide) ?_
    obtain ⟨r1, e2, h⟩ := mbd h
    refine mv_callV_i (As := [.int (2 : Int32)]) (ci := 9) lkV_RX10_81_yX10_finds dX10_as_85 (k_X10_finds e2) rfl rfl rfl rfl (Nat.le_of_ble_eq_true rfl) (by decide) (by decide) ?_
    exact mw_iret dX10_as_88 rfl (ers_im h) rfl rfl
  · have h := mie hc h
    refine mw_aload_n dX10_as_74 1 rfl ?_
    refine mw_iload_n dX10_as_75 2 rfl ?_
    refine mw_iconst (v := 3) dX10_as_76 (by decide) ?_
    obtain ⟨r3, e4, h⟩ := mbd h
    refine mv_callV_i (As := [.int a1, .int (3 : Int32)]) (ci := 9) lkV_RX10_70_yX10_at dX10_as_77 (k_X10_at e4) rfl rfl rfl rfl (Nat.le_of_ble_eq_true rfl) (by decide) (by decide) ?_
    refine mw_goto (tgt := 88) dX10_as_80 (by decide) ?_
    exact mw_iret dX10_as_88 rfl (ers_im h) rfl rfl
def e_X10_as_J66 (a1 : Int32) (a2 : Int32) (σ : ES) : Option (Int32 × ES) := e_X10_as_J67 a1 a2 (0 : Int32) σ
set_option maxRecDepth 100000 in
set_option maxHeartbeats 4000000 in
theorem p_X10_as_J66 {l : Launch} {E : MX} {out : (Int32 × ES)} {a1 : Int32} {a2 : Int32}  {σ : ES} (h : e_X10_as_J66 a1 a2 σ = some out) : MV l E cX10_as RX10 5 (some .int) 3 (82, (some (.int out.1)), mkS out.2) (mkS σ) 66 [(0, .ref 69), (1, .int a1), (2, .int a2)] [] := by
  unfold e_X10_as_J66 at h
  refine mw_iconst (v := 0) dX10_as_66 (by decide) ?_
  exact mw_sub (L' := [(0, .ref 69), (1, .int a1), (2, .int a2)]) [0, 1, 2] rfl (p_X10_as_J67  h)
def e_X10_as_J62 (a1 : Int32) (a2 : Int32) (σ : ES) : Option (Int32 × ES) := e_X10_as_J67 a1 a2 (1 : Int32) σ
set_option maxRecDepth 100000 in
set_option maxHeartbeats 4000000 in
theorem p_X10_as_J62 {l : Launch} {E : MX} {out : (Int32 × ES)} {a1 : Int32} {a2 : Int32}  {σ : ES} (h : e_X10_as_J62 a1 a2 σ = some out) : MV l E cX10_as RX10 5 (some .int) 3 (82, (some (.int out.1)), mkS out.2) (mkS σ) 62 [(0, .ref 69), (1, .int a1), (2, .int a2)] [] := by
  unfold e_X10_as_J62 at h
  refine mw_iconst (v := 1) dX10_as_62 (by decide) ?_
  refine mw_goto (tgt := 67) dX10_as_63 (by decide) ?_
  exact mw_sub (L' := [(0, .ref 69), (1, .int a1), (2, .int a2)]) [0, 1, 2] rfl (p_X10_as_J67  h)
def e_X10_as_J52 (a1 : Int32) (a2 : Int32) (x3 : Int32) (σ : ES) : Option (Int32 × ES) := if a2 = (2 : Int32) then (if x3 = (4 : Int32) then (e_X10_as_J62 a1 a2 σ) else (e_X10_as_J66 a1 a2 σ)) else (e_X10_as_J66 a1 a2 σ)
set_option maxRecDepth 100000 in
set_option maxHeartbeats 4000000 in
theorem p_X10_as_J52 {l : Launch} {E : MX} {out : (Int32 × ES)} {a1 : Int32} {a2 : Int32}  {x3 : Int32} {σ : ES} (h : e_X10_as_J52 a1 a2 x3 σ = some out) : MV l E cX10_as RX10 5 (some .int) 3 (82, (some (.int out.1)), mkS out.2) (mkS σ) 52 [(0, .ref 69), (1, .int a1), (2, .int a2), (3, .int x3)] [] := by
  unfold e_X10_as_J52 at h
  refine mw_iload_n dX10_as_52 2 rfl ?_
  refine mw_iconst (v := 2) dX10_as_53 (by decide) ?_
  refine mw_icmp_ne (tgt := 66) dX10_as_54 (by decide) (fun hc => ?_) (fun hc => ?_)
  · have h := mie hc h
    exact mw_sub (L' := [(0, .ref 69), (1, .int a1), (2, .int a2)]) [0, 1, 2] rfl (p_X10_as_J66  h)
  · have h := mit hc h
    refine mw_iload_n dX10_as_57 3 rfl ?_
    refine mw_iconst (v := 4) dX10_as_58 (by decide) ?_
    refine mw_icmp_ne (tgt := 66) dX10_as_59 (by decide) (fun hc => ?_) (fun hc => ?_)
    · have h := mie hc h
      exact mw_sub (L' := [(0, .ref 69), (1, .int a1), (2, .int a2)]) [0, 1, 2] rfl (p_X10_as_J66  h)
    · have h := mit hc h
      exact mw_sub (L' := [(0, .ref 69), (1, .int a1), (2, .int a2)]) [0, 1, 2] rfl (p_X10_as_J62  h)
def e_X10_as (a1 : Int32) (a2 : Int32) (σ : ES) : Option (Int32 × ES) := (e_X10_isWay σ a1).bind (fun r1 => if r1 = 0 then ((e_X10_finds (0 : Int32) σ).bind (fun r3 => some (r3.1, r3.2))) else ((e_X10_in a2.toInt64 (0 : Int64) (5 : Int64)).bind (fun r5 => if r5 = 0 then ((e_X10_finds (0 : Int32) σ).bind (fun r9 => some (r9.1, r9.2))) else ((e_X10_at σ a1 (0 : Int32)).bind (fun r7 => if a2 = 0 then (e_X10_as_J62 a1 a2 σ) else (if a2 = r7 then (e_X10_as_J62 a1 a2 σ) else (if a2 = (1 : Int32) then (if r7 = (3 : Int32) then (e_X10_as_J62 a1 a2 σ) else (e_X10_as_J52 a1 a2 r7 σ)) else (e_X10_as_J52 a1 a2 r7 σ))))))))
set_option maxRecDepth 100000 in
set_option maxHeartbeats 4000000 in
theorem k_X10_as {l : Launch} {σ : ES} {a1 : Int32} {a2 : Int32} {out : (Int32 × ES)} (h : e_X10_as a1 a2 σ = some out) : MK l yX10_as cX10_as 5 (some .int) 3 [.ref 69, .int a1, .int a2] (mkS σ) (some (.int out.1)) (mkS out.2) := by
  unfold e_X10_as at h
  refine mw_entry (own := RX10) (ini := false) (L := [(0, .ref 69), (1, .int a1), (2, .int a2)]) (by decide +kernel) rfl (fun h => nomatch h) rfl (Nat.le_of_ble_eq_true rfl) (Nat.le_of_ble_eq_true rfl) (fun E => ?_)
  refine mw_aload_n dX10_as_0 0 rfl ?_
  refine mw_iload_n dX10_as_1 1 rfl ?_
  obtain ⟨r1, e2, h⟩ := mbd h
  refine mv_callV_i (As := [.int a1]) (ci := 9) lkV_RX10_102_yX10_isWay dX10_as_2 (k_X10_isWay e2) rfl rfl rfl rfl (Nat.le_of_ble_eq_true rfl) (by decide) (by decide) ?_
  refine mw_if_eq (tgt := 20) dX10_as_5 (by decide) (fun hc => ?_) (fun hc => ?_)
  · have h := mit hc h
    refine mw_aload_n dX10_as_20 0 rfl ?_
    refine mw_iconst (v := 0) dX10_as_21 (by decide) ?_
    obtain ⟨r3, e4, h⟩ := mbd h
    refine mv_callV_i (As := [.int (0 : Int32)]) (ci := 9) lkV_RX10_81_yX10_finds dX10_as_22 (k_X10_finds e4) rfl rfl rfl rfl (Nat.le_of_ble_eq_true rfl) (by decide) (by decide) ?_
    exact mw_iret dX10_as_25 rfl (ers_im h) rfl rfl
  · have h := mie hc h
    refine mw_iload_n dX10_as_8 2 rfl ?_
    refine mw_i2l dX10_as_9 ?_
    refine mw_lconst (v := 0) dX10_as_10 (by decide) ?_
    refine mw_ldc2 dX10_as_11 wt_594 ?_
    obtain ⟨r5, e6, h⟩ := mbd h
    refine mv_callS_i (As := [.long a2.toInt64, .long (0 : Int64), .long (5 : Int64)]) lkS_RX10_57_yX10_in dX10_as_14 (k_X10_in e6) rfl rfl (Nat.le_of_ble_eq_true rfl) (by decide) (by decide) ?_
    refine mw_if_ne (tgt := 26) dX10_as_17 (by decide) (fun hc => ?_) (fun hc => ?_)
    · have h := mie hc h
      refine mw_aload_n dX10_as_26 0 rfl ?_
      refine mw_iload_n dX10_as_27 1 rfl ?_
      refine mw_iconst (v := 0) dX10_as_28 (by decide) ?_
      obtain ⟨r7, e8, h⟩ := mbd h
      refine mv_callV_i (As := [.int a1, .int (0 : Int32)]) (ci := 9) lkV_RX10_70_yX10_at dX10_as_29 (k_X10_at e8) rfl rfl rfl rfl (Nat.le_of_ble_eq_true rfl) (by decide) (by decide) ?_
      refine mw_istore_n (L' := [(3, .int r7), (0, .ref 69), (1, .int a1), (2, .int a2)]) dX10_as_32 rfl (by decide) rfl ?_
      refine mw_iload_n dX10_as_33 3 rfl ?_
      refine mw_if_eq (tgt := 62) dX10_as_34 (by decide) (fun hc => ?_) (fun hc => ?_)
      · have h := mit hc h
        exact mw_sub (L' := [(0, .ref 69), (1, .int a1), (2, .int a2)]) [1, 2, 3] rfl (p_X10_as_J62  h)
      · have h := mie hc h
        refine mw_iload_n dX10_as_37 3 rfl ?_
        refine mw_iload_n dX10_as_38 0 rfl ?_
        refine mw_icmp_eq (tgt := 62) dX10_as_39 (by decide) (fun hc => ?_) (fun hc => ?_)
        · have h := mit hc h
          exact mw_sub (L' := [(0, .ref 69), (1, .int a1), (2, .int a2)]) [1, 2, 3] rfl (p_X10_as_J62  h)
        · have h := mie hc h
          refine mw_iload_n dX10_as_42 3 rfl ?_
          refine mw_iconst (v := 1) dX10_as_43 (by decide) ?_
          refine mw_icmp_ne (tgt := 52) dX10_as_44 (by decide) (fun hc => ?_) (fun hc => ?_)
          · have h := mie hc h
            exact mw_sub (L' := [(0, .ref 69), (1, .int a1), (2, .int a2), (3, .int r7)]) [1, 2, 3, 0] rfl (p_X10_as_J52  h)
          · have h := mit hc h
            refine mw_iload_n dX10_as_47 0 rfl ?_
            refine mw_iconst (v := 3) dX10_as_48 (by decide) ?_
            refine mw_icmp_eq (tgt := 62) dX10_as_49 (by decide) (fun hc => ?_) (fun hc => ?_)
            · have h := mit hc h
              exact mw_sub (L' := [(0, .ref 69), (1, .int a1), (2, .int a2)]) [1, 2, 3] rfl (p_X10_as_J62  h)
            · have h := mie hc h
              exact mw_sub (L' := [(0, .ref 69), (1, .int a1), (2, .int a2), (3, .int r7)]) [1, 2, 3, 0] rfl (p_X10_as_J52  h)
    · have h := mit hc h
      refine mw_aload_n dX10_as_20 0 rfl ?_
      refine mw_iconst (v := 0) dX10_as_21 (by decide) ?_
      obtain ⟨r9, e10, h⟩ := mbd h
      refine mv_callV_i (As := [.int (0 : Int32)]) (ci := 9) lkV_RX10_81_yX10_finds dX10_as_22 (k_X10_finds e10) rfl rfl rfl rfl (Nat.le_of_ble_eq_true rfl) (by decide) (by decide) ?_
      exact mw_iret dX10_as_25 rfl (ers_im h) rfl rfl

theorem dX10_thing_0 : decode cX10_thing 0 = .ok (.iload_n 1, 1) := by decide +kernel
theorem dX10_thing_1 : decode cX10_thing 1 = .ok (.i2l, 1) := by decide +kernel
theorem dX10_thing_2 : decode cX10_thing 2 = .ok (.invokestatic 91, 3) := by decide +kernel
theorem dX10_thing_5 : decode cX10_thing 5 = .ok (.ifCond .eq 10, 3) := by decide +kernel
theorem dX10_thing_8 : decode cX10_thing 8 = .ok (.iload_n 2, 1) := by decide +kernel
theorem dX10_thing_9 : decode cX10_thing 9 = .ok (.invokestatic 95, 3) := by decide +kernel
theorem dX10_thing_12 : decode cX10_thing 12 = .ok (.ifCond .ne 9, 3) := by decide +kernel
theorem dX10_thing_15 : decode cX10_thing 15 = .ok (.aload_n 0, 1) := by decide +kernel
theorem dX10_thing_16 : decode cX10_thing 16 = .ok (.iconst 0, 1) := by decide +kernel
theorem dX10_thing_17 : decode cX10_thing 17 = .ok (.invokevirtual 81, 3) := by decide +kernel
theorem dX10_thing_20 : decode cX10_thing 20 = .ok (.ireturn, 1) := by decide +kernel
theorem dX10_thing_21 : decode cX10_thing 21 = .ok (.aload_n 0, 1) := by decide +kernel
theorem dX10_thing_22 : decode cX10_thing 22 = .ok (.getfield 117, 3) := by decide +kernel
theorem dX10_thing_25 : decode cX10_thing 25 = .ok (.bipush 12, 2) := by decide +kernel
theorem dX10_thing_27 : decode cX10_thing 27 = .ok (.if_icmp .ne 9, 3) := by decide +kernel
theorem dX10_thing_30 : decode cX10_thing 30 = .ok (.aload_n 0, 1) := by decide +kernel
theorem dX10_thing_31 : decode cX10_thing 31 = .ok (.iconst 1, 1) := by decide +kernel
theorem dX10_thing_32 : decode cX10_thing 32 = .ok (.invokevirtual 81, 3) := by decide +kernel
theorem dX10_thing_35 : decode cX10_thing 35 = .ok (.ireturn, 1) := by decide +kernel
theorem dX10_thing_36 : decode cX10_thing 36 = .ok (.aload_n 0, 1) := by decide +kernel
theorem dX10_thing_37 : decode cX10_thing 37 = .ok (.getfield 22, 3) := by decide +kernel
theorem dX10_thing_40 : decode cX10_thing 40 = .ok (.iconst 2, 1) := by decide +kernel
theorem dX10_thing_41 : decode cX10_thing 41 = .ok (.aload_n 0, 1) := by decide +kernel
theorem dX10_thing_42 : decode cX10_thing 42 = .ok (.getfield 117, 3) := by decide +kernel
theorem dX10_thing_45 : decode cX10_thing 45 = .ok (.imul, 1) := by decide +kernel
theorem dX10_thing_46 : decode cX10_thing 46 = .ok (.iload_n 1, 1) := by decide +kernel
theorem dX10_thing_47 : decode cX10_thing 47 = .ok (.iastore, 1) := by decide +kernel
theorem dX10_thing_48 : decode cX10_thing 48 = .ok (.aload_n 0, 1) := by decide +kernel
theorem dX10_thing_49 : decode cX10_thing 49 = .ok (.getfield 22, 3) := by decide +kernel
theorem dX10_thing_52 : decode cX10_thing 52 = .ok (.iconst 2, 1) := by decide +kernel
theorem dX10_thing_53 : decode cX10_thing 53 = .ok (.aload_n 0, 1) := by decide +kernel
theorem dX10_thing_54 : decode cX10_thing 54 = .ok (.getfield 117, 3) := by decide +kernel
theorem dX10_thing_57 : decode cX10_thing 57 = .ok (.imul, 1) := by decide +kernel
theorem dX10_thing_58 : decode cX10_thing 58 = .ok (.iconst 1, 1) := by decide +kernel
theorem dX10_thing_59 : decode cX10_thing 59 = .ok (.iadd, 1) := by decide +kernel
theorem dX10_thing_60 : decode cX10_thing 60 = .ok (.iload_n 2, 1) := by decide +kernel
theorem dX10_thing_61 : decode cX10_thing 61 = .ok (.iastore, 1) := by decide +kernel
theorem dX10_thing_62 : decode cX10_thing 62 = .ok (.aload_n 0, 1) := by decide +kernel
theorem dX10_thing_63 : decode cX10_thing 63 = .ok (.dup, 1) := by decide +kernel
theorem dX10_thing_64 : decode cX10_thing 64 = .ok (.getfield 117, 3) := by decide +kernel
theorem dX10_thing_67 : decode cX10_thing 67 = .ok (.iconst 1, 1) := by decide +kernel
theorem dX10_thing_68 : decode cX10_thing 68 = .ok (.iadd, 1) := by decide +kernel
theorem dX10_thing_69 : decode cX10_thing 69 = .ok (.putfield 117, 3) := by decide +kernel
theorem dX10_thing_72 : decode cX10_thing 72 = .ok (.aload_n 0, 1) := by decide +kernel
theorem dX10_thing_73 : decode cX10_thing 73 = .ok (.getfield 117, 3) := by decide +kernel
theorem dX10_thing_76 : decode cX10_thing 76 = .ok (.iconst 1, 1) := by decide +kernel
theorem dX10_thing_77 : decode cX10_thing 77 = .ok (.isub, 1) := by decide +kernel
theorem dX10_thing_78 : decode cX10_thing 78 = .ok (.ireturn, 1) := by decide +kernel
def e_X10_thing (a1 : Int32) (a2 : Int32) (σ : ES) : Option (Int32 × ES) := (e_X10_isGain a1.toInt64).bind (fun r1 => if r1 = 0 then ((e_X10_finds (0 : Int32) σ).bind (fun r3 => some (r3.1, r3.2))) else ((e_X10_isTime a2).bind (fun r5 => if r5 = 0 then ((e_X10_finds (0 : Int32) σ).bind (fun r11 => some (r11.1, r11.2))) else (if (eI σ 69 5) = (12 : Int32) then ((e_X10_finds (1 : Int32) σ).bind (fun r9 => some (r9.1, r9.2))) else (if mib ((2 : Int32) * (eI σ 69 5)) 24 = true then (if mib (((2 : Int32) * (eI (uI σ 72 ((2 : Int32) * (eI σ 69 5)).toNatClampNeg a1) 69 5)) + (1 : Int32)) 24 = true then (some (((eI (uI (uI (uI σ 72 ((2 : Int32) * (eI σ 69 5)).toNatClampNeg a1) 72 (((2 : Int32) * (eI (uI σ 72 ((2 : Int32) * (eI σ 69 5)).toNatClampNeg a1) 69 5)) + (1 : Int32)).toNatClampNeg a2) 69 5 ((eI (uI (uI σ 72 ((2 : Int32) * (eI σ 69 5)).toNatClampNeg a1) 72 (((2 : Int32) * (eI (uI σ 72 ((2 : Int32) * (eI σ 69 5)).toNatClampNeg a1) 69 5)) + (1 : Int32)).toNatClampNeg a2) 69 5) + (1 : Int32))) 69 5) - (1 : Int32)), (uI (uI (uI σ 72 ((2 : Int32) * (eI σ 69 5)).toNatClampNeg a1) 72 (((2 : Int32) * (eI (uI σ 72 ((2 : Int32) * (eI σ 69 5)).toNatClampNeg a1) 69 5)) + (1 : Int32)).toNatClampNeg a2) 69 5 ((eI (uI (uI σ 72 ((2 : Int32) * (eI σ 69 5)).toNatClampNeg a1) 72 (((2 : Int32) * (eI (uI σ 72 ((2 : Int32) * (eI σ 69 5)).toNatClampNeg a1) 69 5)) + (1 : Int32)).toNatClampNeg a2) 69 5) + (1 : Int32))))) else none) else none)))))
set_option maxRecDepth 100000 in
set_option maxHeartbeats 4000000 in
theorem k_X10_thing {l : Launch} {σ : ES} {a1 : Int32} {a2 : Int32} {out : (Int32 × ES)} (h : e_X10_thing a1 a2 σ = some out) : MK l yX10_thing cX10_thing 3 (some .int) 3 [.ref 69, .int a1, .int a2] (mkS σ) (some (.int out.1)) (mkS out.2) := by
  unfold e_X10_thing at h
  refine mw_entry (own := RX10) (ini := false) (L := [(0, .ref 69), (1, .int a1), (2, .int a2)]) (by decide +kernel) rfl (fun h => nomatch h) rfl (Nat.le_of_ble_eq_true rfl) (Nat.le_of_ble_eq_true rfl) (fun E => ?_)
  refine mw_iload_n dX10_thing_0 1 rfl ?_
  refine mw_i2l dX10_thing_1 ?_
  obtain ⟨r1, e2, h⟩ := mbd h
  refine mv_callS_i (As := [.long a1.toInt64]) lkS_RX10_91_yX10_isGain dX10_thing_2 (k_X10_isGain e2) rfl rfl (Nat.le_of_ble_eq_true rfl) (by decide) (by decide) ?_
  refine mw_if_eq (tgt := 15) dX10_thing_5 (by decide) (fun hc => ?_) (fun hc => ?_)
  · have h := mit hc h
    refine mw_aload_n dX10_thing_15 0 rfl ?_
    refine mw_iconst (v := 0) dX10_thing_16 (by decide) ?_
    obtain ⟨r3, e4, h⟩ := mbd h
    refine mv_callV_i (As := [.int (0 : Int32)]) (ci := 9) lkV_RX10_81_yX10_finds dX10_thing_17 (k_X10_finds e4) rfl rfl rfl rfl (Nat.le_of_ble_eq_true rfl) (by decide) (by decide) ?_
    exact mw_iret dX10_thing_20 rfl (ers_im h) rfl rfl
  · have h := mie hc h
    refine mw_iload_n dX10_thing_8 2 rfl ?_
    obtain ⟨r5, e6, h⟩ := mbd h
    refine mv_callS_i (As := [.int a2]) lkS_RX10_95_yX10_isTime dX10_thing_9 (k_X10_isTime e6) rfl rfl (Nat.le_of_ble_eq_true rfl) (by decide) (by decide) ?_
    refine mw_if_ne (tgt := 21) dX10_thing_12 (by decide) (fun hc => ?_) (fun hc => ?_)
    · have h := mie hc h
      refine mw_aload_n dX10_thing_21 0 rfl ?_
      refine ev_getI fd_RX10_117_9 dX10_thing_22 rfl rfl ?_
      refine mw_bipush (v := 12) dX10_thing_25 (by decide) ?_
      refine mw_icmp_ne (tgt := 36) dX10_thing_27 (by decide) (fun hc => ?_) (fun hc => ?_)
      · have h := mie hc h
        refine mw_aload_n dX10_thing_36 0 rfl ?_
        refine ev_getR (q := 72) fd_RX10_22_9 dX10_thing_37 rfl rfl rfl ?_
        refine mw_iconst (v := 2) dX10_thing_40 (by decide) ?_
        refine mw_aload_n dX10_thing_41 0 rfl ?_
        refine ev_getI fd_RX10_117_9 dX10_thing_42 rfl rfl ?_
        refine mw_imul dX10_thing_45 ?_
        refine mw_iload_n dX10_thing_46 1 rfl ?_
        obtain ⟨m7, h⟩ := mif h
        refine ev_iast dX10_thing_47 (by decide) rfl m7 ?_
        refine mw_aload_n dX10_thing_48 0 rfl ?_
        refine ev_getR (q := 72) fd_RX10_22_9 dX10_thing_49 rfl rfl rfl ?_
        refine mw_iconst (v := 2) dX10_thing_52 (by decide) ?_
        refine mw_aload_n dX10_thing_53 0 rfl ?_
        refine ev_getI fd_RX10_117_9 dX10_thing_54 rfl rfl ?_
        refine mw_imul dX10_thing_57 ?_
        refine mw_iconst (v := 1) dX10_thing_58 (by decide) ?_
        refine mw_iadd dX10_thing_59 ?_
        refine mw_iload_n dX10_thing_60 2 rfl ?_
        obtain ⟨m8, h⟩ := mif h
        refine ev_iast dX10_thing_61 (by decide) rfl m8 ?_
        refine mw_aload_n dX10_thing_62 0 rfl ?_
        refine mw_dup dX10_thing_63 rfl ?_
        refine ev_getI fd_RX10_117_9 dX10_thing_64 rfl rfl ?_
        refine mw_iconst (v := 1) dX10_thing_67 (by decide) ?_
        refine mw_iadd dX10_thing_68 ?_
        refine ev_putI fw_RX10_117_9 dX10_thing_69 rfl rfl ?_
        refine mw_aload_n dX10_thing_72 0 rfl ?_
        refine ev_getI fd_RX10_117_9 dX10_thing_73 rfl rfl ?_
        refine mw_iconst (v := 1) dX10_thing_76 (by decide) ?_
        refine mw_isub dX10_thing_77 ?_
        exact mw_iret dX10_thing_78 rfl (ers_im h) rfl rfl
      · have h := mit hc h
        refine mw_aload_n dX10_thing_30 0 rfl ?_
        refine mw_iconst (v := 1) dX10_thing_31 (by decide) ?_
        obtain ⟨r9, e10, h⟩ := mbd h
        refine mv_callV_i (As := [.int (1 : Int32)]) (ci := 9) lkV_RX10_81_yX10_finds dX10_thing_32 (k_X10_finds e10) rfl rfl rfl rfl (Nat.le_of_ble_eq_true rfl) (by decide) (by decide) ?_
        exact mw_iret dX10_thing_35 rfl (ers_im h) rfl rfl
    · have h := mit hc h
      refine mw_aload_n dX10_thing_15 0 rfl ?_
      refine mw_iconst (v := 0) dX10_thing_16 (by decide) ?_
      obtain ⟨r11, e12, h⟩ := mbd h
      refine mv_callV_i (As := [.int (0 : Int32)]) (ci := 9) lkV_RX10_81_yX10_finds dX10_thing_17 (k_X10_finds e12) rfl rfl rfl rfl (Nat.le_of_ble_eq_true rfl) (by decide) (by decide) ?_
      exact mw_iret dX10_thing_20 rfl (ers_im h) rfl rfl

theorem dX10_isThing_0 : decode cX10_isThing 0 = .ok (.iload_n 1, 1) := by decide +kernel
theorem dX10_isThing_1 : decode cX10_isThing 1 = .ok (.i2l, 1) := by decide +kernel
theorem dX10_isThing_2 : decode cX10_isThing 2 = .ok (.ldc2_w 120, 3) := by decide +kernel
theorem dX10_isThing_5 : decode cX10_isThing 5 = .ok (.aload_n 0, 1) := by decide +kernel
theorem dX10_isThing_6 : decode cX10_isThing 6 = .ok (.getfield 117, 3) := by decide +kernel
theorem dX10_isThing_9 : decode cX10_isThing 9 = .ok (.iconst 1, 1) := by decide +kernel
theorem dX10_isThing_10 : decode cX10_isThing 10 = .ok (.isub, 1) := by decide +kernel
theorem dX10_isThing_11 : decode cX10_isThing 11 = .ok (.i2l, 1) := by decide +kernel
theorem dX10_isThing_12 : decode cX10_isThing 12 = .ok (.invokestatic 57, 3) := by decide +kernel
theorem dX10_isThing_15 : decode cX10_isThing 15 = .ok (.ireturn, 1) := by decide +kernel
def e_X10_isThing (σ : ES) (a1 : Int32) : Option Int32 := (e_X10_in a1.toInt64 (-1 : Int64) (((eI σ 69 5) - (1 : Int32)).toInt64)).bind (fun r1 => if r1 = 0 ∨ r1 = 1 then (some r1) else none)
set_option maxRecDepth 100000 in
set_option maxHeartbeats 4000000 in
theorem k_X10_isThing {l : Launch} {σ : ES} {a1 : Int32} {out : Int32} (h : e_X10_isThing σ a1 = some out) : MK l yX10_isThing cX10_isThing 2 (some .boolean) 2 [.ref 69, .int a1] (mkS σ) (some (.int out)) (mkS σ) := by
  unfold e_X10_isThing at h
  refine mw_entry (own := RX10) (ini := false) (L := [(0, .ref 69), (1, .int a1)]) (by decide +kernel) rfl (fun h => nomatch h) rfl (Nat.le_of_ble_eq_true rfl) (Nat.le_of_ble_eq_true rfl) (fun E => ?_)
  refine mw_iload_n dX10_isThing_0 1 rfl ?_
  refine mw_i2l dX10_isThing_1 ?_
  refine mw_ldc2 dX10_isThing_2 wt_637 ?_
  refine mw_aload_n dX10_isThing_5 0 rfl ?_
  refine ev_getI fd_RX10_117_9 dX10_isThing_6 rfl rfl ?_
  refine mw_iconst (v := 1) dX10_isThing_9 (by decide) ?_
  refine mw_isub dX10_isThing_10 ?_
  refine mw_i2l dX10_isThing_11 ?_
  obtain ⟨r1, e2, h⟩ := mbd h
  refine mv_callS_i (As := [.long a1.toInt64, .long (-1 : Int64), .long ((eI σ 69 5) - (1 : Int32)).toInt64]) lkS_RX10_57_yX10_in dX10_isThing_12 (k_X10_in e2) rfl rfl (Nat.le_of_ble_eq_true rfl) (by decide) (by decide) ?_
  obtain ⟨m3, h⟩ := mif h
  exact mw_zret dX10_isThing_15 rfl m3 (ers_i h) rfl rfl

theorem dX10_alter_0 : decode cX10_alter 0 = .ok (.aload_n 0, 1) := by decide +kernel
theorem dX10_alter_1 : decode cX10_alter 1 = .ok (.iload_n 1, 1) := by decide +kernel
theorem dX10_alter_2 : decode cX10_alter 2 = .ok (.invokevirtual 122, 3) := by decide +kernel
theorem dX10_alter_5 : decode cX10_alter 5 = .ok (.ifCond .eq 35, 3) := by decide +kernel
theorem dX10_alter_8 : decode cX10_alter 8 = .ok (.iload_n 2, 1) := by decide +kernel
theorem dX10_alter_9 : decode cX10_alter 9 = .ok (.i2l, 1) := by decide +kernel
theorem dX10_alter_10 : decode cX10_alter 10 = .ok (.lconst 0, 1) := by decide +kernel
theorem dX10_alter_11 : decode cX10_alter 11 = .ok (.lconst 1, 1) := by decide +kernel
theorem dX10_alter_12 : decode cX10_alter 12 = .ok (.invokestatic 57, 3) := by decide +kernel
theorem dX10_alter_15 : decode cX10_alter 15 = .ok (.ifCond .eq 25, 3) := by decide +kernel
theorem dX10_alter_18 : decode cX10_alter 18 = .ok (.iload_n 2, 1) := by decide +kernel
theorem dX10_alter_19 : decode cX10_alter 19 = .ok (.ifCond .ne 14, 3) := by decide +kernel
theorem dX10_alter_22 : decode cX10_alter 22 = .ok (.iload_n 3, 1) := by decide +kernel
theorem dX10_alter_23 : decode cX10_alter 23 = .ok (.i2l, 1) := by decide +kernel
theorem dX10_alter_24 : decode cX10_alter 24 = .ok (.invokestatic 91, 3) := by decide +kernel
theorem dX10_alter_27 : decode cX10_alter 27 = .ok (.ifCond .eq 13, 3) := by decide +kernel
theorem dX10_alter_30 : decode cX10_alter 30 = .ok (.goto 16, 3) := by decide +kernel
theorem dX10_alter_33 : decode cX10_alter 33 = .ok (.iload_n 3, 1) := by decide +kernel
theorem dX10_alter_34 : decode cX10_alter 34 = .ok (.invokestatic 95, 3) := by decide +kernel
theorem dX10_alter_37 : decode cX10_alter 37 = .ok (.ifCond .ne 9, 3) := by decide +kernel
theorem dX10_alter_40 : decode cX10_alter 40 = .ok (.aload_n 0, 1) := by decide +kernel
theorem dX10_alter_41 : decode cX10_alter 41 = .ok (.iconst 0, 1) := by decide +kernel
theorem dX10_alter_42 : decode cX10_alter 42 = .ok (.invokevirtual 81, 3) := by decide +kernel
theorem dX10_alter_45 : decode cX10_alter 45 = .ok (.ireturn, 1) := by decide +kernel
theorem dX10_alter_46 : decode cX10_alter 46 = .ok (.iload_n 1, 1) := by decide +kernel
theorem dX10_alter_47 : decode cX10_alter 47 = .ok (.ifCond .ge 12, 3) := by decide +kernel
theorem dX10_alter_50 : decode cX10_alter 50 = .ok (.aload_n 0, 1) := by decide +kernel
theorem dX10_alter_51 : decode cX10_alter 51 = .ok (.getfield 25, 3) := by decide +kernel
theorem dX10_alter_54 : decode cX10_alter 54 = .ok (.iload_n 2, 1) := by decide +kernel
theorem dX10_alter_55 : decode cX10_alter 55 = .ok (.iaload, 1) := by decide +kernel
theorem dX10_alter_56 : decode cX10_alter 56 = .ok (.goto 13, 3) := by decide +kernel
theorem dX10_alter_59 : decode cX10_alter 59 = .ok (.aload_n 0, 1) := by decide +kernel
theorem dX10_alter_60 : decode cX10_alter 60 = .ok (.getfield 22, 3) := by decide +kernel
theorem dX10_alter_63 : decode cX10_alter 63 = .ok (.iconst 2, 1) := by decide +kernel
theorem dX10_alter_64 : decode cX10_alter 64 = .ok (.iload_n 1, 1) := by decide +kernel
theorem dX10_alter_65 : decode cX10_alter 65 = .ok (.imul, 1) := by decide +kernel
theorem dX10_alter_66 : decode cX10_alter 66 = .ok (.iload_n 2, 1) := by decide +kernel
theorem dX10_alter_67 : decode cX10_alter 67 = .ok (.iadd, 1) := by decide +kernel
theorem dX10_alter_68 : decode cX10_alter 68 = .ok (.iaload, 1) := by decide +kernel
theorem dX10_alter_69 : decode cX10_alter 69 = .ok (.istore 4, 2) := by decide +kernel
theorem dX10_alter_71 : decode cX10_alter 71 = .ok (.iload_n 1, 1) := by decide +kernel
theorem dX10_alter_72 : decode cX10_alter 72 = .ok (.ifCond .ge 13, 3) := by decide +kernel
theorem dX10_alter_75 : decode cX10_alter 75 = .ok (.aload_n 0, 1) := by decide +kernel
theorem dX10_alter_76 : decode cX10_alter 76 = .ok (.getfield 25, 3) := by decide +kernel
theorem dX10_alter_79 : decode cX10_alter 79 = .ok (.iload_n 2, 1) := by decide +kernel
theorem dX10_alter_80 : decode cX10_alter 80 = .ok (.iload_n 3, 1) := by decide +kernel
theorem dX10_alter_81 : decode cX10_alter 81 = .ok (.iastore, 1) := by decide +kernel
theorem dX10_alter_82 : decode cX10_alter 82 = .ok (.goto 14, 3) := by decide +kernel
theorem dX10_alter_85 : decode cX10_alter 85 = .ok (.aload_n 0, 1) := by decide +kernel
theorem dX10_alter_86 : decode cX10_alter 86 = .ok (.getfield 22, 3) := by decide +kernel
theorem dX10_alter_89 : decode cX10_alter 89 = .ok (.iconst 2, 1) := by decide +kernel
theorem dX10_alter_90 : decode cX10_alter 90 = .ok (.iload_n 1, 1) := by decide +kernel
theorem dX10_alter_91 : decode cX10_alter 91 = .ok (.imul, 1) := by decide +kernel
theorem dX10_alter_92 : decode cX10_alter 92 = .ok (.iload_n 2, 1) := by decide +kernel
theorem dX10_alter_93 : decode cX10_alter 93 = .ok (.iadd, 1) := by decide +kernel
theorem dX10_alter_94 : decode cX10_alter 94 = .ok (.iload_n 3, 1) := by decide +kernel
theorem dX10_alter_95 : decode cX10_alter 95 = .ok (.iastore, 1) := by decide +kernel
theorem dX10_alter_96 : decode cX10_alter 96 = .ok (.iload 4, 2) := by decide +kernel
theorem dX10_alter_98 : decode cX10_alter 98 = .ok (.ireturn, 1) := by decide +kernel
def e_X10_alter_J69 (a1 : Int32) (a2 : Int32) (a3 : Int32) (s0 : Int32) (σ : ES) : Option (Int32 × ES) := if 0 ≤ a1 then (if mib (((2 : Int32) * a1) + a2) 24 = true then (some (s0, (uI σ 72 (((2 : Int32) * a1) + a2).toNatClampNeg a3))) else none) else (if mib a2 2 = true then (some (s0, (uI σ 73 a2.toNatClampNeg a3))) else none)
set_option maxRecDepth 100000 in
set_option maxHeartbeats 4000000 in
theorem p_X10_alter_J69 {l : Launch} {E : MX} {out : (Int32 × ES)} {a1 : Int32} {a2 : Int32} {a3 : Int32}  {s0 : Int32} {σ : ES} (h : e_X10_alter_J69 a1 a2 a3 s0 σ = some out) : MV l E cX10_alter RX10 5 (some .int) 3 (82, (some (.int out.1)), mkS out.2) (mkS σ) 69 [(0, .ref 69), (1, .int a1), (2, .int a2), (3, .int a3)] [.int s0] := by
  unfold e_X10_alter_J69 at h
  refine mw_istore (L' := [(4, .int s0), (0, .ref 69), (1, .int a1), (2, .int a2), (3, .int a3)]) dX10_alter_69 (by decide) rfl ?_
  refine mw_iload_n dX10_alter_71 2 rfl ?_
  refine mw_if_ge (tgt := 85) dX10_alter_72 (by decide) (fun hc => ?_) (fun hc => ?_)
  · have h := mit hc h
    refine mw_aload_n dX10_alter_85 1 rfl ?_
    refine ev_getR (q := 72) fd_RX10_22_9 dX10_alter_86 rfl rfl rfl ?_
    refine mw_iconst (v := 2) dX10_alter_89 (by decide) ?_
    refine mw_iload_n dX10_alter_90 2 rfl ?_
    refine mw_imul dX10_alter_91 ?_
    refine mw_iload_n dX10_alter_92 3 rfl ?_
    refine mw_iadd dX10_alter_93 ?_
    refine mw_iload_n dX10_alter_94 4 rfl ?_
    obtain ⟨m1, h⟩ := mif h
    refine ev_iast dX10_alter_95 (by decide) rfl m1 ?_
    refine mw_iload dX10_alter_96 0 rfl ?_
    exact mw_iret dX10_alter_98 rfl (ers_im h) rfl rfl
  · have h := mie hc h
    refine mw_aload_n dX10_alter_75 1 rfl ?_
    refine ev_getR (q := 73) fd_RX10_25_9 dX10_alter_76 rfl rfl rfl ?_
    refine mw_iload_n dX10_alter_79 3 rfl ?_
    refine mw_iload_n dX10_alter_80 4 rfl ?_
    obtain ⟨m2, h⟩ := mif h
    refine ev_iast dX10_alter_81 (by decide) rfl m2 ?_
    refine mw_goto (tgt := 96) dX10_alter_82 (by decide) ?_
    refine mw_iload dX10_alter_96 0 rfl ?_
    exact mw_iret dX10_alter_98 rfl (ers_im h) rfl rfl
def e_X10_alter_J46 (a1 : Int32) (a2 : Int32) (a3 : Int32) (σ : ES) : Option (Int32 × ES) := if 0 ≤ a1 then (if mib (((2 : Int32) * a1) + a2) 24 = true then (e_X10_alter_J69 a1 a2 a3 (eI σ 72 (((2 : Int32) * a1) + a2).toNatClampNeg) σ) else none) else (if mib a2 2 = true then (e_X10_alter_J69 a1 a2 a3 (eI σ 73 a2.toNatClampNeg) σ) else none)
set_option maxRecDepth 100000 in
set_option maxHeartbeats 4000000 in
theorem p_X10_alter_J46 {l : Launch} {E : MX} {out : (Int32 × ES)} {a1 : Int32} {a2 : Int32} {a3 : Int32}  {σ : ES} (h : e_X10_alter_J46 a1 a2 a3 σ = some out) : MV l E cX10_alter RX10 5 (some .int) 3 (82, (some (.int out.1)), mkS out.2) (mkS σ) 46 [(0, .ref 69), (1, .int a1), (2, .int a2), (3, .int a3)] [] := by
  unfold e_X10_alter_J46 at h
  refine mw_iload_n dX10_alter_46 1 rfl ?_
  refine mw_if_ge (tgt := 59) dX10_alter_47 (by decide) (fun hc => ?_) (fun hc => ?_)
  · have h := mit hc h
    refine mw_aload_n dX10_alter_59 0 rfl ?_
    refine ev_getR (q := 72) fd_RX10_22_9 dX10_alter_60 rfl rfl rfl ?_
    refine mw_iconst (v := 2) dX10_alter_63 (by decide) ?_
    refine mw_iload_n dX10_alter_64 1 rfl ?_
    refine mw_imul dX10_alter_65 ?_
    refine mw_iload_n dX10_alter_66 2 rfl ?_
    refine mw_iadd dX10_alter_67 ?_
    obtain ⟨m1, h⟩ := mif h
    refine ev_iald dX10_alter_68 (by decide) rfl m1 ?_
    exact mw_sub (L' := [(0, .ref 69), (1, .int a1), (2, .int a2), (3, .int a3)]) [0, 1, 2, 3] rfl (p_X10_alter_J69  h)
  · have h := mie hc h
    refine mw_aload_n dX10_alter_50 0 rfl ?_
    refine ev_getR (q := 73) fd_RX10_25_9 dX10_alter_51 rfl rfl rfl ?_
    refine mw_iload_n dX10_alter_54 2 rfl ?_
    obtain ⟨m2, h⟩ := mif h
    refine ev_iald dX10_alter_55 (by decide) rfl m2 ?_
    refine mw_goto (tgt := 69) dX10_alter_56 (by decide) ?_
    exact mw_sub (L' := [(0, .ref 69), (1, .int a1), (2, .int a2), (3, .int a3)]) [0, 1, 2, 3] rfl (p_X10_alter_J69  h)
def e_X10_alter (a1 : Int32) (a2 : Int32) (a3 : Int32) (σ : ES) : Option (Int32 × ES) := (e_X10_isThing σ a1).bind (fun r1 => if r1 = 0 then ((e_X10_finds (0 : Int32) σ).bind (fun r3 => some (r3.1, r3.2))) else ((e_X10_in a2.toInt64 (0 : Int64) (1 : Int64)).bind (fun r5 => if r5 = 0 then ((e_X10_finds (0 : Int32) σ).bind (fun r7 => some (r7.1, r7.2))) else (if a2 = 0 then ((e_X10_isGain a3.toInt64).bind (fun r13 => if r13 = 0 then ((e_X10_finds (0 : Int32) σ).bind (fun r15 => some (r15.1, r15.2))) else (e_X10_alter_J46 a1 a2 a3 σ))) else ((e_X10_isTime a3).bind (fun r9 => if r9 = 0 then ((e_X10_finds (0 : Int32) σ).bind (fun r11 => some (r11.1, r11.2))) else (e_X10_alter_J46 a1 a2 a3 σ)))))))
set_option maxRecDepth 100000 in
set_option maxHeartbeats 4000000 in
theorem k_X10_alter {l : Launch} {σ : ES} {a1 : Int32} {a2 : Int32} {a3 : Int32} {out : (Int32 × ES)} (h : e_X10_alter a1 a2 a3 σ = some out) : MK l yX10_alter cX10_alter 5 (some .int) 3 [.ref 69, .int a1, .int a2, .int a3] (mkS σ) (some (.int out.1)) (mkS out.2) := by
  unfold e_X10_alter at h
  refine mw_entry (own := RX10) (ini := false) (L := [(0, .ref 69), (1, .int a1), (2, .int a2), (3, .int a3)]) (by decide +kernel) rfl (fun h => nomatch h) rfl (Nat.le_of_ble_eq_true rfl) (Nat.le_of_ble_eq_true rfl) (fun E => ?_)
  refine mw_aload_n dX10_alter_0 0 rfl ?_
  refine mw_iload_n dX10_alter_1 1 rfl ?_
  obtain ⟨r1, e2, h⟩ := mbd h
  refine mv_callV_i (As := [.int a1]) (ci := 9) lkV_RX10_122_yX10_isThing dX10_alter_2 (k_X10_isThing e2) rfl rfl rfl rfl (Nat.le_of_ble_eq_true rfl) (by decide) (by decide) ?_
  refine mw_if_eq (tgt := 40) dX10_alter_5 (by decide) (fun hc => ?_) (fun hc => ?_)
  · have h := mit hc h
    refine mw_aload_n dX10_alter_40 0 rfl ?_
    refine mw_iconst (v := 0) dX10_alter_41 (by decide) ?_
    obtain ⟨r3, e4, h⟩ := mbd h
    refine mv_callV_i (As := [.int (0 : Int32)]) (ci := 9) lkV_RX10_81_yX10_finds dX10_alter_42 (k_X10_finds e4) rfl rfl rfl rfl (Nat.le_of_ble_eq_true rfl) (by decide) (by decide) ?_
    exact mw_iret dX10_alter_45 rfl (ers_im h) rfl rfl
  · have h := mie hc h
    refine mw_iload_n dX10_alter_8 2 rfl ?_
    refine mw_i2l dX10_alter_9 ?_
    refine mw_lconst (v := 0) dX10_alter_10 (by decide) ?_
    refine mw_lconst (v := 1) dX10_alter_11 (by decide) ?_
    obtain ⟨r5, e6, h⟩ := mbd h
    refine mv_callS_i (As := [.long a2.toInt64, .long (0 : Int64), .long (1 : Int64)]) lkS_RX10_57_yX10_in dX10_alter_12 (k_X10_in e6) rfl rfl (Nat.le_of_ble_eq_true rfl) (by decide) (by decide) ?_
    refine mw_if_eq (tgt := 40) dX10_alter_15 (by decide) (fun hc => ?_) (fun hc => ?_)
    · have h := mit hc h
      refine mw_aload_n dX10_alter_40 0 rfl ?_
      refine mw_iconst (v := 0) dX10_alter_41 (by decide) ?_
      obtain ⟨r7, e8, h⟩ := mbd h
      refine mv_callV_i (As := [.int (0 : Int32)]) (ci := 9) lkV_RX10_81_yX10_finds dX10_alter_42 (k_X10_finds e8) rfl rfl rfl rfl (Nat.le_of_ble_eq_true rfl) (by decide) (by decide) ?_
      exact mw_iret dX10_alter_45 rfl (ers_im h) rfl rfl
    · have h := mie hc h
      refine mw_iload_n dX10_alter_18 2 rfl ?_
      refine mw_if_ne (tgt := 33) dX10_alter_19 (by decide) (fun hc => ?_) (fun hc => ?_)
      · have h := mie hc h
        refine mw_iload_n dX10_alter_33 3 rfl ?_
        obtain ⟨r9, e10, h⟩ := mbd h
        refine mv_callS_i (As := [.int a3]) lkS_RX10_95_yX10_isTime dX10_alter_34 (k_X10_isTime e10) rfl rfl (Nat.le_of_ble_eq_true rfl) (by decide) (by decide) ?_
        refine mw_if_ne (tgt := 46) dX10_alter_37 (by decide) (fun hc => ?_) (fun hc => ?_)
        · have h := mie hc h
          exact mw_sub (L' := [(0, .ref 69), (1, .int a1), (2, .int a2), (3, .int a3)]) [0, 1, 2, 3] rfl (p_X10_alter_J46  h)
        · have h := mit hc h
          refine mw_aload_n dX10_alter_40 0 rfl ?_
          refine mw_iconst (v := 0) dX10_alter_41 (by decide) ?_
          obtain ⟨r11, e12, h⟩ := mbd h
          refine mv_callV_i (As := [.int (0 : Int32)]) (ci := 9) lkV_RX10_81_yX10_finds dX10_alter_42 (k_X10_finds e12) rfl rfl rfl rfl (Nat.le_of_ble_eq_true rfl) (by decide) (by decide) ?_
          exact mw_iret dX10_alter_45 rfl (ers_im h) rfl rfl
      · have h := mit hc h
        refine mw_iload_n dX10_alter_22 3 rfl ?_
        refine mw_i2l dX10_alter_23 ?_
        obtain ⟨r13, e14, h⟩ := mbd h
        refine mv_callS_i (As := [.long a3.toInt64]) lkS_RX10_91_yX10_isGain dX10_alter_24 (k_X10_isGain e14) rfl rfl (Nat.le_of_ble_eq_true rfl) (by decide) (by decide) ?_
        refine mw_if_eq (tgt := 40) dX10_alter_27 (by decide) (fun hc => ?_) (fun hc => ?_)
        · have h := mit hc h
          refine mw_aload_n dX10_alter_40 0 rfl ?_
          refine mw_iconst (v := 0) dX10_alter_41 (by decide) ?_
          obtain ⟨r15, e16, h⟩ := mbd h
          refine mv_callV_i (As := [.int (0 : Int32)]) (ci := 9) lkV_RX10_81_yX10_finds dX10_alter_42 (k_X10_finds e16) rfl rfl rfl rfl (Nat.le_of_ble_eq_true rfl) (by decide) (by decide) ?_
          exact mw_iret dX10_alter_45 rfl (ers_im h) rfl rfl
        · have h := mie hc h
          refine mw_goto (tgt := 46) dX10_alter_30 (by decide) ?_
          exact mw_sub (L' := [(0, .ref 69), (1, .int a1), (2, .int a2), (3, .int a3)]) [0, 1, 2, 3] rfl (p_X10_alter_J46  h)

theorem dX10_its_0 : decode cX10_its 0 = .ok (.aload_n 0, 1) := by decide +kernel
theorem dX10_its_1 : decode cX10_its 1 = .ok (.iload_n 1, 1) := by decide +kernel
theorem dX10_its_2 : decode cX10_its 2 = .ok (.invokevirtual 122, 3) := by decide +kernel
theorem dX10_its_5 : decode cX10_its 5 = .ok (.ifCond .eq 13, 3) := by decide +kernel
theorem dX10_its_8 : decode cX10_its 8 = .ok (.iload_n 2, 1) := by decide +kernel
theorem dX10_its_9 : decode cX10_its 9 = .ok (.i2l, 1) := by decide +kernel
theorem dX10_its_10 : decode cX10_its 10 = .ok (.lconst 0, 1) := by decide +kernel
theorem dX10_its_11 : decode cX10_its 11 = .ok (.lconst 1, 1) := by decide +kernel
theorem dX10_its_12 : decode cX10_its 12 = .ok (.invokestatic 57, 3) := by decide +kernel
theorem dX10_its_15 : decode cX10_its 15 = .ok (.ifCond .ne 9, 3) := by decide +kernel
theorem dX10_its_18 : decode cX10_its 18 = .ok (.aload_n 0, 1) := by decide +kernel
theorem dX10_its_19 : decode cX10_its 19 = .ok (.iconst 0, 1) := by decide +kernel
theorem dX10_its_20 : decode cX10_its 20 = .ok (.invokevirtual 81, 3) := by decide +kernel
theorem dX10_its_23 : decode cX10_its 23 = .ok (.ireturn, 1) := by decide +kernel
theorem dX10_its_24 : decode cX10_its 24 = .ok (.iload_n 1, 1) := by decide +kernel
theorem dX10_its_25 : decode cX10_its 25 = .ok (.ifCond .ge 12, 3) := by decide +kernel
theorem dX10_its_28 : decode cX10_its 28 = .ok (.aload_n 0, 1) := by decide +kernel
theorem dX10_its_29 : decode cX10_its 29 = .ok (.getfield 25, 3) := by decide +kernel
theorem dX10_its_32 : decode cX10_its 32 = .ok (.iload_n 2, 1) := by decide +kernel
theorem dX10_its_33 : decode cX10_its 33 = .ok (.iaload, 1) := by decide +kernel
theorem dX10_its_34 : decode cX10_its 34 = .ok (.goto 13, 3) := by decide +kernel
theorem dX10_its_37 : decode cX10_its 37 = .ok (.aload_n 0, 1) := by decide +kernel
theorem dX10_its_38 : decode cX10_its 38 = .ok (.getfield 22, 3) := by decide +kernel
theorem dX10_its_41 : decode cX10_its 41 = .ok (.iconst 2, 1) := by decide +kernel
theorem dX10_its_42 : decode cX10_its 42 = .ok (.iload_n 1, 1) := by decide +kernel
theorem dX10_its_43 : decode cX10_its 43 = .ok (.imul, 1) := by decide +kernel
theorem dX10_its_44 : decode cX10_its 44 = .ok (.iload_n 2, 1) := by decide +kernel
theorem dX10_its_45 : decode cX10_its 45 = .ok (.iadd, 1) := by decide +kernel
theorem dX10_its_46 : decode cX10_its 46 = .ok (.iaload, 1) := by decide +kernel
theorem dX10_its_47 : decode cX10_its 47 = .ok (.ireturn, 1) := by decide +kernel
def e_X10_its (a1 : Int32) (a2 : Int32) (σ : ES) : Option (Int32 × ES) := (e_X10_isThing σ a1).bind (fun r1 => if r1 = 0 then ((e_X10_finds (0 : Int32) σ).bind (fun r3 => some (r3.1, r3.2))) else ((e_X10_in a2.toInt64 (0 : Int64) (1 : Int64)).bind (fun r5 => if r5 = 0 then ((e_X10_finds (0 : Int32) σ).bind (fun r9 => some (r9.1, r9.2))) else (if 0 ≤ a1 then (if mib (((2 : Int32) * a1) + a2) 24 = true then (some ((eI σ 72 (((2 : Int32) * a1) + a2).toNatClampNeg), σ)) else none) else (if mib a2 2 = true then (some ((eI σ 73 a2.toNatClampNeg), σ)) else none)))))
set_option maxRecDepth 100000 in
set_option maxHeartbeats 4000000 in
theorem k_X10_its {l : Launch} {σ : ES} {a1 : Int32} {a2 : Int32} {out : (Int32 × ES)} (h : e_X10_its a1 a2 σ = some out) : MK l yX10_its cX10_its 3 (some .int) 3 [.ref 69, .int a1, .int a2] (mkS σ) (some (.int out.1)) (mkS out.2) := by
  unfold e_X10_its at h
  refine mw_entry (own := RX10) (ini := false) (L := [(0, .ref 69), (1, .int a1), (2, .int a2)]) (by decide +kernel) rfl (fun h => nomatch h) rfl (Nat.le_of_ble_eq_true rfl) (Nat.le_of_ble_eq_true rfl) (fun E => ?_)
  refine mw_aload_n dX10_its_0 0 rfl ?_
  refine mw_iload_n dX10_its_1 1 rfl ?_
  obtain ⟨r1, e2, h⟩ := mbd h
  refine mv_callV_i (As := [.int a1]) (ci := 9) lkV_RX10_122_yX10_isThing dX10_its_2 (k_X10_isThing e2) rfl rfl rfl rfl (Nat.le_of_ble_eq_true rfl) (by decide) (by decide) ?_
  refine mw_if_eq (tgt := 18) dX10_its_5 (by decide) (fun hc => ?_) (fun hc => ?_)
  · have h := mit hc h
    refine mw_aload_n dX10_its_18 0 rfl ?_
    refine mw_iconst (v := 0) dX10_its_19 (by decide) ?_
    obtain ⟨r3, e4, h⟩ := mbd h
    refine mv_callV_i (As := [.int (0 : Int32)]) (ci := 9) lkV_RX10_81_yX10_finds dX10_its_20 (k_X10_finds e4) rfl rfl rfl rfl (Nat.le_of_ble_eq_true rfl) (by decide) (by decide) ?_
    exact mw_iret dX10_its_23 rfl (ers_im h) rfl rfl
  · have h := mie hc h
    refine mw_iload_n dX10_its_8 2 rfl ?_
    refine mw_i2l dX10_its_9 ?_
    refine mw_lconst (v := 0) dX10_its_10 (by decide) ?_
    refine mw_lconst (v := 1) dX10_its_11 (by decide) ?_
    obtain ⟨r5, e6, h⟩ := mbd h
    refine mv_callS_i (As := [.long a2.toInt64, .long (0 : Int64), .long (1 : Int64)]) lkS_RX10_57_yX10_in dX10_its_12 (k_X10_in e6) rfl rfl (Nat.le_of_ble_eq_true rfl) (by decide) (by decide) ?_
    refine mw_if_ne (tgt := 24) dX10_its_15 (by decide) (fun hc => ?_) (fun hc => ?_)
    · have h := mie hc h
      refine mw_iload_n dX10_its_24 1 rfl ?_
      refine mw_if_ge (tgt := 37) dX10_its_25 (by decide) (fun hc => ?_) (fun hc => ?_)
      · have h := mit hc h
        refine mw_aload_n dX10_its_37 0 rfl ?_
        refine ev_getR (q := 72) fd_RX10_22_9 dX10_its_38 rfl rfl rfl ?_
        refine mw_iconst (v := 2) dX10_its_41 (by decide) ?_
        refine mw_iload_n dX10_its_42 1 rfl ?_
        refine mw_imul dX10_its_43 ?_
        refine mw_iload_n dX10_its_44 2 rfl ?_
        refine mw_iadd dX10_its_45 ?_
        obtain ⟨m7, h⟩ := mif h
        refine ev_iald dX10_its_46 (by decide) rfl m7 ?_
        exact mw_iret dX10_its_47 rfl (ers_im h) rfl rfl
      · have h := mie hc h
        refine mw_aload_n dX10_its_28 0 rfl ?_
        refine ev_getR (q := 73) fd_RX10_25_9 dX10_its_29 rfl rfl rfl ?_
        refine mw_iload_n dX10_its_32 2 rfl ?_
        obtain ⟨m8, h⟩ := mif h
        refine ev_iald dX10_its_33 (by decide) rfl m8 ?_
        refine mw_goto (tgt := 47) dX10_its_34 (by decide) ?_
        exact mw_iret dX10_its_47 rfl (ers_im h) rfl rfl
    · have h := mit hc h
      refine mw_aload_n dX10_its_18 0 rfl ?_
      refine mw_iconst (v := 0) dX10_its_19 (by decide) ?_
      obtain ⟨r9, e10, h⟩ := mbd h
      refine mv_callV_i (As := [.int (0 : Int32)]) (ci := 9) lkV_RX10_81_yX10_finds dX10_its_20 (k_X10_finds e10) rfl rfl rfl rfl (Nat.le_of_ble_eq_true rfl) (by decide) (by decide) ?_
      exact mw_iret dX10_its_23 rfl (ers_im h) rfl rfl

theorem dX10_openWays_0 : decode cX10_openWays 0 = .ok (.iconst 0, 1) := by decide +kernel
theorem dX10_openWays_1 : decode cX10_openWays 1 = .ok (.istore_n 1, 1) := by decide +kernel
theorem dX10_openWays_2 : decode cX10_openWays 2 = .ok (.iconst 0, 1) := by decide +kernel
theorem dX10_openWays_3 : decode cX10_openWays 3 = .ok (.istore_n 2, 1) := by decide +kernel
theorem dX10_openWays_4 : decode cX10_openWays 4 = .ok (.iload_n 2, 1) := by decide +kernel
theorem dX10_openWays_5 : decode cX10_openWays 5 = .ok (.aload_n 0, 1) := by decide +kernel
theorem dX10_openWays_6 : decode cX10_openWays 6 = .ok (.getfield 61, 3) := by decide +kernel
theorem dX10_openWays_9 : decode cX10_openWays 9 = .ok (.if_icmp .ge 28, 3) := by decide +kernel
theorem dX10_openWays_12 : decode cX10_openWays 12 = .ok (.iload_n 1, 1) := by decide +kernel
theorem dX10_openWays_13 : decode cX10_openWays 13 = .ok (.aload_n 0, 1) := by decide +kernel
theorem dX10_openWays_14 : decode cX10_openWays 14 = .ok (.iload_n 2, 1) := by decide +kernel
theorem dX10_openWays_15 : decode cX10_openWays 15 = .ok (.iconst 5, 1) := by decide +kernel
theorem dX10_openWays_16 : decode cX10_openWays 16 = .ok (.invokevirtual 70, 3) := by decide +kernel
theorem dX10_openWays_19 : decode cX10_openWays 19 = .ok (.ifCond .ne 9, 3) := by decide +kernel
theorem dX10_openWays_22 : decode cX10_openWays 22 = .ok (.iconst 1, 1) := by decide +kernel
theorem dX10_openWays_23 : decode cX10_openWays 23 = .ok (.iload_n 2, 1) := by decide +kernel
theorem dX10_openWays_24 : decode cX10_openWays 24 = .ok (.ishl, 1) := by decide +kernel
theorem dX10_openWays_25 : decode cX10_openWays 25 = .ok (.goto 4, 3) := by decide +kernel
theorem dX10_openWays_28 : decode cX10_openWays 28 = .ok (.iconst 0, 1) := by decide +kernel
theorem dX10_openWays_29 : decode cX10_openWays 29 = .ok (.ior, 1) := by decide +kernel
theorem dX10_openWays_30 : decode cX10_openWays 30 = .ok (.istore_n 1, 1) := by decide +kernel
theorem dX10_openWays_31 : decode cX10_openWays 31 = .ok (.iinc 2 1, 3) := by decide +kernel
theorem dX10_openWays_34 : decode cX10_openWays 34 = .ok (.goto (-30), 3) := by decide +kernel
theorem dX10_openWays_37 : decode cX10_openWays 37 = .ok (.iload_n 1, 1) := by decide +kernel
theorem dX10_openWays_38 : decode cX10_openWays 38 = .ok (.ireturn, 1) := by decide +kernel
def e_X10_openWays_L4 (σ : ES) : Nat → Int32 → Int32 → Option Int32
  | 0, _, _ => none
  | n + 1, x1, x2 => if (eI σ 69 3) ≤ x2 then (some x1) else ((e_X10_at σ x2 (5 : Int32)).bind (fun r1 => if r1 = 0 then (e_X10_openWays_L4 σ n (x1 ||| ((1 : Int32) <<< (x2 &&& 31))) (x2 + 1)) else (e_X10_openWays_L4 σ n (x1 ||| (0 : Int32)) (x2 + 1))))
set_option maxRecDepth 100000 in
set_option maxHeartbeats 4000000 in
theorem p_X10_openWays_L4 {l : Launch} {E : MX} {out : Int32} {σ : ES}  : ∀ (n : Nat) (x1 : Int32) (x2 : Int32), e_X10_openWays_L4 σ n x1 x2 = some out → MV l E cX10_openWays RX10 3 (some .int) 2 (82, (some (.int out)), mkS σ) (mkS σ) 4 [(0, .ref 69), (1, .int x1), (2, .int x2)] [] := by
  intro n
  induction n with
  | zero =>
    intro x1 x2 h
    exact nomatch h
  | succ n ih =>
    intro x1 x2 h
    rw [e_X10_openWays_L4] at h
    refine mw_iload_n dX10_openWays_4 2 rfl ?_
    refine mw_aload_n dX10_openWays_5 0 rfl ?_
    refine ev_getI fd_RX10_61_9 dX10_openWays_6 rfl rfl ?_
    refine mw_icmp_ge (tgt := 37) dX10_openWays_9 (by decide) (fun hc => ?_) (fun hc => ?_)
    · have h := mit hc h
      refine mw_iload_n dX10_openWays_37 1 rfl ?_
      exact mw_iret dX10_openWays_38 rfl (ers_i h) rfl rfl
    · have h := mie hc h
      refine mw_iload_n dX10_openWays_12 1 rfl ?_
      refine mw_aload_n dX10_openWays_13 0 rfl ?_
      refine mw_iload_n dX10_openWays_14 2 rfl ?_
      refine mw_iconst (v := 5) dX10_openWays_15 (by decide) ?_
      obtain ⟨r1, e2, h⟩ := mbd h
      refine mv_callV_i (As := [.int x2, .int (5 : Int32)]) (ci := 9) lkV_RX10_70_yX10_at dX10_openWays_16 (k_X10_at e2) rfl rfl rfl rfl (Nat.le_of_ble_eq_true rfl) (by decide) (by decide) ?_
      refine mw_if_ne (tgt := 28) dX10_openWays_19 (by decide) (fun hc => ?_) (fun hc => ?_)
      · have h := mie hc h
        refine mw_iconst (v := 0) dX10_openWays_28 (by decide) ?_
        refine mw_ior dX10_openWays_29 ?_
        refine mw_istore_n (L' := [(1, .int (x1 ||| (0 : Int32))), (0, .ref 69), (2, .int x2)]) dX10_openWays_30 rfl (by decide) rfl ?_
        refine mw_iinc (v := (x2 + 1)) (L' := [(2, .int (x2 + 1)), (1, .int (x1 ||| (0 : Int32))), (0, .ref 69)]) dX10_openWays_31 2 rfl rfl (by decide) rfl ?_
        refine mw_goto (tgt := 4) dX10_openWays_34 (by decide) ?_
        exact mw_sub (L' := [(0, .ref 69), (1, .int (x1 ||| (0 : Int32))), (2, .int (x2 + 1))]) [2, 1, 0] rfl (ih _ _ h)
      · have h := mit hc h
        refine mw_iconst (v := 1) dX10_openWays_22 (by decide) ?_
        refine mw_iload_n dX10_openWays_23 2 rfl ?_
        refine mw_ishl dX10_openWays_24 ?_
        refine mw_goto (tgt := 29) dX10_openWays_25 (by decide) ?_
        refine mw_ior dX10_openWays_29 ?_
        refine mw_istore_n (L' := [(1, .int (x1 ||| ((1 : Int32) <<< (x2 &&& 31)))), (0, .ref 69), (2, .int x2)]) dX10_openWays_30 rfl (by decide) rfl ?_
        refine mw_iinc (v := (x2 + 1)) (L' := [(2, .int (x2 + 1)), (1, .int (x1 ||| ((1 : Int32) <<< (x2 &&& 31)))), (0, .ref 69)]) dX10_openWays_31 2 rfl rfl (by decide) rfl ?_
        refine mw_goto (tgt := 4) dX10_openWays_34 (by decide) ?_
        exact mw_sub (L' := [(0, .ref 69), (1, .int (x1 ||| ((1 : Int32) <<< (x2 &&& 31)))), (2, .int (x2 + 1))]) [2, 1, 0] rfl (ih _ _ h)
def e_X10_openWays (σ : ES) : Option Int32 := e_X10_openWays_L4 σ mN (0 : Int32) (0 : Int32)
set_option maxRecDepth 100000 in
set_option maxHeartbeats 4000000 in
theorem k_X10_openWays {l : Launch} {σ : ES}  {out : Int32} (h : e_X10_openWays σ = some out) : MK l yX10_openWays cX10_openWays 3 (some .int) 2 [.ref 69] (mkS σ) (some (.int out)) (mkS σ) := by
  unfold e_X10_openWays at h
  refine mw_entry (own := RX10) (ini := false) (L := [(0, .ref 69)]) (by decide +kernel) rfl (fun h => nomatch h) rfl (Nat.le_of_ble_eq_true rfl) (Nat.le_of_ble_eq_true rfl) (fun E => ?_)
  refine mw_iconst (v := 0) dX10_openWays_0 (by decide) ?_
  refine mw_istore_n (L' := [(1, .int (0 : Int32)), (0, .ref 69)]) dX10_openWays_1 rfl (by decide) rfl ?_
  refine mw_iconst (v := 0) dX10_openWays_2 (by decide) ?_
  refine mw_istore_n (L' := [(2, .int (0 : Int32)), (1, .int (0 : Int32)), (0, .ref 69)]) dX10_openWays_3 rfl (by decide) rfl ?_
  exact mw_sub (L' := [(0, .ref 69), (1, .int (0 : Int32)), (2, .int (0 : Int32))]) [2, 1, 0] rfl (p_X10_openWays_L4  mN _ _ h)

theorem dX10_closes_0 : decode cX10_closes 0 = .ok (.aload_n 0, 1) := by decide +kernel
theorem dX10_closes_1 : decode cX10_closes 1 = .ok (.getfield 129, 3) := by decide +kernel
theorem dX10_closes_4 : decode cX10_closes 4 = .ok (.iload_n 1, 1) := by decide +kernel
theorem dX10_closes_5 : decode cX10_closes 5 = .ok (.iconst (-1), 1) := by decide +kernel
theorem dX10_closes_6 : decode cX10_closes 6 = .ok (.ixor, 1) := by decide +kernel
theorem dX10_closes_7 : decode cX10_closes 7 = .ok (.iand, 1) := by decide +kernel
theorem dX10_closes_8 : decode cX10_closes 8 = .ok (.ifCond .eq 4, 3) := by decide +kernel
theorem dX10_closes_11 : decode cX10_closes 11 = .ok (.return_, 1) := by decide +kernel
theorem dX10_closes_12 : decode cX10_closes 12 = .ok (.aload_n 0, 1) := by decide +kernel
theorem dX10_closes_13 : decode cX10_closes 13 = .ok (.getfield 132, 3) := by decide +kernel
theorem dX10_closes_16 : decode cX10_closes 16 = .ok (.ifCond .eq 20, 3) := by decide +kernel
theorem dX10_closes_19 : decode cX10_closes 19 = .ok (.lload_n 2, 1) := by decide +kernel
theorem dX10_closes_20 : decode cX10_closes 20 = .ok (.aload_n 0, 1) := by decide +kernel
theorem dX10_closes_21 : decode cX10_closes 21 = .ok (.getfield 136, 3) := by decide +kernel
theorem dX10_closes_24 : decode cX10_closes 24 = .ok (.lmul, 1) := by decide +kernel
theorem dX10_closes_25 : decode cX10_closes 25 = .ok (.aload_n 0, 1) := by decide +kernel
theorem dX10_closes_26 : decode cX10_closes 26 = .ok (.getfield 140, 3) := by decide +kernel
theorem dX10_closes_29 : decode cX10_closes 29 = .ok (.lload 4, 2) := by decide +kernel
theorem dX10_closes_31 : decode cX10_closes 31 = .ok (.lmul, 1) := by decide +kernel
theorem dX10_closes_32 : decode cX10_closes 32 = .ok (.lsub, 1) := by decide +kernel
theorem dX10_closes_33 : decode cX10_closes 33 = .ok (.goto 4, 3) := by decide +kernel
theorem dX10_closes_36 : decode cX10_closes 36 = .ok (.lconst 1, 1) := by decide +kernel
theorem dX10_closes_37 : decode cX10_closes 37 = .ok (.lstore 6, 2) := by decide +kernel
theorem dX10_closes_39 : decode cX10_closes 39 = .ok (.lload 6, 2) := by decide +kernel
theorem dX10_closes_41 : decode cX10_closes 41 = .ok (.lconst 0, 1) := by decide +kernel
theorem dX10_closes_42 : decode cX10_closes 42 = .ok (.lcmp, 1) := by decide +kernel
theorem dX10_closes_43 : decode cX10_closes 43 = .ok (.ifCond .le 24, 3) := by decide +kernel
theorem dX10_closes_46 : decode cX10_closes 46 = .ok (.aload_n 0, 1) := by decide +kernel
theorem dX10_closes_47 : decode cX10_closes 47 = .ok (.iconst 0, 1) := by decide +kernel
theorem dX10_closes_48 : decode cX10_closes 48 = .ok (.putfield 143, 3) := by decide +kernel
theorem dX10_closes_51 : decode cX10_closes 51 = .ok (.aload_n 0, 1) := by decide +kernel
theorem dX10_closes_52 : decode cX10_closes 52 = .ok (.lload_n 2, 1) := by decide +kernel
theorem dX10_closes_53 : decode cX10_closes 53 = .ok (.putfield 140, 3) := by decide +kernel
theorem dX10_closes_56 : decode cX10_closes 56 = .ok (.aload_n 0, 1) := by decide +kernel
theorem dX10_closes_57 : decode cX10_closes 57 = .ok (.lload 4, 2) := by decide +kernel
theorem dX10_closes_59 : decode cX10_closes 59 = .ok (.putfield 136, 3) := by decide +kernel
theorem dX10_closes_62 : decode cX10_closes 62 = .ok (.aload_n 0, 1) := by decide +kernel
theorem dX10_closes_63 : decode cX10_closes 63 = .ok (.iconst 1, 1) := by decide +kernel
theorem dX10_closes_64 : decode cX10_closes 64 = .ok (.putfield 132, 3) := by decide +kernel
theorem dX10_closes_67 : decode cX10_closes 67 = .ok (.aload_n 0, 1) := by decide +kernel
theorem dX10_closes_68 : decode cX10_closes 68 = .ok (.dup, 1) := by decide +kernel
theorem dX10_closes_69 : decode cX10_closes 69 = .ok (.getfield 143, 3) := by decide +kernel
theorem dX10_closes_72 : decode cX10_closes 72 = .ok (.lload 6, 2) := by decide +kernel
theorem dX10_closes_74 : decode cX10_closes 74 = .ok (.lconst 0, 1) := by decide +kernel
theorem dX10_closes_75 : decode cX10_closes 75 = .ok (.lcmp, 1) := by decide +kernel
theorem dX10_closes_76 : decode cX10_closes 76 = .ok (.ifCond .lt 7, 3) := by decide +kernel
theorem dX10_closes_79 : decode cX10_closes 79 = .ok (.iload_n 1, 1) := by decide +kernel
theorem dX10_closes_80 : decode cX10_closes 80 = .ok (.goto 4, 3) := by decide +kernel
theorem dX10_closes_83 : decode cX10_closes 83 = .ok (.iconst 0, 1) := by decide +kernel
theorem dX10_closes_84 : decode cX10_closes 84 = .ok (.ior, 1) := by decide +kernel
theorem dX10_closes_85 : decode cX10_closes 85 = .ok (.putfield 143, 3) := by decide +kernel
theorem dX10_closes_88 : decode cX10_closes 88 = .ok (.return_, 1) := by decide +kernel
def e_X10_closes_J67 (a1 : Int32) (a2 : Int64) (a4 : Int64) (x6 : Int64) (σ : ES) : Option ES := if x6 < (0 : Int64) then (some (uI σ 69 13 ((eI σ 69 13) ||| (0 : Int32)))) else (some (uI σ 69 13 ((eI σ 69 13) ||| a1)))
set_option maxRecDepth 100000 in
set_option maxHeartbeats 4000000 in
theorem p_X10_closes_J67 {l : Launch} {E : MX} {out : ES} {a1 : Int32} {a2 : Int64} {a4 : Int64}  {x6 : Int64} {σ : ES} (h : e_X10_closes_J67 a1 a2 a4 x6 σ = some out) : MV l E cX10_closes RX10 8 none 1 (82, none, mkS out) (mkS σ) 67 [(0, .ref 69), (1, .int a1), (2, .long a2), (4, .long a4), (6, .long x6)] [] := by
  unfold e_X10_closes_J67 at h
  refine mw_aload_n dX10_closes_67 0 rfl ?_
  refine mw_dup dX10_closes_68 rfl ?_
  refine ev_getI fd_RX10_143_9 dX10_closes_69 rfl rfl ?_
  refine mw_lload dX10_closes_72 4 rfl ?_
  refine mw_lconst (v := 0) dX10_closes_74 (by decide) ?_
  refine mw_lc_lt (tgt := 83) dX10_closes_75 dX10_closes_76 (by decide) (fun hc => ?_) (fun hc => ?_)
  · have h := mit hc h
    refine mw_iconst (v := 0) dX10_closes_83 (by decide) ?_
    refine mw_ior dX10_closes_84 ?_
    refine ev_putI fw_RX10_143_9 dX10_closes_85 rfl rfl ?_
    exact mw_vret dX10_closes_88 rfl (ers_vm h) rfl rfl
  · have h := mie hc h
    refine mw_iload_n dX10_closes_79 1 rfl ?_
    refine mw_goto (tgt := 84) dX10_closes_80 (by decide) ?_
    refine mw_ior dX10_closes_84 ?_
    refine ev_putI fw_RX10_143_9 dX10_closes_85 rfl rfl ?_
    exact mw_vret dX10_closes_88 rfl (ers_vm h) rfl rfl
def e_X10_closes_J37 (a1 : Int32) (a2 : Int64) (a4 : Int64) (s0 : Int64) (σ : ES) : Option ES := if s0 ≤ (0 : Int64) then (e_X10_closes_J67 a1 a2 a4 s0 σ) else (e_X10_closes_J67 a1 a2 a4 s0 (uI (uL (uL (uI σ 69 13 (0 : Int32)) 69 11 a2) 69 12 a4) 69 10 (1 : Int32)))
set_option maxRecDepth 100000 in
set_option maxHeartbeats 4000000 in
theorem p_X10_closes_J37 {l : Launch} {E : MX} {out : ES} {a1 : Int32} {a2 : Int64} {a4 : Int64}  {s0 : Int64} {σ : ES} (h : e_X10_closes_J37 a1 a2 a4 s0 σ = some out) : MV l E cX10_closes RX10 8 none 1 (82, none, mkS out) (mkS σ) 37 [(0, .ref 69), (1, .int a1), (2, .long a2), (4, .long a4)] [.long s0] := by
  unfold e_X10_closes_J37 at h
  refine mw_lstore (L' := [(6, .long s0), (0, .ref 69), (1, .int a1), (2, .long a2), (4, .long a4)]) dX10_closes_37 (by decide) rfl ?_
  refine mw_lload dX10_closes_39 0 rfl ?_
  refine mw_lconst (v := 0) dX10_closes_41 (by decide) ?_
  refine mw_lc_le (tgt := 67) dX10_closes_42 dX10_closes_43 (by decide) (fun hc => ?_) (fun hc => ?_)
  · have h := mit hc h
    exact mw_sub (L' := [(0, .ref 69), (1, .int a1), (2, .long a2), (4, .long a4), (6, .long s0)]) [1, 2, 3, 4, 0] rfl (p_X10_closes_J67  h)
  · have h := mie hc h
    refine mw_aload_n dX10_closes_46 1 rfl ?_
    refine mw_iconst (v := 0) dX10_closes_47 (by decide) ?_
    refine ev_putI fw_RX10_143_9 dX10_closes_48 rfl rfl ?_
    refine mw_aload_n dX10_closes_51 1 rfl ?_
    refine mw_lload_n dX10_closes_52 3 rfl ?_
    refine ev_putL fw_RX10_140_9 dX10_closes_53 rfl rfl ?_
    refine mw_aload_n dX10_closes_56 1 rfl ?_
    refine mw_lload dX10_closes_57 4 rfl ?_
    refine ev_putL fw_RX10_136_9 dX10_closes_59 rfl rfl ?_
    refine mw_aload_n dX10_closes_62 1 rfl ?_
    refine mw_iconst (v := 1) dX10_closes_63 (by decide) ?_
    refine ev_putZ fw_RX10_132_9 dX10_closes_64 rfl rfl (by decide) ?_
    exact mw_sub (L' := [(0, .ref 69), (1, .int a1), (2, .long a2), (4, .long a4), (6, .long s0)]) [1, 2, 3, 4, 0] rfl (p_X10_closes_J67  h)
def e_X10_closes (a1 : Int32) (a2 : Int64) (a4 : Int64) (σ : ES) : Option ES := if ((eI σ 69 9) &&& (a1 ^^^ (-1 : Int32))) = 0 then (if (eI σ 69 10) = 0 then (e_X10_closes_J37 a1 a2 a4 (1 : Int64) σ) else (e_X10_closes_J37 a1 a2 a4 ((a2 * (eL σ 69 12)) - ((eL σ 69 11) * a4)) σ)) else (some σ)
set_option maxRecDepth 100000 in
set_option maxHeartbeats 4000000 in
theorem k_X10_closes {l : Launch} {σ : ES} {a1 : Int32} {a2 : Int64} {a4 : Int64} {out : ES} (h : e_X10_closes a1 a2 a4 σ = some out) : MK l yX10_closes cX10_closes 8 none 1 [.ref 69, .int a1, .long a2, .long a4] (mkS σ) none (mkS out) := by
  unfold e_X10_closes at h
  refine mw_entry (own := RX10) (ini := false) (L := [(0, .ref 69), (1, .int a1), (2, .long a2), (4, .long a4)]) (by decide +kernel) rfl (fun h => nomatch h) rfl (Nat.le_of_ble_eq_true rfl) (Nat.le_of_ble_eq_true rfl) (fun E => ?_)
  refine mw_aload_n dX10_closes_0 0 rfl ?_
  refine ev_getI fd_RX10_129_9 dX10_closes_1 rfl rfl ?_
  refine mw_iload_n dX10_closes_4 1 rfl ?_
  refine mw_iconst (v := -1) dX10_closes_5 (by decide) ?_
  refine mw_ixor dX10_closes_6 ?_
  refine mw_iand dX10_closes_7 ?_
  refine mw_if_eq (tgt := 12) dX10_closes_8 (by decide) (fun hc => ?_) (fun hc => ?_)
  · have h := mit hc h
    refine mw_aload_n dX10_closes_12 0 rfl ?_
    refine ev_getZ fd_RX10_132_9 dX10_closes_13 rfl rfl ?_
    refine mw_if_eq (tgt := 36) dX10_closes_16 (by decide) (fun hc => ?_) (fun hc => ?_)
    · have h := mit hc h
      refine mw_lconst (v := 1) dX10_closes_36 (by decide) ?_
      exact mw_sub (L' := [(0, .ref 69), (1, .int a1), (2, .long a2), (4, .long a4)]) [0, 1, 2, 3] rfl (p_X10_closes_J37  h)
    · have h := mie hc h
      refine mw_lload_n dX10_closes_19 2 rfl ?_
      refine mw_aload_n dX10_closes_20 0 rfl ?_
      refine ev_getL fd_RX10_136_9 dX10_closes_21 rfl rfl ?_
      refine mw_lmul dX10_closes_24 ?_
      refine mw_aload_n dX10_closes_25 0 rfl ?_
      refine ev_getL fd_RX10_140_9 dX10_closes_26 rfl rfl ?_
      refine mw_lload dX10_closes_29 3 rfl ?_
      refine mw_lmul dX10_closes_31 ?_
      refine mw_lsub dX10_closes_32 ?_
      refine mw_goto (tgt := 37) dX10_closes_33 (by decide) ?_
      exact mw_sub (L' := [(0, .ref 69), (1, .int a1), (2, .long a2), (4, .long a4)]) [0, 1, 2, 3] rfl (p_X10_closes_J37  h)
  · have h := mie hc h
    exact mw_vret dX10_closes_11 rfl (ers_vm h) rfl rfl

theorem dX10_goesRound_0 : decode cX10_goesRound 0 = .ok (.iconst 0, 1) := by decide +kernel
theorem dX10_goesRound_1 : decode cX10_goesRound 1 = .ok (.istore 9, 2) := by decide +kernel
theorem dX10_goesRound_3 : decode cX10_goesRound 3 = .ok (.iload 9, 2) := by decide +kernel
theorem dX10_goesRound_5 : decode cX10_goesRound 5 = .ok (.aload_n 0, 1) := by decide +kernel
theorem dX10_goesRound_6 : decode cX10_goesRound 6 = .ok (.getfield 61, 3) := by decide +kernel
theorem dX10_goesRound_9 : decode cX10_goesRound 9 = .ok (.if_icmp .ge 129, 3) := by decide +kernel
theorem dX10_goesRound_12 : decode cX10_goesRound 12 = .ok (.aload_n 0, 1) := by decide +kernel
theorem dX10_goesRound_13 : decode cX10_goesRound 13 = .ok (.iload 9, 2) := by decide +kernel
theorem dX10_goesRound_15 : decode cX10_goesRound 15 = .ok (.iconst 2, 1) := by decide +kernel
theorem dX10_goesRound_16 : decode cX10_goesRound 16 = .ok (.invokevirtual 70, 3) := by decide +kernel
theorem dX10_goesRound_19 : decode cX10_goesRound 19 = .ok (.istore 10, 2) := by decide +kernel
theorem dX10_goesRound_21 : decode cX10_goesRound 21 = .ok (.aload_n 0, 1) := by decide +kernel
theorem dX10_goesRound_22 : decode cX10_goesRound 22 = .ok (.getfield 146, 3) := by decide +kernel
theorem dX10_goesRound_25 : decode cX10_goesRound 25 = .ok (.iload 9, 2) := by decide +kernel
theorem dX10_goesRound_27 : decode cX10_goesRound 27 = .ok (.ishr, 1) := by decide +kernel
theorem dX10_goesRound_28 : decode cX10_goesRound 28 = .ok (.iconst 1, 1) := by decide +kernel
theorem dX10_goesRound_29 : decode cX10_goesRound 29 = .ok (.iand, 1) := by decide +kernel
theorem dX10_goesRound_30 : decode cX10_goesRound 30 = .ok (.iconst 1, 1) := by decide +kernel
theorem dX10_goesRound_31 : decode cX10_goesRound 31 = .ok (.if_icmp .ne 101, 3) := by decide +kernel
theorem dX10_goesRound_34 : decode cX10_goesRound 34 = .ok (.aload_n 0, 1) := by decide +kernel
theorem dX10_goesRound_35 : decode cX10_goesRound 35 = .ok (.iload 9, 2) := by decide +kernel
theorem dX10_goesRound_37 : decode cX10_goesRound 37 = .ok (.iconst 1, 1) := by decide +kernel
theorem dX10_goesRound_38 : decode cX10_goesRound 38 = .ok (.invokevirtual 70, 3) := by decide +kernel
theorem dX10_goesRound_41 : decode cX10_goesRound 41 = .ok (.iload_n 2, 1) := by decide +kernel
theorem dX10_goesRound_42 : decode cX10_goesRound 42 = .ok (.if_icmp .ne 90, 3) := by decide +kernel
theorem dX10_goesRound_45 : decode cX10_goesRound 45 = .ok (.iload 10, 2) := by decide +kernel
theorem dX10_goesRound_47 : decode cX10_goesRound 47 = .ok (.iload_n 1, 1) := by decide +kernel
theorem dX10_goesRound_48 : decode cX10_goesRound 48 = .ok (.if_icmp .lt 84, 3) := by decide +kernel
theorem dX10_goesRound_51 : decode cX10_goesRound 51 = .ok (.lload 5, 2) := by decide +kernel
theorem dX10_goesRound_53 : decode cX10_goesRound 53 = .ok (.aload_n 0, 1) := by decide +kernel
theorem dX10_goesRound_54 : decode cX10_goesRound 54 = .ok (.iload 9, 2) := by decide +kernel
theorem dX10_goesRound_56 : decode cX10_goesRound 56 = .ok (.invokevirtual 107, 3) := by decide +kernel
theorem dX10_goesRound_59 : decode cX10_goesRound 59 = .ok (.i2l, 1) := by decide +kernel
theorem dX10_goesRound_60 : decode cX10_goesRound 60 = .ok (.ladd, 1) := by decide +kernel
theorem dX10_goesRound_61 : decode cX10_goesRound 61 = .ok (.lstore 11, 2) := by decide +kernel
theorem dX10_goesRound_63 : decode cX10_goesRound 63 = .ok (.lload 7, 2) := by decide +kernel
theorem dX10_goesRound_65 : decode cX10_goesRound 65 = .ok (.aload_n 0, 1) := by decide +kernel
theorem dX10_goesRound_66 : decode cX10_goesRound 66 = .ok (.iload 9, 2) := by decide +kernel
theorem dX10_goesRound_68 : decode cX10_goesRound 68 = .ok (.invokevirtual 110, 3) := by decide +kernel
theorem dX10_goesRound_71 : decode cX10_goesRound 71 = .ok (.i2l, 1) := by decide +kernel
theorem dX10_goesRound_72 : decode cX10_goesRound 72 = .ok (.ladd, 1) := by decide +kernel
theorem dX10_goesRound_73 : decode cX10_goesRound 73 = .ok (.lstore 13, 2) := by decide +kernel
theorem dX10_goesRound_75 : decode cX10_goesRound 75 = .ok (.iload 10, 2) := by decide +kernel
theorem dX10_goesRound_77 : decode cX10_goesRound 77 = .ok (.iload_n 1, 1) := by decide +kernel
theorem dX10_goesRound_78 : decode cX10_goesRound 78 = .ok (.if_icmp .ne 21, 3) := by decide +kernel
theorem dX10_goesRound_81 : decode cX10_goesRound 81 = .ok (.aload_n 0, 1) := by decide +kernel
theorem dX10_goesRound_82 : decode cX10_goesRound 82 = .ok (.iload 4, 2) := by decide +kernel
theorem dX10_goesRound_84 : decode cX10_goesRound 84 = .ok (.iconst 1, 1) := by decide +kernel
theorem dX10_goesRound_85 : decode cX10_goesRound 85 = .ok (.iload 9, 2) := by decide +kernel
theorem dX10_goesRound_87 : decode cX10_goesRound 87 = .ok (.ishl, 1) := by decide +kernel
theorem dX10_goesRound_88 : decode cX10_goesRound 88 = .ok (.ior, 1) := by decide +kernel
theorem dX10_goesRound_89 : decode cX10_goesRound 89 = .ok (.lload 11, 2) := by decide +kernel
theorem dX10_goesRound_91 : decode cX10_goesRound 91 = .ok (.lload 13, 2) := by decide +kernel
theorem dX10_goesRound_93 : decode cX10_goesRound 93 = .ok (.invokevirtual 149, 3) := by decide +kernel
theorem dX10_goesRound_96 : decode cX10_goesRound 96 = .ok (.goto 36, 3) := by decide +kernel
theorem dX10_goesRound_99 : decode cX10_goesRound 99 = .ok (.iload_n 3, 1) := by decide +kernel
theorem dX10_goesRound_100 : decode cX10_goesRound 100 = .ok (.iload 10, 2) := by decide +kernel
theorem dX10_goesRound_102 : decode cX10_goesRound 102 = .ok (.ishr, 1) := by decide +kernel
theorem dX10_goesRound_103 : decode cX10_goesRound 103 = .ok (.iconst 1, 1) := by decide +kernel
theorem dX10_goesRound_104 : decode cX10_goesRound 104 = .ok (.iand, 1) := by decide +kernel
theorem dX10_goesRound_105 : decode cX10_goesRound 105 = .ok (.ifCond .ne 27, 3) := by decide +kernel
theorem dX10_goesRound_108 : decode cX10_goesRound 108 = .ok (.aload_n 0, 1) := by decide +kernel
theorem dX10_goesRound_109 : decode cX10_goesRound 109 = .ok (.iload_n 1, 1) := by decide +kernel
theorem dX10_goesRound_110 : decode cX10_goesRound 110 = .ok (.iload 10, 2) := by decide +kernel
theorem dX10_goesRound_112 : decode cX10_goesRound 112 = .ok (.iload_n 3, 1) := by decide +kernel
theorem dX10_goesRound_113 : decode cX10_goesRound 113 = .ok (.iconst 1, 1) := by decide +kernel
theorem dX10_goesRound_114 : decode cX10_goesRound 114 = .ok (.iload 10, 2) := by decide +kernel
theorem dX10_goesRound_116 : decode cX10_goesRound 116 = .ok (.ishl, 1) := by decide +kernel
theorem dX10_goesRound_117 : decode cX10_goesRound 117 = .ok (.ior, 1) := by decide +kernel
theorem dX10_goesRound_118 : decode cX10_goesRound 118 = .ok (.iload 4, 2) := by decide +kernel
theorem dX10_goesRound_120 : decode cX10_goesRound 120 = .ok (.iconst 1, 1) := by decide +kernel
theorem dX10_goesRound_121 : decode cX10_goesRound 121 = .ok (.iload 9, 2) := by decide +kernel
theorem dX10_goesRound_123 : decode cX10_goesRound 123 = .ok (.ishl, 1) := by decide +kernel
theorem dX10_goesRound_124 : decode cX10_goesRound 124 = .ok (.ior, 1) := by decide +kernel
theorem dX10_goesRound_125 : decode cX10_goesRound 125 = .ok (.lload 11, 2) := by decide +kernel
theorem dX10_goesRound_127 : decode cX10_goesRound 127 = .ok (.lload 13, 2) := by decide +kernel
theorem dX10_goesRound_129 : decode cX10_goesRound 129 = .ok (.invokevirtual 153, 3) := by decide +kernel
theorem dX10_goesRound_132 : decode cX10_goesRound 132 = .ok (.iinc 9 1, 3) := by decide +kernel
theorem dX10_goesRound_135 : decode cX10_goesRound 135 = .ok (.goto (-132), 3) := by decide +kernel
theorem dX10_goesRound_138 : decode cX10_goesRound 138 = .ok (.return_, 1) := by decide +kernel
def e_X10_goesRound_L3 (g0 : Int32 → Int32 → Int32 → Int32 → Int64 → Int64 → ES → Option ES) (a1 : Int32) (a2 : Int32) (a3 : Int32) (a4 : Int32) (a5 : Int64) (a7 : Int64) : Nat → Int32 → ES → Option ES
  | 0, _, _ => none
  | n + 1, x9, σ => if (eI σ 69 3) ≤ x9 then (some σ) else ((e_X10_at σ x9 (2 : Int32)).bind (fun r1 => if (((eI σ 69 8) >>> (x9 &&& 31)) &&& (1 : Int32)) = (1 : Int32) then ((e_X10_at σ x9 (1 : Int32)).bind (fun r3 => if r3 = a2 then (if r1 < a1 then (e_X10_goesRound_L3 g0 a1 a2 a3 a4 a5 a7 n (x9 + 1) σ) else ((e_X10_brings σ x9).bind (fun r5 => (e_X10_lasts σ x9).bind (fun r7 => if r1 = a1 then ((e_X10_closes (a4 ||| ((1 : Int32) <<< (x9 &&& 31))) (a5 + r5.toInt64) (a7 + r7.toInt64) σ).bind (fun r11 => e_X10_goesRound_L3 g0 a1 a2 a3 a4 a5 a7 n (x9 + 1) r11)) else (if ((a3 >>> (r1 &&& 31)) &&& (1 : Int32)) = 0 then ((g0 a1 r1 (a3 ||| ((1 : Int32) <<< (r1 &&& 31))) (a4 ||| ((1 : Int32) <<< (x9 &&& 31))) (a5 + r5.toInt64) (a7 + r7.toInt64) σ).bind (fun r9 => e_X10_goesRound_L3 g0 a1 a2 a3 a4 a5 a7 n (x9 + 1) r9)) else (e_X10_goesRound_L3 g0 a1 a2 a3 a4 a5 a7 n (x9 + 1) σ)))))) else (e_X10_goesRound_L3 g0 a1 a2 a3 a4 a5 a7 n (x9 + 1) σ))) else (e_X10_goesRound_L3 g0 a1 a2 a3 a4 a5 a7 n (x9 + 1) σ)))
set_option maxRecDepth 100000 in
set_option maxHeartbeats 4000000 in
theorem p_X10_goesRound_L3 {l : Launch} {E : MX} {out : ES} {g0 : Int32 → Int32 → Int32 → Int32 → Int64 → Int64 → ES → Option ES} {a1 : Int32} {a2 : Int32} {a3 : Int32} {a4 : Int32} {a5 : Int64} {a7 : Int64} {d : Nat} (IH : ∀ (τ : ES) (b1 : Int32) (b2 : Int32) (b3 : Int32) (b4 : Int32) (b5 : Int64) (b7 : Int64) (r : ES), g0 b1 b2 b3 b4 b5 b7 τ = some r → MK l yX10_goesRound cX10_goesRound 15 none (3 + d) [.ref 69, .int b1, .int b2, .int b3, .int b4, .long b5, .long b7] (mkS τ) none (mkS r))  : ∀ (n : Nat) (x9 : Int32) (σ : ES), e_X10_goesRound_L3 g0 a1 a2 a3 a4 a5 a7 n x9 σ = some out → MV l E cX10_goesRound RX10 15 none (3 + (d + 1)) (82, none, mkS out) (mkS σ) 3 [(0, .ref 69), (1, .int a1), (2, .int a2), (3, .int a3), (4, .int a4), (5, .long a5), (7, .long a7), (9, .int x9)] [] := by
  intro n
  induction n with
  | zero =>
    intro x9 σ h
    exact nomatch h
  | succ n ih =>
    intro x9 σ h
    rw [e_X10_goesRound_L3] at h
    refine mw_iload dX10_goesRound_3 7 rfl ?_
    refine mw_aload_n dX10_goesRound_5 0 rfl ?_
    refine ev_getI fd_RX10_61_9 dX10_goesRound_6 rfl rfl ?_
    refine mw_icmp_ge (tgt := 138) dX10_goesRound_9 (by decide) (fun hc => ?_) (fun hc => ?_)
    · have h := mit hc h
      exact mw_vret dX10_goesRound_138 rfl (ers_vm h) rfl rfl
    · have h := mie hc h
      refine mw_aload_n dX10_goesRound_12 0 rfl ?_
      refine mw_iload dX10_goesRound_13 7 rfl ?_
      refine mw_iconst (v := 2) dX10_goesRound_15 (by decide) ?_
      obtain ⟨r1, e2, h⟩ := mbd h
      refine mv_callV_i (As := [.int x9, .int (2 : Int32)]) (ci := 9) lkV_RX10_70_yX10_at dX10_goesRound_16 (k_X10_at e2) rfl rfl rfl rfl (Nat.le_of_ble_eq_true rfl) (by omega) (by decide) ?_
      refine mw_istore (L' := [(10, .int r1), (0, .ref 69), (1, .int a1), (2, .int a2), (3, .int a3), (4, .int a4), (5, .long a5), (7, .long a7), (9, .int x9)]) dX10_goesRound_19 (by decide) rfl ?_
      refine mw_aload_n dX10_goesRound_21 1 rfl ?_
      refine ev_getI fd_RX10_146_9 dX10_goesRound_22 rfl rfl ?_
      refine mw_iload dX10_goesRound_25 8 rfl ?_
      refine mw_ishr dX10_goesRound_27 ?_
      refine mw_iconst (v := 1) dX10_goesRound_28 (by decide) ?_
      refine mw_iand dX10_goesRound_29 ?_
      refine mw_iconst (v := 1) dX10_goesRound_30 (by decide) ?_
      refine mw_icmp_ne (tgt := 132) dX10_goesRound_31 (by decide) (fun hc => ?_) (fun hc => ?_)
      · have h := mie hc h
        refine mw_iinc (v := (x9 + 1)) (L' := [(9, .int (x9 + 1)), (10, .int r1), (0, .ref 69), (1, .int a1), (2, .int a2), (3, .int a3), (4, .int a4), (5, .long a5), (7, .long a7)]) dX10_goesRound_132 8 rfl rfl (by decide) rfl ?_
        refine mw_goto (tgt := 3) dX10_goesRound_135 (by decide) ?_
        exact mw_sub (L' := [(0, .ref 69), (1, .int a1), (2, .int a2), (3, .int a3), (4, .int a4), (5, .long a5), (7, .long a7), (9, .int (x9 + 1))]) [2, 3, 4, 5, 6, 7, 8, 0] rfl (ih _ _ h)
      · have h := mit hc h
        refine mw_aload_n dX10_goesRound_34 1 rfl ?_
        refine mw_iload dX10_goesRound_35 8 rfl ?_
        refine mw_iconst (v := 1) dX10_goesRound_37 (by decide) ?_
        obtain ⟨r3, e4, h⟩ := mbd h
        refine mv_callV_i (As := [.int x9, .int (1 : Int32)]) (ci := 9) lkV_RX10_70_yX10_at dX10_goesRound_38 (k_X10_at e4) rfl rfl rfl rfl (Nat.le_of_ble_eq_true rfl) (by omega) (by decide) ?_
        refine mw_iload_n dX10_goesRound_41 3 rfl ?_
        refine mw_icmp_ne (tgt := 132) dX10_goesRound_42 (by decide) (fun hc => ?_) (fun hc => ?_)
        · have h := mie hc h
          refine mw_iinc (v := (x9 + 1)) (L' := [(9, .int (x9 + 1)), (10, .int r1), (0, .ref 69), (1, .int a1), (2, .int a2), (3, .int a3), (4, .int a4), (5, .long a5), (7, .long a7)]) dX10_goesRound_132 8 rfl rfl (by decide) rfl ?_
          refine mw_goto (tgt := 3) dX10_goesRound_135 (by decide) ?_
          exact mw_sub (L' := [(0, .ref 69), (1, .int a1), (2, .int a2), (3, .int a3), (4, .int a4), (5, .long a5), (7, .long a7), (9, .int (x9 + 1))]) [2, 3, 4, 5, 6, 7, 8, 0] rfl (ih _ _ h)
        · have h := mit hc h
          refine mw_iload dX10_goesRound_45 0 rfl ?_
          refine mw_iload_n dX10_goesRound_47 2 rfl ?_
          refine mw_icmp_lt (tgt := 132) dX10_goesRound_48 (by decide) (fun hc => ?_) (fun hc => ?_)
          · have h := mit hc h
            refine mw_iinc (v := (x9 + 1)) (L' := [(9, .int (x9 + 1)), (10, .int r1), (0, .ref 69), (1, .int a1), (2, .int a2), (3, .int a3), (4, .int a4), (5, .long a5), (7, .long a7)]) dX10_goesRound_132 8 rfl rfl (by decide) rfl ?_
            refine mw_goto (tgt := 3) dX10_goesRound_135 (by decide) ?_
            exact mw_sub (L' := [(0, .ref 69), (1, .int a1), (2, .int a2), (3, .int a3), (4, .int a4), (5, .long a5), (7, .long a7), (9, .int (x9 + 1))]) [2, 3, 4, 5, 6, 7, 8, 0] rfl (ih _ _ h)
          · have h := mie hc h
            refine mw_lload dX10_goesRound_51 6 rfl ?_
            refine mw_aload_n dX10_goesRound_53 1 rfl ?_
            refine mw_iload dX10_goesRound_54 8 rfl ?_
            obtain ⟨r5, e6, h⟩ := mbd h
            refine mv_callV_i (As := [.int x9]) (ci := 9) lkV_RX10_107_yX10_brings dX10_goesRound_56 (k_X10_brings e6) rfl rfl rfl rfl (Nat.le_of_ble_eq_true rfl) (by omega) (by decide) ?_
            refine mw_i2l dX10_goesRound_59 ?_
            refine mw_ladd dX10_goesRound_60 ?_
            refine mw_lstore (L' := [(11, .long (a5 + r5.toInt64)), (10, .int r1), (0, .ref 69), (1, .int a1), (2, .int a2), (3, .int a3), (4, .int a4), (5, .long a5), (7, .long a7), (9, .int x9)]) dX10_goesRound_61 (by decide) rfl ?_
            refine mw_lload dX10_goesRound_63 8 rfl ?_
            refine mw_aload_n dX10_goesRound_65 2 rfl ?_
            refine mw_iload dX10_goesRound_66 9 rfl ?_
            obtain ⟨r7, e8, h⟩ := mbd h
            refine mv_callV_i (As := [.int x9]) (ci := 9) lkV_RX10_110_yX10_lasts dX10_goesRound_68 (k_X10_lasts e8) rfl rfl rfl rfl (Nat.le_of_ble_eq_true rfl) (by omega) (by decide) ?_
            refine mw_i2l dX10_goesRound_71 ?_
            refine mw_ladd dX10_goesRound_72 ?_
            refine mw_lstore (L' := [(13, .long (a7 + r7.toInt64)), (11, .long (a5 + r5.toInt64)), (10, .int r1), (0, .ref 69), (1, .int a1), (2, .int a2), (3, .int a3), (4, .int a4), (5, .long a5), (7, .long a7), (9, .int x9)]) dX10_goesRound_73 (by decide) rfl ?_
            refine mw_iload dX10_goesRound_75 2 rfl ?_
            refine mw_iload_n dX10_goesRound_77 4 rfl ?_
            refine mw_icmp_ne (tgt := 99) dX10_goesRound_78 (by decide) (fun hc => ?_) (fun hc => ?_)
            · have h := mie hc h
              refine mw_iload_n dX10_goesRound_99 6 rfl ?_
              refine mw_iload dX10_goesRound_100 2 rfl ?_
              refine mw_ishr dX10_goesRound_102 ?_
              refine mw_iconst (v := 1) dX10_goesRound_103 (by decide) ?_
              refine mw_iand dX10_goesRound_104 ?_
              refine mw_if_ne (tgt := 132) dX10_goesRound_105 (by decide) (fun hc => ?_) (fun hc => ?_)
              · have h := mie hc h
                refine mw_iinc (v := (x9 + 1)) (L' := [(9, .int (x9 + 1)), (13, .long (a7 + r7.toInt64)), (11, .long (a5 + r5.toInt64)), (10, .int r1), (0, .ref 69), (1, .int a1), (2, .int a2), (3, .int a3), (4, .int a4), (5, .long a5), (7, .long a7)]) dX10_goesRound_132 10 rfl rfl (by decide) rfl ?_
                refine mw_goto (tgt := 3) dX10_goesRound_135 (by decide) ?_
                exact mw_sub (L' := [(0, .ref 69), (1, .int a1), (2, .int a2), (3, .int a3), (4, .int a4), (5, .long a5), (7, .long a7), (9, .int (x9 + 1))]) [4, 5, 6, 7, 8, 9, 10, 0] rfl (ih _ _ h)
              · have h := mit hc h
                refine mw_aload_n dX10_goesRound_108 3 rfl ?_
                refine mw_iload_n dX10_goesRound_109 4 rfl ?_
                refine mw_iload dX10_goesRound_110 2 rfl ?_
                refine mw_iload_n dX10_goesRound_112 6 rfl ?_
                refine mw_iconst (v := 1) dX10_goesRound_113 (by decide) ?_
                refine mw_iload dX10_goesRound_114 2 rfl ?_
                refine mw_ishl dX10_goesRound_116 ?_
                refine mw_ior dX10_goesRound_117 ?_
                refine mw_iload dX10_goesRound_118 7 rfl ?_
                refine mw_iconst (v := 1) dX10_goesRound_120 (by decide) ?_
                refine mw_iload dX10_goesRound_121 10 rfl ?_
                refine mw_ishl dX10_goesRound_123 ?_
                refine mw_ior dX10_goesRound_124 ?_
                refine mw_lload dX10_goesRound_125 1 rfl ?_
                refine mw_lload dX10_goesRound_127 0 rfl ?_
                obtain ⟨r9, e10, h⟩ := mbd h
                refine mv_callV_v (As := [.int a1, .int r1, .int (a3 ||| ((1 : Int32) <<< (r1 &&& 31))), .int (a4 ||| ((1 : Int32) <<< (x9 &&& 31))), .long (a5 + r5.toInt64), .long (a7 + r7.toInt64)]) (ci := 9) lkV_RX10_153_yX10_goesRound dX10_goesRound_129 (IH _ _ _ _ _ _ _ _ e10) rfl rfl rfl rfl (Nat.le_of_ble_eq_true rfl) (by omega) (by decide) ?_
                refine mw_iinc (v := (x9 + 1)) (L' := [(9, .int (x9 + 1)), (13, .long (a7 + r7.toInt64)), (11, .long (a5 + r5.toInt64)), (10, .int r1), (0, .ref 69), (1, .int a1), (2, .int a2), (3, .int a3), (4, .int a4), (5, .long a5), (7, .long a7)]) dX10_goesRound_132 10 rfl rfl (by decide) rfl ?_
                refine mw_goto (tgt := 3) dX10_goesRound_135 (by decide) ?_
                exact mw_sub (L' := [(0, .ref 69), (1, .int a1), (2, .int a2), (3, .int a3), (4, .int a4), (5, .long a5), (7, .long a7), (9, .int (x9 + 1))]) [4, 5, 6, 7, 8, 9, 10, 0] rfl (ih _ _ h)
            · have h := mit hc h
              refine mw_aload_n dX10_goesRound_81 3 rfl ?_
              refine mw_iload dX10_goesRound_82 7 rfl ?_
              refine mw_iconst (v := 1) dX10_goesRound_84 (by decide) ?_
              refine mw_iload dX10_goesRound_85 10 rfl ?_
              refine mw_ishl dX10_goesRound_87 ?_
              refine mw_ior dX10_goesRound_88 ?_
              refine mw_lload dX10_goesRound_89 1 rfl ?_
              refine mw_lload dX10_goesRound_91 0 rfl ?_
              obtain ⟨r11, e12, h⟩ := mbd h
              refine mv_callV_v (As := [.int (a4 ||| ((1 : Int32) <<< (x9 &&& 31))), .long (a5 + r5.toInt64), .long (a7 + r7.toInt64)]) (ci := 9) lkV_RX10_149_yX10_closes dX10_goesRound_93 (k_X10_closes e12) rfl rfl rfl rfl (Nat.le_of_ble_eq_true rfl) (by omega) (by decide) ?_
              refine mw_goto (tgt := 132) dX10_goesRound_96 (by decide) ?_
              refine mw_iinc (v := (x9 + 1)) (L' := [(9, .int (x9 + 1)), (13, .long (a7 + r7.toInt64)), (11, .long (a5 + r5.toInt64)), (10, .int r1), (0, .ref 69), (1, .int a1), (2, .int a2), (3, .int a3), (4, .int a4), (5, .long a5), (7, .long a7)]) dX10_goesRound_132 10 rfl rfl (by decide) rfl ?_
              refine mw_goto (tgt := 3) dX10_goesRound_135 (by decide) ?_
              exact mw_sub (L' := [(0, .ref 69), (1, .int a1), (2, .int a2), (3, .int a3), (4, .int a4), (5, .long a5), (7, .long a7), (9, .int (x9 + 1))]) [4, 5, 6, 7, 8, 9, 10, 0] rfl (ih _ _ h)
def e_X10_goesRound  : Nat → Int32 → Int32 → Int32 → Int32 → Int64 → Int64 → ES → Option ES
  | 0, _, _, _, _, _, _, _ => none
  | d + 1, a1, a2, a3, a4, a5, a7, σ => e_X10_goesRound_L3 (e_X10_goesRound d) a1 a2 a3 a4 a5 a7 mN (0 : Int32) σ
set_option maxRecDepth 100000 in
set_option maxHeartbeats 4000000 in
theorem k_X10_goesRound {l : Launch} : ∀ (d : Nat), ∀ (τ : ES) (b1 : Int32) (b2 : Int32) (b3 : Int32) (b4 : Int32) (b5 : Int64) (b7 : Int64) (r : ES), e_X10_goesRound d b1 b2 b3 b4 b5 b7 τ = some r → MK l yX10_goesRound cX10_goesRound 15 none (3 + d) [.ref 69, .int b1, .int b2, .int b3, .int b4, .long b5, .long b7] (mkS τ) none (mkS r) := by
  intro d
  induction d with
  | zero =>
    intro τ b1 b2 b3 b4 b5 b7 r h
    exact nomatch h
  | succ d IH =>
    intro σ a1 a2 a3 a4 a5 a7 out h
    rw [e_X10_goesRound] at h
    refine mw_entry (own := RX10) (ini := false) (L := [(0, .ref 69), (1, .int a1), (2, .int a2), (3, .int a3), (4, .int a4), (5, .long a5), (7, .long a7)]) (by decide +kernel) rfl (fun h => nomatch h) rfl (Nat.le_of_ble_eq_true rfl) (Nat.le_of_ble_eq_true rfl) (fun E => ?_)
    refine mw_iconst (v := 0) dX10_goesRound_0 (by decide) ?_
    refine mw_istore (L' := [(9, .int (0 : Int32)), (0, .ref 69), (1, .int a1), (2, .int a2), (3, .int a3), (4, .int a4), (5, .long a5), (7, .long a7)]) dX10_goesRound_1 (by decide) rfl ?_
    exact mw_sub (L' := [(0, .ref 69), (1, .int a1), (2, .int a2), (3, .int a3), (4, .int a4), (5, .long a5), (7, .long a7), (9, .int (0 : Int32))]) [1, 2, 3, 4, 5, 6, 7, 0] rfl (p_X10_goesRound_L3 IH  mN _ _ h)

theorem dX10_rings_0 : decode cX10_rings 0 = .ok (.aload_n 0, 1) := by decide +kernel
theorem dX10_rings_1 : decode cX10_rings 1 = .ok (.iload_n 1, 1) := by decide +kernel
theorem dX10_rings_2 : decode cX10_rings 2 = .ok (.putfield 146, 3) := by decide +kernel
theorem dX10_rings_5 : decode cX10_rings 5 = .ok (.aload_n 0, 1) := by decide +kernel
theorem dX10_rings_6 : decode cX10_rings 6 = .ok (.iload_n 2, 1) := by decide +kernel
theorem dX10_rings_7 : decode cX10_rings 7 = .ok (.putfield 129, 3) := by decide +kernel
theorem dX10_rings_10 : decode cX10_rings 10 = .ok (.aload_n 0, 1) := by decide +kernel
theorem dX10_rings_11 : decode cX10_rings 11 = .ok (.iconst 0, 1) := by decide +kernel
theorem dX10_rings_12 : decode cX10_rings 12 = .ok (.putfield 132, 3) := by decide +kernel
theorem dX10_rings_15 : decode cX10_rings 15 = .ok (.aload_n 0, 1) := by decide +kernel
theorem dX10_rings_16 : decode cX10_rings 16 = .ok (.iconst 0, 1) := by decide +kernel
theorem dX10_rings_17 : decode cX10_rings 17 = .ok (.putfield 143, 3) := by decide +kernel
theorem dX10_rings_20 : decode cX10_rings 20 = .ok (.iconst 0, 1) := by decide +kernel
theorem dX10_rings_21 : decode cX10_rings 21 = .ok (.istore_n 3, 1) := by decide +kernel
theorem dX10_rings_22 : decode cX10_rings 22 = .ok (.iload_n 3, 1) := by decide +kernel
theorem dX10_rings_23 : decode cX10_rings 23 = .ok (.aload_n 0, 1) := by decide +kernel
theorem dX10_rings_24 : decode cX10_rings 24 = .ok (.getfield 15, 3) := by decide +kernel
theorem dX10_rings_27 : decode cX10_rings 27 = .ok (.if_icmp .ge 21, 3) := by decide +kernel
theorem dX10_rings_30 : decode cX10_rings 30 = .ok (.aload_n 0, 1) := by decide +kernel
theorem dX10_rings_31 : decode cX10_rings 31 = .ok (.iload_n 3, 1) := by decide +kernel
theorem dX10_rings_32 : decode cX10_rings 32 = .ok (.iload_n 3, 1) := by decide +kernel
theorem dX10_rings_33 : decode cX10_rings 33 = .ok (.iconst 1, 1) := by decide +kernel
theorem dX10_rings_34 : decode cX10_rings 34 = .ok (.iload_n 3, 1) := by decide +kernel
theorem dX10_rings_35 : decode cX10_rings 35 = .ok (.ishl, 1) := by decide +kernel
theorem dX10_rings_36 : decode cX10_rings 36 = .ok (.iconst 0, 1) := by decide +kernel
theorem dX10_rings_37 : decode cX10_rings 37 = .ok (.lconst 0, 1) := by decide +kernel
theorem dX10_rings_38 : decode cX10_rings 38 = .ok (.lconst 0, 1) := by decide +kernel
theorem dX10_rings_39 : decode cX10_rings 39 = .ok (.invokevirtual 153, 3) := by decide +kernel
theorem dX10_rings_42 : decode cX10_rings 42 = .ok (.iinc 3 1, 3) := by decide +kernel
theorem dX10_rings_45 : decode cX10_rings 45 = .ok (.goto (-23), 3) := by decide +kernel
theorem dX10_rings_48 : decode cX10_rings 48 = .ok (.aload_n 0, 1) := by decide +kernel
theorem dX10_rings_49 : decode cX10_rings 49 = .ok (.getfield 132, 3) := by decide +kernel
theorem dX10_rings_52 : decode cX10_rings 52 = .ok (.ireturn, 1) := by decide +kernel
def e_X10_rings_L22 (a1 : Int32) (a2 : Int32) : Nat → Int32 → ES → Option (Int32 × ES)
  | 0, _, _ => none
  | n + 1, x3, σ => if (eI σ 69 1) ≤ x3 then (if (eI σ 69 10) = 0 ∨ (eI σ 69 10) = 1 then (some ((eI σ 69 10), σ)) else none) else ((e_X10_goesRound 8 x3 x3 ((1 : Int32) <<< (x3 &&& 31)) (0 : Int32) (0 : Int64) (0 : Int64) σ).bind (fun r2 => e_X10_rings_L22 a1 a2 n (x3 + 1) r2))
set_option maxRecDepth 100000 in
set_option maxHeartbeats 4000000 in
theorem p_X10_rings_L22 {l : Launch} {E : MX} {out : (Int32 × ES)} {a1 : Int32} {a2 : Int32}  : ∀ (n : Nat) (x3 : Int32) (σ : ES), e_X10_rings_L22 a1 a2 n x3 σ = some out → MV l E cX10_rings RX10 4 (some .boolean) 12 (82, (some (.int out.1)), mkS out.2) (mkS σ) 22 [(0, .ref 69), (1, .int a1), (2, .int a2), (3, .int x3)] [] := by
  intro n
  induction n with
  | zero =>
    intro x3 σ h
    exact nomatch h
  | succ n ih =>
    intro x3 σ h
    rw [e_X10_rings_L22] at h
    refine mw_iload_n dX10_rings_22 3 rfl ?_
    refine mw_aload_n dX10_rings_23 0 rfl ?_
    refine ev_getI fd_RX10_15_9 dX10_rings_24 rfl rfl ?_
    refine mw_icmp_ge (tgt := 48) dX10_rings_27 (by decide) (fun hc => ?_) (fun hc => ?_)
    · have h := mit hc h
      refine mw_aload_n dX10_rings_48 0 rfl ?_
      refine ev_getZ fd_RX10_132_9 dX10_rings_49 rfl rfl ?_
      obtain ⟨m1, h⟩ := mif h
      exact mw_zret dX10_rings_52 rfl m1 (ers_im h) rfl rfl
    · have h := mie hc h
      refine mw_aload_n dX10_rings_30 0 rfl ?_
      refine mw_iload_n dX10_rings_31 3 rfl ?_
      refine mw_iload_n dX10_rings_32 3 rfl ?_
      refine mw_iconst (v := 1) dX10_rings_33 (by decide) ?_
      refine mw_iload_n dX10_rings_34 3 rfl ?_
      refine mw_ishl dX10_rings_35 ?_
      refine mw_iconst (v := 0) dX10_rings_36 (by decide) ?_
      refine mw_lconst (v := 0) dX10_rings_37 (by decide) ?_
      refine mw_lconst (v := 0) dX10_rings_38 (by decide) ?_
      obtain ⟨r2, e3, h⟩ := mbd h
      refine mv_callV_v (As := [.int x3, .int x3, .int ((1 : Int32) <<< (x3 &&& 31)), .int (0 : Int32), .long (0 : Int64), .long (0 : Int64)]) (ci := 9) lkV_RX10_153_yX10_goesRound dX10_rings_39 (k_X10_goesRound 8 _ _ _ _ _ _ _ _ e3) rfl rfl rfl rfl (Nat.le_of_ble_eq_true rfl) (by decide) (by decide) ?_
      refine mw_iinc (v := (x3 + 1)) (L' := [(3, .int (x3 + 1)), (0, .ref 69), (1, .int a1), (2, .int a2)]) dX10_rings_42 3 rfl rfl (by decide) rfl ?_
      refine mw_goto (tgt := 22) dX10_rings_45 (by decide) ?_
      exact mw_sub (L' := [(0, .ref 69), (1, .int a1), (2, .int a2), (3, .int (x3 + 1))]) [1, 2, 3, 0] rfl (ih _ _ h)
def e_X10_rings (a1 : Int32) (a2 : Int32) (σ : ES) : Option (Int32 × ES) := e_X10_rings_L22 a1 a2 mN (0 : Int32) (uI (uI (uI (uI σ 69 8 a1) 69 9 a2) 69 10 (0 : Int32)) 69 13 (0 : Int32))
set_option maxRecDepth 100000 in
set_option maxHeartbeats 4000000 in
theorem k_X10_rings {l : Launch} {σ : ES} {a1 : Int32} {a2 : Int32} {out : (Int32 × ES)} (h : e_X10_rings a1 a2 σ = some out) : MK l yX10_rings cX10_rings 4 (some .boolean) 12 [.ref 69, .int a1, .int a2] (mkS σ) (some (.int out.1)) (mkS out.2) := by
  unfold e_X10_rings at h
  refine mw_entry (own := RX10) (ini := false) (L := [(0, .ref 69), (1, .int a1), (2, .int a2)]) (by decide +kernel) rfl (fun h => nomatch h) rfl (Nat.le_of_ble_eq_true rfl) (Nat.le_of_ble_eq_true rfl) (fun E => ?_)
  refine mw_aload_n dX10_rings_0 0 rfl ?_
  refine mw_iload_n dX10_rings_1 1 rfl ?_
  refine ev_putI fw_RX10_146_9 dX10_rings_2 rfl rfl ?_
  refine mw_aload_n dX10_rings_5 0 rfl ?_
  refine mw_iload_n dX10_rings_6 2 rfl ?_
  refine ev_putI fw_RX10_129_9 dX10_rings_7 rfl rfl ?_
  refine mw_aload_n dX10_rings_10 0 rfl ?_
  refine mw_iconst (v := 0) dX10_rings_11 (by decide) ?_
  refine ev_putZ fw_RX10_132_9 dX10_rings_12 rfl rfl (by decide) ?_
  refine mw_aload_n dX10_rings_15 0 rfl ?_
  refine mw_iconst (v := 0) dX10_rings_16 (by decide) ?_
  refine ev_putI fw_RX10_143_9 dX10_rings_17 rfl rfl ?_
  refine mw_iconst (v := 0) dX10_rings_20 (by decide) ?_
  refine mw_istore_n (L' := [(3, .int (0 : Int32)), (0, .ref 69), (1, .int a1), (2, .int a2)]) dX10_rings_21 rfl (by decide) rfl ?_
  exact mw_sub (L' := [(0, .ref 69), (1, .int a1), (2, .int a2), (3, .int (0 : Int32))]) [1, 2, 3, 0] rfl (p_X10_rings_L22  mN _ _ h)

theorem dX10_ringsNow_0 : decode cX10_ringsNow 0 = .ok (.aload_n 0, 1) := by decide +kernel
theorem dX10_ringsNow_1 : decode cX10_ringsNow 1 = .ok (.aload_n 0, 1) := by decide +kernel
theorem dX10_ringsNow_2 : decode cX10_ringsNow 2 = .ok (.invokevirtual 157, 3) := by decide +kernel
theorem dX10_ringsNow_5 : decode cX10_ringsNow 5 = .ok (.iconst 0, 1) := by decide +kernel
theorem dX10_ringsNow_6 : decode cX10_ringsNow 6 = .ok (.invokevirtual 161, 3) := by decide +kernel
theorem dX10_ringsNow_9 : decode cX10_ringsNow 9 = .ok (.ireturn, 1) := by decide +kernel
def e_X10_ringsNow (σ : ES) : Option (Int32 × ES) := (e_X10_openWays σ).bind (fun r1 => (e_X10_rings r1 (0 : Int32) σ).bind (fun r3 => if r3.1 = 0 ∨ r3.1 = 1 then (some (r3.1, r3.2)) else none))
set_option maxRecDepth 100000 in
set_option maxHeartbeats 4000000 in
theorem k_X10_ringsNow {l : Launch} {σ : ES}  {out : (Int32 × ES)} (h : e_X10_ringsNow σ = some out) : MK l yX10_ringsNow cX10_ringsNow 1 (some .boolean) 13 [.ref 69] (mkS σ) (some (.int out.1)) (mkS out.2) := by
  unfold e_X10_ringsNow at h
  refine mw_entry (own := RX10) (ini := false) (L := [(0, .ref 69)]) (by decide +kernel) rfl (fun h => nomatch h) rfl (Nat.le_of_ble_eq_true rfl) (Nat.le_of_ble_eq_true rfl) (fun E => ?_)
  refine mw_aload_n dX10_ringsNow_0 0 rfl ?_
  refine mw_aload_n dX10_ringsNow_1 0 rfl ?_
  obtain ⟨r1, e2, h⟩ := mbd h
  refine mv_callV_i (As := []) (ci := 9) lkV_RX10_157_yX10_openWays dX10_ringsNow_2 (k_X10_openWays e2) rfl rfl rfl rfl (Nat.le_of_ble_eq_true rfl) (by decide) (by decide) ?_
  refine mw_iconst (v := 0) dX10_ringsNow_5 (by decide) ?_
  obtain ⟨r3, e4, h⟩ := mbd h
  refine mv_callV_i (As := [.int r1, .int (0 : Int32)]) (ci := 9) lkV_RX10_161_yX10_rings dX10_ringsNow_6 (k_X10_rings e4) rfl rfl rfl rfl (Nat.le_of_ble_eq_true rfl) (by decide) (by decide) ?_
  obtain ⟨m5, h⟩ := mif h
  exact mw_zret dX10_ringsNow_9 rfl m5 (ers_im h) rfl rfl

theorem dX10_farFinds_0 : decode cX10_farFinds 0 = .ok (.aload_n 0, 1) := by decide +kernel
theorem dX10_farFinds_1 : decode cX10_farFinds 1 = .ok (.getfield 9, 3) := by decide +kernel
theorem dX10_farFinds_4 : decode cX10_farFinds 4 = .ok (.iload_n 1, 1) := by decide +kernel
theorem dX10_farFinds_5 : decode cX10_farFinds 5 = .ok (.dup2, 1) := by decide +kernel
theorem dX10_farFinds_6 : decode cX10_farFinds 6 = .ok (.iaload, 1) := by decide +kernel
theorem dX10_farFinds_7 : decode cX10_farFinds 7 = .ok (.iconst 1, 1) := by decide +kernel
theorem dX10_farFinds_8 : decode cX10_farFinds 8 = .ok (.iadd, 1) := by decide +kernel
theorem dX10_farFinds_9 : decode cX10_farFinds 9 = .ok (.iastore, 1) := by decide +kernel
theorem dX10_farFinds_10 : decode cX10_farFinds 10 = .ok (.ldc2_w 55, 3) := by decide +kernel
theorem dX10_farFinds_13 : decode cX10_farFinds 13 = .ok (.iload_n 1, 1) := by decide +kernel
theorem dX10_farFinds_14 : decode cX10_farFinds 14 = .ok (.i2l, 1) := by decide +kernel
theorem dX10_farFinds_15 : decode cX10_farFinds 15 = .ok (.lsub, 1) := by decide +kernel
theorem dX10_farFinds_16 : decode cX10_farFinds 16 = .ok (.lreturn, 1) := by decide +kernel
def e_X10_farFinds (a1 : Int32) (σ : ES) : Option (Int64 × ES) := if mib a1 9 = true then (some (((-4000000000000000001 : Int64) - a1.toInt64), (uI σ 70 a1.toNatClampNeg ((eI σ 70 a1.toNatClampNeg) + (1 : Int32))))) else none
set_option maxRecDepth 100000 in
set_option maxHeartbeats 4000000 in
theorem k_X10_farFinds {l : Launch} {σ : ES} {a1 : Int32} {out : (Int64 × ES)} (h : e_X10_farFinds a1 σ = some out) : MK l yX10_farFinds cX10_farFinds 2 (some .long) 1 [.ref 69, .int a1] (mkS σ) (some (.long out.1)) (mkS out.2) := by
  unfold e_X10_farFinds at h
  refine mw_entry (own := RX10) (ini := false) (L := [(0, .ref 69), (1, .int a1)]) (by decide +kernel) rfl (fun h => nomatch h) rfl (Nat.le_of_ble_eq_true rfl) (Nat.le_of_ble_eq_true rfl) (fun E => ?_)
  refine mw_aload_n dX10_farFinds_0 0 rfl ?_
  refine ev_getR (q := 70) fd_RX10_9_9 dX10_farFinds_1 rfl rfl rfl ?_
  refine mw_iload_n dX10_farFinds_4 1 rfl ?_
  refine mw_dup2 dX10_farFinds_5 rfl rfl ?_
  obtain ⟨m1, h⟩ := mif h
  refine ev_iald dX10_farFinds_6 (by decide) rfl m1 ?_
  refine mw_iconst (v := 1) dX10_farFinds_7 (by decide) ?_
  refine mw_iadd dX10_farFinds_8 ?_
  refine ev_iast dX10_farFinds_9 (by decide) rfl m1 ?_
  refine mw_ldc2 dX10_farFinds_10 wt_668 ?_
  refine mw_iload_n dX10_farFinds_13 1 rfl ?_
  refine mw_i2l dX10_farFinds_14 ?_
  refine mw_lsub dX10_farFinds_15 ?_
  exact mw_lret dX10_farFinds_16 rfl (ers_lm h) rfl rfl

theorem dX10_common_0 : decode cX10_common 0 = .ok (.lload_n 0, 1) := by decide +kernel
theorem dX10_common_1 : decode cX10_common 1 = .ok (.lconst 0, 1) := by decide +kernel
theorem dX10_common_2 : decode cX10_common 2 = .ok (.lcmp, 1) := by decide +kernel
theorem dX10_common_3 : decode cX10_common 3 = .ok (.ifCond .ge 8, 3) := by decide +kernel
theorem dX10_common_6 : decode cX10_common 6 = .ok (.lload_n 0, 1) := by decide +kernel
theorem dX10_common_7 : decode cX10_common 7 = .ok (.lneg, 1) := by decide +kernel
theorem dX10_common_8 : decode cX10_common 8 = .ok (.goto 4, 3) := by decide +kernel
theorem dX10_common_11 : decode cX10_common 11 = .ok (.lload_n 0, 1) := by decide +kernel
theorem dX10_common_12 : decode cX10_common 12 = .ok (.lstore 4, 2) := by decide +kernel
theorem dX10_common_14 : decode cX10_common 14 = .ok (.lload_n 2, 1) := by decide +kernel
theorem dX10_common_15 : decode cX10_common 15 = .ok (.lstore 6, 2) := by decide +kernel
theorem dX10_common_17 : decode cX10_common 17 = .ok (.lload 6, 2) := by decide +kernel
theorem dX10_common_19 : decode cX10_common 19 = .ok (.lconst 0, 1) := by decide +kernel
theorem dX10_common_20 : decode cX10_common 20 = .ok (.lcmp, 1) := by decide +kernel
theorem dX10_common_21 : decode cX10_common 21 = .ok (.ifCond .eq 21, 3) := by decide +kernel
theorem dX10_common_24 : decode cX10_common 24 = .ok (.lload 4, 2) := by decide +kernel
theorem dX10_common_26 : decode cX10_common 26 = .ok (.lload 6, 2) := by decide +kernel
theorem dX10_common_28 : decode cX10_common 28 = .ok (.lrem, 1) := by decide +kernel
theorem dX10_common_29 : decode cX10_common 29 = .ok (.lstore 8, 2) := by decide +kernel
theorem dX10_common_31 : decode cX10_common 31 = .ok (.lload 6, 2) := by decide +kernel
theorem dX10_common_33 : decode cX10_common 33 = .ok (.lstore 4, 2) := by decide +kernel
theorem dX10_common_35 : decode cX10_common 35 = .ok (.lload 8, 2) := by decide +kernel
theorem dX10_common_37 : decode cX10_common 37 = .ok (.lstore 6, 2) := by decide +kernel
theorem dX10_common_39 : decode cX10_common 39 = .ok (.goto (-22), 3) := by decide +kernel
theorem dX10_common_42 : decode cX10_common 42 = .ok (.lload 4, 2) := by decide +kernel
theorem dX10_common_44 : decode cX10_common 44 = .ok (.lreturn, 1) := by decide +kernel
def e_X10_common_L17 (a0 : Int64) (a2 : Int64) : Nat → Int64 → Int64 → Option Int64
  | 0, _, _ => none
  | n + 1, x4, x6 => if x6 = (0 : Int64) then (some x4) else (if x6 = 0 then none else (e_X10_common_L17 a0 a2 n x6 (x4 - x4 / x6 * x6)))
set_option maxRecDepth 100000 in
set_option maxHeartbeats 4000000 in
theorem p_X10_common_L17 {l : Launch} {E : MX} {out : Int64} {a0 : Int64} {a2 : Int64} {σ : ES}  : ∀ (n : Nat) (x4 : Int64) (x6 : Int64), e_X10_common_L17 a0 a2 n x4 x6 = some out → MV l E cX10_common RX10 10 (some .long) 1 (82, (some (.long out)), mkS σ) (mkS σ) 17 [(0, .long a0), (2, .long a2), (4, .long x4), (6, .long x6)] [] := by
  intro n
  induction n with
  | zero =>
    intro x4 x6 h
    exact nomatch h
  | succ n ih =>
    intro x4 x6 h
    rw [e_X10_common_L17] at h
    refine mw_lload dX10_common_17 3 rfl ?_
    refine mw_lconst (v := 0) dX10_common_19 (by decide) ?_
    refine mw_lc_eq (tgt := 42) dX10_common_20 dX10_common_21 (by decide) (fun hc => ?_) (fun hc => ?_)
    · have h := mit hc h
      refine mw_lload dX10_common_42 2 rfl ?_
      exact mw_lret dX10_common_44 rfl (ers_l h) rfl rfl
    · have h := mie hc h
      refine mw_lload dX10_common_24 2 rfl ?_
      refine mw_lload dX10_common_26 3 rfl ?_
      obtain ⟨m1, h⟩ := mnf h
      refine mw_lrem dX10_common_28 m1 ?_
      refine mw_lstore (L' := [(8, .long (x4 - x4 / x6 * x6)), (0, .long a0), (2, .long a2), (4, .long x4), (6, .long x6)]) dX10_common_29 (by decide) rfl ?_
      refine mw_lload dX10_common_31 4 rfl ?_
      refine mw_lstore (L' := [(4, .long x6), (8, .long (x4 - x4 / x6 * x6)), (0, .long a0), (2, .long a2), (6, .long x6)]) dX10_common_33 (by decide) rfl ?_
      refine mw_lload dX10_common_35 1 rfl ?_
      refine mw_lstore (L' := [(6, .long (x4 - x4 / x6 * x6)), (4, .long x6), (8, .long (x4 - x4 / x6 * x6)), (0, .long a0), (2, .long a2)]) dX10_common_37 (by decide) rfl ?_
      refine mw_goto (tgt := 17) dX10_common_39 (by decide) ?_
      exact mw_sub (L' := [(0, .long a0), (2, .long a2), (4, .long x6), (6, .long (x4 - x4 / x6 * x6))]) [3, 4, 1, 0] rfl (ih _ _ h)
def e_X10_common (a0 : Int64) (a2 : Int64) : Option Int64 := if (0 : Int64) ≤ a0 then (e_X10_common_L17 a0 a2 mN a0 a2) else (e_X10_common_L17 a0 a2 mN (-a0) a2)
set_option maxRecDepth 100000 in
set_option maxHeartbeats 4000000 in
theorem k_X10_common {l : Launch} {σ : ES} {a0 : Int64} {a2 : Int64} {out : Int64} (h : e_X10_common a0 a2 = some out) : MK l yX10_common cX10_common 10 (some .long) 1 [.long a0, .long a2] (mkS σ) (some (.long out)) (mkS σ) := by
  unfold e_X10_common at h
  refine mw_entry (own := RX10) (ini := false) (L := [(0, .long a0), (2, .long a2)]) (by decide +kernel) rfl (fun h => nomatch h) rfl (Nat.le_of_ble_eq_true rfl) (Nat.le_of_ble_eq_true rfl) (fun E => ?_)
  refine mw_lload_n dX10_common_0 0 rfl ?_
  refine mw_lconst (v := 0) dX10_common_1 (by decide) ?_
  refine mw_lc_ge (tgt := 11) dX10_common_2 dX10_common_3 (by decide) (fun hc => ?_) (fun hc => ?_)
  · have h := mit hc h
    refine mw_lload_n dX10_common_11 0 rfl ?_
    refine mw_lstore (L' := [(4, .long a0), (0, .long a0), (2, .long a2)]) dX10_common_12 (by decide) rfl ?_
    refine mw_lload_n dX10_common_14 2 rfl ?_
    refine mw_lstore (L' := [(6, .long a2), (4, .long a0), (0, .long a0), (2, .long a2)]) dX10_common_15 (by decide) rfl ?_
    exact mw_sub (L' := [(0, .long a0), (2, .long a2), (4, .long a0), (6, .long a2)]) [2, 3, 1, 0] rfl (p_X10_common_L17  mN _ _ h)
  · have h := mie hc h
    refine mw_lload_n dX10_common_6 0 rfl ?_
    refine mw_lneg dX10_common_7 ?_
    refine mw_goto (tgt := 12) dX10_common_8 (by decide) ?_
    refine mw_lstore (L' := [(4, .long (-a0)), (0, .long a0), (2, .long a2)]) dX10_common_12 (by decide) rfl ?_
    refine mw_lload_n dX10_common_14 2 rfl ?_
    refine mw_lstore (L' := [(6, .long a2), (4, .long (-a0)), (0, .long a0), (2, .long a2)]) dX10_common_15 (by decide) rfl ?_
    exact mw_sub (L' := [(0, .long a0), (2, .long a2), (4, .long (-a0)), (6, .long a2)]) [2, 3, 1, 0] rfl (p_X10_common_L17  mN _ _ h)

theorem dX10_lowest_0 : decode cX10_lowest 0 = .ok (.lload_n 0, 1) := by decide +kernel
theorem dX10_lowest_1 : decode cX10_lowest 1 = .ok (.lload_n 2, 1) := by decide +kernel
theorem dX10_lowest_2 : decode cX10_lowest 2 = .ok (.invokestatic 125, 3) := by decide +kernel
theorem dX10_lowest_5 : decode cX10_lowest 5 = .ok (.lstore 5, 2) := by decide +kernel
theorem dX10_lowest_7 : decode cX10_lowest 7 = .ok (.iload 4, 2) := by decide +kernel
theorem dX10_lowest_9 : decode cX10_lowest 9 = .ok (.ifCond .ne 10, 3) := by decide +kernel
theorem dX10_lowest_12 : decode cX10_lowest 12 = .ok (.lload_n 0, 1) := by decide +kernel
theorem dX10_lowest_13 : decode cX10_lowest 13 = .ok (.lload 5, 2) := by decide +kernel
theorem dX10_lowest_15 : decode cX10_lowest 15 = .ok (.ldiv, 1) := by decide +kernel
theorem dX10_lowest_16 : decode cX10_lowest 16 = .ok (.goto 7, 3) := by decide +kernel
theorem dX10_lowest_19 : decode cX10_lowest 19 = .ok (.lload_n 2, 1) := by decide +kernel
theorem dX10_lowest_20 : decode cX10_lowest 20 = .ok (.lload 5, 2) := by decide +kernel
theorem dX10_lowest_22 : decode cX10_lowest 22 = .ok (.ldiv, 1) := by decide +kernel
theorem dX10_lowest_23 : decode cX10_lowest 23 = .ok (.lreturn, 1) := by decide +kernel
def e_X10_lowest (a0 : Int64) (a2 : Int64) (a4 : Int32) : Option Int64 := (e_X10_common a0 a2).bind (fun r1 => if a4 = 0 then (if r1 = 0 then none else (some (a0 / r1))) else (if r1 = 0 then none else (some (a2 / r1))))
set_option maxRecDepth 100000 in
set_option maxHeartbeats 4000000 in
theorem k_X10_lowest {l : Launch} {σ : ES} {a0 : Int64} {a2 : Int64} {a4 : Int32} {out : Int64} (h : e_X10_lowest a0 a2 a4 = some out) : MK l yX10_lowest cX10_lowest 7 (some .long) 2 [.long a0, .long a2, .int a4] (mkS σ) (some (.long out)) (mkS σ) := by
  unfold e_X10_lowest at h
  refine mw_entry (own := RX10) (ini := false) (L := [(0, .long a0), (2, .long a2), (4, .int a4)]) (by decide +kernel) rfl (fun h => nomatch h) rfl (Nat.le_of_ble_eq_true rfl) (Nat.le_of_ble_eq_true rfl) (fun E => ?_)
  refine mw_lload_n dX10_lowest_0 0 rfl ?_
  refine mw_lload_n dX10_lowest_1 1 rfl ?_
  obtain ⟨r1, e2, h⟩ := mbd h
  refine mv_callS_l (As := [.long a0, .long a2]) lkS_RX10_125_yX10_common dX10_lowest_2 (k_X10_common e2) rfl rfl (Nat.le_of_ble_eq_true rfl) (by decide) (by decide) ?_
  refine mw_lstore (L' := [(5, .long r1), (0, .long a0), (2, .long a2), (4, .int a4)]) dX10_lowest_5 (by decide) rfl ?_
  refine mw_iload dX10_lowest_7 3 rfl ?_
  refine mw_if_ne (tgt := 19) dX10_lowest_9 (by decide) (fun hc => ?_) (fun hc => ?_)
  · have h := mie hc h
    refine mw_lload_n dX10_lowest_19 2 rfl ?_
    refine mw_lload dX10_lowest_20 0 rfl ?_
    obtain ⟨m3, h⟩ := mnf h
    refine mw_ldiv dX10_lowest_22 m3 ?_
    exact mw_lret dX10_lowest_23 rfl (ers_l h) rfl rfl
  · have h := mit hc h
    refine mw_lload_n dX10_lowest_12 1 rfl ?_
    refine mw_lload dX10_lowest_13 0 rfl ?_
    obtain ⟨m4, h⟩ := mnf h
    refine mw_ldiv dX10_lowest_15 m4 ?_
    refine mw_goto (tgt := 23) dX10_lowest_16 (by decide) ?_
    exact mw_lret dX10_lowest_23 rfl (ers_l h) rfl rfl

theorem dX10_ring_0 : decode cX10_ring 0 = .ok (.iload_n 1, 1) := by decide +kernel
theorem dX10_ring_1 : decode cX10_ring 1 = .ok (.i2l, 1) := by decide +kernel
theorem dX10_ring_2 : decode cX10_ring 2 = .ok (.lconst 0, 1) := by decide +kernel
theorem dX10_ring_3 : decode cX10_ring 3 = .ok (.lconst 1, 1) := by decide +kernel
theorem dX10_ring_4 : decode cX10_ring 4 = .ok (.invokestatic 57, 3) := by decide +kernel
theorem dX10_ring_7 : decode cX10_ring 7 = .ok (.ifCond .ne 9, 3) := by decide +kernel
theorem dX10_ring_10 : decode cX10_ring 10 = .ok (.aload_n 0, 1) := by decide +kernel
theorem dX10_ring_11 : decode cX10_ring 11 = .ok (.iconst 0, 1) := by decide +kernel
theorem dX10_ring_12 : decode cX10_ring 12 = .ok (.invokevirtual 165, 3) := by decide +kernel
theorem dX10_ring_15 : decode cX10_ring 15 = .ok (.lreturn, 1) := by decide +kernel
theorem dX10_ring_16 : decode cX10_ring 16 = .ok (.aload_n 0, 1) := by decide +kernel
theorem dX10_ring_17 : decode cX10_ring 17 = .ok (.invokevirtual 169, 3) := by decide +kernel
theorem dX10_ring_20 : decode cX10_ring 20 = .ok (.ifCond .eq 18, 3) := by decide +kernel
theorem dX10_ring_23 : decode cX10_ring 23 = .ok (.aload_n 0, 1) := by decide +kernel
theorem dX10_ring_24 : decode cX10_ring 24 = .ok (.getfield 140, 3) := by decide +kernel
theorem dX10_ring_27 : decode cX10_ring 27 = .ok (.aload_n 0, 1) := by decide +kernel
theorem dX10_ring_28 : decode cX10_ring 28 = .ok (.getfield 136, 3) := by decide +kernel
theorem dX10_ring_31 : decode cX10_ring 31 = .ok (.iload_n 1, 1) := by decide +kernel
theorem dX10_ring_32 : decode cX10_ring 32 = .ok (.invokestatic 173, 3) := by decide +kernel
theorem dX10_ring_35 : decode cX10_ring 35 = .ok (.goto 8, 3) := by decide +kernel
theorem dX10_ring_38 : decode cX10_ring 38 = .ok (.aload_n 0, 1) := by decide +kernel
theorem dX10_ring_39 : decode cX10_ring 39 = .ok (.iconst 3, 1) := by decide +kernel
theorem dX10_ring_40 : decode cX10_ring 40 = .ok (.invokevirtual 165, 3) := by decide +kernel
theorem dX10_ring_43 : decode cX10_ring 43 = .ok (.lreturn, 1) := by decide +kernel
def e_X10_ring (a1 : Int32) (σ : ES) : Option (Int64 × ES) := (e_X10_in a1.toInt64 (0 : Int64) (1 : Int64)).bind (fun r1 => if r1 = 0 then ((e_X10_farFinds (0 : Int32) σ).bind (fun r9 => some (r9.1, r9.2))) else ((e_X10_ringsNow σ).bind (fun r3 => if r3.1 = 0 then ((e_X10_farFinds (3 : Int32) r3.2).bind (fun r5 => some (r5.1, r5.2))) else ((e_X10_lowest (eL r3.2 69 11) (eL r3.2 69 12) a1).bind (fun r7 => some (r7, r3.2))))))
set_option maxRecDepth 100000 in
set_option maxHeartbeats 4000000 in
theorem k_X10_ring {l : Launch} {σ : ES} {a1 : Int32} {out : (Int64 × ES)} (h : e_X10_ring a1 σ = some out) : MK l yX10_ring cX10_ring 2 (some .long) 14 [.ref 69, .int a1] (mkS σ) (some (.long out.1)) (mkS out.2) := by
  unfold e_X10_ring at h
  refine mw_entry (own := RX10) (ini := false) (L := [(0, .ref 69), (1, .int a1)]) (by decide +kernel) rfl (fun h => nomatch h) rfl (Nat.le_of_ble_eq_true rfl) (Nat.le_of_ble_eq_true rfl) (fun E => ?_)
  refine mw_iload_n dX10_ring_0 1 rfl ?_
  refine mw_i2l dX10_ring_1 ?_
  refine mw_lconst (v := 0) dX10_ring_2 (by decide) ?_
  refine mw_lconst (v := 1) dX10_ring_3 (by decide) ?_
  obtain ⟨r1, e2, h⟩ := mbd h
  refine mv_callS_i (As := [.long a1.toInt64, .long (0 : Int64), .long (1 : Int64)]) lkS_RX10_57_yX10_in dX10_ring_4 (k_X10_in e2) rfl rfl (Nat.le_of_ble_eq_true rfl) (by decide) (by decide) ?_
  refine mw_if_ne (tgt := 16) dX10_ring_7 (by decide) (fun hc => ?_) (fun hc => ?_)
  · have h := mie hc h
    refine mw_aload_n dX10_ring_16 0 rfl ?_
    obtain ⟨r3, e4, h⟩ := mbd h
    refine mv_callV_i (As := []) (ci := 9) lkV_RX10_169_yX10_ringsNow dX10_ring_17 (k_X10_ringsNow e4) rfl rfl rfl rfl (Nat.le_of_ble_eq_true rfl) (by decide) (by decide) ?_
    refine mw_if_eq (tgt := 38) dX10_ring_20 (by decide) (fun hc => ?_) (fun hc => ?_)
    · have h := mit hc h
      refine mw_aload_n dX10_ring_38 0 rfl ?_
      refine mw_iconst (v := 3) dX10_ring_39 (by decide) ?_
      obtain ⟨r5, e6, h⟩ := mbd h
      refine mv_callV_l (As := [.int (3 : Int32)]) (ci := 9) lkV_RX10_165_yX10_farFinds dX10_ring_40 (k_X10_farFinds e6) rfl rfl rfl rfl (Nat.le_of_ble_eq_true rfl) (by decide) (by decide) ?_
      exact mw_lret dX10_ring_43 rfl (ers_lm h) rfl rfl
    · have h := mie hc h
      refine mw_aload_n dX10_ring_23 0 rfl ?_
      refine ev_getL fd_RX10_140_9 dX10_ring_24 rfl rfl ?_
      refine mw_aload_n dX10_ring_27 0 rfl ?_
      refine ev_getL fd_RX10_136_9 dX10_ring_28 rfl rfl ?_
      refine mw_iload_n dX10_ring_31 1 rfl ?_
      obtain ⟨r7, e8, h⟩ := mbd h
      refine mv_callS_l (As := [.long (eL r3.2 69 11), .long (eL r3.2 69 12), .int a1]) lkS_RX10_173_yX10_lowest dX10_ring_32 (k_X10_lowest e8) rfl rfl (Nat.le_of_ble_eq_true rfl) (by decide) (by decide) ?_
      refine mw_goto (tgt := 43) dX10_ring_35 (by decide) ?_
      exact mw_lret dX10_ring_43 rfl (ers_lm h) rfl rfl
  · have h := mit hc h
    refine mw_aload_n dX10_ring_10 0 rfl ?_
    refine mw_iconst (v := 0) dX10_ring_11 (by decide) ?_
    obtain ⟨r9, e10, h⟩ := mbd h
    refine mv_callV_l (As := [.int (0 : Int32)]) (ci := 9) lkV_RX10_165_yX10_farFinds dX10_ring_12 (k_X10_farFinds e10) rfl rfl rfl rfl (Nat.le_of_ble_eq_true rfl) (by decide) (by decide) ?_
    exact mw_lret dX10_ring_15 rfl (ers_lm h) rfl rfl

theorem dX10_ringWays_0 : decode cX10_ringWays 0 = .ok (.aload_n 0, 1) := by decide +kernel
theorem dX10_ringWays_1 : decode cX10_ringWays 1 = .ok (.invokevirtual 169, 3) := by decide +kernel
theorem dX10_ringWays_4 : decode cX10_ringWays 4 = .ok (.ifCond .eq 10, 3) := by decide +kernel
theorem dX10_ringWays_7 : decode cX10_ringWays 7 = .ok (.aload_n 0, 1) := by decide +kernel
theorem dX10_ringWays_8 : decode cX10_ringWays 8 = .ok (.getfield 143, 3) := by decide +kernel
theorem dX10_ringWays_11 : decode cX10_ringWays 11 = .ok (.goto 8, 3) := by decide +kernel
theorem dX10_ringWays_14 : decode cX10_ringWays 14 = .ok (.aload_n 0, 1) := by decide +kernel
theorem dX10_ringWays_15 : decode cX10_ringWays 15 = .ok (.iconst 3, 1) := by decide +kernel
theorem dX10_ringWays_16 : decode cX10_ringWays 16 = .ok (.invokevirtual 81, 3) := by decide +kernel
theorem dX10_ringWays_19 : decode cX10_ringWays 19 = .ok (.ireturn, 1) := by decide +kernel
def e_X10_ringWays (σ : ES) : Option (Int32 × ES) := (e_X10_ringsNow σ).bind (fun r1 => if r1.1 = 0 then ((e_X10_finds (3 : Int32) r1.2).bind (fun r3 => some (r3.1, r3.2))) else (some ((eI r1.2 69 13), r1.2)))
set_option maxRecDepth 100000 in
set_option maxHeartbeats 4000000 in
theorem k_X10_ringWays {l : Launch} {σ : ES}  {out : (Int32 × ES)} (h : e_X10_ringWays σ = some out) : MK l yX10_ringWays cX10_ringWays 1 (some .int) 14 [.ref 69] (mkS σ) (some (.int out.1)) (mkS out.2) := by
  unfold e_X10_ringWays at h
  refine mw_entry (own := RX10) (ini := false) (L := [(0, .ref 69)]) (by decide +kernel) rfl (fun h => nomatch h) rfl (Nat.le_of_ble_eq_true rfl) (Nat.le_of_ble_eq_true rfl) (fun E => ?_)
  refine mw_aload_n dX10_ringWays_0 0 rfl ?_
  obtain ⟨r1, e2, h⟩ := mbd h
  refine mv_callV_i (As := []) (ci := 9) lkV_RX10_169_yX10_ringsNow dX10_ringWays_1 (k_X10_ringsNow e2) rfl rfl rfl rfl (Nat.le_of_ble_eq_true rfl) (by decide) (by decide) ?_
  refine mw_if_eq (tgt := 14) dX10_ringWays_4 (by decide) (fun hc => ?_) (fun hc => ?_)
  · have h := mit hc h
    refine mw_aload_n dX10_ringWays_14 0 rfl ?_
    refine mw_iconst (v := 3) dX10_ringWays_15 (by decide) ?_
    obtain ⟨r3, e4, h⟩ := mbd h
    refine mv_callV_i (As := [.int (3 : Int32)]) (ci := 9) lkV_RX10_81_yX10_finds dX10_ringWays_16 (k_X10_finds e4) rfl rfl rfl rfl (Nat.le_of_ble_eq_true rfl) (by decide) (by decide) ?_
    exact mw_iret dX10_ringWays_19 rfl (ers_im h) rfl rfl
  · have h := mie hc h
    refine mw_aload_n dX10_ringWays_7 0 rfl ?_
    refine ev_getI fd_RX10_143_9 dX10_ringWays_8 rfl rfl ?_
    refine mw_goto (tgt := 19) dX10_ringWays_11 (by decide) ?_
    exact mw_iret dX10_ringWays_19 rfl (ers_im h) rfl rfl

theorem dX10_lifts_0 : decode cX10_lifts 0 = .ok (.iconst 0, 1) := by decide +kernel
theorem dX10_lifts_1 : decode cX10_lifts 1 = .ok (.istore 5, 2) := by decide +kernel
theorem dX10_lifts_3 : decode cX10_lifts 3 = .ok (.iconst 0, 1) := by decide +kernel
theorem dX10_lifts_4 : decode cX10_lifts 4 = .ok (.istore 6, 2) := by decide +kernel
theorem dX10_lifts_6 : decode cX10_lifts 6 = .ok (.iload 6, 2) := by decide +kernel
theorem dX10_lifts_8 : decode cX10_lifts 8 = .ok (.aload_n 0, 1) := by decide +kernel
theorem dX10_lifts_9 : decode cX10_lifts 9 = .ok (.getfield 61, 3) := by decide +kernel
theorem dX10_lifts_12 : decode cX10_lifts 12 = .ok (.if_icmp .ge 101, 3) := by decide +kernel
theorem dX10_lifts_15 : decode cX10_lifts 15 = .ok (.aload_n 0, 1) := by decide +kernel
theorem dX10_lifts_16 : decode cX10_lifts 16 = .ok (.getfield 28, 3) := by decide +kernel
theorem dX10_lifts_19 : decode cX10_lifts 19 = .ok (.aload_n 0, 1) := by decide +kernel
theorem dX10_lifts_20 : decode cX10_lifts 20 = .ok (.iload 6, 2) := by decide +kernel
theorem dX10_lifts_22 : decode cX10_lifts 22 = .ok (.iconst 1, 1) := by decide +kernel
theorem dX10_lifts_23 : decode cX10_lifts 23 = .ok (.invokevirtual 70, 3) := by decide +kernel
theorem dX10_lifts_26 : decode cX10_lifts 26 = .ok (.laload, 1) := by decide +kernel
theorem dX10_lifts_27 : decode cX10_lifts 27 = .ok (.lstore 7, 2) := by decide +kernel
theorem dX10_lifts_29 : decode cX10_lifts 29 = .ok (.aload_n 0, 1) := by decide +kernel
theorem dX10_lifts_30 : decode cX10_lifts 30 = .ok (.iload 6, 2) := by decide +kernel
theorem dX10_lifts_32 : decode cX10_lifts 32 = .ok (.iconst 5, 1) := by decide +kernel
theorem dX10_lifts_33 : decode cX10_lifts 33 = .ok (.invokevirtual 70, 3) := by decide +kernel
theorem dX10_lifts_36 : decode cX10_lifts 36 = .ok (.ifCond .ne 71, 3) := by decide +kernel
theorem dX10_lifts_39 : decode cX10_lifts 39 = .ok (.lload 7, 2) := by decide +kernel
theorem dX10_lifts_41 : decode cX10_lifts 41 = .ok (.ldc2_w 177, 3) := by decide +kernel
theorem dX10_lifts_44 : decode cX10_lifts 44 = .ok (.lcmp, 1) := by decide +kernel
theorem dX10_lifts_45 : decode cX10_lifts 45 = .ok (.ifCond .eq 62, 3) := by decide +kernel
theorem dX10_lifts_48 : decode cX10_lifts 48 = .ok (.lload 7, 2) := by decide +kernel
theorem dX10_lifts_50 : decode cX10_lifts 50 = .ok (.lload_n 3, 1) := by decide +kernel
theorem dX10_lifts_51 : decode cX10_lifts 51 = .ok (.aload_n 0, 1) := by decide +kernel
theorem dX10_lifts_52 : decode cX10_lifts 52 = .ok (.iload 6, 2) := by decide +kernel
theorem dX10_lifts_54 : decode cX10_lifts 54 = .ok (.invokevirtual 107, 3) := by decide +kernel
theorem dX10_lifts_57 : decode cX10_lifts 57 = .ok (.i2l, 1) := by decide +kernel
theorem dX10_lifts_58 : decode cX10_lifts 58 = .ok (.lmul, 1) := by decide +kernel
theorem dX10_lifts_59 : decode cX10_lifts 59 = .ok (.ladd, 1) := by decide +kernel
theorem dX10_lifts_60 : decode cX10_lifts 60 = .ok (.lload_n 1, 1) := by decide +kernel
theorem dX10_lifts_61 : decode cX10_lifts 61 = .ok (.aload_n 0, 1) := by decide +kernel
theorem dX10_lifts_62 : decode cX10_lifts 62 = .ok (.iload 6, 2) := by decide +kernel
theorem dX10_lifts_64 : decode cX10_lifts 64 = .ok (.invokevirtual 110, 3) := by decide +kernel
theorem dX10_lifts_67 : decode cX10_lifts 67 = .ok (.i2l, 1) := by decide +kernel
theorem dX10_lifts_68 : decode cX10_lifts 68 = .ok (.lmul, 1) := by decide +kernel
theorem dX10_lifts_69 : decode cX10_lifts 69 = .ok (.lsub, 1) := by decide +kernel
theorem dX10_lifts_70 : decode cX10_lifts 70 = .ok (.lstore 9, 2) := by decide +kernel
theorem dX10_lifts_72 : decode cX10_lifts 72 = .ok (.lload 9, 2) := by decide +kernel
theorem dX10_lifts_74 : decode cX10_lifts 74 = .ok (.aload_n 0, 1) := by decide +kernel
theorem dX10_lifts_75 : decode cX10_lifts 75 = .ok (.getfield 28, 3) := by decide +kernel
theorem dX10_lifts_78 : decode cX10_lifts 78 = .ok (.aload_n 0, 1) := by decide +kernel
theorem dX10_lifts_79 : decode cX10_lifts 79 = .ok (.iload 6, 2) := by decide +kernel
theorem dX10_lifts_81 : decode cX10_lifts 81 = .ok (.iconst 2, 1) := by decide +kernel
theorem dX10_lifts_82 : decode cX10_lifts 82 = .ok (.invokevirtual 70, 3) := by decide +kernel
theorem dX10_lifts_85 : decode cX10_lifts 85 = .ok (.laload, 1) := by decide +kernel
theorem dX10_lifts_86 : decode cX10_lifts 86 = .ok (.lcmp, 1) := by decide +kernel
theorem dX10_lifts_87 : decode cX10_lifts 87 = .ok (.ifCond .le 20, 3) := by decide +kernel
theorem dX10_lifts_90 : decode cX10_lifts 90 = .ok (.aload_n 0, 1) := by decide +kernel
theorem dX10_lifts_91 : decode cX10_lifts 91 = .ok (.getfield 28, 3) := by decide +kernel
theorem dX10_lifts_94 : decode cX10_lifts 94 = .ok (.aload_n 0, 1) := by decide +kernel
theorem dX10_lifts_95 : decode cX10_lifts 95 = .ok (.iload 6, 2) := by decide +kernel
theorem dX10_lifts_97 : decode cX10_lifts 97 = .ok (.iconst 2, 1) := by decide +kernel
theorem dX10_lifts_98 : decode cX10_lifts 98 = .ok (.invokevirtual 70, 3) := by decide +kernel
theorem dX10_lifts_101 : decode cX10_lifts 101 = .ok (.lload 9, 2) := by decide +kernel
theorem dX10_lifts_103 : decode cX10_lifts 103 = .ok (.lastore, 1) := by decide +kernel
theorem dX10_lifts_104 : decode cX10_lifts 104 = .ok (.iconst 1, 1) := by decide +kernel
theorem dX10_lifts_105 : decode cX10_lifts 105 = .ok (.istore 5, 2) := by decide +kernel
theorem dX10_lifts_107 : decode cX10_lifts 107 = .ok (.iinc 6 1, 3) := by decide +kernel
theorem dX10_lifts_110 : decode cX10_lifts 110 = .ok (.goto (-104), 3) := by decide +kernel
theorem dX10_lifts_113 : decode cX10_lifts 113 = .ok (.iload 5, 2) := by decide +kernel
theorem dX10_lifts_115 : decode cX10_lifts 115 = .ok (.ireturn, 1) := by decide +kernel
def e_X10_lifts_L6 (a1 : Int64) (a3 : Int64) : Nat → Int32 → Int32 → ES → Option (Int32 × ES)
  | 0, _, _, _ => none
  | n + 1, x5, x6, σ => if (eI σ 69 3) ≤ x6 then (if x5 = 0 ∨ x5 = 1 then (some (x5, σ)) else none) else ((e_X10_at σ x6 (1 : Int32)).bind (fun r2 => if mib r2 6 = true then ((e_X10_at σ x6 (5 : Int32)).bind (fun r5 => if r5 = 0 then (if (eL σ 74 r2.toNatClampNeg) = (-9223372036854775808 : Int64) then (e_X10_lifts_L6 a1 a3 n x5 (x6 + 1) σ) else ((e_X10_brings σ x6).bind (fun r7 => (e_X10_lasts σ x6).bind (fun r9 => (e_X10_at σ x6 (2 : Int32)).bind (fun r11 => if mib r11 6 = true then (if (((eL σ 74 r2.toNatClampNeg) + (a3 * r7.toInt64)) - (a1 * r9.toInt64)) ≤ (eL σ 74 r11.toNatClampNeg) then (e_X10_lifts_L6 a1 a3 n x5 (x6 + 1) σ) else ((e_X10_at σ x6 (2 : Int32)).bind (fun r14 => if mib r14 6 = true then (e_X10_lifts_L6 a1 a3 n (1 : Int32) (x6 + 1) (uL σ 74 r14.toNatClampNeg (((eL σ 74 r2.toNatClampNeg) + (a3 * r7.toInt64)) - (a1 * r9.toInt64)))) else none))) else none))))) else (e_X10_lifts_L6 a1 a3 n x5 (x6 + 1) σ))) else none))
set_option maxRecDepth 100000 in
set_option maxHeartbeats 4000000 in
theorem p_X10_lifts_L6 {l : Launch} {E : MX} {out : (Int32 × ES)} {a1 : Int64} {a3 : Int64}  : ∀ (n : Nat) (x5 : Int32) (x6 : Int32) (σ : ES), e_X10_lifts_L6 a1 a3 n x5 x6 σ = some out → MV l E cX10_lifts RX10 11 (some .boolean) 3 (82, (some (.int out.1)), mkS out.2) (mkS σ) 6 [(0, .ref 69), (1, .long a1), (3, .long a3), (5, .int x5), (6, .int x6)] [] := by
  intro n
  induction n with
  | zero =>
    intro x5 x6 σ h
    exact nomatch h
  | succ n ih =>
    intro x5 x6 σ h
    rw [e_X10_lifts_L6] at h
    refine mw_iload dX10_lifts_6 4 rfl ?_
    refine mw_aload_n dX10_lifts_8 0 rfl ?_
    refine ev_getI fd_RX10_61_9 dX10_lifts_9 rfl rfl ?_
    refine mw_icmp_ge (tgt := 113) dX10_lifts_12 (by decide) (fun hc => ?_) (fun hc => ?_)
    · have h := mit hc h
      refine mw_iload dX10_lifts_113 3 rfl ?_
      obtain ⟨m1, h⟩ := mif h
      exact mw_zret dX10_lifts_115 rfl m1 (ers_im h) rfl rfl
    · have h := mie hc h
      refine mw_aload_n dX10_lifts_15 0 rfl ?_
      refine ev_getR (q := 74) fd_RX10_28_9 dX10_lifts_16 rfl rfl rfl ?_
      refine mw_aload_n dX10_lifts_19 0 rfl ?_
      refine mw_iload dX10_lifts_20 4 rfl ?_
      refine mw_iconst (v := 1) dX10_lifts_22 (by decide) ?_
      obtain ⟨r2, e3, h⟩ := mbd h
      refine mv_callV_i (As := [.int x6, .int (1 : Int32)]) (ci := 9) lkV_RX10_70_yX10_at dX10_lifts_23 (k_X10_at e3) rfl rfl rfl rfl (Nat.le_of_ble_eq_true rfl) (by decide) (by decide) ?_
      obtain ⟨m4, h⟩ := mif h
      refine ev_lald dX10_lifts_26 (by decide) rfl m4 ?_
      refine mw_lstore (L' := [(7, .long (eL σ 74 r2.toNatClampNeg)), (0, .ref 69), (1, .long a1), (3, .long a3), (5, .int x5), (6, .int x6)]) dX10_lifts_27 (by decide) rfl ?_
      refine mw_aload_n dX10_lifts_29 1 rfl ?_
      refine mw_iload dX10_lifts_30 5 rfl ?_
      refine mw_iconst (v := 5) dX10_lifts_32 (by decide) ?_
      obtain ⟨r5, e6, h⟩ := mbd h
      refine mv_callV_i (As := [.int x6, .int (5 : Int32)]) (ci := 9) lkV_RX10_70_yX10_at dX10_lifts_33 (k_X10_at e6) rfl rfl rfl rfl (Nat.le_of_ble_eq_true rfl) (by decide) (by decide) ?_
      refine mw_if_ne (tgt := 107) dX10_lifts_36 (by decide) (fun hc => ?_) (fun hc => ?_)
      · have h := mie hc h
        refine mw_iinc (v := (x6 + 1)) (L' := [(6, .int (x6 + 1)), (7, .long (eL σ 74 r2.toNatClampNeg)), (0, .ref 69), (1, .long a1), (3, .long a3), (5, .int x5)]) dX10_lifts_107 5 rfl rfl (by decide) rfl ?_
        refine mw_goto (tgt := 6) dX10_lifts_110 (by decide) ?_
        exact mw_sub (L' := [(0, .ref 69), (1, .long a1), (3, .long a3), (5, .int x5), (6, .int (x6 + 1))]) [2, 3, 4, 5, 0] rfl (ih _ _ _ h)
      · have h := mit hc h
        refine mw_lload dX10_lifts_39 0 rfl ?_
        refine mw_ldc2 dX10_lifts_41 wt_676 ?_
        refine mw_lc_eq (tgt := 107) dX10_lifts_44 dX10_lifts_45 (by decide) (fun hc => ?_) (fun hc => ?_)
        · have h := mit hc h
          refine mw_iinc (v := (x6 + 1)) (L' := [(6, .int (x6 + 1)), (7, .long (eL σ 74 r2.toNatClampNeg)), (0, .ref 69), (1, .long a1), (3, .long a3), (5, .int x5)]) dX10_lifts_107 5 rfl rfl (by decide) rfl ?_
          refine mw_goto (tgt := 6) dX10_lifts_110 (by decide) ?_
          exact mw_sub (L' := [(0, .ref 69), (1, .long a1), (3, .long a3), (5, .int x5), (6, .int (x6 + 1))]) [2, 3, 4, 5, 0] rfl (ih _ _ _ h)
        · have h := mie hc h
          refine mw_lload dX10_lifts_48 0 rfl ?_
          refine mw_lload_n dX10_lifts_50 3 rfl ?_
          refine mw_aload_n dX10_lifts_51 1 rfl ?_
          refine mw_iload dX10_lifts_52 5 rfl ?_
          obtain ⟨r7, e8, h⟩ := mbd h
          refine mv_callV_i (As := [.int x6]) (ci := 9) lkV_RX10_107_yX10_brings dX10_lifts_54 (k_X10_brings e8) rfl rfl rfl rfl (Nat.le_of_ble_eq_true rfl) (by decide) (by decide) ?_
          refine mw_i2l dX10_lifts_57 ?_
          refine mw_lmul dX10_lifts_58 ?_
          refine mw_ladd dX10_lifts_59 ?_
          refine mw_lload_n dX10_lifts_60 2 rfl ?_
          refine mw_aload_n dX10_lifts_61 1 rfl ?_
          refine mw_iload dX10_lifts_62 5 rfl ?_
          obtain ⟨r9, e10, h⟩ := mbd h
          refine mv_callV_i (As := [.int x6]) (ci := 9) lkV_RX10_110_yX10_lasts dX10_lifts_64 (k_X10_lasts e10) rfl rfl rfl rfl (Nat.le_of_ble_eq_true rfl) (by decide) (by decide) ?_
          refine mw_i2l dX10_lifts_67 ?_
          refine mw_lmul dX10_lifts_68 ?_
          refine mw_lsub dX10_lifts_69 ?_
          refine mw_lstore (L' := [(9, .long (((eL σ 74 r2.toNatClampNeg) + (a3 * r7.toInt64)) - (a1 * r9.toInt64))), (7, .long (eL σ 74 r2.toNatClampNeg)), (0, .ref 69), (1, .long a1), (3, .long a3), (5, .int x5), (6, .int x6)]) dX10_lifts_70 (by decide) rfl ?_
          refine mw_lload dX10_lifts_72 0 rfl ?_
          refine mw_aload_n dX10_lifts_74 2 rfl ?_
          refine ev_getR (q := 74) fd_RX10_28_9 dX10_lifts_75 rfl rfl rfl ?_
          refine mw_aload_n dX10_lifts_78 2 rfl ?_
          refine mw_iload dX10_lifts_79 6 rfl ?_
          refine mw_iconst (v := 2) dX10_lifts_81 (by decide) ?_
          obtain ⟨r11, e12, h⟩ := mbd h
          refine mv_callV_i (As := [.int x6, .int (2 : Int32)]) (ci := 9) lkV_RX10_70_yX10_at dX10_lifts_82 (k_X10_at e12) rfl rfl rfl rfl (Nat.le_of_ble_eq_true rfl) (by decide) (by decide) ?_
          obtain ⟨m13, h⟩ := mif h
          refine ev_lald dX10_lifts_85 (by decide) rfl m13 ?_
          refine mw_lc_le (tgt := 107) dX10_lifts_86 dX10_lifts_87 (by decide) (fun hc => ?_) (fun hc => ?_)
          · have h := mit hc h
            refine mw_iinc (v := (x6 + 1)) (L' := [(6, .int (x6 + 1)), (9, .long (((eL σ 74 r2.toNatClampNeg) + (a3 * r7.toInt64)) - (a1 * r9.toInt64))), (7, .long (eL σ 74 r2.toNatClampNeg)), (0, .ref 69), (1, .long a1), (3, .long a3), (5, .int x5)]) dX10_lifts_107 6 rfl rfl (by decide) rfl ?_
            refine mw_goto (tgt := 6) dX10_lifts_110 (by decide) ?_
            exact mw_sub (L' := [(0, .ref 69), (1, .long a1), (3, .long a3), (5, .int x5), (6, .int (x6 + 1))]) [3, 4, 5, 6, 0] rfl (ih _ _ _ h)
          · have h := mie hc h
            refine mw_aload_n dX10_lifts_90 2 rfl ?_
            refine ev_getR (q := 74) fd_RX10_28_9 dX10_lifts_91 rfl rfl rfl ?_
            refine mw_aload_n dX10_lifts_94 2 rfl ?_
            refine mw_iload dX10_lifts_95 6 rfl ?_
            refine mw_iconst (v := 2) dX10_lifts_97 (by decide) ?_
            obtain ⟨r14, e15, h⟩ := mbd h
            refine mv_callV_i (As := [.int x6, .int (2 : Int32)]) (ci := 9) lkV_RX10_70_yX10_at dX10_lifts_98 (k_X10_at e15) rfl rfl rfl rfl (Nat.le_of_ble_eq_true rfl) (by decide) (by decide) ?_
            refine mw_lload dX10_lifts_101 0 rfl ?_
            obtain ⟨m16, h⟩ := mif h
            refine ev_last dX10_lifts_103 (by decide) rfl m16 ?_
            refine mw_iconst (v := 1) dX10_lifts_104 (by decide) ?_
            refine mw_istore (L' := [(5, .int (1 : Int32)), (9, .long (((eL σ 74 r2.toNatClampNeg) + (a3 * r7.toInt64)) - (a1 * r9.toInt64))), (7, .long (eL σ 74 r2.toNatClampNeg)), (0, .ref 69), (1, .long a1), (3, .long a3), (6, .int x6)]) dX10_lifts_105 (by decide) rfl ?_
            refine mw_iinc (v := (x6 + 1)) (L' := [(6, .int (x6 + 1)), (5, .int (1 : Int32)), (9, .long (((eL σ 74 r2.toNatClampNeg) + (a3 * r7.toInt64)) - (a1 * r9.toInt64))), (7, .long (eL σ 74 r2.toNatClampNeg)), (0, .ref 69), (1, .long a1), (3, .long a3)]) dX10_lifts_107 6 rfl rfl (by decide) rfl ?_
            refine mw_goto (tgt := 6) dX10_lifts_110 (by decide) ?_
            exact mw_sub (L' := [(0, .ref 69), (1, .long a1), (3, .long a3), (5, .int (1 : Int32)), (6, .int (x6 + 1))]) [4, 5, 6, 1, 0] rfl (ih _ _ _ h)
def e_X10_lifts (a1 : Int64) (a3 : Int64) (σ : ES) : Option (Int32 × ES) := e_X10_lifts_L6 a1 a3 mN (0 : Int32) (0 : Int32) σ
set_option maxRecDepth 100000 in
set_option maxHeartbeats 4000000 in
theorem k_X10_lifts {l : Launch} {σ : ES} {a1 : Int64} {a3 : Int64} {out : (Int32 × ES)} (h : e_X10_lifts a1 a3 σ = some out) : MK l yX10_lifts cX10_lifts 11 (some .boolean) 3 [.ref 69, .long a1, .long a3] (mkS σ) (some (.int out.1)) (mkS out.2) := by
  unfold e_X10_lifts at h
  refine mw_entry (own := RX10) (ini := false) (L := [(0, .ref 69), (1, .long a1), (3, .long a3)]) (by decide +kernel) rfl (fun h => nomatch h) rfl (Nat.le_of_ble_eq_true rfl) (Nat.le_of_ble_eq_true rfl) (fun E => ?_)
  refine mw_iconst (v := 0) dX10_lifts_0 (by decide) ?_
  refine mw_istore (L' := [(5, .int (0 : Int32)), (0, .ref 69), (1, .long a1), (3, .long a3)]) dX10_lifts_1 (by decide) rfl ?_
  refine mw_iconst (v := 0) dX10_lifts_3 (by decide) ?_
  refine mw_istore (L' := [(6, .int (0 : Int32)), (5, .int (0 : Int32)), (0, .ref 69), (1, .long a1), (3, .long a3)]) dX10_lifts_4 (by decide) rfl ?_
  exact mw_sub (L' := [(0, .ref 69), (1, .long a1), (3, .long a3), (5, .int (0 : Int32)), (6, .int (0 : Int32))]) [2, 3, 4, 1, 0] rfl (p_X10_lifts_L6  mN _ _ _ h)
