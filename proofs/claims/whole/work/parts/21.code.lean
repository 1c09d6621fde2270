/-! ===== methods as functions, and that the machine does so (written by gen/all.py) ===== -/
theorem dX9_finding_0 : decode cX9_finding 0 = .ok (.aload_n 0, 1) := by decide +kernel
theorem dX9_finding_1 : decode cX9_finding 1 = .ok (.getfield 70, 3) := by decide +kernel
theorem dX9_finding_4 : decode cX9_finding 4 = .ok (.iload_n 1, 1) := by decide +kernel
theorem dX9_finding_5 : decode cX9_finding 5 = .ok (.dup2, 1) := by decide +kernel
theorem dX9_finding_6 : decode cX9_finding 6 = .ok (.iaload, 1) := by decide +kernel
theorem dX9_finding_7 : decode cX9_finding 7 = .ok (.iconst 1, 1) := by decide +kernel
theorem dX9_finding_8 : decode cX9_finding 8 = .ok (.iadd, 1) := by decide +kernel
theorem dX9_finding_9 : decode cX9_finding 9 = .ok (.iastore, 1) := by decide +kernel
theorem dX9_finding_10 : decode cX9_finding 10 = .ok (.ldc_w 361, 3) := by decide +kernel
theorem dX9_finding_13 : decode cX9_finding 13 = .ok (.iload_n 1, 1) := by decide +kernel
theorem dX9_finding_14 : decode cX9_finding 14 = .ok (.isub, 1) := by decide +kernel
theorem dX9_finding_15 : decode cX9_finding 15 = .ok (.ireturn, 1) := by decide +kernel
def e_X9_finding (a1 : Int32) (σ : ES) : Option (Int32 × ES) := if mib a1 9 = true then (some (((-2000000001 : Int32) - a1), (uI σ 60 a1.toNatClampNeg ((eI σ 60 a1.toNatClampNeg) + (1 : Int32))))) else none
set_option maxRecDepth 100000 in
set_option maxHeartbeats 4000000 in
theorem k_X9_finding {l : Launch} {σ : ES} {a1 : Int32} {out : (Int32 × ES)} (h : e_X9_finding a1 σ = some out) : MK l yX9_finding cX9_finding 2 (some .int) 1 [.ref 0, .int a1] (mkS σ) (some (.int out.1)) (mkS out.2) := by
  unfold e_X9_finding at h
  refine mw_entry (own := RX9) (ini := false) (L := [(0, .ref 0), (1, .int a1)]) (by decide +kernel) rfl (fun h => nomatch h) rfl (Nat.le_of_ble_eq_true rfl) (Nat.le_of_ble_eq_true rfl) (fun E => ?_)
  refine mw_aload_n dX9_finding_0 0 rfl ?_
  refine ev_getR (q := 60) fd_RX9_70_8 dX9_finding_1 rfl rfl rfl ?_
  refine mw_iload_n dX9_finding_4 1 rfl ?_
  refine mw_dup2 dX9_finding_5 rfl rfl ?_
  obtain ⟨m1, h⟩ := mif h
  refine ev_iald dX9_finding_6 (by decide) rfl m1 ?_
  refine mw_iconst (v := 1) dX9_finding_7 (by decide) ?_
  refine mw_iadd dX9_finding_8 ?_
  refine ev_iast dX9_finding_9 (by decide) rfl m1 ?_
  refine mw_ldcw dX9_finding_10 wt_10 ?_
  refine mw_iload_n dX9_finding_13 1 rfl ?_
  refine mw_isub dX9_finding_14 ?_
  exact mw_iret dX9_finding_15 rfl (ers_im h) rfl rfl

theorem dX9_within_0 : decode cX9_within 0 = .ok (.iload_n 0, 1) := by decide +kernel
theorem dX9_within_1 : decode cX9_within 1 = .ok (.iload_n 1, 1) := by decide +kernel
theorem dX9_within_2 : decode cX9_within 2 = .ok (.if_icmp .lt 12, 3) := by decide +kernel
theorem dX9_within_5 : decode cX9_within 5 = .ok (.iload_n 0, 1) := by decide +kernel
theorem dX9_within_6 : decode cX9_within 6 = .ok (.iload_n 2, 1) := by decide +kernel
theorem dX9_within_7 : decode cX9_within 7 = .ok (.if_icmp .gt 7, 3) := by decide +kernel
theorem dX9_within_10 : decode cX9_within 10 = .ok (.iconst 1, 1) := by decide +kernel
theorem dX9_within_11 : decode cX9_within 11 = .ok (.goto 4, 3) := by decide +kernel
theorem dX9_within_14 : decode cX9_within 14 = .ok (.iconst 0, 1) := by decide +kernel
theorem dX9_within_15 : decode cX9_within 15 = .ok (.ireturn, 1) := by decide +kernel
def e_X9_within (a0 : Int32) (a1 : Int32) (a2 : Int32) : Option Int32 := if a0 < a1 then (some (0 : Int32)) else (if a2 < a0 then (some (0 : Int32)) else (some (1 : Int32)))
set_option maxRecDepth 100000 in
set_option maxHeartbeats 4000000 in
theorem k_X9_within {l : Launch} {σ : ES} {a0 : Int32} {a1 : Int32} {a2 : Int32} {out : Int32} (h : e_X9_within a0 a1 a2 = some out) : MK l yX9_within cX9_within 3 (some .boolean) 1 [.int a0, .int a1, .int a2] (mkS σ) (some (.int out)) (mkS σ) := by
  unfold e_X9_within at h
  refine mw_entry (own := RX9) (ini := false) (L := [(0, .int a0), (1, .int a1), (2, .int a2)]) (by decide +kernel) rfl (fun h => nomatch h) rfl (Nat.le_of_ble_eq_true rfl) (Nat.le_of_ble_eq_true rfl) (fun E => ?_)
  refine mw_iload_n dX9_within_0 0 rfl ?_
  refine mw_iload_n dX9_within_1 1 rfl ?_
  refine mw_icmp_lt (tgt := 14) dX9_within_2 (by decide) (fun hc => ?_) (fun hc => ?_)
  · have h := mit hc h
    refine mw_iconst (v := 0) dX9_within_14 (by decide) ?_
    exact mw_zret dX9_within_15 rfl (by decide) (ers_i h) rfl rfl
  · have h := mie hc h
    refine mw_iload_n dX9_within_5 0 rfl ?_
    refine mw_iload_n dX9_within_6 2 rfl ?_
    refine mw_icmp_gt (tgt := 14) dX9_within_7 (by decide) (fun hc => ?_) (fun hc => ?_)
    · have h := mit hc h
      refine mw_iconst (v := 0) dX9_within_14 (by decide) ?_
      exact mw_zret dX9_within_15 rfl (by decide) (ers_i h) rfl rfl
    · have h := mie hc h
      refine mw_iconst (v := 1) dX9_within_10 (by decide) ?_
      refine mw_goto (tgt := 15) dX9_within_11 (by decide) ?_
      exact mw_zret dX9_within_15 rfl (by decide) (ers_i h) rfl rfl

theorem dX9_places_0 : decode cX9_places 0 = .ok (.iload_n 1, 1) := by decide +kernel
theorem dX9_places_1 : decode cX9_places 1 = .ok (.iconst 2, 1) := by decide +kernel
theorem dX9_places_2 : decode cX9_places 2 = .ok (.bipush 6, 2) := by decide +kernel
theorem dX9_places_4 : decode cX9_places 4 = .ok (.invokestatic 75, 3) := by decide +kernel
theorem dX9_places_7 : decode cX9_places 7 = .ok (.ifCond .ne 9, 3) := by decide +kernel
theorem dX9_places_10 : decode cX9_places 10 = .ok (.aload_n 0, 1) := by decide +kernel
theorem dX9_places_11 : decode cX9_places 11 = .ok (.iconst 0, 1) := by decide +kernel
theorem dX9_places_12 : decode cX9_places 12 = .ok (.invokevirtual 79, 3) := by decide +kernel
theorem dX9_places_15 : decode cX9_places 15 = .ok (.ireturn, 1) := by decide +kernel
theorem dX9_places_16 : decode cX9_places 16 = .ok (.iconst 0, 1) := by decide +kernel
theorem dX9_places_17 : decode cX9_places 17 = .ok (.istore_n 2, 1) := by decide +kernel
theorem dX9_places_18 : decode cX9_places 18 = .ok (.iload_n 2, 1) := by decide +kernel
theorem dX9_places_19 : decode cX9_places 19 = .ok (.aload_n 0, 1) := by decide +kernel
theorem dX9_places_20 : decode cX9_places 20 = .ok (.getfield 12, 3) := by decide +kernel
theorem dX9_places_23 : decode cX9_places 23 = .ok (.getfield 83, 3) := by decide +kernel
theorem dX9_places_26 : decode cX9_places 26 = .ok (.if_icmp .ge 41, 3) := by decide +kernel
theorem dX9_places_29 : decode cX9_places 29 = .ok (.aload_n 0, 1) := by decide +kernel
theorem dX9_places_30 : decode cX9_places 30 = .ok (.getfield 12, 3) := by decide +kernel
theorem dX9_places_33 : decode cX9_places 33 = .ok (.getfield 87, 3) := by decide +kernel
theorem dX9_places_36 : decode cX9_places 36 = .ok (.iload_n 2, 1) := by decide +kernel
theorem dX9_places_37 : decode cX9_places 37 = .ok (.iaload, 1) := by decide +kernel
theorem dX9_places_38 : decode cX9_places 38 = .ok (.iload_n 1, 1) := by decide +kernel
theorem dX9_places_39 : decode cX9_places 39 = .ok (.if_icmp .ge 16, 3) := by decide +kernel
theorem dX9_places_42 : decode cX9_places 42 = .ok (.aload_n 0, 1) := by decide +kernel
theorem dX9_places_43 : decode cX9_places 43 = .ok (.getfield 12, 3) := by decide +kernel
theorem dX9_places_46 : decode cX9_places 46 = .ok (.getfield 90, 3) := by decide +kernel
theorem dX9_places_49 : decode cX9_places 49 = .ok (.iload_n 2, 1) := by decide +kernel
theorem dX9_places_50 : decode cX9_places 50 = .ok (.iaload, 1) := by decide +kernel
theorem dX9_places_51 : decode cX9_places 51 = .ok (.iload_n 1, 1) := by decide +kernel
theorem dX9_places_52 : decode cX9_places 52 = .ok (.if_icmp .lt 9, 3) := by decide +kernel
theorem dX9_places_55 : decode cX9_places 55 = .ok (.aload_n 0, 1) := by decide +kernel
theorem dX9_places_56 : decode cX9_places 56 = .ok (.iconst 4, 1) := by decide +kernel
theorem dX9_places_57 : decode cX9_places 57 = .ok (.invokevirtual 79, 3) := by decide +kernel
theorem dX9_places_60 : decode cX9_places 60 = .ok (.ireturn, 1) := by decide +kernel
theorem dX9_places_61 : decode cX9_places 61 = .ok (.iinc 2 1, 3) := by decide +kernel
theorem dX9_places_64 : decode cX9_places 64 = .ok (.goto (-46), 3) := by decide +kernel
theorem dX9_places_67 : decode cX9_places 67 = .ok (.aload_n 0, 1) := by decide +kernel
theorem dX9_places_68 : decode cX9_places 68 = .ok (.getfield 12, 3) := by decide +kernel
theorem dX9_places_71 : decode cX9_places 71 = .ok (.getfield 93, 3) := by decide +kernel
theorem dX9_places_74 : decode cX9_places 74 = .ok (.istore_n 2, 1) := by decide +kernel
theorem dX9_places_75 : decode cX9_places 75 = .ok (.aload_n 0, 1) := by decide +kernel
theorem dX9_places_76 : decode cX9_places 76 = .ok (.getfield 12, 3) := by decide +kernel
theorem dX9_places_79 : decode cX9_places 79 = .ok (.iload_n 1, 1) := by decide +kernel
theorem dX9_places_80 : decode cX9_places 80 = .ok (.putfield 93, 3) := by decide +kernel
theorem dX9_places_83 : decode cX9_places 83 = .ok (.iload_n 2, 1) := by decide +kernel
theorem dX9_places_84 : decode cX9_places 84 = .ok (.ireturn, 1) := by decide +kernel
def e_X9_places_L18 (a1 : Int32) : Nat → Int32 → ES → Option (Int32 × ES)
  | 0, _, _ => none
  | n + 1, x2, σ => if (eI σ 1 2) ≤ x2 then (some ((eI σ 1 0), (uI σ 1 0 a1))) else (if mib x2 14 = true then (if a1 ≤ (eI σ 3 x2.toNatClampNeg) then ((e_X9_finding (4 : Int32) σ).bind (fun r2 => some (r2.1, r2.2))) else (if (eI σ 4 x2.toNatClampNeg) < a1 then (e_X9_places_L18 a1 n (x2 + 1) σ) else ((e_X9_finding (4 : Int32) σ).bind (fun r4 => some (r4.1, r4.2))))) else none)
set_option maxRecDepth 100000 in
set_option maxHeartbeats 4000000 in
theorem p_X9_places_L18 {l : Launch} {E : MX} {out : (Int32 × ES)} {a1 : Int32}  : ∀ (n : Nat) (x2 : Int32) (σ : ES), e_X9_places_L18 a1 n x2 σ = some out → MV l E cX9_places RX9 3 (some .int) 2 (82, (some (.int out.1)), mkS out.2) (mkS σ) 18 [(0, .ref 0), (1, .int a1), (2, .int x2)] [] := by
  intro n
  induction n with
  | zero =>
    intro x2 σ h
    exact nomatch h
  | succ n ih =>
    intro x2 σ h
    rw [e_X9_places_L18] at h
    refine mw_iload_n dX9_places_18 2 rfl ?_
    refine mw_aload_n dX9_places_19 0 rfl ?_
    refine ev_getR (q := 1) fd_RX9_12_8 dX9_places_20 rfl rfl rfl ?_
    refine ev_getI fd_RX9_83_0 dX9_places_23 rfl rfl ?_
    refine mw_icmp_ge (tgt := 67) dX9_places_26 (by decide) (fun hc => ?_) (fun hc => ?_)
    · have h := mit hc h
      refine mw_aload_n dX9_places_67 0 rfl ?_
      refine ev_getR (q := 1) fd_RX9_12_8 dX9_places_68 rfl rfl rfl ?_
      refine ev_getI fd_RX9_93_0 dX9_places_71 rfl rfl ?_
      refine mw_istore_n (L' := [(2, .int (eI σ 1 0)), (0, .ref 0), (1, .int a1)]) dX9_places_74 rfl (by decide) rfl ?_
      refine mw_aload_n dX9_places_75 1 rfl ?_
      refine ev_getR (q := 1) fd_RX9_12_8 dX9_places_76 rfl rfl rfl ?_
      refine mw_iload_n dX9_places_79 2 rfl ?_
      refine ev_putI fw_RX9_93_0 dX9_places_80 rfl rfl ?_
      refine mw_iload_n dX9_places_83 0 rfl ?_
      exact mw_iret dX9_places_84 rfl (ers_im h) rfl rfl
    · have h := mie hc h
      refine mw_aload_n dX9_places_29 0 rfl ?_
      refine ev_getR (q := 1) fd_RX9_12_8 dX9_places_30 rfl rfl rfl ?_
      refine ev_getR (q := 3) fd_RX9_87_0 dX9_places_33 rfl rfl rfl ?_
      refine mw_iload_n dX9_places_36 2 rfl ?_
      obtain ⟨m1, h⟩ := mif h
      refine ev_iald dX9_places_37 (by decide) rfl m1 ?_
      refine mw_iload_n dX9_places_38 1 rfl ?_
      refine mw_icmp_ge (tgt := 55) dX9_places_39 (by decide) (fun hc => ?_) (fun hc => ?_)
      · have h := mit hc h
        refine mw_aload_n dX9_places_55 0 rfl ?_
        refine mw_iconst (v := 4) dX9_places_56 (by decide) ?_
        obtain ⟨r2, e3, h⟩ := mbd h
        refine mv_callV_i (As := [.int (4 : Int32)]) (ci := 8) lkV_RX9_79_yX9_finding dX9_places_57 (k_X9_finding e3) rfl rfl rfl rfl (Nat.le_of_ble_eq_true rfl) (by decide) (by decide) ?_
        exact mw_iret dX9_places_60 rfl (ers_im h) rfl rfl
      · have h := mie hc h
        refine mw_aload_n dX9_places_42 0 rfl ?_
        refine ev_getR (q := 1) fd_RX9_12_8 dX9_places_43 rfl rfl rfl ?_
        refine ev_getR (q := 4) fd_RX9_90_0 dX9_places_46 rfl rfl rfl ?_
        refine mw_iload_n dX9_places_49 2 rfl ?_
        refine ev_iald dX9_places_50 (by decide) rfl m1 ?_
        refine mw_iload_n dX9_places_51 1 rfl ?_
        refine mw_icmp_lt (tgt := 61) dX9_places_52 (by decide) (fun hc => ?_) (fun hc => ?_)
        · have h := mit hc h
          refine mw_iinc (v := (x2 + 1)) (L' := [(2, .int (x2 + 1)), (0, .ref 0), (1, .int a1)]) dX9_places_61 2 rfl rfl (by decide) rfl ?_
          refine mw_goto (tgt := 18) dX9_places_64 (by decide) ?_
          exact mw_sub (L' := [(0, .ref 0), (1, .int a1), (2, .int (x2 + 1))]) [1, 2, 0] rfl (ih _ _ h)
        · have h := mie hc h
          refine mw_aload_n dX9_places_55 0 rfl ?_
          refine mw_iconst (v := 4) dX9_places_56 (by decide) ?_
          obtain ⟨r4, e5, h⟩ := mbd h
          refine mv_callV_i (As := [.int (4 : Int32)]) (ci := 8) lkV_RX9_79_yX9_finding dX9_places_57 (k_X9_finding e5) rfl rfl rfl rfl (Nat.le_of_ble_eq_true rfl) (by decide) (by decide) ?_
          exact mw_iret dX9_places_60 rfl (ers_im h) rfl rfl
def e_X9_places (a1 : Int32) (σ : ES) : Option (Int32 × ES) := (e_X9_within a1 (2 : Int32) (6 : Int32)).bind (fun r1 => if r1 = 0 then ((e_X9_finding (0 : Int32) σ).bind (fun r3 => some (r3.1, r3.2))) else (e_X9_places_L18 a1 mN (0 : Int32) σ))
set_option maxRecDepth 100000 in
set_option maxHeartbeats 4000000 in
theorem k_X9_places {l : Launch} {σ : ES} {a1 : Int32} {out : (Int32 × ES)} (h : e_X9_places a1 σ = some out) : MK l yX9_places cX9_places 3 (some .int) 2 [.ref 0, .int a1] (mkS σ) (some (.int out.1)) (mkS out.2) := by
  unfold e_X9_places at h
  refine mw_entry (own := RX9) (ini := false) (L := [(0, .ref 0), (1, .int a1)]) (by decide +kernel) rfl (fun h => nomatch h) rfl (Nat.le_of_ble_eq_true rfl) (Nat.le_of_ble_eq_true rfl) (fun E => ?_)
  refine mw_iload_n dX9_places_0 1 rfl ?_
  refine mw_iconst (v := 2) dX9_places_1 (by decide) ?_
  refine mw_bipush (v := 6) dX9_places_2 (by decide) ?_
  obtain ⟨r1, e2, h⟩ := mbd h
  refine mv_callS_i (As := [.int a1, .int (2 : Int32), .int (6 : Int32)]) lkS_RX9_75_yX9_within dX9_places_4 (k_X9_within e2) rfl rfl (Nat.le_of_ble_eq_true rfl) (by decide) (by decide) ?_
  refine mw_if_ne (tgt := 16) dX9_places_7 (by decide) (fun hc => ?_) (fun hc => ?_)
  · have h := mie hc h
    refine mw_iconst (v := 0) dX9_places_16 (by decide) ?_
    refine mw_istore_n (L' := [(2, .int (0 : Int32)), (0, .ref 0), (1, .int a1)]) dX9_places_17 rfl (by decide) rfl ?_
    exact mw_sub (L' := [(0, .ref 0), (1, .int a1), (2, .int (0 : Int32))]) [1, 2, 0] rfl (p_X9_places_L18  mN _ _ h)
  · have h := mit hc h
    refine mw_aload_n dX9_places_10 0 rfl ?_
    refine mw_iconst (v := 0) dX9_places_11 (by decide) ?_
    obtain ⟨r3, e4, h⟩ := mbd h
    refine mv_callV_i (As := [.int (0 : Int32)]) (ci := 8) lkV_RX9_79_yX9_finding dX9_places_12 (k_X9_finding e4) rfl rfl rfl rfl (Nat.le_of_ble_eq_true rfl) (by decide) (by decide) ?_
    exact mw_iret dX9_places_15 rfl (ers_im h) rfl rfl

theorem dX9_weather_0 : decode cX9_weather 0 = .ok (.iload_n 1, 1) := by decide +kernel
theorem dX9_weather_1 : decode cX9_weather 1 = .ok (.iconst 0, 1) := by decide +kernel
theorem dX9_weather_2 : decode cX9_weather 2 = .ok (.iconst 5, 1) := by decide +kernel
theorem dX9_weather_3 : decode cX9_weather 3 = .ok (.invokestatic 75, 3) := by decide +kernel
theorem dX9_weather_6 : decode cX9_weather 6 = .ok (.ifCond .ne 9, 3) := by decide +kernel
theorem dX9_weather_9 : decode cX9_weather 9 = .ok (.aload_n 0, 1) := by decide +kernel
theorem dX9_weather_10 : decode cX9_weather 10 = .ok (.iconst 0, 1) := by decide +kernel
theorem dX9_weather_11 : decode cX9_weather 11 = .ok (.invokevirtual 79, 3) := by decide +kernel
theorem dX9_weather_14 : decode cX9_weather 14 = .ok (.ireturn, 1) := by decide +kernel
theorem dX9_weather_15 : decode cX9_weather 15 = .ok (.aload_n 0, 1) := by decide +kernel
theorem dX9_weather_16 : decode cX9_weather 16 = .ok (.getfield 12, 3) := by decide +kernel
theorem dX9_weather_19 : decode cX9_weather 19 = .ok (.getfield 96, 3) := by decide +kernel
theorem dX9_weather_22 : decode cX9_weather 22 = .ok (.istore_n 2, 1) := by decide +kernel
theorem dX9_weather_23 : decode cX9_weather 23 = .ok (.aload_n 0, 1) := by decide +kernel
theorem dX9_weather_24 : decode cX9_weather 24 = .ok (.getfield 12, 3) := by decide +kernel
theorem dX9_weather_27 : decode cX9_weather 27 = .ok (.iload_n 1, 1) := by decide +kernel
theorem dX9_weather_28 : decode cX9_weather 28 = .ok (.putfield 96, 3) := by decide +kernel
theorem dX9_weather_31 : decode cX9_weather 31 = .ok (.iload_n 2, 1) := by decide +kernel
theorem dX9_weather_32 : decode cX9_weather 32 = .ok (.ireturn, 1) := by decide +kernel
def e_X9_weather (a1 : Int32) (σ : ES) : Option (Int32 × ES) := (e_X9_within a1 (0 : Int32) (5 : Int32)).bind (fun r1 => if r1 = 0 then ((e_X9_finding (0 : Int32) σ).bind (fun r3 => some (r3.1, r3.2))) else (some ((eI σ 1 1), (uI σ 1 1 a1))))
set_option maxRecDepth 100000 in
set_option maxHeartbeats 4000000 in
theorem k_X9_weather {l : Launch} {σ : ES} {a1 : Int32} {out : (Int32 × ES)} (h : e_X9_weather a1 σ = some out) : MK l yX9_weather cX9_weather 3 (some .int) 2 [.ref 0, .int a1] (mkS σ) (some (.int out.1)) (mkS out.2) := by
  unfold e_X9_weather at h
  refine mw_entry (own := RX9) (ini := false) (L := [(0, .ref 0), (1, .int a1)]) (by decide +kernel) rfl (fun h => nomatch h) rfl (Nat.le_of_ble_eq_true rfl) (Nat.le_of_ble_eq_true rfl) (fun E => ?_)
  refine mw_iload_n dX9_weather_0 1 rfl ?_
  refine mw_iconst (v := 0) dX9_weather_1 (by decide) ?_
  refine mw_iconst (v := 5) dX9_weather_2 (by decide) ?_
  obtain ⟨r1, e2, h⟩ := mbd h
  refine mv_callS_i (As := [.int a1, .int (0 : Int32), .int (5 : Int32)]) lkS_RX9_75_yX9_within dX9_weather_3 (k_X9_within e2) rfl rfl (Nat.le_of_ble_eq_true rfl) (by decide) (by decide) ?_
  refine mw_if_ne (tgt := 15) dX9_weather_6 (by decide) (fun hc => ?_) (fun hc => ?_)
  · have h := mie hc h
    refine mw_aload_n dX9_weather_15 0 rfl ?_
    refine ev_getR (q := 1) fd_RX9_12_8 dX9_weather_16 rfl rfl rfl ?_
    refine ev_getI fd_RX9_96_0 dX9_weather_19 rfl rfl ?_
    refine mw_istore_n (L' := [(2, .int (eI σ 1 1)), (0, .ref 0), (1, .int a1)]) dX9_weather_22 rfl (by decide) rfl ?_
    refine mw_aload_n dX9_weather_23 1 rfl ?_
    refine ev_getR (q := 1) fd_RX9_12_8 dX9_weather_24 rfl rfl rfl ?_
    refine mw_iload_n dX9_weather_27 2 rfl ?_
    refine ev_putI fw_RX9_96_0 dX9_weather_28 rfl rfl ?_
    refine mw_iload_n dX9_weather_31 0 rfl ?_
    exact mw_iret dX9_weather_32 rfl (ers_im h) rfl rfl
  · have h := mit hc h
    refine mw_aload_n dX9_weather_9 0 rfl ?_
    refine mw_iconst (v := 0) dX9_weather_10 (by decide) ?_
    obtain ⟨r3, e4, h⟩ := mbd h
    refine mv_callV_i (As := [.int (0 : Int32)]) (ci := 8) lkV_RX9_79_yX9_finding dX9_weather_11 (k_X9_finding e4) rfl rfl rfl rfl (Nat.le_of_ble_eq_true rfl) (by decide) (by decide) ?_
    exact mw_iret dX9_weather_14 rfl (ers_im h) rfl rfl

theorem dX9_isKind_0 : decode cX9_isKind 0 = .ok (.iload_n 0, 1) := by decide +kernel
theorem dX9_isKind_1 : decode cX9_isKind 1 = .ok (.iconst 0, 1) := by decide +kernel
theorem dX9_isKind_2 : decode cX9_isKind 2 = .ok (.iconst 5, 1) := by decide +kernel
theorem dX9_isKind_3 : decode cX9_isKind 3 = .ok (.invokestatic 75, 3) := by decide +kernel
theorem dX9_isKind_6 : decode cX9_isKind 6 = .ok (.ireturn, 1) := by decide +kernel
def e_X9_isKind (a0 : Int32) : Option Int32 := (e_X9_within a0 (0 : Int32) (5 : Int32)).bind (fun r1 => if r1 = 0 ∨ r1 = 1 then (some r1) else none)
set_option maxRecDepth 100000 in
set_option maxHeartbeats 4000000 in
theorem k_X9_isKind {l : Launch} {σ : ES} {a0 : Int32} {out : Int32} (h : e_X9_isKind a0 = some out) : MK l yX9_isKind cX9_isKind 1 (some .boolean) 2 [.int a0] (mkS σ) (some (.int out)) (mkS σ) := by
  unfold e_X9_isKind at h
  refine mw_entry (own := RX9) (ini := false) (L := [(0, .int a0)]) (by decide +kernel) rfl (fun h => nomatch h) rfl (Nat.le_of_ble_eq_true rfl) (Nat.le_of_ble_eq_true rfl) (fun E => ?_)
  refine mw_iload_n dX9_isKind_0 0 rfl ?_
  refine mw_iconst (v := 0) dX9_isKind_1 (by decide) ?_
  refine mw_iconst (v := 5) dX9_isKind_2 (by decide) ?_
  obtain ⟨r1, e2, h⟩ := mbd h
  refine mv_callS_i (As := [.int a0, .int (0 : Int32), .int (5 : Int32)]) lkS_RX9_75_yX9_within dX9_isKind_3 (k_X9_within e2) rfl rfl (Nat.le_of_ble_eq_true rfl) (by decide) (by decide) ?_
  obtain ⟨m3, h⟩ := mif h
  exact mw_zret dX9_isKind_6 rfl m3 (ers_i h) rfl rfl

theorem dX9_isGain_0 : decode cX9_isGain 0 = .ok (.iload_n 0, 1) := by decide +kernel
theorem dX9_isGain_1 : decode cX9_isGain 1 = .ok (.ldc_w 362, 3) := by decide +kernel
theorem dX9_isGain_4 : decode cX9_isGain 4 = .ok (.ldc_w 363, 3) := by decide +kernel
theorem dX9_isGain_7 : decode cX9_isGain 7 = .ok (.invokestatic 75, 3) := by decide +kernel
theorem dX9_isGain_10 : decode cX9_isGain 10 = .ok (.ireturn, 1) := by decide +kernel
def e_X9_isGain (a0 : Int32) : Option Int32 := (e_X9_within a0 (-999999999 : Int32) (999999999 : Int32)).bind (fun r1 => if r1 = 0 ∨ r1 = 1 then (some r1) else none)
set_option maxRecDepth 100000 in
set_option maxHeartbeats 4000000 in
theorem k_X9_isGain {l : Launch} {σ : ES} {a0 : Int32} {out : Int32} (h : e_X9_isGain a0 = some out) : MK l yX9_isGain cX9_isGain 1 (some .boolean) 2 [.int a0] (mkS σ) (some (.int out)) (mkS σ) := by
  unfold e_X9_isGain at h
  refine mw_entry (own := RX9) (ini := false) (L := [(0, .int a0)]) (by decide +kernel) rfl (fun h => nomatch h) rfl (Nat.le_of_ble_eq_true rfl) (Nat.le_of_ble_eq_true rfl) (fun E => ?_)
  refine mw_iload_n dX9_isGain_0 0 rfl ?_
  refine mw_ldcw dX9_isGain_1 wt_22 ?_
  refine mw_ldcw dX9_isGain_4 wt_23 ?_
  obtain ⟨r1, e2, h⟩ := mbd h
  refine mv_callS_i (As := [.int a0, .int (-999999999 : Int32), .int (999999999 : Int32)]) lkS_RX9_75_yX9_within dX9_isGain_7 (k_X9_within e2) rfl rfl (Nat.le_of_ble_eq_true rfl) (by decide) (by decide) ?_
  obtain ⟨m3, h⟩ := mif h
  exact mw_zret dX9_isGain_10 rfl m3 (ers_i h) rfl rfl

theorem dX9_isTime_0 : decode cX9_isTime 0 = .ok (.iload_n 0, 1) := by decide +kernel
theorem dX9_isTime_1 : decode cX9_isTime 1 = .ok (.iconst 1, 1) := by decide +kernel
theorem dX9_isTime_2 : decode cX9_isTime 2 = .ok (.ldc_w 364, 3) := by decide +kernel
theorem dX9_isTime_5 : decode cX9_isTime 5 = .ok (.invokestatic 75, 3) := by decide +kernel
theorem dX9_isTime_8 : decode cX9_isTime 8 = .ok (.ireturn, 1) := by decide +kernel
def e_X9_isTime (a0 : Int32) : Option Int32 := (e_X9_within a0 (1 : Int32) (999999 : Int32)).bind (fun r1 => if r1 = 0 ∨ r1 = 1 then (some r1) else none)
set_option maxRecDepth 100000 in
set_option maxHeartbeats 4000000 in
theorem k_X9_isTime {l : Launch} {σ : ES} {a0 : Int32} {out : Int32} (h : e_X9_isTime a0 = some out) : MK l yX9_isTime cX9_isTime 1 (some .boolean) 2 [.int a0] (mkS σ) (some (.int out)) (mkS σ) := by
  unfold e_X9_isTime at h
  refine mw_entry (own := RX9) (ini := false) (L := [(0, .int a0)]) (by decide +kernel) rfl (fun h => nomatch h) rfl (Nat.le_of_ble_eq_true rfl) (Nat.le_of_ble_eq_true rfl) (fun E => ?_)
  refine mw_iload_n dX9_isTime_0 0 rfl ?_
  refine mw_iconst (v := 1) dX9_isTime_1 (by decide) ?_
  refine mw_ldcw dX9_isTime_2 wt_27 ?_
  obtain ⟨r1, e2, h⟩ := mbd h
  refine mv_callS_i (As := [.int a0, .int (1 : Int32), .int (999999 : Int32)]) lkS_RX9_75_yX9_within dX9_isTime_5 (k_X9_within e2) rfl rfl (Nat.le_of_ble_eq_true rfl) (by decide) (by decide) ?_
  obtain ⟨m3, h⟩ := mif h
  exact mw_zret dX9_isTime_8 rfl m3 (ers_i h) rfl rfl

theorem dX1_newWay_0 : decode cX1_newWay 0 = .ok (.aload_n 0, 1) := by decide +kernel
theorem dX1_newWay_1 : decode cX1_newWay 1 = .ok (.getfield 44, 3) := by decide +kernel
theorem dX1_newWay_4 : decode cX1_newWay 4 = .ok (.istore 6, 2) := by decide +kernel
theorem dX1_newWay_6 : decode cX1_newWay 6 = .ok (.aload_n 0, 1) := by decide +kernel
theorem dX1_newWay_7 : decode cX1_newWay 7 = .ok (.getfield 15, 3) := by decide +kernel
theorem dX1_newWay_10 : decode cX1_newWay 10 = .ok (.iload 6, 2) := by decide +kernel
theorem dX1_newWay_12 : decode cX1_newWay 12 = .ok (.iload_n 1, 1) := by decide +kernel
theorem dX1_newWay_13 : decode cX1_newWay 13 = .ok (.iastore, 1) := by decide +kernel
theorem dX1_newWay_14 : decode cX1_newWay 14 = .ok (.aload_n 0, 1) := by decide +kernel
theorem dX1_newWay_15 : decode cX1_newWay 15 = .ok (.getfield 19, 3) := by decide +kernel
theorem dX1_newWay_18 : decode cX1_newWay 18 = .ok (.iload 6, 2) := by decide +kernel
theorem dX1_newWay_20 : decode cX1_newWay 20 = .ok (.iload_n 2, 1) := by decide +kernel
theorem dX1_newWay_21 : decode cX1_newWay 21 = .ok (.iastore, 1) := by decide +kernel
theorem dX1_newWay_22 : decode cX1_newWay 22 = .ok (.aload_n 0, 1) := by decide +kernel
theorem dX1_newWay_23 : decode cX1_newWay 23 = .ok (.getfield 22, 3) := by decide +kernel
theorem dX1_newWay_26 : decode cX1_newWay 26 = .ok (.iload 6, 2) := by decide +kernel
theorem dX1_newWay_28 : decode cX1_newWay 28 = .ok (.iload_n 3, 1) := by decide +kernel
theorem dX1_newWay_29 : decode cX1_newWay 29 = .ok (.iastore, 1) := by decide +kernel
theorem dX1_newWay_30 : decode cX1_newWay 30 = .ok (.aload_n 0, 1) := by decide +kernel
theorem dX1_newWay_31 : decode cX1_newWay 31 = .ok (.getfield 25, 3) := by decide +kernel
theorem dX1_newWay_34 : decode cX1_newWay 34 = .ok (.iload 6, 2) := by decide +kernel
theorem dX1_newWay_36 : decode cX1_newWay 36 = .ok (.iload 4, 2) := by decide +kernel
theorem dX1_newWay_38 : decode cX1_newWay 38 = .ok (.iastore, 1) := by decide +kernel
theorem dX1_newWay_39 : decode cX1_newWay 39 = .ok (.aload_n 0, 1) := by decide +kernel
theorem dX1_newWay_40 : decode cX1_newWay 40 = .ok (.getfield 28, 3) := by decide +kernel
theorem dX1_newWay_43 : decode cX1_newWay 43 = .ok (.iload 6, 2) := by decide +kernel
theorem dX1_newWay_45 : decode cX1_newWay 45 = .ok (.iload 5, 2) := by decide +kernel
theorem dX1_newWay_47 : decode cX1_newWay 47 = .ok (.iastore, 1) := by decide +kernel
theorem dX1_newWay_48 : decode cX1_newWay 48 = .ok (.aload_n 0, 1) := by decide +kernel
theorem dX1_newWay_49 : decode cX1_newWay 49 = .ok (.getfield 31, 3) := by decide +kernel
theorem dX1_newWay_52 : decode cX1_newWay 52 = .ok (.iload 6, 2) := by decide +kernel
theorem dX1_newWay_54 : decode cX1_newWay 54 = .ok (.iconst 0, 1) := by decide +kernel
theorem dX1_newWay_55 : decode cX1_newWay 55 = .ok (.iastore, 1) := by decide +kernel
theorem dX1_newWay_56 : decode cX1_newWay 56 = .ok (.aload_n 0, 1) := by decide +kernel
theorem dX1_newWay_57 : decode cX1_newWay 57 = .ok (.dup, 1) := by decide +kernel
theorem dX1_newWay_58 : decode cX1_newWay 58 = .ok (.getfield 44, 3) := by decide +kernel
theorem dX1_newWay_61 : decode cX1_newWay 61 = .ok (.iconst 1, 1) := by decide +kernel
theorem dX1_newWay_62 : decode cX1_newWay 62 = .ok (.iadd, 1) := by decide +kernel
theorem dX1_newWay_63 : decode cX1_newWay 63 = .ok (.putfield 44, 3) := by decide +kernel
theorem dX1_newWay_66 : decode cX1_newWay 66 = .ok (.iload 6, 2) := by decide +kernel
theorem dX1_newWay_68 : decode cX1_newWay 68 = .ok (.ireturn, 1) := by decide +kernel
def e_X1_newWay_1 (a1 : Int32) (a2 : Int32) (a3 : Int32) (a4 : Int32) (a5 : Int32) (σ : ES) : Option (Int32 × ES) := if mib (eI σ 1 2) 14 = true then (some ((eI σ 1 2), (uI (uI (uI (uI (uI (uI (uI σ 2 (eI σ 1 2).toNatClampNeg a1) 3 (eI σ 1 2).toNatClampNeg a2) 4 (eI σ 1 2).toNatClampNeg a3) 5 (eI σ 1 2).toNatClampNeg a4) 6 (eI σ 1 2).toNatClampNeg a5) 7 (eI σ 1 2).toNatClampNeg (0 : Int32)) 1 2 ((eI (uI (uI (uI (uI (uI (uI σ 2 (eI σ 1 2).toNatClampNeg a1) 3 (eI σ 1 2).toNatClampNeg a2) 4 (eI σ 1 2).toNatClampNeg a3) 5 (eI σ 1 2).toNatClampNeg a4) 6 (eI σ 1 2).toNatClampNeg a5) 7 (eI σ 1 2).toNatClampNeg (0 : Int32)) 1 2) + (1 : Int32))))) else none
set_option maxRecDepth 100000 in
set_option maxHeartbeats 4000000 in
theorem k_X1_newWay_1 {l : Launch} {σ : ES} {a1 : Int32} {a2 : Int32} {a3 : Int32} {a4 : Int32} {a5 : Int32} {out : (Int32 × ES)} (h : e_X1_newWay_1 a1 a2 a3 a4 a5 σ = some out) : MK l yX1_newWay cX1_newWay 7 (some .int) 1 [.ref 1, .int a1, .int a2, .int a3, .int a4, .int a5] (mkS σ) (some (.int out.1)) (mkS out.2) := by
  unfold e_X1_newWay_1 at h
  refine mw_entry (own := RX1) (ini := false) (L := [(0, .ref 1), (1, .int a1), (2, .int a2), (3, .int a3), (4, .int a4), (5, .int a5)]) (by decide +kernel) rfl (fun h => nomatch h) rfl (Nat.le_of_ble_eq_true rfl) (Nat.le_of_ble_eq_true rfl) (fun E => ?_)
  refine mw_aload_n dX1_newWay_0 0 rfl ?_
  refine ev_getI fd_RX1_44_0 dX1_newWay_1 rfl rfl ?_
  refine mw_istore (L' := [(6, .int (eI σ 1 2)), (0, .ref 1), (1, .int a1), (2, .int a2), (3, .int a3), (4, .int a4), (5, .int a5)]) dX1_newWay_4 (by decide) rfl ?_
  refine mw_aload_n dX1_newWay_6 1 rfl ?_
  refine ev_getR (q := 2) fd_RX1_15_0 dX1_newWay_7 rfl rfl rfl ?_
  refine mw_iload dX1_newWay_10 0 rfl ?_
  refine mw_iload_n dX1_newWay_12 2 rfl ?_
  obtain ⟨m1, h⟩ := mif h
  refine ev_iast dX1_newWay_13 (by decide) rfl m1 ?_
  refine mw_aload_n dX1_newWay_14 1 rfl ?_
  refine ev_getR (q := 3) fd_RX1_19_0 dX1_newWay_15 rfl rfl rfl ?_
  refine mw_iload dX1_newWay_18 0 rfl ?_
  refine mw_iload_n dX1_newWay_20 3 rfl ?_
  refine ev_iast dX1_newWay_21 (by decide) rfl m1 ?_
  refine mw_aload_n dX1_newWay_22 1 rfl ?_
  refine ev_getR (q := 4) fd_RX1_22_0 dX1_newWay_23 rfl rfl rfl ?_
  refine mw_iload dX1_newWay_26 0 rfl ?_
  refine mw_iload_n dX1_newWay_28 4 rfl ?_
  refine ev_iast dX1_newWay_29 (by decide) rfl m1 ?_
  refine mw_aload_n dX1_newWay_30 1 rfl ?_
  refine ev_getR (q := 5) fd_RX1_25_0 dX1_newWay_31 rfl rfl rfl ?_
  refine mw_iload dX1_newWay_34 0 rfl ?_
  refine mw_iload dX1_newWay_36 5 rfl ?_
  refine ev_iast dX1_newWay_38 (by decide) rfl m1 ?_
  refine mw_aload_n dX1_newWay_39 1 rfl ?_
  refine ev_getR (q := 6) fd_RX1_28_0 dX1_newWay_40 rfl rfl rfl ?_
  refine mw_iload dX1_newWay_43 0 rfl ?_
  refine mw_iload dX1_newWay_45 6 rfl ?_
  refine ev_iast dX1_newWay_47 (by decide) rfl m1 ?_
  refine mw_aload_n dX1_newWay_48 1 rfl ?_
  refine ev_getR (q := 7) fd_RX1_31_0 dX1_newWay_49 rfl rfl rfl ?_
  refine mw_iload dX1_newWay_52 0 rfl ?_
  refine mw_iconst (v := 0) dX1_newWay_54 (by decide) ?_
  refine ev_iast dX1_newWay_55 (by decide) rfl m1 ?_
  refine mw_aload_n dX1_newWay_56 1 rfl ?_
  refine mw_dup dX1_newWay_57 rfl ?_
  refine ev_getI fd_RX1_44_0 dX1_newWay_58 rfl rfl ?_
  refine mw_iconst (v := 1) dX1_newWay_61 (by decide) ?_
  refine mw_iadd dX1_newWay_62 ?_
  refine ev_putI fw_RX1_44_0 dX1_newWay_63 rfl rfl ?_
  refine mw_iload dX1_newWay_66 0 rfl ?_
  exact mw_iret dX1_newWay_68 rfl (ers_im h) rfl rfl

theorem dX1_isPlace_0 : decode cX1_isPlace 0 = .ok (.iload_n 1, 1) := by decide +kernel
theorem dX1_isPlace_1 : decode cX1_isPlace 1 = .ok (.iconst 0, 1) := by decide +kernel
theorem dX1_isPlace_2 : decode cX1_isPlace 2 = .ok (.aload_n 0, 1) := by decide +kernel
theorem dX1_isPlace_3 : decode cX1_isPlace 3 = .ok (.getfield 9, 3) := by decide +kernel
theorem dX1_isPlace_6 : decode cX1_isPlace 6 = .ok (.iconst 1, 1) := by decide +kernel
theorem dX1_isPlace_7 : decode cX1_isPlace 7 = .ok (.isub, 1) := by decide +kernel
theorem dX1_isPlace_8 : decode cX1_isPlace 8 = .ok (.invokestatic 40, 3) := by decide +kernel
theorem dX1_isPlace_11 : decode cX1_isPlace 11 = .ok (.ireturn, 1) := by decide +kernel
def e_X1_isPlace_1 (σ : ES) (a1 : Int32) : Option Int32 := (e_X9_within a1 (0 : Int32) ((eI σ 1 0) - (1 : Int32))).bind (fun r1 => if r1 = 0 ∨ r1 = 1 then (some r1) else none)
set_option maxRecDepth 100000 in
set_option maxHeartbeats 4000000 in
theorem k_X1_isPlace_1 {l : Launch} {σ : ES} {a1 : Int32} {out : Int32} (h : e_X1_isPlace_1 σ a1 = some out) : MK l yX1_isPlace cX1_isPlace 2 (some .boolean) 2 [.ref 1, .int a1] (mkS σ) (some (.int out)) (mkS σ) := by
  unfold e_X1_isPlace_1 at h
  refine mw_entry (own := RX1) (ini := false) (L := [(0, .ref 1), (1, .int a1)]) (by decide +kernel) rfl (fun h => nomatch h) rfl (Nat.le_of_ble_eq_true rfl) (Nat.le_of_ble_eq_true rfl) (fun E => ?_)
  refine mw_iload_n dX1_isPlace_0 1 rfl ?_
  refine mw_iconst (v := 0) dX1_isPlace_1 (by decide) ?_
  refine mw_aload_n dX1_isPlace_2 0 rfl ?_
  refine ev_getI fd_RX1_9_0 dX1_isPlace_3 rfl rfl ?_
  refine mw_iconst (v := 1) dX1_isPlace_6 (by decide) ?_
  refine mw_isub dX1_isPlace_7 ?_
  obtain ⟨r1, e2, h⟩ := mbd h
  refine mv_callSN_i (As := [.int a1, .int (0 : Int32), .int ((eI σ 1 0) - (1 : Int32))]) lkN_RX1_40_yX9_within dX1_isPlace_8 (k_X9_within e2) rfl rfl (Nat.le_of_ble_eq_true rfl) (by decide) (by decide) ?_
  obtain ⟨m3, h⟩ := mif h
  exact mw_zret dX1_isPlace_11 rfl m3 (ers_i h) rfl rfl

theorem dX9_way_0 : decode cX9_way 0 = .ok (.aload_n 0, 1) := by decide +kernel
theorem dX9_way_1 : decode cX9_way 1 = .ok (.getfield 12, 3) := by decide +kernel
theorem dX9_way_4 : decode cX9_way 4 = .ok (.iload_n 2, 1) := by decide +kernel
theorem dX9_way_5 : decode cX9_way 5 = .ok (.invokevirtual 99, 3) := by decide +kernel
theorem dX9_way_8 : decode cX9_way 8 = .ok (.ifCond .eq 23, 3) := by decide +kernel
theorem dX9_way_11 : decode cX9_way 11 = .ok (.aload_n 0, 1) := by decide +kernel
theorem dX9_way_12 : decode cX9_way 12 = .ok (.getfield 12, 3) := by decide +kernel
theorem dX9_way_15 : decode cX9_way 15 = .ok (.iload_n 3, 1) := by decide +kernel
theorem dX9_way_16 : decode cX9_way 16 = .ok (.invokevirtual 99, 3) := by decide +kernel
theorem dX9_way_19 : decode cX9_way 19 = .ok (.ifCond .eq 12, 3) := by decide +kernel
theorem dX9_way_22 : decode cX9_way 22 = .ok (.iload_n 2, 1) := by decide +kernel
theorem dX9_way_23 : decode cX9_way 23 = .ok (.iload_n 3, 1) := by decide +kernel
theorem dX9_way_24 : decode cX9_way 24 = .ok (.if_icmp .eq 7, 3) := by decide +kernel
theorem dX9_way_27 : decode cX9_way 27 = .ok (.iconst 1, 1) := by decide +kernel
theorem dX9_way_28 : decode cX9_way 28 = .ok (.goto 4, 3) := by decide +kernel
theorem dX9_way_31 : decode cX9_way 31 = .ok (.iconst 0, 1) := by decide +kernel
theorem dX9_way_32 : decode cX9_way 32 = .ok (.istore 6, 2) := by decide +kernel
theorem dX9_way_34 : decode cX9_way 34 = .ok (.iload_n 1, 1) := by decide +kernel
theorem dX9_way_35 : decode cX9_way 35 = .ok (.invokestatic 103, 3) := by decide +kernel
theorem dX9_way_38 : decode cX9_way 38 = .ok (.ifCond .eq 24, 3) := by decide +kernel
theorem dX9_way_41 : decode cX9_way 41 = .ok (.iload 6, 2) := by decide +kernel
theorem dX9_way_43 : decode cX9_way 43 = .ok (.ifCond .eq 19, 3) := by decide +kernel
theorem dX9_way_46 : decode cX9_way 46 = .ok (.iload 4, 2) := by decide +kernel
theorem dX9_way_48 : decode cX9_way 48 = .ok (.invokestatic 106, 3) := by decide +kernel
theorem dX9_way_51 : decode cX9_way 51 = .ok (.ifCond .eq 11, 3) := by decide +kernel
theorem dX9_way_54 : decode cX9_way 54 = .ok (.iload 5, 2) := by decide +kernel
theorem dX9_way_56 : decode cX9_way 56 = .ok (.invokestatic 109, 3) := by decide +kernel
theorem dX9_way_59 : decode cX9_way 59 = .ok (.ifCond .ne 9, 3) := by decide +kernel
theorem dX9_way_62 : decode cX9_way 62 = .ok (.aload_n 0, 1) := by decide +kernel
theorem dX9_way_63 : decode cX9_way 63 = .ok (.iconst 0, 1) := by decide +kernel
theorem dX9_way_64 : decode cX9_way 64 = .ok (.invokevirtual 79, 3) := by decide +kernel
theorem dX9_way_67 : decode cX9_way 67 = .ok (.ireturn, 1) := by decide +kernel
theorem dX9_way_68 : decode cX9_way 68 = .ok (.aload_n 0, 1) := by decide +kernel
theorem dX9_way_69 : decode cX9_way 69 = .ok (.getfield 12, 3) := by decide +kernel
theorem dX9_way_72 : decode cX9_way 72 = .ok (.getfield 83, 3) := by decide +kernel
theorem dX9_way_75 : decode cX9_way 75 = .ok (.bipush 14, 2) := by decide +kernel
theorem dX9_way_77 : decode cX9_way 77 = .ok (.if_icmp .lt 9, 3) := by decide +kernel
theorem dX9_way_80 : decode cX9_way 80 = .ok (.aload_n 0, 1) := by decide +kernel
theorem dX9_way_81 : decode cX9_way 81 = .ok (.iconst 1, 1) := by decide +kernel
theorem dX9_way_82 : decode cX9_way 82 = .ok (.invokevirtual 79, 3) := by decide +kernel
theorem dX9_way_85 : decode cX9_way 85 = .ok (.ireturn, 1) := by decide +kernel
theorem dX9_way_86 : decode cX9_way 86 = .ok (.aload_n 0, 1) := by decide +kernel
theorem dX9_way_87 : decode cX9_way 87 = .ok (.getfield 12, 3) := by decide +kernel
theorem dX9_way_90 : decode cX9_way 90 = .ok (.iload_n 1, 1) := by decide +kernel
theorem dX9_way_91 : decode cX9_way 91 = .ok (.iload_n 2, 1) := by decide +kernel
theorem dX9_way_92 : decode cX9_way 92 = .ok (.iload_n 3, 1) := by decide +kernel
theorem dX9_way_93 : decode cX9_way 93 = .ok (.iload 4, 2) := by decide +kernel
theorem dX9_way_95 : decode cX9_way 95 = .ok (.iload 5, 2) := by decide +kernel
theorem dX9_way_97 : decode cX9_way 97 = .ok (.invokevirtual 112, 3) := by decide +kernel
theorem dX9_way_100 : decode cX9_way 100 = .ok (.ireturn, 1) := by decide +kernel
def e_X9_way_J32 (a1 : Int32) (a2 : Int32) (a3 : Int32) (a4 : Int32) (a5 : Int32) (s0 : Int32) (σ : ES) : Option (Int32 × ES) := (e_X9_isKind a1).bind (fun r1 => if r1 = 0 then ((e_X9_finding (0 : Int32) σ).bind (fun r3 => some (r3.1, r3.2))) else (if s0 = 0 then ((e_X9_finding (0 : Int32) σ).bind (fun r5 => some (r5.1, r5.2))) else ((e_X9_isGain a4).bind (fun r7 => if r7 = 0 then ((e_X9_finding (0 : Int32) σ).bind (fun r9 => some (r9.1, r9.2))) else ((e_X9_isTime a5).bind (fun r11 => if r11 = 0 then ((e_X9_finding (0 : Int32) σ).bind (fun r17 => some (r17.1, r17.2))) else (if (eI σ 1 2) < (14 : Int32) then ((e_X1_newWay_1 a1 a2 a3 a4 a5 σ).bind (fun r13 => some (r13.1, r13.2))) else ((e_X9_finding (1 : Int32) σ).bind (fun r15 => some (r15.1, r15.2))))))))))
set_option maxRecDepth 100000 in
set_option maxHeartbeats 4000000 in
theorem p_X9_way_J32 {l : Launch} {E : MX} {out : (Int32 × ES)} {a1 : Int32} {a2 : Int32} {a3 : Int32} {a4 : Int32} {a5 : Int32}  {s0 : Int32} {σ : ES} (h : e_X9_way_J32 a1 a2 a3 a4 a5 s0 σ = some out) : MV l E cX9_way RX9 7 (some .int) 3 (82, (some (.int out.1)), mkS out.2) (mkS σ) 32 [(0, .ref 0), (1, .int a1), (2, .int a2), (3, .int a3), (4, .int a4), (5, .int a5)] [.int s0] := by
  unfold e_X9_way_J32 at h
  refine mw_istore (L' := [(6, .int s0), (0, .ref 0), (1, .int a1), (2, .int a2), (3, .int a3), (4, .int a4), (5, .int a5)]) dX9_way_32 (by decide) rfl ?_
  refine mw_iload_n dX9_way_34 2 rfl ?_
  obtain ⟨r1, e2, h⟩ := mbd h
  refine mv_callS_i (As := [.int a1]) lkS_RX9_103_yX9_isKind dX9_way_35 (k_X9_isKind e2) rfl rfl (Nat.le_of_ble_eq_true rfl) (by decide) (by decide) ?_
  refine mw_if_eq (tgt := 62) dX9_way_38 (by decide) (fun hc => ?_) (fun hc => ?_)
  · have h := mit hc h
    refine mw_aload_n dX9_way_62 1 rfl ?_
    refine mw_iconst (v := 0) dX9_way_63 (by decide) ?_
    obtain ⟨r3, e4, h⟩ := mbd h
    refine mv_callV_i (As := [.int (0 : Int32)]) (ci := 8) lkV_RX9_79_yX9_finding dX9_way_64 (k_X9_finding e4) rfl rfl rfl rfl (Nat.le_of_ble_eq_true rfl) (by decide) (by decide) ?_
    exact mw_iret dX9_way_67 rfl (ers_im h) rfl rfl
  · have h := mie hc h
    refine mw_iload dX9_way_41 0 rfl ?_
    refine mw_if_eq (tgt := 62) dX9_way_43 (by decide) (fun hc => ?_) (fun hc => ?_)
    · have h := mit hc h
      refine mw_aload_n dX9_way_62 1 rfl ?_
      refine mw_iconst (v := 0) dX9_way_63 (by decide) ?_
      obtain ⟨r5, e6, h⟩ := mbd h
      refine mv_callV_i (As := [.int (0 : Int32)]) (ci := 8) lkV_RX9_79_yX9_finding dX9_way_64 (k_X9_finding e6) rfl rfl rfl rfl (Nat.le_of_ble_eq_true rfl) (by decide) (by decide) ?_
      exact mw_iret dX9_way_67 rfl (ers_im h) rfl rfl
    · have h := mie hc h
      refine mw_iload dX9_way_46 5 rfl ?_
      obtain ⟨r7, e8, h⟩ := mbd h
      refine mv_callS_i (As := [.int a4]) lkS_RX9_106_yX9_isGain dX9_way_48 (k_X9_isGain e8) rfl rfl (Nat.le_of_ble_eq_true rfl) (by decide) (by decide) ?_
      refine mw_if_eq (tgt := 62) dX9_way_51 (by decide) (fun hc => ?_) (fun hc => ?_)
      · have h := mit hc h
        refine mw_aload_n dX9_way_62 1 rfl ?_
        refine mw_iconst (v := 0) dX9_way_63 (by decide) ?_
        obtain ⟨r9, e10, h⟩ := mbd h
        refine mv_callV_i (As := [.int (0 : Int32)]) (ci := 8) lkV_RX9_79_yX9_finding dX9_way_64 (k_X9_finding e10) rfl rfl rfl rfl (Nat.le_of_ble_eq_true rfl) (by decide) (by decide) ?_
        exact mw_iret dX9_way_67 rfl (ers_im h) rfl rfl
      · have h := mie hc h
        refine mw_iload dX9_way_54 6 rfl ?_
        obtain ⟨r11, e12, h⟩ := mbd h
        refine mv_callS_i (As := [.int a5]) lkS_RX9_109_yX9_isTime dX9_way_56 (k_X9_isTime e12) rfl rfl (Nat.le_of_ble_eq_true rfl) (by decide) (by decide) ?_
        refine mw_if_ne (tgt := 68) dX9_way_59 (by decide) (fun hc => ?_) (fun hc => ?_)
        · have h := mie hc h
          refine mw_aload_n dX9_way_68 1 rfl ?_
          refine ev_getR (q := 1) fd_RX9_12_8 dX9_way_69 rfl rfl rfl ?_
          refine ev_getI fd_RX9_83_0 dX9_way_72 rfl rfl ?_
          refine mw_bipush (v := 14) dX9_way_75 (by decide) ?_
          refine mw_icmp_lt (tgt := 86) dX9_way_77 (by decide) (fun hc => ?_) (fun hc => ?_)
          · have h := mit hc h
            refine mw_aload_n dX9_way_86 1 rfl ?_
            refine ev_getR (q := 1) fd_RX9_12_8 dX9_way_87 rfl rfl rfl ?_
            refine mw_iload_n dX9_way_90 2 rfl ?_
            refine mw_iload_n dX9_way_91 3 rfl ?_
            refine mw_iload_n dX9_way_92 4 rfl ?_
            refine mw_iload dX9_way_93 5 rfl ?_
            refine mw_iload dX9_way_95 6 rfl ?_
            obtain ⟨r13, e14, h⟩ := mbd h
            refine mv_callV_i (As := [.int a1, .int a2, .int a3, .int a4, .int a5]) (ci := 0) lkV_RX9_112_yX1_newWay dX9_way_97 (k_X1_newWay_1 e14) rfl rfl rfl rfl (Nat.le_of_ble_eq_true rfl) (by decide) (by decide) ?_
            exact mw_iret dX9_way_100 rfl (ers_im h) rfl rfl
          · have h := mie hc h
            refine mw_aload_n dX9_way_80 1 rfl ?_
            refine mw_iconst (v := 1) dX9_way_81 (by decide) ?_
            obtain ⟨r15, e16, h⟩ := mbd h
            refine mv_callV_i (As := [.int (1 : Int32)]) (ci := 8) lkV_RX9_79_yX9_finding dX9_way_82 (k_X9_finding e16) rfl rfl rfl rfl (Nat.le_of_ble_eq_true rfl) (by decide) (by decide) ?_
            exact mw_iret dX9_way_85 rfl (ers_im h) rfl rfl
        · have h := mit hc h
          refine mw_aload_n dX9_way_62 1 rfl ?_
          refine mw_iconst (v := 0) dX9_way_63 (by decide) ?_
          obtain ⟨r17, e18, h⟩ := mbd h
          refine mv_callV_i (As := [.int (0 : Int32)]) (ci := 8) lkV_RX9_79_yX9_finding dX9_way_64 (k_X9_finding e18) rfl rfl rfl rfl (Nat.le_of_ble_eq_true rfl) (by decide) (by decide) ?_
          exact mw_iret dX9_way_67 rfl (ers_im h) rfl rfl
def e_X9_way_J31 (a1 : Int32) (a2 : Int32) (a3 : Int32) (a4 : Int32) (a5 : Int32) (σ : ES) : Option (Int32 × ES) := e_X9_way_J32 a1 a2 a3 a4 a5 (0 : Int32) σ
set_option maxRecDepth 100000 in
set_option maxHeartbeats 4000000 in
theorem p_X9_way_J31 {l : Launch} {E : MX} {out : (Int32 × ES)} {a1 : Int32} {a2 : Int32} {a3 : Int32} {a4 : Int32} {a5 : Int32}  {σ : ES} (h : e_X9_way_J31 a1 a2 a3 a4 a5 σ = some out) : MV l E cX9_way RX9 7 (some .int) 3 (82, (some (.int out.1)), mkS out.2) (mkS σ) 31 [(0, .ref 0), (1, .int a1), (2, .int a2), (3, .int a3), (4, .int a4), (5, .int a5)] [] := by
  unfold e_X9_way_J31 at h
  refine mw_iconst (v := 0) dX9_way_31 (by decide) ?_
  exact mw_sub (L' := [(0, .ref 0), (1, .int a1), (2, .int a2), (3, .int a3), (4, .int a4), (5, .int a5)]) [0, 1, 2, 3, 4, 5] rfl (p_X9_way_J32  h)
def e_X9_way (a1 : Int32) (a2 : Int32) (a3 : Int32) (a4 : Int32) (a5 : Int32) (σ : ES) : Option (Int32 × ES) := (e_X1_isPlace_1 σ a2).bind (fun r1 => if r1 = 0 then (e_X9_way_J31 a1 a2 a3 a4 a5 σ) else ((e_X1_isPlace_1 σ a3).bind (fun r3 => if r3 = 0 then (e_X9_way_J31 a1 a2 a3 a4 a5 σ) else (if a2 = a3 then (e_X9_way_J31 a1 a2 a3 a4 a5 σ) else (e_X9_way_J32 a1 a2 a3 a4 a5 (1 : Int32) σ)))))
set_option maxRecDepth 100000 in
set_option maxHeartbeats 4000000 in
theorem k_X9_way {l : Launch} {σ : ES} {a1 : Int32} {a2 : Int32} {a3 : Int32} {a4 : Int32} {a5 : Int32} {out : (Int32 × ES)} (h : e_X9_way a1 a2 a3 a4 a5 σ = some out) : MK l yX9_way cX9_way 7 (some .int) 3 [.ref 0, .int a1, .int a2, .int a3, .int a4, .int a5] (mkS σ) (some (.int out.1)) (mkS out.2) := by
  unfold e_X9_way at h
  refine mw_entry (own := RX9) (ini := false) (L := [(0, .ref 0), (1, .int a1), (2, .int a2), (3, .int a3), (4, .int a4), (5, .int a5)]) (by decide +kernel) rfl (fun h => nomatch h) rfl (Nat.le_of_ble_eq_true rfl) (Nat.le_of_ble_eq_true rfl) (fun E => ?_)
  refine mw_aload_n dX9_way_0 0 rfl ?_
  refine ev_getR (q := 1) fd_RX9_12_8 dX9_way_1 rfl rfl rfl ?_
  refine mw_iload_n dX9_way_4 2 rfl ?_
  obtain ⟨r1, e2, h⟩ := mbd h
  refine mv_callV_i (As := [.int a2]) (ci := 0) lkV_RX9_99_yX1_isPlace dX9_way_5 (k_X1_isPlace_1 e2) rfl rfl rfl rfl (Nat.le_of_ble_eq_true rfl) (by decide) (by decide) ?_
  refine mw_if_eq (tgt := 31) dX9_way_8 (by decide) (fun hc => ?_) (fun hc => ?_)
  · have h := mit hc h
    exact mw_sub (L' := [(0, .ref 0), (1, .int a1), (2, .int a2), (3, .int a3), (4, .int a4), (5, .int a5)]) [0, 1, 2, 3, 4, 5] rfl (p_X9_way_J31  h)
  · have h := mie hc h
    refine mw_aload_n dX9_way_11 0 rfl ?_
    refine ev_getR (q := 1) fd_RX9_12_8 dX9_way_12 rfl rfl rfl ?_
    refine mw_iload_n dX9_way_15 3 rfl ?_
    obtain ⟨r3, e4, h⟩ := mbd h
    refine mv_callV_i (As := [.int a3]) (ci := 0) lkV_RX9_99_yX1_isPlace dX9_way_16 (k_X1_isPlace_1 e4) rfl rfl rfl rfl (Nat.le_of_ble_eq_true rfl) (by decide) (by decide) ?_
    refine mw_if_eq (tgt := 31) dX9_way_19 (by decide) (fun hc => ?_) (fun hc => ?_)
    · have h := mit hc h
      exact mw_sub (L' := [(0, .ref 0), (1, .int a1), (2, .int a2), (3, .int a3), (4, .int a4), (5, .int a5)]) [0, 1, 2, 3, 4, 5] rfl (p_X9_way_J31  h)
    · have h := mie hc h
      refine mw_iload_n dX9_way_22 2 rfl ?_
      refine mw_iload_n dX9_way_23 3 rfl ?_
      refine mw_icmp_eq (tgt := 31) dX9_way_24 (by decide) (fun hc => ?_) (fun hc => ?_)
      · have h := mit hc h
        exact mw_sub (L' := [(0, .ref 0), (1, .int a1), (2, .int a2), (3, .int a3), (4, .int a4), (5, .int a5)]) [0, 1, 2, 3, 4, 5] rfl (p_X9_way_J31  h)
      · have h := mie hc h
        refine mw_iconst (v := 1) dX9_way_27 (by decide) ?_
        refine mw_goto (tgt := 32) dX9_way_28 (by decide) ?_
        exact mw_sub (L' := [(0, .ref 0), (1, .int a1), (2, .int a2), (3, .int a3), (4, .int a4), (5, .int a5)]) [0, 1, 2, 3, 4, 5] rfl (p_X9_way_J32  h)

theorem dX1_isWay_0 : decode cX1_isWay 0 = .ok (.iload_n 1, 1) := by decide +kernel
theorem dX1_isWay_1 : decode cX1_isWay 1 = .ok (.iconst 0, 1) := by decide +kernel
theorem dX1_isWay_2 : decode cX1_isWay 2 = .ok (.aload_n 0, 1) := by decide +kernel
theorem dX1_isWay_3 : decode cX1_isWay 3 = .ok (.getfield 44, 3) := by decide +kernel
theorem dX1_isWay_6 : decode cX1_isWay 6 = .ok (.iconst 1, 1) := by decide +kernel
theorem dX1_isWay_7 : decode cX1_isWay 7 = .ok (.isub, 1) := by decide +kernel
theorem dX1_isWay_8 : decode cX1_isWay 8 = .ok (.invokestatic 40, 3) := by decide +kernel
theorem dX1_isWay_11 : decode cX1_isWay 11 = .ok (.ireturn, 1) := by decide +kernel
def e_X1_isWay_1 (σ : ES) (a1 : Int32) : Option Int32 := (e_X9_within a1 (0 : Int32) ((eI σ 1 2) - (1 : Int32))).bind (fun r1 => if r1 = 0 ∨ r1 = 1 then (some r1) else none)
set_option maxRecDepth 100000 in
set_option maxHeartbeats 4000000 in
theorem k_X1_isWay_1 {l : Launch} {σ : ES} {a1 : Int32} {out : Int32} (h : e_X1_isWay_1 σ a1 = some out) : MK l yX1_isWay cX1_isWay 2 (some .boolean) 2 [.ref 1, .int a1] (mkS σ) (some (.int out)) (mkS σ) := by
  unfold e_X1_isWay_1 at h
  refine mw_entry (own := RX1) (ini := false) (L := [(0, .ref 1), (1, .int a1)]) (by decide +kernel) rfl (fun h => nomatch h) rfl (Nat.le_of_ble_eq_true rfl) (Nat.le_of_ble_eq_true rfl) (fun E => ?_)
  refine mw_iload_n dX1_isWay_0 1 rfl ?_
  refine mw_iconst (v := 0) dX1_isWay_1 (by decide) ?_
  refine mw_aload_n dX1_isWay_2 0 rfl ?_
  refine ev_getI fd_RX1_44_0 dX1_isWay_3 rfl rfl ?_
  refine mw_iconst (v := 1) dX1_isWay_6 (by decide) ?_
  refine mw_isub dX1_isWay_7 ?_
  obtain ⟨r1, e2, h⟩ := mbd h
  refine mv_callSN_i (As := [.int a1, .int (0 : Int32), .int ((eI σ 1 2) - (1 : Int32))]) lkN_RX1_40_yX9_within dX1_isWay_8 (k_X9_within e2) rfl rfl (Nat.le_of_ble_eq_true rfl) (by decide) (by decide) ?_
  obtain ⟨m3, h⟩ := mif h
  exact mw_zret dX1_isWay_11 rfl m3 (ers_i h) rfl rfl

theorem dX9_brings_0 : decode cX9_brings 0 = .ok (.iload_n 0, 1) := by decide +kernel
theorem dX9_brings_1 : decode cX9_brings 1 = .ok (.tableswitch 97 1 5 #[35, 45, 56, 67, 77], 35) := by decide +kernel
theorem dX9_brings_36 : decode cX9_brings 36 = .ok (.iconst 0, 1) := by decide +kernel
theorem dX9_brings_37 : decode cX9_brings 37 = .ok (.iload_n 1, 1) := by decide +kernel
theorem dX9_brings_38 : decode cX9_brings 38 = .ok (.iload_n 2, 1) := by decide +kernel
theorem dX9_brings_39 : decode cX9_brings 39 = .ok (.invokestatic 368, 3) := by decide +kernel
theorem dX9_brings_42 : decode cX9_brings 42 = .ok (.bipush 7, 2) := by decide +kernel
theorem dX9_brings_44 : decode cX9_brings 44 = .ok (.isub, 1) := by decide +kernel
theorem dX9_brings_45 : decode cX9_brings 45 = .ok (.ireturn, 1) := by decide +kernel
theorem dX9_brings_46 : decode cX9_brings 46 = .ok (.iconst 0, 1) := by decide +kernel
theorem dX9_brings_47 : decode cX9_brings 47 = .ok (.iload_n 1, 1) := by decide +kernel
theorem dX9_brings_48 : decode cX9_brings 48 = .ok (.iload_n 2, 1) := by decide +kernel
theorem dX9_brings_49 : decode cX9_brings 49 = .ok (.invokestatic 368, 3) := by decide +kernel
theorem dX9_brings_52 : decode cX9_brings 52 = .ok (.iconst 5, 1) := by decide +kernel
theorem dX9_brings_53 : decode cX9_brings 53 = .ok (.iload_n 2, 1) := by decide +kernel
theorem dX9_brings_54 : decode cX9_brings 54 = .ok (.imul, 1) := by decide +kernel
theorem dX9_brings_55 : decode cX9_brings 55 = .ok (.isub, 1) := by decide +kernel
theorem dX9_brings_56 : decode cX9_brings 56 = .ok (.ireturn, 1) := by decide +kernel
theorem dX9_brings_57 : decode cX9_brings 57 = .ok (.iconst 1, 1) := by decide +kernel
theorem dX9_brings_58 : decode cX9_brings 58 = .ok (.iload_n 1, 1) := by decide +kernel
theorem dX9_brings_59 : decode cX9_brings 59 = .ok (.iload_n 2, 1) := by decide +kernel
theorem dX9_brings_60 : decode cX9_brings 60 = .ok (.invokestatic 368, 3) := by decide +kernel
theorem dX9_brings_63 : decode cX9_brings 63 = .ok (.iconst 3, 1) := by decide +kernel
theorem dX9_brings_64 : decode cX9_brings 64 = .ok (.iload_n 2, 1) := by decide +kernel
theorem dX9_brings_65 : decode cX9_brings 65 = .ok (.imul, 1) := by decide +kernel
theorem dX9_brings_66 : decode cX9_brings 66 = .ok (.iadd, 1) := by decide +kernel
theorem dX9_brings_67 : decode cX9_brings 67 = .ok (.ireturn, 1) := by decide +kernel
theorem dX9_brings_68 : decode cX9_brings 68 = .ok (.iconst 2, 1) := by decide +kernel
theorem dX9_brings_69 : decode cX9_brings 69 = .ok (.iload_n 1, 1) := by decide +kernel
theorem dX9_brings_70 : decode cX9_brings 70 = .ok (.iload_n 2, 1) := by decide +kernel
theorem dX9_brings_71 : decode cX9_brings 71 = .ok (.invokestatic 368, 3) := by decide +kernel
theorem dX9_brings_74 : decode cX9_brings 74 = .ok (.bipush 11, 2) := by decide +kernel
theorem dX9_brings_76 : decode cX9_brings 76 = .ok (.isub, 1) := by decide +kernel
theorem dX9_brings_77 : decode cX9_brings 77 = .ok (.ireturn, 1) := by decide +kernel
theorem dX9_brings_78 : decode cX9_brings 78 = .ok (.iconst 0, 1) := by decide +kernel
theorem dX9_brings_79 : decode cX9_brings 79 = .ok (.iload_n 1, 1) := by decide +kernel
theorem dX9_brings_80 : decode cX9_brings 80 = .ok (.iload_n 2, 1) := by decide +kernel
theorem dX9_brings_81 : decode cX9_brings 81 = .ok (.invokestatic 368, 3) := by decide +kernel
theorem dX9_brings_84 : decode cX9_brings 84 = .ok (.iload_n 2, 1) := by decide +kernel
theorem dX9_brings_85 : decode cX9_brings 85 = .ok (.iconst 2, 1) := by decide +kernel
theorem dX9_brings_86 : decode cX9_brings 86 = .ok (.irem, 1) := by decide +kernel
theorem dX9_brings_87 : decode cX9_brings 87 = .ok (.ifCond .ne 8, 3) := by decide +kernel
theorem dX9_brings_90 : decode cX9_brings 90 = .ok (.bipush 9, 2) := by decide +kernel
theorem dX9_brings_92 : decode cX9_brings 92 = .ok (.goto 4, 3) := by decide +kernel
theorem dX9_brings_95 : decode cX9_brings 95 = .ok (.iconst 0, 1) := by decide +kernel
theorem dX9_brings_96 : decode cX9_brings 96 = .ok (.iadd, 1) := by decide +kernel
theorem dX9_brings_97 : decode cX9_brings 97 = .ok (.ireturn, 1) := by decide +kernel
theorem dX9_brings_98 : decode cX9_brings 98 = .ok (.iload_n 1, 1) := by decide +kernel
theorem dX9_brings_99 : decode cX9_brings 99 = .ok (.ireturn, 1) := by decide +kernel
def e_X9_brings  : Nat → Int32 → Int32 → Int32 → Option Int32
  | 0, _, _, _ => none
  | d + 1, a0, a1, a2 => if a0 = 1 then (((e_X9_brings d) (0 : Int32) a1 a2).bind (fun r1 => some (r1 - (7 : Int32)))) else (if a0 = 2 then (((e_X9_brings d) (0 : Int32) a1 a2).bind (fun r3 => some (r3 - ((5 : Int32) * a2)))) else (if a0 = 3 then (((e_X9_brings d) (1 : Int32) a1 a2).bind (fun r5 => some (r5 + ((3 : Int32) * a2)))) else (if a0 = 4 then (((e_X9_brings d) (2 : Int32) a1 a2).bind (fun r7 => some (r7 - (11 : Int32)))) else (if a0 = 5 then (((e_X9_brings d) (0 : Int32) a1 a2).bind (fun r9 => if (a2 - a2 / (2 : Int32) * (2 : Int32)) = 0 then (some (r9 + (9 : Int32))) else (some (r9 + (0 : Int32))))) else (some a1)))))
set_option maxRecDepth 100000 in
set_option maxHeartbeats 4000000 in
theorem k_X9_brings {l : Launch} : ∀ (d : Nat), ∀ (τ : ES) (b0 : Int32) (b1 : Int32) (b2 : Int32) (r : Int32), e_X9_brings d b0 b1 b2 = some r → MK l yX9_brings cX9_brings 3 (some .int) (1 + d) [.int b0, .int b1, .int b2] (mkS τ) (some (.int r)) (mkS τ) := by
  intro d
  induction d with
  | zero =>
    intro τ b0 b1 b2 r h
    exact nomatch h
  | succ d IH =>
    intro σ a0 a1 a2 out h
    rw [e_X9_brings] at h
    refine mw_entry (own := RX9) (ini := false) (L := [(0, .int a0), (1, .int a1), (2, .int a2)]) (by decide +kernel) rfl (fun h => nomatch h) rfl (Nat.le_of_ble_eq_true rfl) (Nat.le_of_ble_eq_true rfl) (fun E => ?_)
    refine mw_iload_n dX9_brings_0 0 rfl ?_
    by_cases hs1 : a0 = 1
    · have h := mit hs1 h
      refine mv_tabIn (tgt := 36) 1 dX9_brings_1 hs1 (by decide) (by decide) rfl (by decide) ?_
      refine mw_iconst (v := 0) dX9_brings_36 (by decide) ?_
      refine mw_iload_n dX9_brings_37 1 rfl ?_
      refine mw_iload_n dX9_brings_38 2 rfl ?_
      obtain ⟨r1, e2, h⟩ := mbd h
      refine mv_callS_i (As := [.int (0 : Int32), .int a1, .int a2]) lkS_RX9_368_yX9_brings dX9_brings_39 (IH _ _ _ _ _ e2) rfl rfl (Nat.le_of_ble_eq_true rfl) (by omega) (by decide) ?_
      refine mw_bipush (v := 7) dX9_brings_42 (by decide) ?_
      refine mw_isub dX9_brings_44 ?_
      exact mw_iret dX9_brings_45 rfl (ers_i h) rfl rfl
    have h := mie hs1 h
    by_cases hs2 : a0 = 2
    · have h := mit hs2 h
      refine mv_tabIn (tgt := 46) 2 dX9_brings_1 hs2 (by decide) (by decide) rfl (by decide) ?_
      refine mw_iconst (v := 0) dX9_brings_46 (by decide) ?_
      refine mw_iload_n dX9_brings_47 1 rfl ?_
      refine mw_iload_n dX9_brings_48 2 rfl ?_
      obtain ⟨r3, e4, h⟩ := mbd h
      refine mv_callS_i (As := [.int (0 : Int32), .int a1, .int a2]) lkS_RX9_368_yX9_brings dX9_brings_49 (IH _ _ _ _ _ e4) rfl rfl (Nat.le_of_ble_eq_true rfl) (by omega) (by decide) ?_
      refine mw_iconst (v := 5) dX9_brings_52 (by decide) ?_
      refine mw_iload_n dX9_brings_53 2 rfl ?_
      refine mw_imul dX9_brings_54 ?_
      refine mw_isub dX9_brings_55 ?_
      exact mw_iret dX9_brings_56 rfl (ers_i h) rfl rfl
    have h := mie hs2 h
    by_cases hs3 : a0 = 3
    · have h := mit hs3 h
      refine mv_tabIn (tgt := 57) 3 dX9_brings_1 hs3 (by decide) (by decide) rfl (by decide) ?_
      refine mw_iconst (v := 1) dX9_brings_57 (by decide) ?_
      refine mw_iload_n dX9_brings_58 1 rfl ?_
      refine mw_iload_n dX9_brings_59 2 rfl ?_
      obtain ⟨r5, e6, h⟩ := mbd h
      refine mv_callS_i (As := [.int (1 : Int32), .int a1, .int a2]) lkS_RX9_368_yX9_brings dX9_brings_60 (IH _ _ _ _ _ e6) rfl rfl (Nat.le_of_ble_eq_true rfl) (by omega) (by decide) ?_
      refine mw_iconst (v := 3) dX9_brings_63 (by decide) ?_
      refine mw_iload_n dX9_brings_64 2 rfl ?_
      refine mw_imul dX9_brings_65 ?_
      refine mw_iadd dX9_brings_66 ?_
      exact mw_iret dX9_brings_67 rfl (ers_i h) rfl rfl
    have h := mie hs3 h
    by_cases hs4 : a0 = 4
    · have h := mit hs4 h
      refine mv_tabIn (tgt := 68) 4 dX9_brings_1 hs4 (by decide) (by decide) rfl (by decide) ?_
      refine mw_iconst (v := 2) dX9_brings_68 (by decide) ?_
      refine mw_iload_n dX9_brings_69 1 rfl ?_
      refine mw_iload_n dX9_brings_70 2 rfl ?_
      obtain ⟨r7, e8, h⟩ := mbd h
      refine mv_callS_i (As := [.int (2 : Int32), .int a1, .int a2]) lkS_RX9_368_yX9_brings dX9_brings_71 (IH _ _ _ _ _ e8) rfl rfl (Nat.le_of_ble_eq_true rfl) (by omega) (by decide) ?_
      refine mw_bipush (v := 11) dX9_brings_74 (by decide) ?_
      refine mw_isub dX9_brings_76 ?_
      exact mw_iret dX9_brings_77 rfl (ers_i h) rfl rfl
    have h := mie hs4 h
    by_cases hs5 : a0 = 5
    · have h := mit hs5 h
      refine mv_tabIn (tgt := 78) 5 dX9_brings_1 hs5 (by decide) (by decide) rfl (by decide) ?_
      refine mw_iconst (v := 0) dX9_brings_78 (by decide) ?_
      refine mw_iload_n dX9_brings_79 1 rfl ?_
      refine mw_iload_n dX9_brings_80 2 rfl ?_
      obtain ⟨r9, e10, h⟩ := mbd h
      refine mv_callS_i (As := [.int (0 : Int32), .int a1, .int a2]) lkS_RX9_368_yX9_brings dX9_brings_81 (IH _ _ _ _ _ e10) rfl rfl (Nat.le_of_ble_eq_true rfl) (by omega) (by decide) ?_
      refine mw_iload_n dX9_brings_84 2 rfl ?_
      refine mw_iconst (v := 2) dX9_brings_85 (by decide) ?_
      refine mw_irem dX9_brings_86 (by decide) ?_
      refine mw_if_ne (tgt := 95) dX9_brings_87 (by decide) (fun hc => ?_) (fun hc => ?_)
      · have h := mie hc h
        refine mw_iconst (v := 0) dX9_brings_95 (by decide) ?_
        refine mw_iadd dX9_brings_96 ?_
        exact mw_iret dX9_brings_97 rfl (ers_i h) rfl rfl
      · have h := mit hc h
        refine mw_bipush (v := 9) dX9_brings_90 (by decide) ?_
        refine mw_goto (tgt := 96) dX9_brings_92 (by decide) ?_
        refine mw_iadd dX9_brings_96 ?_
        exact mw_iret dX9_brings_97 rfl (ers_i h) rfl rfl
    have h := mie hs5 h
    have g0 := mne32 hs1
    have g1 := mne32 hs2
    have g2 := mne32 hs3
    have g3 := mne32 hs4
    have g4 := mne32 hs5
    refine mv_tabOut (tgt := 98) dX9_brings_1 (by simp only [mti_1, mti_2, mti_3, mti_4, mti_5] at g0 g1 g2 g3 g4; omega) (by decide) ?_
    refine mw_iload_n dX9_brings_98 1 rfl ?_
    exact mw_iret dX9_brings_99 rfl (ers_i h) rfl rfl

theorem dX1_bringsOf_0 : decode cX1_bringsOf 0 = .ok (.aload_n 0, 1) := by decide +kernel
theorem dX1_bringsOf_1 : decode cX1_bringsOf 1 = .ok (.getfield 15, 3) := by decide +kernel
theorem dX1_bringsOf_4 : decode cX1_bringsOf 4 = .ok (.iload_n 1, 1) := by decide +kernel
theorem dX1_bringsOf_5 : decode cX1_bringsOf 5 = .ok (.iaload, 1) := by decide +kernel
theorem dX1_bringsOf_6 : decode cX1_bringsOf 6 = .ok (.aload_n 0, 1) := by decide +kernel
theorem dX1_bringsOf_7 : decode cX1_bringsOf 7 = .ok (.getfield 25, 3) := by decide +kernel
theorem dX1_bringsOf_10 : decode cX1_bringsOf 10 = .ok (.iload_n 1, 1) := by decide +kernel
theorem dX1_bringsOf_11 : decode cX1_bringsOf 11 = .ok (.iaload, 1) := by decide +kernel
theorem dX1_bringsOf_12 : decode cX1_bringsOf 12 = .ok (.aload_n 0, 1) := by decide +kernel
theorem dX1_bringsOf_13 : decode cX1_bringsOf 13 = .ok (.getfield 50, 3) := by decide +kernel
theorem dX1_bringsOf_16 : decode cX1_bringsOf 16 = .ok (.invokestatic 53, 3) := by decide +kernel
theorem dX1_bringsOf_19 : decode cX1_bringsOf 19 = .ok (.ireturn, 1) := by decide +kernel
def e_X1_bringsOf_1 (σ : ES) (a1 : Int32) : Option Int32 := if mib a1 14 = true then ((e_X9_brings 3 (eI σ 2 a1.toNatClampNeg) (eI σ 5 a1.toNatClampNeg) (eI σ 1 1)).bind (fun r2 => some r2)) else none
set_option maxRecDepth 100000 in
set_option maxHeartbeats 4000000 in
theorem k_X1_bringsOf_1 {l : Launch} {σ : ES} {a1 : Int32} {out : Int32} (h : e_X1_bringsOf_1 σ a1 = some out) : MK l yX1_bringsOf cX1_bringsOf 2 (some .int) 5 [.ref 1, .int a1] (mkS σ) (some (.int out)) (mkS σ) := by
  unfold e_X1_bringsOf_1 at h
  refine mw_entry (own := RX1) (ini := false) (L := [(0, .ref 1), (1, .int a1)]) (by decide +kernel) rfl (fun h => nomatch h) rfl (Nat.le_of_ble_eq_true rfl) (Nat.le_of_ble_eq_true rfl) (fun E => ?_)
  refine mw_aload_n dX1_bringsOf_0 0 rfl ?_
  refine ev_getR (q := 2) fd_RX1_15_0 dX1_bringsOf_1 rfl rfl rfl ?_
  refine mw_iload_n dX1_bringsOf_4 1 rfl ?_
  obtain ⟨m1, h⟩ := mif h
  refine ev_iald dX1_bringsOf_5 (by decide) rfl m1 ?_
  refine mw_aload_n dX1_bringsOf_6 0 rfl ?_
  refine ev_getR (q := 5) fd_RX1_25_0 dX1_bringsOf_7 rfl rfl rfl ?_
  refine mw_iload_n dX1_bringsOf_10 1 rfl ?_
  refine ev_iald dX1_bringsOf_11 (by decide) rfl m1 ?_
  refine mw_aload_n dX1_bringsOf_12 0 rfl ?_
  refine ev_getI fd_RX1_50_0 dX1_bringsOf_13 rfl rfl ?_
  obtain ⟨r2, e3, h⟩ := mbd h
  refine mv_callSN_i (As := [.int (eI σ 2 a1.toNatClampNeg), .int (eI σ 5 a1.toNatClampNeg), .int (eI σ 1 1)]) lkN_RX1_53_yX9_brings dX1_bringsOf_16 (k_X9_brings 3 _ _ _ _ _ e3) rfl rfl (Nat.le_of_ble_eq_true rfl) (by decide) (by decide) ?_
  exact mw_iret dX1_bringsOf_19 rfl (ers_i h) rfl rfl

theorem dX9_lasts_0 : decode cX9_lasts 0 = .ok (.iload_n 0, 1) := by decide +kernel
theorem dX9_lasts_1 : decode cX9_lasts 1 = .ok (.tableswitch 87 1 5 #[35, 44, 53, 60, 69], 35) := by decide +kernel
theorem dX9_lasts_36 : decode cX9_lasts 36 = .ok (.iconst 0, 1) := by decide +kernel
theorem dX9_lasts_37 : decode cX9_lasts 37 = .ok (.iload_n 1, 1) := by decide +kernel
theorem dX9_lasts_38 : decode cX9_lasts 38 = .ok (.iload_n 2, 1) := by decide +kernel
theorem dX9_lasts_39 : decode cX9_lasts 39 = .ok (.invokestatic 371, 3) := by decide +kernel
theorem dX9_lasts_42 : decode cX9_lasts 42 = .ok (.iconst 1, 1) := by decide +kernel
theorem dX9_lasts_43 : decode cX9_lasts 43 = .ok (.iadd, 1) := by decide +kernel
theorem dX9_lasts_44 : decode cX9_lasts 44 = .ok (.ireturn, 1) := by decide +kernel
theorem dX9_lasts_45 : decode cX9_lasts 45 = .ok (.iconst 0, 1) := by decide +kernel
theorem dX9_lasts_46 : decode cX9_lasts 46 = .ok (.iload_n 1, 1) := by decide +kernel
theorem dX9_lasts_47 : decode cX9_lasts 47 = .ok (.iload_n 2, 1) := by decide +kernel
theorem dX9_lasts_48 : decode cX9_lasts 48 = .ok (.invokestatic 371, 3) := by decide +kernel
theorem dX9_lasts_51 : decode cX9_lasts 51 = .ok (.iload_n 2, 1) := by decide +kernel
theorem dX9_lasts_52 : decode cX9_lasts 52 = .ok (.iadd, 1) := by decide +kernel
theorem dX9_lasts_53 : decode cX9_lasts 53 = .ok (.ireturn, 1) := by decide +kernel
theorem dX9_lasts_54 : decode cX9_lasts 54 = .ok (.iconst 1, 1) := by decide +kernel
theorem dX9_lasts_55 : decode cX9_lasts 55 = .ok (.iload_n 1, 1) := by decide +kernel
theorem dX9_lasts_56 : decode cX9_lasts 56 = .ok (.iload_n 2, 1) := by decide +kernel
theorem dX9_lasts_57 : decode cX9_lasts 57 = .ok (.invokestatic 371, 3) := by decide +kernel
theorem dX9_lasts_60 : decode cX9_lasts 60 = .ok (.ireturn, 1) := by decide +kernel
theorem dX9_lasts_61 : decode cX9_lasts 61 = .ok (.iconst 2, 1) := by decide +kernel
theorem dX9_lasts_62 : decode cX9_lasts 62 = .ok (.iconst 2, 1) := by decide +kernel
theorem dX9_lasts_63 : decode cX9_lasts 63 = .ok (.iload_n 1, 1) := by decide +kernel
theorem dX9_lasts_64 : decode cX9_lasts 64 = .ok (.iload_n 2, 1) := by decide +kernel
theorem dX9_lasts_65 : decode cX9_lasts 65 = .ok (.invokestatic 371, 3) := by decide +kernel
theorem dX9_lasts_68 : decode cX9_lasts 68 = .ok (.imul, 1) := by decide +kernel
theorem dX9_lasts_69 : decode cX9_lasts 69 = .ok (.ireturn, 1) := by decide +kernel
theorem dX9_lasts_70 : decode cX9_lasts 70 = .ok (.iconst 0, 1) := by decide +kernel
theorem dX9_lasts_71 : decode cX9_lasts 71 = .ok (.iload_n 1, 1) := by decide +kernel
theorem dX9_lasts_72 : decode cX9_lasts 72 = .ok (.iload_n 2, 1) := by decide +kernel
theorem dX9_lasts_73 : decode cX9_lasts 73 = .ok (.invokestatic 371, 3) := by decide +kernel
theorem dX9_lasts_76 : decode cX9_lasts 76 = .ok (.iload_n 2, 1) := by decide +kernel
theorem dX9_lasts_77 : decode cX9_lasts 77 = .ok (.iconst 3, 1) := by decide +kernel
theorem dX9_lasts_78 : decode cX9_lasts 78 = .ok (.if_icmp .le 7, 3) := by decide +kernel
theorem dX9_lasts_81 : decode cX9_lasts 81 = .ok (.iconst 2, 1) := by decide +kernel
theorem dX9_lasts_82 : decode cX9_lasts 82 = .ok (.goto 4, 3) := by decide +kernel
theorem dX9_lasts_85 : decode cX9_lasts 85 = .ok (.iconst 0, 1) := by decide +kernel
theorem dX9_lasts_86 : decode cX9_lasts 86 = .ok (.iadd, 1) := by decide +kernel
theorem dX9_lasts_87 : decode cX9_lasts 87 = .ok (.ireturn, 1) := by decide +kernel
theorem dX9_lasts_88 : decode cX9_lasts 88 = .ok (.iload_n 1, 1) := by decide +kernel
theorem dX9_lasts_89 : decode cX9_lasts 89 = .ok (.ireturn, 1) := by decide +kernel
def e_X9_lasts  : Nat → Int32 → Int32 → Int32 → Option Int32
  | 0, _, _, _ => none
  | d + 1, a0, a1, a2 => if a0 = 1 then (((e_X9_lasts d) (0 : Int32) a1 a2).bind (fun r1 => some (r1 + (1 : Int32)))) else (if a0 = 2 then (((e_X9_lasts d) (0 : Int32) a1 a2).bind (fun r3 => some (r3 + a2))) else (if a0 = 3 then (((e_X9_lasts d) (1 : Int32) a1 a2).bind (fun r5 => some r5)) else (if a0 = 4 then (((e_X9_lasts d) (2 : Int32) a1 a2).bind (fun r7 => some ((2 : Int32) * r7))) else (if a0 = 5 then (((e_X9_lasts d) (0 : Int32) a1 a2).bind (fun r9 => if a2 ≤ (3 : Int32) then (some (r9 + (0 : Int32))) else (some (r9 + (2 : Int32))))) else (some a1)))))
set_option maxRecDepth 100000 in
set_option maxHeartbeats 4000000 in
theorem k_X9_lasts {l : Launch} : ∀ (d : Nat), ∀ (τ : ES) (b0 : Int32) (b1 : Int32) (b2 : Int32) (r : Int32), e_X9_lasts d b0 b1 b2 = some r → MK l yX9_lasts cX9_lasts 3 (some .int) (1 + d) [.int b0, .int b1, .int b2] (mkS τ) (some (.int r)) (mkS τ) := by
  intro d
  induction d with
  | zero =>
    intro τ b0 b1 b2 r h
    exact nomatch h
  | succ d IH =>
    intro σ a0 a1 a2 out h
    rw [e_X9_lasts] at h
    refine mw_entry (own := RX9) (ini := false) (L := [(0, .int a0), (1, .int a1), (2, .int a2)]) (by decide +kernel) rfl (fun h => nomatch h) rfl (Nat.le_of_ble_eq_true rfl) (Nat.le_of_ble_eq_true rfl) (fun E => ?_)
    refine mw_iload_n dX9_lasts_0 0 rfl ?_
    by_cases hs1 : a0 = 1
    · have h := mit hs1 h
      refine mv_tabIn (tgt := 36) 1 dX9_lasts_1 hs1 (by decide) (by decide) rfl (by decide) ?_
      refine mw_iconst (v := 0) dX9_lasts_36 (by decide) ?_
      refine mw_iload_n dX9_lasts_37 1 rfl ?_
      refine mw_iload_n dX9_lasts_38 2 rfl ?_
      obtain ⟨r1, e2, h⟩ := mbd h
      refine mv_callS_i (As := [.int (0 : Int32), .int a1, .int a2]) lkS_RX9_371_yX9_lasts dX9_lasts_39 (IH _ _ _ _ _ e2) rfl rfl (Nat.le_of_ble_eq_true rfl) (by omega) (by decide) ?_
      refine mw_iconst (v := 1) dX9_lasts_42 (by decide) ?_
      refine mw_iadd dX9_lasts_43 ?_
      exact mw_iret dX9_lasts_44 rfl (ers_i h) rfl rfl
    have h := mie hs1 h
    by_cases hs2 : a0 = 2
    · have h := mit hs2 h
      refine mv_tabIn (tgt := 45) 2 dX9_lasts_1 hs2 (by decide) (by decide) rfl (by decide) ?_
      refine mw_iconst (v := 0) dX9_lasts_45 (by decide) ?_
      refine mw_iload_n dX9_lasts_46 1 rfl ?_
      refine mw_iload_n dX9_lasts_47 2 rfl ?_
      obtain ⟨r3, e4, h⟩ := mbd h
      refine mv_callS_i (As := [.int (0 : Int32), .int a1, .int a2]) lkS_RX9_371_yX9_lasts dX9_lasts_48 (IH _ _ _ _ _ e4) rfl rfl (Nat.le_of_ble_eq_true rfl) (by omega) (by decide) ?_
      refine mw_iload_n dX9_lasts_51 2 rfl ?_
      refine mw_iadd dX9_lasts_52 ?_
      exact mw_iret dX9_lasts_53 rfl (ers_i h) rfl rfl
    have h := mie hs2 h
    by_cases hs3 : a0 = 3
    · have h := mit hs3 h
      refine mv_tabIn (tgt := 54) 3 dX9_lasts_1 hs3 (by decide) (by decide) rfl (by decide) ?_
      refine mw_iconst (v := 1) dX9_lasts_54 (by decide) ?_
      refine mw_iload_n dX9_lasts_55 1 rfl ?_
      refine mw_iload_n dX9_lasts_56 2 rfl ?_
      obtain ⟨r5, e6, h⟩ := mbd h
      refine mv_callS_i (As := [.int (1 : Int32), .int a1, .int a2]) lkS_RX9_371_yX9_lasts dX9_lasts_57 (IH _ _ _ _ _ e6) rfl rfl (Nat.le_of_ble_eq_true rfl) (by omega) (by decide) ?_
      exact mw_iret dX9_lasts_60 rfl (ers_i h) rfl rfl
    have h := mie hs3 h
    by_cases hs4 : a0 = 4
    · have h := mit hs4 h
      refine mv_tabIn (tgt := 61) 4 dX9_lasts_1 hs4 (by decide) (by decide) rfl (by decide) ?_
      refine mw_iconst (v := 2) dX9_lasts_61 (by decide) ?_
      refine mw_iconst (v := 2) dX9_lasts_62 (by decide) ?_
      refine mw_iload_n dX9_lasts_63 1 rfl ?_
      refine mw_iload_n dX9_lasts_64 2 rfl ?_
      obtain ⟨r7, e8, h⟩ := mbd h
      refine mv_callS_i (As := [.int (2 : Int32), .int a1, .int a2]) lkS_RX9_371_yX9_lasts dX9_lasts_65 (IH _ _ _ _ _ e8) rfl rfl (Nat.le_of_ble_eq_true rfl) (by omega) (by decide) ?_
      refine mw_imul dX9_lasts_68 ?_
      exact mw_iret dX9_lasts_69 rfl (ers_i h) rfl rfl
    have h := mie hs4 h
    by_cases hs5 : a0 = 5
    · have h := mit hs5 h
      refine mv_tabIn (tgt := 70) 5 dX9_lasts_1 hs5 (by decide) (by decide) rfl (by decide) ?_
      refine mw_iconst (v := 0) dX9_lasts_70 (by decide) ?_
      refine mw_iload_n dX9_lasts_71 1 rfl ?_
      refine mw_iload_n dX9_lasts_72 2 rfl ?_
      obtain ⟨r9, e10, h⟩ := mbd h
      refine mv_callS_i (As := [.int (0 : Int32), .int a1, .int a2]) lkS_RX9_371_yX9_lasts dX9_lasts_73 (IH _ _ _ _ _ e10) rfl rfl (Nat.le_of_ble_eq_true rfl) (by omega) (by decide) ?_
      refine mw_iload_n dX9_lasts_76 2 rfl ?_
      refine mw_iconst (v := 3) dX9_lasts_77 (by decide) ?_
      refine mw_icmp_le (tgt := 85) dX9_lasts_78 (by decide) (fun hc => ?_) (fun hc => ?_)
      · have h := mit hc h
        refine mw_iconst (v := 0) dX9_lasts_85 (by decide) ?_
        refine mw_iadd dX9_lasts_86 ?_
        exact mw_iret dX9_lasts_87 rfl (ers_i h) rfl rfl
      · have h := mie hc h
        refine mw_iconst (v := 2) dX9_lasts_81 (by decide) ?_
        refine mw_goto (tgt := 86) dX9_lasts_82 (by decide) ?_
        refine mw_iadd dX9_lasts_86 ?_
        exact mw_iret dX9_lasts_87 rfl (ers_i h) rfl rfl
    have h := mie hs5 h
    have g0 := mne32 hs1
    have g1 := mne32 hs2
    have g2 := mne32 hs3
    have g3 := mne32 hs4
    have g4 := mne32 hs5
    refine mv_tabOut (tgt := 88) dX9_lasts_1 (by simp only [mti_1, mti_2, mti_3, mti_4, mti_5] at g0 g1 g2 g3 g4; omega) (by decide) ?_
    refine mw_iload_n dX9_lasts_88 1 rfl ?_
    exact mw_iret dX9_lasts_89 rfl (ers_i h) rfl rfl

theorem dX1_lastsOf_0 : decode cX1_lastsOf 0 = .ok (.aload_n 0, 1) := by decide +kernel
theorem dX1_lastsOf_1 : decode cX1_lastsOf 1 = .ok (.getfield 15, 3) := by decide +kernel
theorem dX1_lastsOf_4 : decode cX1_lastsOf 4 = .ok (.iload_n 1, 1) := by decide +kernel
theorem dX1_lastsOf_5 : decode cX1_lastsOf 5 = .ok (.iaload, 1) := by decide +kernel
theorem dX1_lastsOf_6 : decode cX1_lastsOf 6 = .ok (.aload_n 0, 1) := by decide +kernel
theorem dX1_lastsOf_7 : decode cX1_lastsOf 7 = .ok (.getfield 28, 3) := by decide +kernel
theorem dX1_lastsOf_10 : decode cX1_lastsOf 10 = .ok (.iload_n 1, 1) := by decide +kernel
theorem dX1_lastsOf_11 : decode cX1_lastsOf 11 = .ok (.iaload, 1) := by decide +kernel
theorem dX1_lastsOf_12 : decode cX1_lastsOf 12 = .ok (.aload_n 0, 1) := by decide +kernel
theorem dX1_lastsOf_13 : decode cX1_lastsOf 13 = .ok (.getfield 50, 3) := by decide +kernel
theorem dX1_lastsOf_16 : decode cX1_lastsOf 16 = .ok (.invokestatic 57, 3) := by decide +kernel
theorem dX1_lastsOf_19 : decode cX1_lastsOf 19 = .ok (.ireturn, 1) := by decide +kernel
def e_X1_lastsOf_1 (σ : ES) (a1 : Int32) : Option Int32 := if mib a1 14 = true then ((e_X9_lasts 3 (eI σ 2 a1.toNatClampNeg) (eI σ 6 a1.toNatClampNeg) (eI σ 1 1)).bind (fun r2 => some r2)) else none
set_option maxRecDepth 100000 in
set_option maxHeartbeats 4000000 in
theorem k_X1_lastsOf_1 {l : Launch} {σ : ES} {a1 : Int32} {out : Int32} (h : e_X1_lastsOf_1 σ a1 = some out) : MK l yX1_lastsOf cX1_lastsOf 2 (some .int) 5 [.ref 1, .int a1] (mkS σ) (some (.int out)) (mkS σ) := by
  unfold e_X1_lastsOf_1 at h
  refine mw_entry (own := RX1) (ini := false) (L := [(0, .ref 1), (1, .int a1)]) (by decide +kernel) rfl (fun h => nomatch h) rfl (Nat.le_of_ble_eq_true rfl) (Nat.le_of_ble_eq_true rfl) (fun E => ?_)
  refine mw_aload_n dX1_lastsOf_0 0 rfl ?_
  refine ev_getR (q := 2) fd_RX1_15_0 dX1_lastsOf_1 rfl rfl rfl ?_
  refine mw_iload_n dX1_lastsOf_4 1 rfl ?_
  obtain ⟨m1, h⟩ := mif h
  refine ev_iald dX1_lastsOf_5 (by decide) rfl m1 ?_
  refine mw_aload_n dX1_lastsOf_6 0 rfl ?_
  refine ev_getR (q := 6) fd_RX1_28_0 dX1_lastsOf_7 rfl rfl rfl ?_
  refine mw_iload_n dX1_lastsOf_10 1 rfl ?_
  refine ev_iald dX1_lastsOf_11 (by decide) rfl m1 ?_
  refine mw_aload_n dX1_lastsOf_12 0 rfl ?_
  refine ev_getI fd_RX1_50_0 dX1_lastsOf_13 rfl rfl ?_
  obtain ⟨r2, e3, h⟩ := mbd h
  refine mv_callSN_i (As := [.int (eI σ 2 a1.toNatClampNeg), .int (eI σ 6 a1.toNatClampNeg), .int (eI σ 1 1)]) lkN_RX1_57_yX9_lasts dX1_lastsOf_16 (k_X9_lasts 3 _ _ _ _ _ e3) rfl rfl (Nat.le_of_ble_eq_true rfl) (by decide) (by decide) ?_
  exact mw_iret dX1_lastsOf_19 rfl (ers_i h) rfl rfl

theorem dX9_of_0 : decode cX9_of 0 = .ok (.aload_n 0, 1) := by decide +kernel
theorem dX9_of_1 : decode cX9_of 1 = .ok (.getfield 12, 3) := by decide +kernel
theorem dX9_of_4 : decode cX9_of 4 = .ok (.iload_n 1, 1) := by decide +kernel
theorem dX9_of_5 : decode cX9_of 5 = .ok (.invokevirtual 116, 3) := by decide +kernel
theorem dX9_of_8 : decode cX9_of 8 = .ok (.ifCond .ne 9, 3) := by decide +kernel
theorem dX9_of_11 : decode cX9_of 11 = .ok (.aload_n 0, 1) := by decide +kernel
theorem dX9_of_12 : decode cX9_of 12 = .ok (.iconst 0, 1) := by decide +kernel
theorem dX9_of_13 : decode cX9_of 13 = .ok (.invokevirtual 79, 3) := by decide +kernel
theorem dX9_of_16 : decode cX9_of 16 = .ok (.ireturn, 1) := by decide +kernel
theorem dX9_of_17 : decode cX9_of 17 = .ok (.iload_n 2, 1) := by decide +kernel
theorem dX9_of_18 : decode cX9_of 18 = .ok (.tableswitch 124 0 7 #[46, 56, 66, 76, 86, 96, 106, 115], 46) := by decide +kernel
theorem dX9_of_64 : decode cX9_of 64 = .ok (.aload_n 0, 1) := by decide +kernel
theorem dX9_of_65 : decode cX9_of 65 = .ok (.getfield 12, 3) := by decide +kernel
theorem dX9_of_68 : decode cX9_of 68 = .ok (.getfield 119, 3) := by decide +kernel
theorem dX9_of_71 : decode cX9_of 71 = .ok (.iload_n 1, 1) := by decide +kernel
theorem dX9_of_72 : decode cX9_of 72 = .ok (.iaload, 1) := by decide +kernel
theorem dX9_of_73 : decode cX9_of 73 = .ok (.ireturn, 1) := by decide +kernel
theorem dX9_of_74 : decode cX9_of 74 = .ok (.aload_n 0, 1) := by decide +kernel
theorem dX9_of_75 : decode cX9_of 75 = .ok (.getfield 12, 3) := by decide +kernel
theorem dX9_of_78 : decode cX9_of 78 = .ok (.getfield 87, 3) := by decide +kernel
theorem dX9_of_81 : decode cX9_of 81 = .ok (.iload_n 1, 1) := by decide +kernel
theorem dX9_of_82 : decode cX9_of 82 = .ok (.iaload, 1) := by decide +kernel
theorem dX9_of_83 : decode cX9_of 83 = .ok (.ireturn, 1) := by decide +kernel
theorem dX9_of_84 : decode cX9_of 84 = .ok (.aload_n 0, 1) := by decide +kernel
theorem dX9_of_85 : decode cX9_of 85 = .ok (.getfield 12, 3) := by decide +kernel
theorem dX9_of_88 : decode cX9_of 88 = .ok (.getfield 90, 3) := by decide +kernel
theorem dX9_of_91 : decode cX9_of 91 = .ok (.iload_n 1, 1) := by decide +kernel
theorem dX9_of_92 : decode cX9_of 92 = .ok (.iaload, 1) := by decide +kernel
theorem dX9_of_93 : decode cX9_of 93 = .ok (.ireturn, 1) := by decide +kernel
theorem dX9_of_94 : decode cX9_of 94 = .ok (.aload_n 0, 1) := by decide +kernel
theorem dX9_of_95 : decode cX9_of 95 = .ok (.getfield 12, 3) := by decide +kernel
theorem dX9_of_98 : decode cX9_of 98 = .ok (.getfield 122, 3) := by decide +kernel
theorem dX9_of_101 : decode cX9_of 101 = .ok (.iload_n 1, 1) := by decide +kernel
theorem dX9_of_102 : decode cX9_of 102 = .ok (.iaload, 1) := by decide +kernel
theorem dX9_of_103 : decode cX9_of 103 = .ok (.ireturn, 1) := by decide +kernel
theorem dX9_of_104 : decode cX9_of 104 = .ok (.aload_n 0, 1) := by decide +kernel
theorem dX9_of_105 : decode cX9_of 105 = .ok (.getfield 12, 3) := by decide +kernel
theorem dX9_of_108 : decode cX9_of 108 = .ok (.getfield 125, 3) := by decide +kernel
theorem dX9_of_111 : decode cX9_of 111 = .ok (.iload_n 1, 1) := by decide +kernel
theorem dX9_of_112 : decode cX9_of 112 = .ok (.iaload, 1) := by decide +kernel
theorem dX9_of_113 : decode cX9_of 113 = .ok (.ireturn, 1) := by decide +kernel
theorem dX9_of_114 : decode cX9_of 114 = .ok (.aload_n 0, 1) := by decide +kernel
theorem dX9_of_115 : decode cX9_of 115 = .ok (.getfield 12, 3) := by decide +kernel
theorem dX9_of_118 : decode cX9_of 118 = .ok (.getfield 128, 3) := by decide +kernel
theorem dX9_of_121 : decode cX9_of 121 = .ok (.iload_n 1, 1) := by decide +kernel
theorem dX9_of_122 : decode cX9_of 122 = .ok (.iaload, 1) := by decide +kernel
theorem dX9_of_123 : decode cX9_of 123 = .ok (.ireturn, 1) := by decide +kernel
theorem dX9_of_124 : decode cX9_of 124 = .ok (.aload_n 0, 1) := by decide +kernel
theorem dX9_of_125 : decode cX9_of 125 = .ok (.getfield 12, 3) := by decide +kernel
theorem dX9_of_128 : decode cX9_of 128 = .ok (.iload_n 1, 1) := by decide +kernel
theorem dX9_of_129 : decode cX9_of 129 = .ok (.invokevirtual 131, 3) := by decide +kernel
theorem dX9_of_132 : decode cX9_of 132 = .ok (.ireturn, 1) := by decide +kernel
theorem dX9_of_133 : decode cX9_of 133 = .ok (.aload_n 0, 1) := by decide +kernel
theorem dX9_of_134 : decode cX9_of 134 = .ok (.getfield 12, 3) := by decide +kernel
theorem dX9_of_137 : decode cX9_of 137 = .ok (.iload_n 1, 1) := by decide +kernel
theorem dX9_of_138 : decode cX9_of 138 = .ok (.invokevirtual 134, 3) := by decide +kernel
theorem dX9_of_141 : decode cX9_of 141 = .ok (.ireturn, 1) := by decide +kernel
theorem dX9_of_142 : decode cX9_of 142 = .ok (.aload_n 0, 1) := by decide +kernel
theorem dX9_of_143 : decode cX9_of 143 = .ok (.iconst 0, 1) := by decide +kernel
theorem dX9_of_144 : decode cX9_of 144 = .ok (.invokevirtual 79, 3) := by decide +kernel
theorem dX9_of_147 : decode cX9_of 147 = .ok (.ireturn, 1) := by decide +kernel
def e_X9_of (a1 : Int32) (a2 : Int32) (σ : ES) : Option (Int32 × ES) := (e_X1_isWay_1 σ a1).bind (fun r1 => if r1 = 0 then ((e_X9_finding (0 : Int32) σ).bind (fun r15 => some (r15.1, r15.2))) else (if a2 = 0 then (if mib a1 14 = true then (some ((eI σ 2 a1.toNatClampNeg), σ)) else none) else (if a2 = 1 then (if mib a1 14 = true then (some ((eI σ 3 a1.toNatClampNeg), σ)) else none) else (if a2 = 2 then (if mib a1 14 = true then (some ((eI σ 4 a1.toNatClampNeg), σ)) else none) else (if a2 = 3 then (if mib a1 14 = true then (some ((eI σ 5 a1.toNatClampNeg), σ)) else none) else (if a2 = 4 then (if mib a1 14 = true then (some ((eI σ 6 a1.toNatClampNeg), σ)) else none) else (if a2 = 5 then (if mib a1 14 = true then (some ((eI σ 7 a1.toNatClampNeg), σ)) else none) else (if a2 = 6 then ((e_X1_bringsOf_1 σ a1).bind (fun r9 => some (r9, σ))) else (if a2 = 7 then ((e_X1_lastsOf_1 σ a1).bind (fun r11 => some (r11, σ))) else ((e_X9_finding (0 : Int32) σ).bind (fun r13 => some (r13.1, r13.2))))))))))))
set_option maxRecDepth 100000 in
set_option maxHeartbeats 4000000 in
theorem k_X9_of {l : Launch} {σ : ES} {a1 : Int32} {a2 : Int32} {out : (Int32 × ES)} (h : e_X9_of a1 a2 σ = some out) : MK l yX9_of cX9_of 3 (some .int) 6 [.ref 0, .int a1, .int a2] (mkS σ) (some (.int out.1)) (mkS out.2) := by
  unfold e_X9_of at h
  refine mw_entry (own := RX9) (ini := false) (L := [(0, .ref 0), (1, .int a1), (2, .int a2)]) (by decide +kernel) rfl (fun h => nomatch h) rfl (Nat.le_of_ble_eq_true rfl) (Nat.le_of_ble_eq_true rfl) (fun E => ?_)
  refine mw_aload_n dX9_of_0 0 rfl ?_
  refine ev_getR (q := 1) fd_RX9_12_8 dX9_of_1 rfl rfl rfl ?_
  refine mw_iload_n dX9_of_4 1 rfl ?_
  obtain ⟨r1, e2, h⟩ := mbd h
  refine mv_callV_i (As := [.int a1]) (ci := 0) lkV_RX9_116_yX1_isWay dX9_of_5 (k_X1_isWay_1 e2) rfl rfl rfl rfl (Nat.le_of_ble_eq_true rfl) (by decide) (by decide) ?_
  refine mw_if_ne (tgt := 17) dX9_of_8 (by decide) (fun hc => ?_) (fun hc => ?_)
  · have h := mie hc h
    refine mw_iload_n dX9_of_17 2 rfl ?_
    by_cases hs0 : a2 = 0
    · have h := mit hs0 h
      refine mv_tabIn (tgt := 64) 0 dX9_of_18 hs0 (by decide) (by decide) rfl (by decide) ?_
      refine mw_aload_n dX9_of_64 0 rfl ?_
      refine ev_getR (q := 1) fd_RX9_12_8 dX9_of_65 rfl rfl rfl ?_
      refine ev_getR (q := 2) fd_RX9_119_0 dX9_of_68 rfl rfl rfl ?_
      refine mw_iload_n dX9_of_71 1 rfl ?_
      obtain ⟨m3, h⟩ := mif h
      refine ev_iald dX9_of_72 (by decide) rfl m3 ?_
      exact mw_iret dX9_of_73 rfl (ers_im h) rfl rfl
    have h := mie hs0 h
    by_cases hs1 : a2 = 1
    · have h := mit hs1 h
      refine mv_tabIn (tgt := 74) 1 dX9_of_18 hs1 (by decide) (by decide) rfl (by decide) ?_
      refine mw_aload_n dX9_of_74 0 rfl ?_
      refine ev_getR (q := 1) fd_RX9_12_8 dX9_of_75 rfl rfl rfl ?_
      refine ev_getR (q := 3) fd_RX9_87_0 dX9_of_78 rfl rfl rfl ?_
      refine mw_iload_n dX9_of_81 1 rfl ?_
      obtain ⟨m4, h⟩ := mif h
      refine ev_iald dX9_of_82 (by decide) rfl m4 ?_
      exact mw_iret dX9_of_83 rfl (ers_im h) rfl rfl
    have h := mie hs1 h
    by_cases hs2 : a2 = 2
    · have h := mit hs2 h
      refine mv_tabIn (tgt := 84) 2 dX9_of_18 hs2 (by decide) (by decide) rfl (by decide) ?_
      refine mw_aload_n dX9_of_84 0 rfl ?_
      refine ev_getR (q := 1) fd_RX9_12_8 dX9_of_85 rfl rfl rfl ?_
      refine ev_getR (q := 4) fd_RX9_90_0 dX9_of_88 rfl rfl rfl ?_
      refine mw_iload_n dX9_of_91 1 rfl ?_
      obtain ⟨m5, h⟩ := mif h
      refine ev_iald dX9_of_92 (by decide) rfl m5 ?_
      exact mw_iret dX9_of_93 rfl (ers_im h) rfl rfl
    have h := mie hs2 h
    by_cases hs3 : a2 = 3
    · have h := mit hs3 h
      refine mv_tabIn (tgt := 94) 3 dX9_of_18 hs3 (by decide) (by decide) rfl (by decide) ?_
      refine mw_aload_n dX9_of_94 0 rfl ?_
      refine ev_getR (q := 1) fd_RX9_12_8 dX9_of_95 rfl rfl rfl ?_
      refine ev_getR (q := 5) fd_RX9_122_0 dX9_of_98 rfl rfl rfl ?_
      refine mw_iload_n dX9_of_101 1 rfl ?_
      obtain ⟨m6, h⟩ := mif h
      refine ev_iald dX9_of_102 (by decide) rfl m6 ?_
      exact mw_iret dX9_of_103 rfl (ers_im h) rfl rfl
    have h := mie hs3 h
    by_cases hs4 : a2 = 4
    · have h := mit hs4 h
      refine mv_tabIn (tgt := 104) 4 dX9_of_18 hs4 (by decide) (by decide) rfl (by decide) ?_
      refine mw_aload_n dX9_of_104 0 rfl ?_
      refine ev_getR (q := 1) fd_RX9_12_8 dX9_of_105 rfl rfl rfl ?_
      refine ev_getR (q := 6) fd_RX9_125_0 dX9_of_108 rfl rfl rfl ?_
      refine mw_iload_n dX9_of_111 1 rfl ?_
      obtain ⟨m7, h⟩ := mif h
      refine ev_iald dX9_of_112 (by decide) rfl m7 ?_
      exact mw_iret dX9_of_113 rfl (ers_im h) rfl rfl
    have h := mie hs4 h
    by_cases hs5 : a2 = 5
    · have h := mit hs5 h
      refine mv_tabIn (tgt := 114) 5 dX9_of_18 hs5 (by decide) (by decide) rfl (by decide) ?_
      refine mw_aload_n dX9_of_114 0 rfl ?_
      refine ev_getR (q := 1) fd_RX9_12_8 dX9_of_115 rfl rfl rfl ?_
      refine ev_getR (q := 7) fd_RX9_128_0 dX9_of_118 rfl rfl rfl ?_
      refine mw_iload_n dX9_of_121 1 rfl ?_
      obtain ⟨m8, h⟩ := mif h
      refine ev_iald dX9_of_122 (by decide) rfl m8 ?_
      exact mw_iret dX9_of_123 rfl (ers_im h) rfl rfl
    have h := mie hs5 h
    by_cases hs6 : a2 = 6
    · have h := mit hs6 h
      refine mv_tabIn (tgt := 124) 6 dX9_of_18 hs6 (by decide) (by decide) rfl (by decide) ?_
      refine mw_aload_n dX9_of_124 0 rfl ?_
      refine ev_getR (q := 1) fd_RX9_12_8 dX9_of_125 rfl rfl rfl ?_
      refine mw_iload_n dX9_of_128 1 rfl ?_
      obtain ⟨r9, e10, h⟩ := mbd h
      refine mv_callV_i (As := [.int a1]) (ci := 0) lkV_RX9_131_yX1_bringsOf dX9_of_129 (k_X1_bringsOf_1 e10) rfl rfl rfl rfl (Nat.le_of_ble_eq_true rfl) (by decide) (by decide) ?_
      exact mw_iret dX9_of_132 rfl (ers_im h) rfl rfl
    have h := mie hs6 h
    by_cases hs7 : a2 = 7
    · have h := mit hs7 h
      refine mv_tabIn (tgt := 133) 7 dX9_of_18 hs7 (by decide) (by decide) rfl (by decide) ?_
      refine mw_aload_n dX9_of_133 0 rfl ?_
      refine ev_getR (q := 1) fd_RX9_12_8 dX9_of_134 rfl rfl rfl ?_
      refine mw_iload_n dX9_of_137 1 rfl ?_
      obtain ⟨r11, e12, h⟩ := mbd h
      refine mv_callV_i (As := [.int a1]) (ci := 0) lkV_RX9_134_yX1_lastsOf dX9_of_138 (k_X1_lastsOf_1 e12) rfl rfl rfl rfl (Nat.le_of_ble_eq_true rfl) (by decide) (by decide) ?_
      exact mw_iret dX9_of_141 rfl (ers_im h) rfl rfl
    have h := mie hs7 h
    have g0 := mne32 hs0
    have g1 := mne32 hs1
    have g2 := mne32 hs2
    have g3 := mne32 hs3
    have g4 := mne32 hs4
    have g5 := mne32 hs5
    have g6 := mne32 hs6
    have g7 := mne32 hs7
    refine mv_tabOut (tgt := 142) dX9_of_18 (by simp only [mti_0, mti_1, mti_2, mti_3, mti_4, mti_5, mti_6, mti_7] at g0 g1 g2 g3 g4 g5 g6 g7; omega) (by decide) ?_
    refine mw_aload_n dX9_of_142 0 rfl ?_
    refine mw_iconst (v := 0) dX9_of_143 (by decide) ?_
    obtain ⟨r13, e14, h⟩ := mbd h
    refine mv_callV_i (As := [.int (0 : Int32)]) (ci := 8) lkV_RX9_79_yX9_finding dX9_of_144 (k_X9_finding e14) rfl rfl rfl rfl (Nat.le_of_ble_eq_true rfl) (by decide) (by decide) ?_
    exact mw_iret dX9_of_147 rfl (ers_im h) rfl rfl
  · have h := mit hc h
    refine mw_aload_n dX9_of_11 0 rfl ?_
    refine mw_iconst (v := 0) dX9_of_12 (by decide) ?_
    obtain ⟨r15, e16, h⟩ := mbd h
    refine mv_callV_i (As := [.int (0 : Int32)]) (ci := 8) lkV_RX9_79_yX9_finding dX9_of_13 (k_X9_finding e16) rfl rfl rfl rfl (Nat.le_of_ble_eq_true rfl) (by decide) (by decide) ?_
    exact mw_iret dX9_of_16 rfl (ers_im h) rfl rfl

theorem dX9_canBecome_0 : decode cX9_canBecome 0 = .ok (.iload_n 2, 1) := by decide +kernel
theorem dX9_canBecome_1 : decode cX9_canBecome 1 = .ok (.tableswitch 121 0 5 #[39, 44, 74, 104, 109, 114], 39) := by decide +kernel
theorem dX9_canBecome_40 : decode cX9_canBecome 40 = .ok (.iload_n 3, 1) := by decide +kernel
theorem dX9_canBecome_41 : decode cX9_canBecome 41 = .ok (.invokestatic 103, 3) := by decide +kernel
theorem dX9_canBecome_44 : decode cX9_canBecome 44 = .ok (.ireturn, 1) := by decide +kernel
theorem dX9_canBecome_45 : decode cX9_canBecome 45 = .ok (.aload_n 0, 1) := by decide +kernel
theorem dX9_canBecome_46 : decode cX9_canBecome 46 = .ok (.getfield 12, 3) := by decide +kernel
theorem dX9_canBecome_49 : decode cX9_canBecome 49 = .ok (.iload_n 3, 1) := by decide +kernel
theorem dX9_canBecome_50 : decode cX9_canBecome 50 = .ok (.invokevirtual 99, 3) := by decide +kernel
theorem dX9_canBecome_53 : decode cX9_canBecome 53 = .ok (.ifCond .eq 20, 3) := by decide +kernel
theorem dX9_canBecome_56 : decode cX9_canBecome 56 = .ok (.iload_n 3, 1) := by decide +kernel
theorem dX9_canBecome_57 : decode cX9_canBecome 57 = .ok (.aload_n 0, 1) := by decide +kernel
theorem dX9_canBecome_58 : decode cX9_canBecome 58 = .ok (.getfield 12, 3) := by decide +kernel
theorem dX9_canBecome_61 : decode cX9_canBecome 61 = .ok (.getfield 90, 3) := by decide +kernel
theorem dX9_canBecome_64 : decode cX9_canBecome 64 = .ok (.iload_n 1, 1) := by decide +kernel
theorem dX9_canBecome_65 : decode cX9_canBecome 65 = .ok (.iaload, 1) := by decide +kernel
theorem dX9_canBecome_66 : decode cX9_canBecome 66 = .ok (.if_icmp .eq 7, 3) := by decide +kernel
theorem dX9_canBecome_69 : decode cX9_canBecome 69 = .ok (.iconst 1, 1) := by decide +kernel
theorem dX9_canBecome_70 : decode cX9_canBecome 70 = .ok (.goto 4, 3) := by decide +kernel
theorem dX9_canBecome_73 : decode cX9_canBecome 73 = .ok (.iconst 0, 1) := by decide +kernel
theorem dX9_canBecome_74 : decode cX9_canBecome 74 = .ok (.ireturn, 1) := by decide +kernel
theorem dX9_canBecome_75 : decode cX9_canBecome 75 = .ok (.aload_n 0, 1) := by decide +kernel
theorem dX9_canBecome_76 : decode cX9_canBecome 76 = .ok (.getfield 12, 3) := by decide +kernel
theorem dX9_canBecome_79 : decode cX9_canBecome 79 = .ok (.iload_n 3, 1) := by decide +kernel
theorem dX9_canBecome_80 : decode cX9_canBecome 80 = .ok (.invokevirtual 99, 3) := by decide +kernel
theorem dX9_canBecome_83 : decode cX9_canBecome 83 = .ok (.ifCond .eq 20, 3) := by decide +kernel
theorem dX9_canBecome_86 : decode cX9_canBecome 86 = .ok (.iload_n 3, 1) := by decide +kernel
theorem dX9_canBecome_87 : decode cX9_canBecome 87 = .ok (.aload_n 0, 1) := by decide +kernel
theorem dX9_canBecome_88 : decode cX9_canBecome 88 = .ok (.getfield 12, 3) := by decide +kernel
theorem dX9_canBecome_91 : decode cX9_canBecome 91 = .ok (.getfield 87, 3) := by decide +kernel
theorem dX9_canBecome_94 : decode cX9_canBecome 94 = .ok (.iload_n 1, 1) := by decide +kernel
theorem dX9_canBecome_95 : decode cX9_canBecome 95 = .ok (.iaload, 1) := by decide +kernel
theorem dX9_canBecome_96 : decode cX9_canBecome 96 = .ok (.if_icmp .eq 7, 3) := by decide +kernel
theorem dX9_canBecome_99 : decode cX9_canBecome 99 = .ok (.iconst 1, 1) := by decide +kernel
theorem dX9_canBecome_100 : decode cX9_canBecome 100 = .ok (.goto 4, 3) := by decide +kernel
theorem dX9_canBecome_103 : decode cX9_canBecome 103 = .ok (.iconst 0, 1) := by decide +kernel
theorem dX9_canBecome_104 : decode cX9_canBecome 104 = .ok (.ireturn, 1) := by decide +kernel
theorem dX9_canBecome_105 : decode cX9_canBecome 105 = .ok (.iload_n 3, 1) := by decide +kernel
theorem dX9_canBecome_106 : decode cX9_canBecome 106 = .ok (.invokestatic 106, 3) := by decide +kernel
theorem dX9_canBecome_109 : decode cX9_canBecome 109 = .ok (.ireturn, 1) := by decide +kernel
theorem dX9_canBecome_110 : decode cX9_canBecome 110 = .ok (.iload_n 3, 1) := by decide +kernel
theorem dX9_canBecome_111 : decode cX9_canBecome 111 = .ok (.invokestatic 109, 3) := by decide +kernel
theorem dX9_canBecome_114 : decode cX9_canBecome 114 = .ok (.ireturn, 1) := by decide +kernel
theorem dX9_canBecome_115 : decode cX9_canBecome 115 = .ok (.iload_n 3, 1) := by decide +kernel
theorem dX9_canBecome_116 : decode cX9_canBecome 116 = .ok (.iconst 0, 1) := by decide +kernel
theorem dX9_canBecome_117 : decode cX9_canBecome 117 = .ok (.iconst 1, 1) := by decide +kernel
theorem dX9_canBecome_118 : decode cX9_canBecome 118 = .ok (.invokestatic 75, 3) := by decide +kernel
theorem dX9_canBecome_121 : decode cX9_canBecome 121 = .ok (.ireturn, 1) := by decide +kernel
theorem dX9_canBecome_122 : decode cX9_canBecome 122 = .ok (.iconst 0, 1) := by decide +kernel
theorem dX9_canBecome_123 : decode cX9_canBecome 123 = .ok (.ireturn, 1) := by decide +kernel
def e_X9_canBecome (σ : ES) (a1 : Int32) (a2 : Int32) (a3 : Int32) : Option Int32 := if a2 = 0 then ((e_X9_isKind a3).bind (fun r1 => if r1 = 0 ∨ r1 = 1 then (some r1) else none)) else (if a2 = 1 then ((e_X1_isPlace_1 σ a3).bind (fun r4 => if r4 = 0 then (some (0 : Int32)) else (if mib a1 14 = true then (if a3 = (eI σ 4 a1.toNatClampNeg) then (some (0 : Int32)) else (some (1 : Int32))) else none))) else (if a2 = 2 then ((e_X1_isPlace_1 σ a3).bind (fun r7 => if r7 = 0 then (some (0 : Int32)) else (if mib a1 14 = true then (if a3 = (eI σ 3 a1.toNatClampNeg) then (some (0 : Int32)) else (some (1 : Int32))) else none))) else (if a2 = 3 then ((e_X9_isGain a3).bind (fun r10 => if r10 = 0 ∨ r10 = 1 then (some r10) else none)) else (if a2 = 4 then ((e_X9_isTime a3).bind (fun r13 => if r13 = 0 ∨ r13 = 1 then (some r13) else none)) else (if a2 = 5 then ((e_X9_within a3 (0 : Int32) (1 : Int32)).bind (fun r16 => if r16 = 0 ∨ r16 = 1 then (some r16) else none)) else (some (0 : Int32)))))))
set_option maxRecDepth 100000 in
set_option maxHeartbeats 4000000 in
theorem k_X9_canBecome {l : Launch} {σ : ES} {a1 : Int32} {a2 : Int32} {a3 : Int32} {out : Int32} (h : e_X9_canBecome σ a1 a2 a3 = some out) : MK l yX9_canBecome cX9_canBecome 4 (some .boolean) 3 [.ref 0, .int a1, .int a2, .int a3] (mkS σ) (some (.int out)) (mkS σ) := by
  unfold e_X9_canBecome at h
  refine mw_entry (own := RX9) (ini := false) (L := [(0, .ref 0), (1, .int a1), (2, .int a2), (3, .int a3)]) (by decide +kernel) rfl (fun h => nomatch h) rfl (Nat.le_of_ble_eq_true rfl) (Nat.le_of_ble_eq_true rfl) (fun E => ?_)
  refine mw_iload_n dX9_canBecome_0 2 rfl ?_
  by_cases hs0 : a2 = 0
  · have h := mit hs0 h
    refine mv_tabIn (tgt := 40) 0 dX9_canBecome_1 hs0 (by decide) (by decide) rfl (by decide) ?_
    refine mw_iload_n dX9_canBecome_40 3 rfl ?_
    obtain ⟨r1, e2, h⟩ := mbd h
    refine mv_callS_i (As := [.int a3]) lkS_RX9_103_yX9_isKind dX9_canBecome_41 (k_X9_isKind e2) rfl rfl (Nat.le_of_ble_eq_true rfl) (by decide) (by decide) ?_
    obtain ⟨m3, h⟩ := mif h
    exact mw_zret dX9_canBecome_44 rfl m3 (ers_i h) rfl rfl
  have h := mie hs0 h
  by_cases hs1 : a2 = 1
  · have h := mit hs1 h
    refine mv_tabIn (tgt := 45) 1 dX9_canBecome_1 hs1 (by decide) (by decide) rfl (by decide) ?_
    refine mw_aload_n dX9_canBecome_45 0 rfl ?_
    refine ev_getR (q := 1) fd_RX9_12_8 dX9_canBecome_46 rfl rfl rfl ?_
    refine mw_iload_n dX9_canBecome_49 3 rfl ?_
    obtain ⟨r4, e5, h⟩ := mbd h
    refine mv_callV_i (As := [.int a3]) (ci := 0) lkV_RX9_99_yX1_isPlace dX9_canBecome_50 (k_X1_isPlace_1 e5) rfl rfl rfl rfl (Nat.le_of_ble_eq_true rfl) (by decide) (by decide) ?_
    refine mw_if_eq (tgt := 73) dX9_canBecome_53 (by decide) (fun hc => ?_) (fun hc => ?_)
    · have h := mit hc h
      refine mw_iconst (v := 0) dX9_canBecome_73 (by decide) ?_
      exact mw_zret dX9_canBecome_74 rfl (by decide) (ers_i h) rfl rfl
    · have h := mie hc h
      refine mw_iload_n dX9_canBecome_56 3 rfl ?_
      refine mw_aload_n dX9_canBecome_57 0 rfl ?_
      refine ev_getR (q := 1) fd_RX9_12_8 dX9_canBecome_58 rfl rfl rfl ?_
      refine ev_getR (q := 4) fd_RX9_90_0 dX9_canBecome_61 rfl rfl rfl ?_
      refine mw_iload_n dX9_canBecome_64 1 rfl ?_
      obtain ⟨m6, h⟩ := mif h
      refine ev_iald dX9_canBecome_65 (by decide) rfl m6 ?_
      refine mw_icmp_eq (tgt := 73) dX9_canBecome_66 (by decide) (fun hc => ?_) (fun hc => ?_)
      · have h := mit hc h
        refine mw_iconst (v := 0) dX9_canBecome_73 (by decide) ?_
        exact mw_zret dX9_canBecome_74 rfl (by decide) (ers_i h) rfl rfl
      · have h := mie hc h
        refine mw_iconst (v := 1) dX9_canBecome_69 (by decide) ?_
        refine mw_goto (tgt := 74) dX9_canBecome_70 (by decide) ?_
        exact mw_zret dX9_canBecome_74 rfl (by decide) (ers_i h) rfl rfl
  have h := mie hs1 h
  by_cases hs2 : a2 = 2
  · have h := mit hs2 h
    refine mv_tabIn (tgt := 75) 2 dX9_canBecome_1 hs2 (by decide) (by decide) rfl (by decide) ?_
    refine mw_aload_n dX9_canBecome_75 0 rfl ?_
    refine ev_getR (q := 1) fd_RX9_12_8 dX9_canBecome_76 rfl rfl rfl ?_
    refine mw_iload_n dX9_canBecome_79 3 rfl ?_
    obtain ⟨r7, e8, h⟩ := mbd h
    refine mv_callV_i (As := [.int a3]) (ci := 0) lkV_RX9_99_yX1_isPlace dX9_canBecome_80 (k_X1_isPlace_1 e8) rfl rfl rfl rfl (Nat.le_of_ble_eq_true rfl) (by decide) (by decide) ?_
    refine mw_if_eq (tgt := 103) dX9_canBecome_83 (by decide) (fun hc => ?_) (fun hc => ?_)
    · have h := mit hc h
      refine mw_iconst (v := 0) dX9_canBecome_103 (by decide) ?_
      exact mw_zret dX9_canBecome_104 rfl (by decide) (ers_i h) rfl rfl
    · have h := mie hc h
      refine mw_iload_n dX9_canBecome_86 3 rfl ?_
      refine mw_aload_n dX9_canBecome_87 0 rfl ?_
      refine ev_getR (q := 1) fd_RX9_12_8 dX9_canBecome_88 rfl rfl rfl ?_
      refine ev_getR (q := 3) fd_RX9_87_0 dX9_canBecome_91 rfl rfl rfl ?_
      refine mw_iload_n dX9_canBecome_94 1 rfl ?_
      obtain ⟨m9, h⟩ := mif h
      refine ev_iald dX9_canBecome_95 (by decide) rfl m9 ?_
      refine mw_icmp_eq (tgt := 103) dX9_canBecome_96 (by decide) (fun hc => ?_) (fun hc => ?_)
      · have h := mit hc h
        refine mw_iconst (v := 0) dX9_canBecome_103 (by decide) ?_
        exact mw_zret dX9_canBecome_104 rfl (by decide) (ers_i h) rfl rfl
      · have h := mie hc h
        refine mw_iconst (v := 1) dX9_canBecome_99 (by decide) ?_
        refine mw_goto (tgt := 104) dX9_canBecome_100 (by decide) ?_
        exact mw_zret dX9_canBecome_104 rfl (by decide) (ers_i h) rfl rfl
  have h := mie hs2 h
  by_cases hs3 : a2 = 3
  · have h := mit hs3 h
    refine mv_tabIn (tgt := 105) 3 dX9_canBecome_1 hs3 (by decide) (by decide) rfl (by decide) ?_
    refine mw_iload_n dX9_canBecome_105 3 rfl ?_
    obtain ⟨r10, e11, h⟩ := mbd h
    refine mv_callS_i (As := [.int a3]) lkS_RX9_106_yX9_isGain dX9_canBecome_106 (k_X9_isGain e11) rfl rfl (Nat.le_of_ble_eq_true rfl) (by decide) (by decide) ?_
    obtain ⟨m12, h⟩ := mif h
    exact mw_zret dX9_canBecome_109 rfl m12 (ers_i h) rfl rfl
  have h := mie hs3 h
  by_cases hs4 : a2 = 4
  · have h := mit hs4 h
    refine mv_tabIn (tgt := 110) 4 dX9_canBecome_1 hs4 (by decide) (by decide) rfl (by decide) ?_
    refine mw_iload_n dX9_canBecome_110 3 rfl ?_
    obtain ⟨r13, e14, h⟩ := mbd h
    refine mv_callS_i (As := [.int a3]) lkS_RX9_109_yX9_isTime dX9_canBecome_111 (k_X9_isTime e14) rfl rfl (Nat.le_of_ble_eq_true rfl) (by decide) (by decide) ?_
    obtain ⟨m15, h⟩ := mif h
    exact mw_zret dX9_canBecome_114 rfl m15 (ers_i h) rfl rfl
  have h := mie hs4 h
  by_cases hs5 : a2 = 5
  · have h := mit hs5 h
    refine mv_tabIn (tgt := 115) 5 dX9_canBecome_1 hs5 (by decide) (by decide) rfl (by decide) ?_
    refine mw_iload_n dX9_canBecome_115 3 rfl ?_
    refine mw_iconst (v := 0) dX9_canBecome_116 (by decide) ?_
    refine mw_iconst (v := 1) dX9_canBecome_117 (by decide) ?_
    obtain ⟨r16, e17, h⟩ := mbd h
    refine mv_callS_i (As := [.int a3, .int (0 : Int32), .int (1 : Int32)]) lkS_RX9_75_yX9_within dX9_canBecome_118 (k_X9_within e17) rfl rfl (Nat.le_of_ble_eq_true rfl) (by decide) (by decide) ?_
    obtain ⟨m18, h⟩ := mif h
    exact mw_zret dX9_canBecome_121 rfl m18 (ers_i h) rfl rfl
  have h := mie hs5 h
  have g0 := mne32 hs0
  have g1 := mne32 hs1
  have g2 := mne32 hs2
  have g3 := mne32 hs3
  have g4 := mne32 hs4
  have g5 := mne32 hs5
  refine mv_tabOut (tgt := 122) dX9_canBecome_1 (by simp only [mti_0, mti_1, mti_2, mti_3, mti_4, mti_5] at g0 g1 g2 g3 g4 g5; omega) (by decide) ?_
  refine mw_iconst (v := 0) dX9_canBecome_122 (by decide) ?_
  exact mw_zret dX9_canBecome_123 rfl (by decide) (ers_i h) rfl rfl

theorem dX9_put_0 : decode cX9_put 0 = .ok (.aload_n 0, 1) := by decide +kernel
theorem dX9_put_1 : decode cX9_put 1 = .ok (.iload_n 1, 1) := by decide +kernel
theorem dX9_put_2 : decode cX9_put 2 = .ok (.iaload, 1) := by decide +kernel
theorem dX9_put_3 : decode cX9_put 3 = .ok (.istore_n 3, 1) := by decide +kernel
theorem dX9_put_4 : decode cX9_put 4 = .ok (.aload_n 0, 1) := by decide +kernel
theorem dX9_put_5 : decode cX9_put 5 = .ok (.iload_n 1, 1) := by decide +kernel
theorem dX9_put_6 : decode cX9_put 6 = .ok (.iload_n 2, 1) := by decide +kernel
theorem dX9_put_7 : decode cX9_put 7 = .ok (.iastore, 1) := by decide +kernel
theorem dX9_put_8 : decode cX9_put 8 = .ok (.iload_n 3, 1) := by decide +kernel
theorem dX9_put_9 : decode cX9_put 9 = .ok (.ireturn, 1) := by decide +kernel
def e_X9_put_2 (a1 : Int32) (a2 : Int32) (σ : ES) : Option (Int32 × ES) := if mib a1 14 = true then (some ((eI σ 2 a1.toNatClampNeg), (uI σ 2 a1.toNatClampNeg a2))) else none
set_option maxRecDepth 100000 in
set_option maxHeartbeats 4000000 in
theorem k_X9_put_2 {l : Launch} {σ : ES} {a1 : Int32} {a2 : Int32} {out : (Int32 × ES)} (h : e_X9_put_2 a1 a2 σ = some out) : MK l yX9_put cX9_put 4 (some .int) 1 [.ref 2, .int a1, .int a2] (mkS σ) (some (.int out.1)) (mkS out.2) := by
  unfold e_X9_put_2 at h
  refine mw_entry (own := RX9) (ini := false) (L := [(0, .ref 2), (1, .int a1), (2, .int a2)]) (by decide +kernel) rfl (fun h => nomatch h) rfl (Nat.le_of_ble_eq_true rfl) (Nat.le_of_ble_eq_true rfl) (fun E => ?_)
  refine mw_aload_n dX9_put_0 0 rfl ?_
  refine mw_iload_n dX9_put_1 1 rfl ?_
  obtain ⟨m1, h⟩ := mif h
  refine ev_iald dX9_put_2 (by decide) rfl m1 ?_
  refine mw_istore_n (L' := [(3, .int (eI σ 2 a1.toNatClampNeg)), (0, .ref 2), (1, .int a1), (2, .int a2)]) dX9_put_3 rfl (by decide) rfl ?_
  refine mw_aload_n dX9_put_4 1 rfl ?_
  refine mw_iload_n dX9_put_5 2 rfl ?_
  refine mw_iload_n dX9_put_6 3 rfl ?_
  refine ev_iast dX9_put_7 (by decide) rfl m1 ?_
  refine mw_iload_n dX9_put_8 0 rfl ?_
  exact mw_iret dX9_put_9 rfl (ers_im h) rfl rfl

def e_X9_put_3 (a1 : Int32) (a2 : Int32) (σ : ES) : Option (Int32 × ES) := if mib a1 14 = true then (some ((eI σ 3 a1.toNatClampNeg), (uI σ 3 a1.toNatClampNeg a2))) else none
set_option maxRecDepth 100000 in
set_option maxHeartbeats 4000000 in
theorem k_X9_put_3 {l : Launch} {σ : ES} {a1 : Int32} {a2 : Int32} {out : (Int32 × ES)} (h : e_X9_put_3 a1 a2 σ = some out) : MK l yX9_put cX9_put 4 (some .int) 1 [.ref 3, .int a1, .int a2] (mkS σ) (some (.int out.1)) (mkS out.2) := by
  unfold e_X9_put_3 at h
  refine mw_entry (own := RX9) (ini := false) (L := [(0, .ref 3), (1, .int a1), (2, .int a2)]) (by decide +kernel) rfl (fun h => nomatch h) rfl (Nat.le_of_ble_eq_true rfl) (Nat.le_of_ble_eq_true rfl) (fun E => ?_)
  refine mw_aload_n dX9_put_0 0 rfl ?_
  refine mw_iload_n dX9_put_1 1 rfl ?_
  obtain ⟨m1, h⟩ := mif h
  refine ev_iald dX9_put_2 (by decide) rfl m1 ?_
  refine mw_istore_n (L' := [(3, .int (eI σ 3 a1.toNatClampNeg)), (0, .ref 3), (1, .int a1), (2, .int a2)]) dX9_put_3 rfl (by decide) rfl ?_
  refine mw_aload_n dX9_put_4 1 rfl ?_
  refine mw_iload_n dX9_put_5 2 rfl ?_
  refine mw_iload_n dX9_put_6 3 rfl ?_
  refine ev_iast dX9_put_7 (by decide) rfl m1 ?_
  refine mw_iload_n dX9_put_8 0 rfl ?_
  exact mw_iret dX9_put_9 rfl (ers_im h) rfl rfl

def e_X9_put_4 (a1 : Int32) (a2 : Int32) (σ : ES) : Option (Int32 × ES) := if mib a1 14 = true then (some ((eI σ 4 a1.toNatClampNeg), (uI σ 4 a1.toNatClampNeg a2))) else none
set_option maxRecDepth 100000 in
set_option maxHeartbeats 4000000 in
theorem k_X9_put_4 {l : Launch} {σ : ES} {a1 : Int32} {a2 : Int32} {out : (Int32 × ES)} (h : e_X9_put_4 a1 a2 σ = some out) : MK l yX9_put cX9_put 4 (some .int) 1 [.ref 4, .int a1, .int a2] (mkS σ) (some (.int out.1)) (mkS out.2) := by
  unfold e_X9_put_4 at h
  refine mw_entry (own := RX9) (ini := false) (L := [(0, .ref 4), (1, .int a1), (2, .int a2)]) (by decide +kernel) rfl (fun h => nomatch h) rfl (Nat.le_of_ble_eq_true rfl) (Nat.le_of_ble_eq_true rfl) (fun E => ?_)
  refine mw_aload_n dX9_put_0 0 rfl ?_
  refine mw_iload_n dX9_put_1 1 rfl ?_
  obtain ⟨m1, h⟩ := mif h
  refine ev_iald dX9_put_2 (by decide) rfl m1 ?_
  refine mw_istore_n (L' := [(3, .int (eI σ 4 a1.toNatClampNeg)), (0, .ref 4), (1, .int a1), (2, .int a2)]) dX9_put_3 rfl (by decide) rfl ?_
  refine mw_aload_n dX9_put_4 1 rfl ?_
  refine mw_iload_n dX9_put_5 2 rfl ?_
  refine mw_iload_n dX9_put_6 3 rfl ?_
  refine ev_iast dX9_put_7 (by decide) rfl m1 ?_
  refine mw_iload_n dX9_put_8 0 rfl ?_
  exact mw_iret dX9_put_9 rfl (ers_im h) rfl rfl

def e_X9_put_5 (a1 : Int32) (a2 : Int32) (σ : ES) : Option (Int32 × ES) := if mib a1 14 = true then (some ((eI σ 5 a1.toNatClampNeg), (uI σ 5 a1.toNatClampNeg a2))) else none
set_option maxRecDepth 100000 in
set_option maxHeartbeats 4000000 in
theorem k_X9_put_5 {l : Launch} {σ : ES} {a1 : Int32} {a2 : Int32} {out : (Int32 × ES)} (h : e_X9_put_5 a1 a2 σ = some out) : MK l yX9_put cX9_put 4 (some .int) 1 [.ref 5, .int a1, .int a2] (mkS σ) (some (.int out.1)) (mkS out.2) := by
  unfold e_X9_put_5 at h
  refine mw_entry (own := RX9) (ini := false) (L := [(0, .ref 5), (1, .int a1), (2, .int a2)]) (by decide +kernel) rfl (fun h => nomatch h) rfl (Nat.le_of_ble_eq_true rfl) (Nat.le_of_ble_eq_true rfl) (fun E => ?_)
  refine mw_aload_n dX9_put_0 0 rfl ?_
  refine mw_iload_n dX9_put_1 1 rfl ?_
  obtain ⟨m1, h⟩ := mif h
  refine ev_iald dX9_put_2 (by decide) rfl m1 ?_
  refine mw_istore_n (L' := [(3, .int (eI σ 5 a1.toNatClampNeg)), (0, .ref 5), (1, .int a1), (2, .int a2)]) dX9_put_3 rfl (by decide) rfl ?_
  refine mw_aload_n dX9_put_4 1 rfl ?_
  refine mw_iload_n dX9_put_5 2 rfl ?_
  refine mw_iload_n dX9_put_6 3 rfl ?_
  refine ev_iast dX9_put_7 (by decide) rfl m1 ?_
  refine mw_iload_n dX9_put_8 0 rfl ?_
  exact mw_iret dX9_put_9 rfl (ers_im h) rfl rfl

def e_X9_put_6 (a1 : Int32) (a2 : Int32) (σ : ES) : Option (Int32 × ES) := if mib a1 14 = true then (some ((eI σ 6 a1.toNatClampNeg), (uI σ 6 a1.toNatClampNeg a2))) else none
set_option maxRecDepth 100000 in
set_option maxHeartbeats 4000000 in
theorem k_X9_put_6 {l : Launch} {σ : ES} {a1 : Int32} {a2 : Int32} {out : (Int32 × ES)} (h : e_X9_put_6 a1 a2 σ = some out) : MK l yX9_put cX9_put 4 (some .int) 1 [.ref 6, .int a1, .int a2] (mkS σ) (some (.int out.1)) (mkS out.2) := by
  unfold e_X9_put_6 at h
  refine mw_entry (own := RX9) (ini := false) (L := [(0, .ref 6), (1, .int a1), (2, .int a2)]) (by decide +kernel) rfl (fun h => nomatch h) rfl (Nat.le_of_ble_eq_true rfl) (Nat.le_of_ble_eq_true rfl) (fun E => ?_)
  refine mw_aload_n dX9_put_0 0 rfl ?_
  refine mw_iload_n dX9_put_1 1 rfl ?_
  obtain ⟨m1, h⟩ := mif h
  refine ev_iald dX9_put_2 (by decide) rfl m1 ?_
  refine mw_istore_n (L' := [(3, .int (eI σ 6 a1.toNatClampNeg)), (0, .ref 6), (1, .int a1), (2, .int a2)]) dX9_put_3 rfl (by decide) rfl ?_
  refine mw_aload_n dX9_put_4 1 rfl ?_
  refine mw_iload_n dX9_put_5 2 rfl ?_
  refine mw_iload_n dX9_put_6 3 rfl ?_
  refine ev_iast dX9_put_7 (by decide) rfl m1 ?_
  refine mw_iload_n dX9_put_8 0 rfl ?_
  exact mw_iret dX9_put_9 rfl (ers_im h) rfl rfl

def e_X9_put_7 (a1 : Int32) (a2 : Int32) (σ : ES) : Option (Int32 × ES) := if mib a1 14 = true then (some ((eI σ 7 a1.toNatClampNeg), (uI σ 7 a1.toNatClampNeg a2))) else none
set_option maxRecDepth 100000 in
set_option maxHeartbeats 4000000 in
theorem k_X9_put_7 {l : Launch} {σ : ES} {a1 : Int32} {a2 : Int32} {out : (Int32 × ES)} (h : e_X9_put_7 a1 a2 σ = some out) : MK l yX9_put cX9_put 4 (some .int) 1 [.ref 7, .int a1, .int a2] (mkS σ) (some (.int out.1)) (mkS out.2) := by
  unfold e_X9_put_7 at h
  refine mw_entry (own := RX9) (ini := false) (L := [(0, .ref 7), (1, .int a1), (2, .int a2)]) (by decide +kernel) rfl (fun h => nomatch h) rfl (Nat.le_of_ble_eq_true rfl) (Nat.le_of_ble_eq_true rfl) (fun E => ?_)
  refine mw_aload_n dX9_put_0 0 rfl ?_
  refine mw_iload_n dX9_put_1 1 rfl ?_
  obtain ⟨m1, h⟩ := mif h
  refine ev_iald dX9_put_2 (by decide) rfl m1 ?_
  refine mw_istore_n (L' := [(3, .int (eI σ 7 a1.toNatClampNeg)), (0, .ref 7), (1, .int a1), (2, .int a2)]) dX9_put_3 rfl (by decide) rfl ?_
  refine mw_aload_n dX9_put_4 1 rfl ?_
  refine mw_iload_n dX9_put_5 2 rfl ?_
  refine mw_iload_n dX9_put_6 3 rfl ?_
  refine ev_iast dX9_put_7 (by decide) rfl m1 ?_
  refine mw_iload_n dX9_put_8 0 rfl ?_
  exact mw_iret dX9_put_9 rfl (ers_im h) rfl rfl

theorem dX9_change_0 : decode cX9_change 0 = .ok (.aload_n 0, 1) := by decide +kernel
theorem dX9_change_1 : decode cX9_change 1 = .ok (.getfield 12, 3) := by decide +kernel
theorem dX9_change_4 : decode cX9_change 4 = .ok (.iload_n 1, 1) := by decide +kernel
theorem dX9_change_5 : decode cX9_change 5 = .ok (.invokevirtual 116, 3) := by decide +kernel
theorem dX9_change_8 : decode cX9_change 8 = .ok (.ifCond .eq 13, 3) := by decide +kernel
theorem dX9_change_11 : decode cX9_change 11 = .ok (.aload_n 0, 1) := by decide +kernel
theorem dX9_change_12 : decode cX9_change 12 = .ok (.iload_n 1, 1) := by decide +kernel
theorem dX9_change_13 : decode cX9_change 13 = .ok (.iload_n 2, 1) := by decide +kernel
theorem dX9_change_14 : decode cX9_change 14 = .ok (.iload_n 3, 1) := by decide +kernel
theorem dX9_change_15 : decode cX9_change 15 = .ok (.invokevirtual 137, 3) := by decide +kernel
theorem dX9_change_18 : decode cX9_change 18 = .ok (.ifCond .ne 9, 3) := by decide +kernel
theorem dX9_change_21 : decode cX9_change 21 = .ok (.aload_n 0, 1) := by decide +kernel
theorem dX9_change_22 : decode cX9_change 22 = .ok (.iconst 0, 1) := by decide +kernel
theorem dX9_change_23 : decode cX9_change 23 = .ok (.invokevirtual 79, 3) := by decide +kernel
theorem dX9_change_26 : decode cX9_change 26 = .ok (.ireturn, 1) := by decide +kernel
theorem dX9_change_27 : decode cX9_change 27 = .ok (.iload_n 2, 1) := by decide +kernel
theorem dX9_change_28 : decode cX9_change 28 = .ok (.tableswitch 101 0 4 #[36, 49, 62, 75, 88], 36) := by decide +kernel
theorem dX9_change_64 : decode cX9_change 64 = .ok (.aload_n 0, 1) := by decide +kernel
theorem dX9_change_65 : decode cX9_change 65 = .ok (.getfield 12, 3) := by decide +kernel
theorem dX9_change_68 : decode cX9_change 68 = .ok (.getfield 119, 3) := by decide +kernel
theorem dX9_change_71 : decode cX9_change 71 = .ok (.iload_n 1, 1) := by decide +kernel
theorem dX9_change_72 : decode cX9_change 72 = .ok (.iload_n 3, 1) := by decide +kernel
theorem dX9_change_73 : decode cX9_change 73 = .ok (.invokestatic 140, 3) := by decide +kernel
theorem dX9_change_76 : decode cX9_change 76 = .ok (.ireturn, 1) := by decide +kernel
theorem dX9_change_77 : decode cX9_change 77 = .ok (.aload_n 0, 1) := by decide +kernel
theorem dX9_change_78 : decode cX9_change 78 = .ok (.getfield 12, 3) := by decide +kernel
theorem dX9_change_81 : decode cX9_change 81 = .ok (.getfield 87, 3) := by decide +kernel
theorem dX9_change_84 : decode cX9_change 84 = .ok (.iload_n 1, 1) := by decide +kernel
theorem dX9_change_85 : decode cX9_change 85 = .ok (.iload_n 3, 1) := by decide +kernel
theorem dX9_change_86 : decode cX9_change 86 = .ok (.invokestatic 140, 3) := by decide +kernel
theorem dX9_change_89 : decode cX9_change 89 = .ok (.ireturn, 1) := by decide +kernel
theorem dX9_change_90 : decode cX9_change 90 = .ok (.aload_n 0, 1) := by decide +kernel
theorem dX9_change_91 : decode cX9_change 91 = .ok (.getfield 12, 3) := by decide +kernel
theorem dX9_change_94 : decode cX9_change 94 = .ok (.getfield 90, 3) := by decide +kernel
theorem dX9_change_97 : decode cX9_change 97 = .ok (.iload_n 1, 1) := by decide +kernel
theorem dX9_change_98 : decode cX9_change 98 = .ok (.iload_n 3, 1) := by decide +kernel
theorem dX9_change_99 : decode cX9_change 99 = .ok (.invokestatic 140, 3) := by decide +kernel
theorem dX9_change_102 : decode cX9_change 102 = .ok (.ireturn, 1) := by decide +kernel
theorem dX9_change_103 : decode cX9_change 103 = .ok (.aload_n 0, 1) := by decide +kernel
theorem dX9_change_104 : decode cX9_change 104 = .ok (.getfield 12, 3) := by decide +kernel
theorem dX9_change_107 : decode cX9_change 107 = .ok (.getfield 122, 3) := by decide +kernel
theorem dX9_change_110 : decode cX9_change 110 = .ok (.iload_n 1, 1) := by decide +kernel
theorem dX9_change_111 : decode cX9_change 111 = .ok (.iload_n 3, 1) := by decide +kernel
theorem dX9_change_112 : decode cX9_change 112 = .ok (.invokestatic 140, 3) := by decide +kernel
theorem dX9_change_115 : decode cX9_change 115 = .ok (.ireturn, 1) := by decide +kernel
theorem dX9_change_116 : decode cX9_change 116 = .ok (.aload_n 0, 1) := by decide +kernel
theorem dX9_change_117 : decode cX9_change 117 = .ok (.getfield 12, 3) := by decide +kernel
theorem dX9_change_120 : decode cX9_change 120 = .ok (.getfield 125, 3) := by decide +kernel
theorem dX9_change_123 : decode cX9_change 123 = .ok (.iload_n 1, 1) := by decide +kernel
theorem dX9_change_124 : decode cX9_change 124 = .ok (.iload_n 3, 1) := by decide +kernel
theorem dX9_change_125 : decode cX9_change 125 = .ok (.invokestatic 140, 3) := by decide +kernel
theorem dX9_change_128 : decode cX9_change 128 = .ok (.ireturn, 1) := by decide +kernel
theorem dX9_change_129 : decode cX9_change 129 = .ok (.aload_n 0, 1) := by decide +kernel
theorem dX9_change_130 : decode cX9_change 130 = .ok (.getfield 12, 3) := by decide +kernel
theorem dX9_change_133 : decode cX9_change 133 = .ok (.getfield 128, 3) := by decide +kernel
theorem dX9_change_136 : decode cX9_change 136 = .ok (.iload_n 1, 1) := by decide +kernel
theorem dX9_change_137 : decode cX9_change 137 = .ok (.iload_n 3, 1) := by decide +kernel
theorem dX9_change_138 : decode cX9_change 138 = .ok (.invokestatic 140, 3) := by decide +kernel
theorem dX9_change_141 : decode cX9_change 141 = .ok (.ireturn, 1) := by decide +kernel
def e_X9_change (a1 : Int32) (a2 : Int32) (a3 : Int32) (σ : ES) : Option (Int32 × ES) := (e_X1_isWay_1 σ a1).bind (fun r1 => if r1 = 0 then ((e_X9_finding (0 : Int32) σ).bind (fun r3 => some (r3.1, r3.2))) else ((e_X9_canBecome σ a1 a2 a3).bind (fun r5 => if r5 = 0 then ((e_X9_finding (0 : Int32) σ).bind (fun r19 => some (r19.1, r19.2))) else (if a2 = 0 then ((e_X9_put_2 a1 a3 σ).bind (fun r7 => some (r7.1, r7.2))) else (if a2 = 1 then ((e_X9_put_3 a1 a3 σ).bind (fun r9 => some (r9.1, r9.2))) else (if a2 = 2 then ((e_X9_put_4 a1 a3 σ).bind (fun r11 => some (r11.1, r11.2))) else (if a2 = 3 then ((e_X9_put_5 a1 a3 σ).bind (fun r13 => some (r13.1, r13.2))) else (if a2 = 4 then ((e_X9_put_6 a1 a3 σ).bind (fun r15 => some (r15.1, r15.2))) else ((e_X9_put_7 a1 a3 σ).bind (fun r17 => some (r17.1, r17.2)))))))))))
set_option maxRecDepth 100000 in
set_option maxHeartbeats 4000000 in
theorem k_X9_change {l : Launch} {σ : ES} {a1 : Int32} {a2 : Int32} {a3 : Int32} {out : (Int32 × ES)} (h : e_X9_change a1 a2 a3 σ = some out) : MK l yX9_change cX9_change 4 (some .int) 4 [.ref 0, .int a1, .int a2, .int a3] (mkS σ) (some (.int out.1)) (mkS out.2) := by
  unfold e_X9_change at h
  refine mw_entry (own := RX9) (ini := false) (L := [(0, .ref 0), (1, .int a1), (2, .int a2), (3, .int a3)]) (by decide +kernel) rfl (fun h => nomatch h) rfl (Nat.le_of_ble_eq_true rfl) (Nat.le_of_ble_eq_true rfl) (fun E => ?_)
  refine mw_aload_n dX9_change_0 0 rfl ?_
  refine ev_getR (q := 1) fd_RX9_12_8 dX9_change_1 rfl rfl rfl ?_
  refine mw_iload_n dX9_change_4 1 rfl ?_
  obtain ⟨r1, e2, h⟩ := mbd h
  refine mv_callV_i (As := [.int a1]) (ci := 0) lkV_RX9_116_yX1_isWay dX9_change_5 (k_X1_isWay_1 e2) rfl rfl rfl rfl (Nat.le_of_ble_eq_true rfl) (by decide) (by decide) ?_
  refine mw_if_eq (tgt := 21) dX9_change_8 (by decide) (fun hc => ?_) (fun hc => ?_)
  · have h := mit hc h
    refine mw_aload_n dX9_change_21 0 rfl ?_
    refine mw_iconst (v := 0) dX9_change_22 (by decide) ?_
    obtain ⟨r3, e4, h⟩ := mbd h
    refine mv_callV_i (As := [.int (0 : Int32)]) (ci := 8) lkV_RX9_79_yX9_finding dX9_change_23 (k_X9_finding e4) rfl rfl rfl rfl (Nat.le_of_ble_eq_true rfl) (by decide) (by decide) ?_
    exact mw_iret dX9_change_26 rfl (ers_im h) rfl rfl
  · have h := mie hc h
    refine mw_aload_n dX9_change_11 0 rfl ?_
    refine mw_iload_n dX9_change_12 1 rfl ?_
    refine mw_iload_n dX9_change_13 2 rfl ?_
    refine mw_iload_n dX9_change_14 3 rfl ?_
    obtain ⟨r5, e6, h⟩ := mbd h
    refine mv_callV_i (As := [.int a1, .int a2, .int a3]) (ci := 8) lkV_RX9_137_yX9_canBecome dX9_change_15 (k_X9_canBecome e6) rfl rfl rfl rfl (Nat.le_of_ble_eq_true rfl) (by decide) (by decide) ?_
    refine mw_if_ne (tgt := 27) dX9_change_18 (by decide) (fun hc => ?_) (fun hc => ?_)
    · have h := mie hc h
      refine mw_iload_n dX9_change_27 2 rfl ?_
      by_cases hs0 : a2 = 0
      · have h := mit hs0 h
        refine mv_tabIn (tgt := 64) 0 dX9_change_28 hs0 (by decide) (by decide) rfl (by decide) ?_
        refine mw_aload_n dX9_change_64 0 rfl ?_
        refine ev_getR (q := 1) fd_RX9_12_8 dX9_change_65 rfl rfl rfl ?_
        refine ev_getR (q := 2) fd_RX9_119_0 dX9_change_68 rfl rfl rfl ?_
        refine mw_iload_n dX9_change_71 1 rfl ?_
        refine mw_iload_n dX9_change_72 3 rfl ?_
        obtain ⟨r7, e8, h⟩ := mbd h
        refine mv_callS_i (As := [.ref 2, .int a1, .int a3]) lkS_RX9_140_yX9_put dX9_change_73 (k_X9_put_2 e8) rfl rfl (Nat.le_of_ble_eq_true rfl) (by decide) (by decide) ?_
        exact mw_iret dX9_change_76 rfl (ers_im h) rfl rfl
      have h := mie hs0 h
      by_cases hs1 : a2 = 1
      · have h := mit hs1 h
        refine mv_tabIn (tgt := 77) 1 dX9_change_28 hs1 (by decide) (by decide) rfl (by decide) ?_
        refine mw_aload_n dX9_change_77 0 rfl ?_
        refine ev_getR (q := 1) fd_RX9_12_8 dX9_change_78 rfl rfl rfl ?_
        refine ev_getR (q := 3) fd_RX9_87_0 dX9_change_81 rfl rfl rfl ?_
        refine mw_iload_n dX9_change_84 1 rfl ?_
        refine mw_iload_n dX9_change_85 3 rfl ?_
        obtain ⟨r9, e10, h⟩ := mbd h
        refine mv_callS_i (As := [.ref 3, .int a1, .int a3]) lkS_RX9_140_yX9_put dX9_change_86 (k_X9_put_3 e10) rfl rfl (Nat.le_of_ble_eq_true rfl) (by decide) (by decide) ?_
        exact mw_iret dX9_change_89 rfl (ers_im h) rfl rfl
      have h := mie hs1 h
      by_cases hs2 : a2 = 2
      · have h := mit hs2 h
        refine mv_tabIn (tgt := 90) 2 dX9_change_28 hs2 (by decide) (by decide) rfl (by decide) ?_
        refine mw_aload_n dX9_change_90 0 rfl ?_
        refine ev_getR (q := 1) fd_RX9_12_8 dX9_change_91 rfl rfl rfl ?_
        refine ev_getR (q := 4) fd_RX9_90_0 dX9_change_94 rfl rfl rfl ?_
        refine mw_iload_n dX9_change_97 1 rfl ?_
        refine mw_iload_n dX9_change_98 3 rfl ?_
        obtain ⟨r11, e12, h⟩ := mbd h
        refine mv_callS_i (As := [.ref 4, .int a1, .int a3]) lkS_RX9_140_yX9_put dX9_change_99 (k_X9_put_4 e12) rfl rfl (Nat.le_of_ble_eq_true rfl) (by decide) (by decide) ?_
        exact mw_iret dX9_change_102 rfl (ers_im h) rfl rfl
      have h := mie hs2 h
      by_cases hs3 : a2 = 3
      · have h := mit hs3 h
        refine mv_tabIn (tgt := 103) 3 dX9_change_28 hs3 (by decide) (by decide) rfl (by decide) ?_
        refine mw_aload_n dX9_change_103 0 rfl ?_
        refine ev_getR (q := 1) fd_RX9_12_8 dX9_change_104 rfl rfl rfl ?_
        refine ev_getR (q := 5) fd_RX9_122_0 dX9_change_107 rfl rfl rfl ?_
        refine mw_iload_n dX9_change_110 1 rfl ?_
        refine mw_iload_n dX9_change_111 3 rfl ?_
        obtain ⟨r13, e14, h⟩ := mbd h
        refine mv_callS_i (As := [.ref 5, .int a1, .int a3]) lkS_RX9_140_yX9_put dX9_change_112 (k_X9_put_5 e14) rfl rfl (Nat.le_of_ble_eq_true rfl) (by decide) (by decide) ?_
        exact mw_iret dX9_change_115 rfl (ers_im h) rfl rfl
      have h := mie hs3 h
      by_cases hs4 : a2 = 4
      · have h := mit hs4 h
        refine mv_tabIn (tgt := 116) 4 dX9_change_28 hs4 (by decide) (by decide) rfl (by decide) ?_
        refine mw_aload_n dX9_change_116 0 rfl ?_
        refine ev_getR (q := 1) fd_RX9_12_8 dX9_change_117 rfl rfl rfl ?_
        refine ev_getR (q := 6) fd_RX9_125_0 dX9_change_120 rfl rfl rfl ?_
        refine mw_iload_n dX9_change_123 1 rfl ?_
        refine mw_iload_n dX9_change_124 3 rfl ?_
        obtain ⟨r15, e16, h⟩ := mbd h
        refine mv_callS_i (As := [.ref 6, .int a1, .int a3]) lkS_RX9_140_yX9_put dX9_change_125 (k_X9_put_6 e16) rfl rfl (Nat.le_of_ble_eq_true rfl) (by decide) (by decide) ?_
        exact mw_iret dX9_change_128 rfl (ers_im h) rfl rfl
      have h := mie hs4 h
      have g0 := mne32 hs0
      have g1 := mne32 hs1
      have g2 := mne32 hs2
      have g3 := mne32 hs3
      have g4 := mne32 hs4
      refine mv_tabOut (tgt := 129) dX9_change_28 (by simp only [mti_0, mti_1, mti_2, mti_3, mti_4] at g0 g1 g2 g3 g4; omega) (by decide) ?_
      refine mw_aload_n dX9_change_129 0 rfl ?_
      refine ev_getR (q := 1) fd_RX9_12_8 dX9_change_130 rfl rfl rfl ?_
      refine ev_getR (q := 7) fd_RX9_128_0 dX9_change_133 rfl rfl rfl ?_
      refine mw_iload_n dX9_change_136 1 rfl ?_
      refine mw_iload_n dX9_change_137 3 rfl ?_
      obtain ⟨r17, e18, h⟩ := mbd h
      refine mv_callS_i (As := [.ref 7, .int a1, .int a3]) lkS_RX9_140_yX9_put dX9_change_138 (k_X9_put_7 e18) rfl rfl (Nat.le_of_ble_eq_true rfl) (by decide) (by decide) ?_
      exact mw_iret dX9_change_141 rfl (ers_im h) rfl rfl
    · have h := mit hc h
      refine mw_aload_n dX9_change_21 0 rfl ?_
      refine mw_iconst (v := 0) dX9_change_22 (by decide) ?_
      obtain ⟨r19, e20, h⟩ := mbd h
      refine mv_callV_i (As := [.int (0 : Int32)]) (ci := 8) lkV_RX9_79_yX9_finding dX9_change_23 (k_X9_finding e20) rfl rfl rfl rfl (Nat.le_of_ble_eq_true rfl) (by decide) (by decide) ?_
      exact mw_iret dX9_change_26 rfl (ers_im h) rfl rfl

theorem dX9_isUnder_0 : decode cX9_isUnder 0 = .ok (.iload_n 0, 1) := by decide +kernel
theorem dX9_isUnder_1 : decode cX9_isUnder 1 = .ok (.istore_n 2, 1) := by decide +kernel
theorem dX9_isUnder_2 : decode cX9_isUnder 2 = .ok (.iconst 0, 1) := by decide +kernel
theorem dX9_isUnder_3 : decode cX9_isUnder 3 = .ok (.istore_n 3, 1) := by decide +kernel
theorem dX9_isUnder_4 : decode cX9_isUnder 4 = .ok (.iload_n 3, 1) := by decide +kernel
theorem dX9_isUnder_5 : decode cX9_isUnder 5 = .ok (.bipush 6, 2) := by decide +kernel
theorem dX9_isUnder_7 : decode cX9_isUnder 7 = .ok (.if_icmp .ge 26, 3) := by decide +kernel
theorem dX9_isUnder_10 : decode cX9_isUnder 10 = .ok (.iload_n 2, 1) := by decide +kernel
theorem dX9_isUnder_11 : decode cX9_isUnder 11 = .ok (.ifCond .lt 22, 3) := by decide +kernel
theorem dX9_isUnder_14 : decode cX9_isUnder 14 = .ok (.iload_n 2, 1) := by decide +kernel
theorem dX9_isUnder_15 : decode cX9_isUnder 15 = .ok (.iload_n 1, 1) := by decide +kernel
theorem dX9_isUnder_16 : decode cX9_isUnder 16 = .ok (.if_icmp .ne 5, 3) := by decide +kernel
theorem dX9_isUnder_19 : decode cX9_isUnder 19 = .ok (.iconst 1, 1) := by decide +kernel
theorem dX9_isUnder_20 : decode cX9_isUnder 20 = .ok (.ireturn, 1) := by decide +kernel
theorem dX9_isUnder_21 : decode cX9_isUnder 21 = .ok (.getstatic 365, 3) := by decide +kernel
theorem dX9_isUnder_24 : decode cX9_isUnder 24 = .ok (.iload_n 2, 1) := by decide +kernel
theorem dX9_isUnder_25 : decode cX9_isUnder 25 = .ok (.iaload, 1) := by decide +kernel
theorem dX9_isUnder_26 : decode cX9_isUnder 26 = .ok (.istore_n 2, 1) := by decide +kernel
theorem dX9_isUnder_27 : decode cX9_isUnder 27 = .ok (.iinc 3 1, 3) := by decide +kernel
theorem dX9_isUnder_30 : decode cX9_isUnder 30 = .ok (.goto (-26), 3) := by decide +kernel
theorem dX9_isUnder_33 : decode cX9_isUnder 33 = .ok (.iconst 0, 1) := by decide +kernel
theorem dX9_isUnder_34 : decode cX9_isUnder 34 = .ok (.ireturn, 1) := by decide +kernel
def e_X9_isUnder_L4 (σ : ES) (a0 : Int32) (a1 : Int32) : Nat → Int32 → Int32 → Option Int32
  | 0, _, _ => none
  | n + 1, x2, x3 => if (6 : Int32) ≤ x3 then (some (0 : Int32)) else (if x2 < 0 then (some (0 : Int32)) else (if x2 = a1 then (some (1 : Int32)) else (if mib x2 6 = true then (e_X9_isUnder_L4 σ a0 a1 n (mkab x2.toNatClampNeg) (x3 + 1)) else none)))
set_option maxRecDepth 100000 in
set_option maxHeartbeats 4000000 in
theorem p_X9_isUnder_L4 {l : Launch} {E : MX} {out : Int32} {σ : ES} {a0 : Int32} {a1 : Int32}  : ∀ (n : Nat) (x2 : Int32) (x3 : Int32), e_X9_isUnder_L4 σ a0 a1 n x2 x3 = some out → MV l E cX9_isUnder RX9 4 (some .boolean) 1 (82, (some (.int out)), mkS σ) (mkS σ) 4 [(0, .int a0), (1, .int a1), (2, .int x2), (3, .int x3)] [] := by
  intro n
  induction n with
  | zero =>
    intro x2 x3 h
    exact nomatch h
  | succ n ih =>
    intro x2 x3 h
    rw [e_X9_isUnder_L4] at h
    refine mw_iload_n dX9_isUnder_4 3 rfl ?_
    refine mw_bipush (v := 6) dX9_isUnder_5 (by decide) ?_
    refine mw_icmp_ge (tgt := 33) dX9_isUnder_7 (by decide) (fun hc => ?_) (fun hc => ?_)
    · have h := mit hc h
      refine mw_iconst (v := 0) dX9_isUnder_33 (by decide) ?_
      exact mw_zret dX9_isUnder_34 rfl (by decide) (ers_i h) rfl rfl
    · have h := mie hc h
      refine mw_iload_n dX9_isUnder_10 2 rfl ?_
      refine mw_if_lt (tgt := 33) dX9_isUnder_11 (by decide) (fun hc => ?_) (fun hc => ?_)
      · have h := mit hc h
        refine mw_iconst (v := 0) dX9_isUnder_33 (by decide) ?_
        exact mw_zret dX9_isUnder_34 rfl (by decide) (ers_i h) rfl rfl
      · have h := mie hc h
        refine mw_iload_n dX9_isUnder_14 2 rfl ?_
        refine mw_iload_n dX9_isUnder_15 1 rfl ?_
        refine mw_icmp_ne (tgt := 21) dX9_isUnder_16 (by decide) (fun hc => ?_) (fun hc => ?_)
        · have h := mie hc h
          refine mv_kab wt_78 dX9_isUnder_21 ?_
          refine mw_iload_n dX9_isUnder_24 2 rfl ?_
          obtain ⟨m1, h⟩ := mif h
          refine mv_kabat dX9_isUnder_25 m1 ?_
          refine mw_istore_n (L' := [(2, .int (mkab x2.toNatClampNeg)), (0, .int a0), (1, .int a1), (3, .int x3)]) dX9_isUnder_26 rfl (by decide) rfl ?_
          refine mw_iinc (v := (x3 + 1)) (L' := [(3, .int (x3 + 1)), (2, .int (mkab x2.toNatClampNeg)), (0, .int a0), (1, .int a1)]) dX9_isUnder_27 3 rfl rfl (by decide) rfl ?_
          refine mw_goto (tgt := 4) dX9_isUnder_30 (by decide) ?_
          exact mw_sub (L' := [(0, .int a0), (1, .int a1), (2, .int (mkab x2.toNatClampNeg)), (3, .int (x3 + 1))]) [2, 3, 1, 0] rfl (ih _ _ h)
        · have h := mit hc h
          refine mw_iconst (v := 1) dX9_isUnder_19 (by decide) ?_
          exact mw_zret dX9_isUnder_20 rfl (by decide) (ers_i h) rfl rfl
def e_X9_isUnder (σ : ES) (a0 : Int32) (a1 : Int32) : Option Int32 := e_X9_isUnder_L4 σ a0 a1 mN a0 (0 : Int32)
set_option maxRecDepth 100000 in
set_option maxHeartbeats 4000000 in
theorem k_X9_isUnder {l : Launch} {σ : ES} {a0 : Int32} {a1 : Int32} {out : Int32} (h : e_X9_isUnder σ a0 a1 = some out) : MK l yX9_isUnder cX9_isUnder 4 (some .boolean) 1 [.int a0, .int a1] (mkS σ) (some (.int out)) (mkS σ) := by
  unfold e_X9_isUnder at h
  refine mw_entry (own := RX9) (ini := false) (L := [(0, .int a0), (1, .int a1)]) (by decide +kernel) rfl (fun h => nomatch h) rfl (Nat.le_of_ble_eq_true rfl) (Nat.le_of_ble_eq_true rfl) (fun E => ?_)
  refine mw_iload_n dX9_isUnder_0 0 rfl ?_
  refine mw_istore_n (L' := [(2, .int a0), (0, .int a0), (1, .int a1)]) dX9_isUnder_1 rfl (by decide) rfl ?_
  refine mw_iconst (v := 0) dX9_isUnder_2 (by decide) ?_
  refine mw_istore_n (L' := [(3, .int (0 : Int32)), (2, .int a0), (0, .int a0), (1, .int a1)]) dX9_isUnder_3 rfl (by decide) rfl ?_
  exact mw_sub (L' := [(0, .int a0), (1, .int a1), (2, .int a0), (3, .int (0 : Int32))]) [2, 3, 1, 0] rfl (p_X9_isUnder_L4  mN _ _ h)

theorem dX9_as_0 : decode cX9_as 0 = .ok (.aload_n 0, 1) := by decide +kernel
theorem dX9_as_1 : decode cX9_as 1 = .ok (.getfield 12, 3) := by decide +kernel
theorem dX9_as_4 : decode cX9_as 4 = .ok (.iload_n 1, 1) := by decide +kernel
theorem dX9_as_5 : decode cX9_as 5 = .ok (.invokevirtual 116, 3) := by decide +kernel
theorem dX9_as_8 : decode cX9_as 8 = .ok (.ifCond .eq 10, 3) := by decide +kernel
theorem dX9_as_11 : decode cX9_as 11 = .ok (.iload_n 2, 1) := by decide +kernel
theorem dX9_as_12 : decode cX9_as 12 = .ok (.invokestatic 103, 3) := by decide +kernel
theorem dX9_as_15 : decode cX9_as 15 = .ok (.ifCond .ne 9, 3) := by decide +kernel
theorem dX9_as_18 : decode cX9_as 18 = .ok (.aload_n 0, 1) := by decide +kernel
theorem dX9_as_19 : decode cX9_as 19 = .ok (.iconst 0, 1) := by decide +kernel
theorem dX9_as_20 : decode cX9_as 20 = .ok (.invokevirtual 79, 3) := by decide +kernel
theorem dX9_as_23 : decode cX9_as 23 = .ok (.ireturn, 1) := by decide +kernel
theorem dX9_as_24 : decode cX9_as 24 = .ok (.aload_n 0, 1) := by decide +kernel
theorem dX9_as_25 : decode cX9_as 25 = .ok (.getfield 12, 3) := by decide +kernel
theorem dX9_as_28 : decode cX9_as 28 = .ok (.getfield 119, 3) := by decide +kernel
theorem dX9_as_31 : decode cX9_as 31 = .ok (.iload_n 1, 1) := by decide +kernel
theorem dX9_as_32 : decode cX9_as 32 = .ok (.iaload, 1) := by decide +kernel
theorem dX9_as_33 : decode cX9_as 33 = .ok (.iload_n 2, 1) := by decide +kernel
theorem dX9_as_34 : decode cX9_as 34 = .ok (.invokestatic 144, 3) := by decide +kernel
theorem dX9_as_37 : decode cX9_as 37 = .ok (.ifCond .ne 9, 3) := by decide +kernel
theorem dX9_as_40 : decode cX9_as 40 = .ok (.aload_n 0, 1) := by decide +kernel
theorem dX9_as_41 : decode cX9_as 41 = .ok (.iconst 2, 1) := by decide +kernel
theorem dX9_as_42 : decode cX9_as 42 = .ok (.invokevirtual 79, 3) := by decide +kernel
theorem dX9_as_45 : decode cX9_as 45 = .ok (.ireturn, 1) := by decide +kernel
theorem dX9_as_46 : decode cX9_as 46 = .ok (.aload_n 0, 1) := by decide +kernel
theorem dX9_as_47 : decode cX9_as 47 = .ok (.getfield 12, 3) := by decide +kernel
theorem dX9_as_50 : decode cX9_as 50 = .ok (.getfield 122, 3) := by decide +kernel
theorem dX9_as_53 : decode cX9_as 53 = .ok (.iload_n 1, 1) := by decide +kernel
theorem dX9_as_54 : decode cX9_as 54 = .ok (.iaload, 1) := by decide +kernel
theorem dX9_as_55 : decode cX9_as 55 = .ok (.ireturn, 1) := by decide +kernel
def e_X9_as (a1 : Int32) (a2 : Int32) (σ : ES) : Option (Int32 × ES) := (e_X1_isWay_1 σ a1).bind (fun r1 => if r1 = 0 then ((e_X9_finding (0 : Int32) σ).bind (fun r3 => some (r3.1, r3.2))) else ((e_X9_isKind a2).bind (fun r5 => if r5 = 0 then ((e_X9_finding (0 : Int32) σ).bind (fun r12 => some (r12.1, r12.2))) else (if mib a1 14 = true then ((e_X9_isUnder σ (eI σ 2 a1.toNatClampNeg) a2).bind (fun r8 => if r8 = 0 then ((e_X9_finding (2 : Int32) σ).bind (fun r10 => some (r10.1, r10.2))) else (some ((eI σ 5 a1.toNatClampNeg), σ)))) else none))))
set_option maxRecDepth 100000 in
set_option maxHeartbeats 4000000 in
theorem k_X9_as {l : Launch} {σ : ES} {a1 : Int32} {a2 : Int32} {out : (Int32 × ES)} (h : e_X9_as a1 a2 σ = some out) : MK l yX9_as cX9_as 3 (some .int) 3 [.ref 0, .int a1, .int a2] (mkS σ) (some (.int out.1)) (mkS out.2) := by
  unfold e_X9_as at h
  refine mw_entry (own := RX9) (ini := false) (L := [(0, .ref 0), (1, .int a1), (2, .int a2)]) (by decide +kernel) rfl (fun h => nomatch h) rfl (Nat.le_of_ble_eq_true rfl) (Nat.le_of_ble_eq_true rfl) (fun E => ?_)
  refine mw_aload_n dX9_as_0 0 rfl ?_
  refine ev_getR (q := 1) fd_RX9_12_8 dX9_as_1 rfl rfl rfl ?_
  refine mw_iload_n dX9_as_4 1 rfl ?_
  obtain ⟨r1, e2, h⟩ := mbd h
  refine mv_callV_i (As := [.int a1]) (ci := 0) lkV_RX9_116_yX1_isWay dX9_as_5 (k_X1_isWay_1 e2) rfl rfl rfl rfl (Nat.le_of_ble_eq_true rfl) (by decide) (by decide) ?_
  refine mw_if_eq (tgt := 18) dX9_as_8 (by decide) (fun hc => ?_) (fun hc => ?_)
  · have h := mit hc h
    refine mw_aload_n dX9_as_18 0 rfl ?_
    refine mw_iconst (v := 0) dX9_as_19 (by decide) ?_
    obtain ⟨r3, e4, h⟩ := mbd h
    refine mv_callV_i (As := [.int (0 : Int32)]) (ci := 8) lkV_RX9_79_yX9_finding dX9_as_20 (k_X9_finding e4) rfl rfl rfl rfl (Nat.le_of_ble_eq_true rfl) (by decide) (by decide) ?_
    exact mw_iret dX9_as_23 rfl (ers_im h) rfl rfl
  · have h := mie hc h
    refine mw_iload_n dX9_as_11 2 rfl ?_
    obtain ⟨r5, e6, h⟩ := mbd h
    refine mv_callS_i (As := [.int a2]) lkS_RX9_103_yX9_isKind dX9_as_12 (k_X9_isKind e6) rfl rfl (Nat.le_of_ble_eq_true rfl) (by decide) (by decide) ?_
    refine mw_if_ne (tgt := 24) dX9_as_15 (by decide) (fun hc => ?_) (fun hc => ?_)
    · have h := mie hc h
      refine mw_aload_n dX9_as_24 0 rfl ?_
      refine ev_getR (q := 1) fd_RX9_12_8 dX9_as_25 rfl rfl rfl ?_
      refine ev_getR (q := 2) fd_RX9_119_0 dX9_as_28 rfl rfl rfl ?_
      refine mw_iload_n dX9_as_31 1 rfl ?_
      obtain ⟨m7, h⟩ := mif h
      refine ev_iald dX9_as_32 (by decide) rfl m7 ?_
      refine mw_iload_n dX9_as_33 2 rfl ?_
      obtain ⟨r8, e9, h⟩ := mbd h
      refine mv_callS_i (As := [.int (eI σ 2 a1.toNatClampNeg), .int a2]) lkS_RX9_144_yX9_isUnder dX9_as_34 (k_X9_isUnder e9) rfl rfl (Nat.le_of_ble_eq_true rfl) (by decide) (by decide) ?_
      refine mw_if_ne (tgt := 46) dX9_as_37 (by decide) (fun hc => ?_) (fun hc => ?_)
      · have h := mie hc h
        refine mw_aload_n dX9_as_46 0 rfl ?_
        refine ev_getR (q := 1) fd_RX9_12_8 dX9_as_47 rfl rfl rfl ?_
        refine ev_getR (q := 5) fd_RX9_122_0 dX9_as_50 rfl rfl rfl ?_
        refine mw_iload_n dX9_as_53 1 rfl ?_
        refine ev_iald dX9_as_54 (by decide) rfl m7 ?_
        exact mw_iret dX9_as_55 rfl (ers_im h) rfl rfl
      · have h := mit hc h
        refine mw_aload_n dX9_as_40 0 rfl ?_
        refine mw_iconst (v := 2) dX9_as_41 (by decide) ?_
        obtain ⟨r10, e11, h⟩ := mbd h
        refine mv_callV_i (As := [.int (2 : Int32)]) (ci := 8) lkV_RX9_79_yX9_finding dX9_as_42 (k_X9_finding e11) rfl rfl rfl rfl (Nat.le_of_ble_eq_true rfl) (by decide) (by decide) ?_
        exact mw_iret dX9_as_45 rfl (ers_im h) rfl rfl
    · have h := mit hc h
      refine mw_aload_n dX9_as_18 0 rfl ?_
      refine mw_iconst (v := 0) dX9_as_19 (by decide) ?_
      obtain ⟨r12, e13, h⟩ := mbd h
      refine mv_callV_i (As := [.int (0 : Int32)]) (ci := 8) lkV_RX9_79_yX9_finding dX9_as_20 (k_X9_finding e13) rfl rfl rfl rfl (Nat.le_of_ble_eq_true rfl) (by decide) (by decide) ?_
      exact mw_iret dX9_as_23 rfl (ers_im h) rfl rfl

theorem dX1_newThing_0 : decode cX1_newThing 0 = .ok (.aload_n 0, 1) := by decide +kernel
theorem dX1_newThing_1 : decode cX1_newThing 1 = .ok (.dup, 1) := by decide +kernel
theorem dX1_newThing_2 : decode cX1_newThing 2 = .ok (.getfield 47, 3) := by decide +kernel
theorem dX1_newThing_5 : decode cX1_newThing 5 = .ok (.iconst 1, 1) := by decide +kernel
theorem dX1_newThing_6 : decode cX1_newThing 6 = .ok (.iadd, 1) := by decide +kernel
theorem dX1_newThing_7 : decode cX1_newThing 7 = .ok (.putfield 47, 3) := by decide +kernel
theorem dX1_newThing_10 : decode cX1_newThing 10 = .ok (.aload_n 0, 1) := by decide +kernel
theorem dX1_newThing_11 : decode cX1_newThing 11 = .ok (.getfield 34, 3) := by decide +kernel
theorem dX1_newThing_14 : decode cX1_newThing 14 = .ok (.aload_n 0, 1) := by decide +kernel
theorem dX1_newThing_15 : decode cX1_newThing 15 = .ok (.getfield 47, 3) := by decide +kernel
theorem dX1_newThing_18 : decode cX1_newThing 18 = .ok (.iload_n 1, 1) := by decide +kernel
theorem dX1_newThing_19 : decode cX1_newThing 19 = .ok (.iastore, 1) := by decide +kernel
theorem dX1_newThing_20 : decode cX1_newThing 20 = .ok (.aload_n 0, 1) := by decide +kernel
theorem dX1_newThing_21 : decode cX1_newThing 21 = .ok (.getfield 37, 3) := by decide +kernel
theorem dX1_newThing_24 : decode cX1_newThing 24 = .ok (.aload_n 0, 1) := by decide +kernel
theorem dX1_newThing_25 : decode cX1_newThing 25 = .ok (.getfield 47, 3) := by decide +kernel
theorem dX1_newThing_28 : decode cX1_newThing 28 = .ok (.iload_n 2, 1) := by decide +kernel
theorem dX1_newThing_29 : decode cX1_newThing 29 = .ok (.iastore, 1) := by decide +kernel
theorem dX1_newThing_30 : decode cX1_newThing 30 = .ok (.aload_n 0, 1) := by decide +kernel
theorem dX1_newThing_31 : decode cX1_newThing 31 = .ok (.getfield 47, 3) := by decide +kernel
theorem dX1_newThing_34 : decode cX1_newThing 34 = .ok (.iconst 1, 1) := by decide +kernel
theorem dX1_newThing_35 : decode cX1_newThing 35 = .ok (.isub, 1) := by decide +kernel
theorem dX1_newThing_36 : decode cX1_newThing 36 = .ok (.ireturn, 1) := by decide +kernel
def e_X1_newThing_1 (a1 : Int32) (a2 : Int32) (σ : ES) : Option (Int32 × ES) := if mib (eI (uI σ 1 9 ((eI σ 1 9) + (1 : Int32))) 1 9) 13 = true then (if mib (eI (uI (uI σ 1 9 ((eI σ 1 9) + (1 : Int32))) 8 (eI (uI σ 1 9 ((eI σ 1 9) + (1 : Int32))) 1 9).toNatClampNeg a1) 1 9) 13 = true then (some (((eI (uI (uI (uI σ 1 9 ((eI σ 1 9) + (1 : Int32))) 8 (eI (uI σ 1 9 ((eI σ 1 9) + (1 : Int32))) 1 9).toNatClampNeg a1) 9 (eI (uI (uI σ 1 9 ((eI σ 1 9) + (1 : Int32))) 8 (eI (uI σ 1 9 ((eI σ 1 9) + (1 : Int32))) 1 9).toNatClampNeg a1) 1 9).toNatClampNeg a2) 1 9) - (1 : Int32)), (uI (uI (uI σ 1 9 ((eI σ 1 9) + (1 : Int32))) 8 (eI (uI σ 1 9 ((eI σ 1 9) + (1 : Int32))) 1 9).toNatClampNeg a1) 9 (eI (uI (uI σ 1 9 ((eI σ 1 9) + (1 : Int32))) 8 (eI (uI σ 1 9 ((eI σ 1 9) + (1 : Int32))) 1 9).toNatClampNeg a1) 1 9).toNatClampNeg a2))) else none) else none
set_option maxRecDepth 100000 in
set_option maxHeartbeats 4000000 in
theorem k_X1_newThing_1 {l : Launch} {σ : ES} {a1 : Int32} {a2 : Int32} {out : (Int32 × ES)} (h : e_X1_newThing_1 a1 a2 σ = some out) : MK l yX1_newThing cX1_newThing 3 (some .int) 1 [.ref 1, .int a1, .int a2] (mkS σ) (some (.int out.1)) (mkS out.2) := by
  unfold e_X1_newThing_1 at h
  refine mw_entry (own := RX1) (ini := false) (L := [(0, .ref 1), (1, .int a1), (2, .int a2)]) (by decide +kernel) rfl (fun h => nomatch h) rfl (Nat.le_of_ble_eq_true rfl) (Nat.le_of_ble_eq_true rfl) (fun E => ?_)
  refine mw_aload_n dX1_newThing_0 0 rfl ?_
  refine mw_dup dX1_newThing_1 rfl ?_
  refine ev_getI fd_RX1_47_0 dX1_newThing_2 rfl rfl ?_
  refine mw_iconst (v := 1) dX1_newThing_5 (by decide) ?_
  refine mw_iadd dX1_newThing_6 ?_
  refine ev_putI fw_RX1_47_0 dX1_newThing_7 rfl rfl ?_
  refine mw_aload_n dX1_newThing_10 0 rfl ?_
  refine ev_getR (q := 8) fd_RX1_34_0 dX1_newThing_11 rfl rfl rfl ?_
  refine mw_aload_n dX1_newThing_14 0 rfl ?_
  refine ev_getI fd_RX1_47_0 dX1_newThing_15 rfl rfl ?_
  refine mw_iload_n dX1_newThing_18 1 rfl ?_
  obtain ⟨m1, h⟩ := mif h
  refine ev_iast dX1_newThing_19 (by decide) rfl m1 ?_
  refine mw_aload_n dX1_newThing_20 0 rfl ?_
  refine ev_getR (q := 9) fd_RX1_37_0 dX1_newThing_21 rfl rfl rfl ?_
  refine mw_aload_n dX1_newThing_24 0 rfl ?_
  refine ev_getI fd_RX1_47_0 dX1_newThing_25 rfl rfl ?_
  refine mw_iload_n dX1_newThing_28 2 rfl ?_
  obtain ⟨m2, h⟩ := mif h
  refine ev_iast dX1_newThing_29 (by decide) rfl m2 ?_
  refine mw_aload_n dX1_newThing_30 0 rfl ?_
  refine ev_getI fd_RX1_47_0 dX1_newThing_31 rfl rfl ?_
  refine mw_iconst (v := 1) dX1_newThing_34 (by decide) ?_
  refine mw_isub dX1_newThing_35 ?_
  exact mw_iret dX1_newThing_36 rfl (ers_im h) rfl rfl

theorem dX9_thing_0 : decode cX9_thing 0 = .ok (.iload_n 1, 1) := by decide +kernel
theorem dX9_thing_1 : decode cX9_thing 1 = .ok (.invokestatic 106, 3) := by decide +kernel
theorem dX9_thing_4 : decode cX9_thing 4 = .ok (.ifCond .eq 10, 3) := by decide +kernel
theorem dX9_thing_7 : decode cX9_thing 7 = .ok (.iload_n 2, 1) := by decide +kernel
theorem dX9_thing_8 : decode cX9_thing 8 = .ok (.invokestatic 109, 3) := by decide +kernel
theorem dX9_thing_11 : decode cX9_thing 11 = .ok (.ifCond .ne 9, 3) := by decide +kernel
theorem dX9_thing_14 : decode cX9_thing 14 = .ok (.aload_n 0, 1) := by decide +kernel
theorem dX9_thing_15 : decode cX9_thing 15 = .ok (.iconst 0, 1) := by decide +kernel
theorem dX9_thing_16 : decode cX9_thing 16 = .ok (.invokevirtual 79, 3) := by decide +kernel
theorem dX9_thing_19 : decode cX9_thing 19 = .ok (.ireturn, 1) := by decide +kernel
theorem dX9_thing_20 : decode cX9_thing 20 = .ok (.aload_n 0, 1) := by decide +kernel
theorem dX9_thing_21 : decode cX9_thing 21 = .ok (.getfield 12, 3) := by decide +kernel
theorem dX9_thing_24 : decode cX9_thing 24 = .ok (.getfield 148, 3) := by decide +kernel
theorem dX9_thing_27 : decode cX9_thing 27 = .ok (.bipush 12, 2) := by decide +kernel
theorem dX9_thing_29 : decode cX9_thing 29 = .ok (.if_icmp .lt 9, 3) := by decide +kernel
theorem dX9_thing_32 : decode cX9_thing 32 = .ok (.aload_n 0, 1) := by decide +kernel
theorem dX9_thing_33 : decode cX9_thing 33 = .ok (.iconst 1, 1) := by decide +kernel
theorem dX9_thing_34 : decode cX9_thing 34 = .ok (.invokevirtual 79, 3) := by decide +kernel
theorem dX9_thing_37 : decode cX9_thing 37 = .ok (.ireturn, 1) := by decide +kernel
theorem dX9_thing_38 : decode cX9_thing 38 = .ok (.aload_n 0, 1) := by decide +kernel
theorem dX9_thing_39 : decode cX9_thing 39 = .ok (.getfield 12, 3) := by decide +kernel
theorem dX9_thing_42 : decode cX9_thing 42 = .ok (.iload_n 1, 1) := by decide +kernel
theorem dX9_thing_43 : decode cX9_thing 43 = .ok (.iload_n 2, 1) := by decide +kernel
theorem dX9_thing_44 : decode cX9_thing 44 = .ok (.invokevirtual 151, 3) := by decide +kernel
theorem dX9_thing_47 : decode cX9_thing 47 = .ok (.ireturn, 1) := by decide +kernel
def e_X9_thing (a1 : Int32) (a2 : Int32) (σ : ES) : Option (Int32 × ES) := (e_X9_isGain a1).bind (fun r1 => if r1 = 0 then ((e_X9_finding (0 : Int32) σ).bind (fun r3 => some (r3.1, r3.2))) else ((e_X9_isTime a2).bind (fun r5 => if r5 = 0 then ((e_X9_finding (0 : Int32) σ).bind (fun r11 => some (r11.1, r11.2))) else (if (eI σ 1 9) < (12 : Int32) then ((e_X1_newThing_1 a1 a2 σ).bind (fun r7 => some (r7.1, r7.2))) else ((e_X9_finding (1 : Int32) σ).bind (fun r9 => some (r9.1, r9.2)))))))
set_option maxRecDepth 100000 in
set_option maxHeartbeats 4000000 in
theorem k_X9_thing {l : Launch} {σ : ES} {a1 : Int32} {a2 : Int32} {out : (Int32 × ES)} (h : e_X9_thing a1 a2 σ = some out) : MK l yX9_thing cX9_thing 3 (some .int) 3 [.ref 0, .int a1, .int a2] (mkS σ) (some (.int out.1)) (mkS out.2) := by
  unfold e_X9_thing at h
  refine mw_entry (own := RX9) (ini := false) (L := [(0, .ref 0), (1, .int a1), (2, .int a2)]) (by decide +kernel) rfl (fun h => nomatch h) rfl (Nat.le_of_ble_eq_true rfl) (Nat.le_of_ble_eq_true rfl) (fun E => ?_)
  refine mw_iload_n dX9_thing_0 1 rfl ?_
  obtain ⟨r1, e2, h⟩ := mbd h
  refine mv_callS_i (As := [.int a1]) lkS_RX9_106_yX9_isGain dX9_thing_1 (k_X9_isGain e2) rfl rfl (Nat.le_of_ble_eq_true rfl) (by decide) (by decide) ?_
  refine mw_if_eq (tgt := 14) dX9_thing_4 (by decide) (fun hc => ?_) (fun hc => ?_)
  · have h := mit hc h
    refine mw_aload_n dX9_thing_14 0 rfl ?_
    refine mw_iconst (v := 0) dX9_thing_15 (by decide) ?_
    obtain ⟨r3, e4, h⟩ := mbd h
    refine mv_callV_i (As := [.int (0 : Int32)]) (ci := 8) lkV_RX9_79_yX9_finding dX9_thing_16 (k_X9_finding e4) rfl rfl rfl rfl (Nat.le_of_ble_eq_true rfl) (by decide) (by decide) ?_
    exact mw_iret dX9_thing_19 rfl (ers_im h) rfl rfl
  · have h := mie hc h
    refine mw_iload_n dX9_thing_7 2 rfl ?_
    obtain ⟨r5, e6, h⟩ := mbd h
    refine mv_callS_i (As := [.int a2]) lkS_RX9_109_yX9_isTime dX9_thing_8 (k_X9_isTime e6) rfl rfl (Nat.le_of_ble_eq_true rfl) (by decide) (by decide) ?_
    refine mw_if_ne (tgt := 20) dX9_thing_11 (by decide) (fun hc => ?_) (fun hc => ?_)
    · have h := mie hc h
      refine mw_aload_n dX9_thing_20 0 rfl ?_
      refine ev_getR (q := 1) fd_RX9_12_8 dX9_thing_21 rfl rfl rfl ?_
      refine ev_getI fd_RX9_148_0 dX9_thing_24 rfl rfl ?_
      refine mw_bipush (v := 12) dX9_thing_27 (by decide) ?_
      refine mw_icmp_lt (tgt := 38) dX9_thing_29 (by decide) (fun hc => ?_) (fun hc => ?_)
      · have h := mit hc h
        refine mw_aload_n dX9_thing_38 0 rfl ?_
        refine ev_getR (q := 1) fd_RX9_12_8 dX9_thing_39 rfl rfl rfl ?_
        refine mw_iload_n dX9_thing_42 1 rfl ?_
        refine mw_iload_n dX9_thing_43 2 rfl ?_
        obtain ⟨r7, e8, h⟩ := mbd h
        refine mv_callV_i (As := [.int a1, .int a2]) (ci := 0) lkV_RX9_151_yX1_newThing dX9_thing_44 (k_X1_newThing_1 e8) rfl rfl rfl rfl (Nat.le_of_ble_eq_true rfl) (by decide) (by decide) ?_
        exact mw_iret dX9_thing_47 rfl (ers_im h) rfl rfl
      · have h := mie hc h
        refine mw_aload_n dX9_thing_32 0 rfl ?_
        refine mw_iconst (v := 1) dX9_thing_33 (by decide) ?_
        obtain ⟨r9, e10, h⟩ := mbd h
        refine mv_callV_i (As := [.int (1 : Int32)]) (ci := 8) lkV_RX9_79_yX9_finding dX9_thing_34 (k_X9_finding e10) rfl rfl rfl rfl (Nat.le_of_ble_eq_true rfl) (by decide) (by decide) ?_
        exact mw_iret dX9_thing_37 rfl (ers_im h) rfl rfl
    · have h := mit hc h
      refine mw_aload_n dX9_thing_14 0 rfl ?_
      refine mw_iconst (v := 0) dX9_thing_15 (by decide) ?_
      obtain ⟨r11, e12, h⟩ := mbd h
      refine mv_callV_i (As := [.int (0 : Int32)]) (ci := 8) lkV_RX9_79_yX9_finding dX9_thing_16 (k_X9_finding e12) rfl rfl rfl rfl (Nat.le_of_ble_eq_true rfl) (by decide) (by decide) ?_
      exact mw_iret dX9_thing_19 rfl (ers_im h) rfl rfl

def e_X9_put_9 (a1 : Int32) (a2 : Int32) (σ : ES) : Option (Int32 × ES) := if mib a1 13 = true then (some ((eI σ 9 a1.toNatClampNeg), (uI σ 9 a1.toNatClampNeg a2))) else none
set_option maxRecDepth 100000 in
set_option maxHeartbeats 4000000 in
theorem k_X9_put_9 {l : Launch} {σ : ES} {a1 : Int32} {a2 : Int32} {out : (Int32 × ES)} (h : e_X9_put_9 a1 a2 σ = some out) : MK l yX9_put cX9_put 4 (some .int) 1 [.ref 9, .int a1, .int a2] (mkS σ) (some (.int out.1)) (mkS out.2) := by
  unfold e_X9_put_9 at h
  refine mw_entry (own := RX9) (ini := false) (L := [(0, .ref 9), (1, .int a1), (2, .int a2)]) (by decide +kernel) rfl (fun h => nomatch h) rfl (Nat.le_of_ble_eq_true rfl) (Nat.le_of_ble_eq_true rfl) (fun E => ?_)
  refine mw_aload_n dX9_put_0 0 rfl ?_
  refine mw_iload_n dX9_put_1 1 rfl ?_
  obtain ⟨m1, h⟩ := mif h
  refine ev_iald dX9_put_2 (by decide) rfl m1 ?_
  refine mw_istore_n (L' := [(3, .int (eI σ 9 a1.toNatClampNeg)), (0, .ref 9), (1, .int a1), (2, .int a2)]) dX9_put_3 rfl (by decide) rfl ?_
  refine mw_aload_n dX9_put_4 1 rfl ?_
  refine mw_iload_n dX9_put_5 2 rfl ?_
  refine mw_iload_n dX9_put_6 3 rfl ?_
  refine ev_iast dX9_put_7 (by decide) rfl m1 ?_
  refine mw_iload_n dX9_put_8 0 rfl ?_
  exact mw_iret dX9_put_9 rfl (ers_im h) rfl rfl

theorem dX1_isThingOrBase_0 : decode cX1_isThingOrBase 0 = .ok (.iload_n 1, 1) := by decide +kernel
theorem dX1_isThingOrBase_1 : decode cX1_isThingOrBase 1 = .ok (.iconst (-1), 1) := by decide +kernel
theorem dX1_isThingOrBase_2 : decode cX1_isThingOrBase 2 = .ok (.aload_n 0, 1) := by decide +kernel
theorem dX1_isThingOrBase_3 : decode cX1_isThingOrBase 3 = .ok (.getfield 47, 3) := by decide +kernel
theorem dX1_isThingOrBase_6 : decode cX1_isThingOrBase 6 = .ok (.iconst 1, 1) := by decide +kernel
theorem dX1_isThingOrBase_7 : decode cX1_isThingOrBase 7 = .ok (.isub, 1) := by decide +kernel
theorem dX1_isThingOrBase_8 : decode cX1_isThingOrBase 8 = .ok (.invokestatic 40, 3) := by decide +kernel
theorem dX1_isThingOrBase_11 : decode cX1_isThingOrBase 11 = .ok (.ireturn, 1) := by decide +kernel
def e_X1_isThingOrBase_1 (σ : ES) (a1 : Int32) : Option Int32 := (e_X9_within a1 (-1 : Int32) ((eI σ 1 9) - (1 : Int32))).bind (fun r1 => if r1 = 0 ∨ r1 = 1 then (some r1) else none)
set_option maxRecDepth 100000 in
set_option maxHeartbeats 4000000 in
theorem k_X1_isThingOrBase_1 {l : Launch} {σ : ES} {a1 : Int32} {out : Int32} (h : e_X1_isThingOrBase_1 σ a1 = some out) : MK l yX1_isThingOrBase cX1_isThingOrBase 2 (some .boolean) 2 [.ref 1, .int a1] (mkS σ) (some (.int out)) (mkS σ) := by
  unfold e_X1_isThingOrBase_1 at h
  refine mw_entry (own := RX1) (ini := false) (L := [(0, .ref 1), (1, .int a1)]) (by decide +kernel) rfl (fun h => nomatch h) rfl (Nat.le_of_ble_eq_true rfl) (Nat.le_of_ble_eq_true rfl) (fun E => ?_)
  refine mw_iload_n dX1_isThingOrBase_0 1 rfl ?_
  refine mw_iconst (v := -1) dX1_isThingOrBase_1 (by decide) ?_
  refine mw_aload_n dX1_isThingOrBase_2 0 rfl ?_
  refine ev_getI fd_RX1_47_0 dX1_isThingOrBase_3 rfl rfl ?_
  refine mw_iconst (v := 1) dX1_isThingOrBase_6 (by decide) ?_
  refine mw_isub dX1_isThingOrBase_7 ?_
  obtain ⟨r1, e2, h⟩ := mbd h
  refine mv_callSN_i (As := [.int a1, .int (-1 : Int32), .int ((eI σ 1 9) - (1 : Int32))]) lkN_RX1_40_yX9_within dX1_isThingOrBase_8 (k_X9_within e2) rfl rfl (Nat.le_of_ble_eq_true rfl) (by decide) (by decide) ?_
  obtain ⟨m3, h⟩ := mif h
  exact mw_zret dX1_isThingOrBase_11 rfl m3 (ers_i h) rfl rfl

def e_X9_put_8 (a1 : Int32) (a2 : Int32) (σ : ES) : Option (Int32 × ES) := if mib a1 13 = true then (some ((eI σ 8 a1.toNatClampNeg), (uI σ 8 a1.toNatClampNeg a2))) else none
set_option maxRecDepth 100000 in
set_option maxHeartbeats 4000000 in
theorem k_X9_put_8 {l : Launch} {σ : ES} {a1 : Int32} {a2 : Int32} {out : (Int32 × ES)} (h : e_X9_put_8 a1 a2 σ = some out) : MK l yX9_put cX9_put 4 (some .int) 1 [.ref 8, .int a1, .int a2] (mkS σ) (some (.int out.1)) (mkS out.2) := by
  unfold e_X9_put_8 at h
  refine mw_entry (own := RX9) (ini := false) (L := [(0, .ref 8), (1, .int a1), (2, .int a2)]) (by decide +kernel) rfl (fun h => nomatch h) rfl (Nat.le_of_ble_eq_true rfl) (Nat.le_of_ble_eq_true rfl) (fun E => ?_)
  refine mw_aload_n dX9_put_0 0 rfl ?_
  refine mw_iload_n dX9_put_1 1 rfl ?_
  obtain ⟨m1, h⟩ := mif h
  refine ev_iald dX9_put_2 (by decide) rfl m1 ?_
  refine mw_istore_n (L' := [(3, .int (eI σ 8 a1.toNatClampNeg)), (0, .ref 8), (1, .int a1), (2, .int a2)]) dX9_put_3 rfl (by decide) rfl ?_
  refine mw_aload_n dX9_put_4 1 rfl ?_
  refine mw_iload_n dX9_put_5 2 rfl ?_
  refine mw_iload_n dX9_put_6 3 rfl ?_
  refine ev_iast dX9_put_7 (by decide) rfl m1 ?_
  refine mw_iload_n dX9_put_8 0 rfl ?_
  exact mw_iret dX9_put_9 rfl (ers_im h) rfl rfl

theorem dX9_alter_0 : decode cX9_alter 0 = .ok (.aload_n 0, 1) := by decide +kernel
theorem dX9_alter_1 : decode cX9_alter 1 = .ok (.getfield 12, 3) := by decide +kernel
theorem dX9_alter_4 : decode cX9_alter 4 = .ok (.iload_n 1, 1) := by decide +kernel
theorem dX9_alter_5 : decode cX9_alter 5 = .ok (.invokevirtual 155, 3) := by decide +kernel
theorem dX9_alter_8 : decode cX9_alter 8 = .ok (.ifCond .ne 9, 3) := by decide +kernel
theorem dX9_alter_11 : decode cX9_alter 11 = .ok (.aload_n 0, 1) := by decide +kernel
theorem dX9_alter_12 : decode cX9_alter 12 = .ok (.iconst 0, 1) := by decide +kernel
theorem dX9_alter_13 : decode cX9_alter 13 = .ok (.invokevirtual 79, 3) := by decide +kernel
theorem dX9_alter_16 : decode cX9_alter 16 = .ok (.ireturn, 1) := by decide +kernel
theorem dX9_alter_17 : decode cX9_alter 17 = .ok (.iload_n 2, 1) := by decide +kernel
theorem dX9_alter_18 : decode cX9_alter 18 = .ok (.ifCond .ne 25, 3) := by decide +kernel
theorem dX9_alter_21 : decode cX9_alter 21 = .ok (.iload_n 3, 1) := by decide +kernel
theorem dX9_alter_22 : decode cX9_alter 22 = .ok (.invokestatic 106, 3) := by decide +kernel
theorem dX9_alter_25 : decode cX9_alter 25 = .ok (.ifCond .eq 18, 3) := by decide +kernel
theorem dX9_alter_28 : decode cX9_alter 28 = .ok (.aload_n 0, 1) := by decide +kernel
theorem dX9_alter_29 : decode cX9_alter 29 = .ok (.getfield 12, 3) := by decide +kernel
theorem dX9_alter_32 : decode cX9_alter 32 = .ok (.getfield 158, 3) := by decide +kernel
theorem dX9_alter_35 : decode cX9_alter 35 = .ok (.iload_n 1, 1) := by decide +kernel
theorem dX9_alter_36 : decode cX9_alter 36 = .ok (.iconst 1, 1) := by decide +kernel
theorem dX9_alter_37 : decode cX9_alter 37 = .ok (.iadd, 1) := by decide +kernel
theorem dX9_alter_38 : decode cX9_alter 38 = .ok (.iload_n 3, 1) := by decide +kernel
theorem dX9_alter_39 : decode cX9_alter 39 = .ok (.invokestatic 140, 3) := by decide +kernel
theorem dX9_alter_42 : decode cX9_alter 42 = .ok (.ireturn, 1) := by decide +kernel
theorem dX9_alter_43 : decode cX9_alter 43 = .ok (.iload_n 2, 1) := by decide +kernel
theorem dX9_alter_44 : decode cX9_alter 44 = .ok (.iconst 1, 1) := by decide +kernel
theorem dX9_alter_45 : decode cX9_alter 45 = .ok (.if_icmp .ne 25, 3) := by decide +kernel
theorem dX9_alter_48 : decode cX9_alter 48 = .ok (.iload_n 3, 1) := by decide +kernel
theorem dX9_alter_49 : decode cX9_alter 49 = .ok (.invokestatic 109, 3) := by decide +kernel
theorem dX9_alter_52 : decode cX9_alter 52 = .ok (.ifCond .eq 18, 3) := by decide +kernel
theorem dX9_alter_55 : decode cX9_alter 55 = .ok (.aload_n 0, 1) := by decide +kernel
theorem dX9_alter_56 : decode cX9_alter 56 = .ok (.getfield 12, 3) := by decide +kernel
theorem dX9_alter_59 : decode cX9_alter 59 = .ok (.getfield 161, 3) := by decide +kernel
theorem dX9_alter_62 : decode cX9_alter 62 = .ok (.iload_n 1, 1) := by decide +kernel
theorem dX9_alter_63 : decode cX9_alter 63 = .ok (.iconst 1, 1) := by decide +kernel
theorem dX9_alter_64 : decode cX9_alter 64 = .ok (.iadd, 1) := by decide +kernel
theorem dX9_alter_65 : decode cX9_alter 65 = .ok (.iload_n 3, 1) := by decide +kernel
theorem dX9_alter_66 : decode cX9_alter 66 = .ok (.invokestatic 140, 3) := by decide +kernel
theorem dX9_alter_69 : decode cX9_alter 69 = .ok (.ireturn, 1) := by decide +kernel
theorem dX9_alter_70 : decode cX9_alter 70 = .ok (.aload_n 0, 1) := by decide +kernel
theorem dX9_alter_71 : decode cX9_alter 71 = .ok (.iconst 0, 1) := by decide +kernel
theorem dX9_alter_72 : decode cX9_alter 72 = .ok (.invokevirtual 79, 3) := by decide +kernel
theorem dX9_alter_75 : decode cX9_alter 75 = .ok (.ireturn, 1) := by decide +kernel
def e_X9_alter_J43 (a1 : Int32) (a2 : Int32) (a3 : Int32) (σ : ES) : Option (Int32 × ES) := if a2 = (1 : Int32) then ((e_X9_isTime a3).bind (fun r3 => if r3 = 0 then ((e_X9_finding (0 : Int32) σ).bind (fun r5 => some (r5.1, r5.2))) else ((e_X9_put_9 (a1 + (1 : Int32)) a3 σ).bind (fun r7 => some (r7.1, r7.2))))) else ((e_X9_finding (0 : Int32) σ).bind (fun r1 => some (r1.1, r1.2)))
set_option maxRecDepth 100000 in
set_option maxHeartbeats 4000000 in
theorem p_X9_alter_J43 {l : Launch} {E : MX} {out : (Int32 × ES)} {a1 : Int32} {a2 : Int32} {a3 : Int32}  {σ : ES} (h : e_X9_alter_J43 a1 a2 a3 σ = some out) : MV l E cX9_alter RX9 4 (some .int) 3 (82, (some (.int out.1)), mkS out.2) (mkS σ) 43 [(0, .ref 0), (1, .int a1), (2, .int a2), (3, .int a3)] [] := by
  unfold e_X9_alter_J43 at h
  refine mw_iload_n dX9_alter_43 2 rfl ?_
  refine mw_iconst (v := 1) dX9_alter_44 (by decide) ?_
  refine mw_icmp_ne (tgt := 70) dX9_alter_45 (by decide) (fun hc => ?_) (fun hc => ?_)
  · have h := mie hc h
    refine mw_aload_n dX9_alter_70 0 rfl ?_
    refine mw_iconst (v := 0) dX9_alter_71 (by decide) ?_
    obtain ⟨r1, e2, h⟩ := mbd h
    refine mv_callV_i (As := [.int (0 : Int32)]) (ci := 8) lkV_RX9_79_yX9_finding dX9_alter_72 (k_X9_finding e2) rfl rfl rfl rfl (Nat.le_of_ble_eq_true rfl) (by decide) (by decide) ?_
    exact mw_iret dX9_alter_75 rfl (ers_im h) rfl rfl
  · have h := mit hc h
    refine mw_iload_n dX9_alter_48 3 rfl ?_
    obtain ⟨r3, e4, h⟩ := mbd h
    refine mv_callS_i (As := [.int a3]) lkS_RX9_109_yX9_isTime dX9_alter_49 (k_X9_isTime e4) rfl rfl (Nat.le_of_ble_eq_true rfl) (by decide) (by decide) ?_
    refine mw_if_eq (tgt := 70) dX9_alter_52 (by decide) (fun hc => ?_) (fun hc => ?_)
    · have h := mit hc h
      refine mw_aload_n dX9_alter_70 0 rfl ?_
      refine mw_iconst (v := 0) dX9_alter_71 (by decide) ?_
      obtain ⟨r5, e6, h⟩ := mbd h
      refine mv_callV_i (As := [.int (0 : Int32)]) (ci := 8) lkV_RX9_79_yX9_finding dX9_alter_72 (k_X9_finding e6) rfl rfl rfl rfl (Nat.le_of_ble_eq_true rfl) (by decide) (by decide) ?_
      exact mw_iret dX9_alter_75 rfl (ers_im h) rfl rfl
    · have h := mie hc h
      refine mw_aload_n dX9_alter_55 0 rfl ?_
      refine ev_getR (q := 1) fd_RX9_12_8 dX9_alter_56 rfl rfl rfl ?_
      refine ev_getR (q := 9) fd_RX9_161_0 dX9_alter_59 rfl rfl rfl ?_
      refine mw_iload_n dX9_alter_62 1 rfl ?_
      refine mw_iconst (v := 1) dX9_alter_63 (by decide) ?_
      refine mw_iadd dX9_alter_64 ?_
      refine mw_iload_n dX9_alter_65 3 rfl ?_
      obtain ⟨r7, e8, h⟩ := mbd h
      refine mv_callS_i (As := [.ref 9, .int (a1 + (1 : Int32)), .int a3]) lkS_RX9_140_yX9_put dX9_alter_66 (k_X9_put_9 e8) rfl rfl (Nat.le_of_ble_eq_true rfl) (by decide) (by decide) ?_
      exact mw_iret dX9_alter_69 rfl (ers_im h) rfl rfl
def e_X9_alter (a1 : Int32) (a2 : Int32) (a3 : Int32) (σ : ES) : Option (Int32 × ES) := (e_X1_isThingOrBase_1 σ a1).bind (fun r1 => if r1 = 0 then ((e_X9_finding (0 : Int32) σ).bind (fun r7 => some (r7.1, r7.2))) else (if a2 = 0 then ((e_X9_isGain a3).bind (fun r3 => if r3 = 0 then (e_X9_alter_J43 a1 a2 a3 σ) else ((e_X9_put_8 (a1 + (1 : Int32)) a3 σ).bind (fun r5 => some (r5.1, r5.2))))) else (e_X9_alter_J43 a1 a2 a3 σ)))
set_option maxRecDepth 100000 in
set_option maxHeartbeats 4000000 in
theorem k_X9_alter {l : Launch} {σ : ES} {a1 : Int32} {a2 : Int32} {a3 : Int32} {out : (Int32 × ES)} (h : e_X9_alter a1 a2 a3 σ = some out) : MK l yX9_alter cX9_alter 4 (some .int) 3 [.ref 0, .int a1, .int a2, .int a3] (mkS σ) (some (.int out.1)) (mkS out.2) := by
  unfold e_X9_alter at h
  refine mw_entry (own := RX9) (ini := false) (L := [(0, .ref 0), (1, .int a1), (2, .int a2), (3, .int a3)]) (by decide +kernel) rfl (fun h => nomatch h) rfl (Nat.le_of_ble_eq_true rfl) (Nat.le_of_ble_eq_true rfl) (fun E => ?_)
  refine mw_aload_n dX9_alter_0 0 rfl ?_
  refine ev_getR (q := 1) fd_RX9_12_8 dX9_alter_1 rfl rfl rfl ?_
  refine mw_iload_n dX9_alter_4 1 rfl ?_
  obtain ⟨r1, e2, h⟩ := mbd h
  refine mv_callV_i (As := [.int a1]) (ci := 0) lkV_RX9_155_yX1_isThingOrBase dX9_alter_5 (k_X1_isThingOrBase_1 e2) rfl rfl rfl rfl (Nat.le_of_ble_eq_true rfl) (by decide) (by decide) ?_
  refine mw_if_ne (tgt := 17) dX9_alter_8 (by decide) (fun hc => ?_) (fun hc => ?_)
  · have h := mie hc h
    refine mw_iload_n dX9_alter_17 2 rfl ?_
    refine mw_if_ne (tgt := 43) dX9_alter_18 (by decide) (fun hc => ?_) (fun hc => ?_)
    · have h := mie hc h
      exact mw_sub (L' := [(0, .ref 0), (1, .int a1), (2, .int a2), (3, .int a3)]) [0, 1, 2, 3] rfl (p_X9_alter_J43  h)
    · have h := mit hc h
      refine mw_iload_n dX9_alter_21 3 rfl ?_
      obtain ⟨r3, e4, h⟩ := mbd h
      refine mv_callS_i (As := [.int a3]) lkS_RX9_106_yX9_isGain dX9_alter_22 (k_X9_isGain e4) rfl rfl (Nat.le_of_ble_eq_true rfl) (by decide) (by decide) ?_
      refine mw_if_eq (tgt := 43) dX9_alter_25 (by decide) (fun hc => ?_) (fun hc => ?_)
      · have h := mit hc h
        exact mw_sub (L' := [(0, .ref 0), (1, .int a1), (2, .int a2), (3, .int a3)]) [0, 1, 2, 3] rfl (p_X9_alter_J43  h)
      · have h := mie hc h
        refine mw_aload_n dX9_alter_28 0 rfl ?_
        refine ev_getR (q := 1) fd_RX9_12_8 dX9_alter_29 rfl rfl rfl ?_
        refine ev_getR (q := 8) fd_RX9_158_0 dX9_alter_32 rfl rfl rfl ?_
        refine mw_iload_n dX9_alter_35 1 rfl ?_
        refine mw_iconst (v := 1) dX9_alter_36 (by decide) ?_
        refine mw_iadd dX9_alter_37 ?_
        refine mw_iload_n dX9_alter_38 3 rfl ?_
        obtain ⟨r5, e6, h⟩ := mbd h
        refine mv_callS_i (As := [.ref 8, .int (a1 + (1 : Int32)), .int a3]) lkS_RX9_140_yX9_put dX9_alter_39 (k_X9_put_8 e6) rfl rfl (Nat.le_of_ble_eq_true rfl) (by decide) (by decide) ?_
        exact mw_iret dX9_alter_42 rfl (ers_im h) rfl rfl
  · have h := mit hc h
    refine mw_aload_n dX9_alter_11 0 rfl ?_
    refine mw_iconst (v := 0) dX9_alter_12 (by decide) ?_
    obtain ⟨r7, e8, h⟩ := mbd h
    refine mv_callV_i (As := [.int (0 : Int32)]) (ci := 8) lkV_RX9_79_yX9_finding dX9_alter_13 (k_X9_finding e8) rfl rfl rfl rfl (Nat.le_of_ble_eq_true rfl) (by decide) (by decide) ?_
    exact mw_iret dX9_alter_16 rfl (ers_im h) rfl rfl

theorem dX9_its_0 : decode cX9_its 0 = .ok (.aload_n 0, 1) := by decide +kernel
theorem dX9_its_1 : decode cX9_its 1 = .ok (.getfield 12, 3) := by decide +kernel
theorem dX9_its_4 : decode cX9_its 4 = .ok (.iload_n 1, 1) := by decide +kernel
theorem dX9_its_5 : decode cX9_its 5 = .ok (.invokevirtual 155, 3) := by decide +kernel
theorem dX9_its_8 : decode cX9_its 8 = .ok (.ifCond .eq 12, 3) := by decide +kernel
theorem dX9_its_11 : decode cX9_its 11 = .ok (.iload_n 2, 1) := by decide +kernel
theorem dX9_its_12 : decode cX9_its 12 = .ok (.iconst 0, 1) := by decide +kernel
theorem dX9_its_13 : decode cX9_its 13 = .ok (.iconst 1, 1) := by decide +kernel
theorem dX9_its_14 : decode cX9_its 14 = .ok (.invokestatic 75, 3) := by decide +kernel
theorem dX9_its_17 : decode cX9_its 17 = .ok (.ifCond .ne 9, 3) := by decide +kernel
theorem dX9_its_20 : decode cX9_its 20 = .ok (.aload_n 0, 1) := by decide +kernel
theorem dX9_its_21 : decode cX9_its 21 = .ok (.iconst 0, 1) := by decide +kernel
theorem dX9_its_22 : decode cX9_its 22 = .ok (.invokevirtual 79, 3) := by decide +kernel
theorem dX9_its_25 : decode cX9_its 25 = .ok (.ireturn, 1) := by decide +kernel
theorem dX9_its_26 : decode cX9_its 26 = .ok (.iload_n 2, 1) := by decide +kernel
theorem dX9_its_27 : decode cX9_its 27 = .ok (.ifCond .ne 17, 3) := by decide +kernel
theorem dX9_its_30 : decode cX9_its 30 = .ok (.aload_n 0, 1) := by decide +kernel
theorem dX9_its_31 : decode cX9_its 31 = .ok (.getfield 12, 3) := by decide +kernel
theorem dX9_its_34 : decode cX9_its 34 = .ok (.getfield 158, 3) := by decide +kernel
theorem dX9_its_37 : decode cX9_its 37 = .ok (.iload_n 1, 1) := by decide +kernel
theorem dX9_its_38 : decode cX9_its 38 = .ok (.iconst 1, 1) := by decide +kernel
theorem dX9_its_39 : decode cX9_its 39 = .ok (.iadd, 1) := by decide +kernel
theorem dX9_its_40 : decode cX9_its 40 = .ok (.iaload, 1) := by decide +kernel
theorem dX9_its_41 : decode cX9_its 41 = .ok (.goto 14, 3) := by decide +kernel
theorem dX9_its_44 : decode cX9_its 44 = .ok (.aload_n 0, 1) := by decide +kernel
theorem dX9_its_45 : decode cX9_its 45 = .ok (.getfield 12, 3) := by decide +kernel
theorem dX9_its_48 : decode cX9_its 48 = .ok (.getfield 161, 3) := by decide +kernel
theorem dX9_its_51 : decode cX9_its 51 = .ok (.iload_n 1, 1) := by decide +kernel
theorem dX9_its_52 : decode cX9_its 52 = .ok (.iconst 1, 1) := by decide +kernel
theorem dX9_its_53 : decode cX9_its 53 = .ok (.iadd, 1) := by decide +kernel
theorem dX9_its_54 : decode cX9_its 54 = .ok (.iaload, 1) := by decide +kernel
theorem dX9_its_55 : decode cX9_its 55 = .ok (.ireturn, 1) := by decide +kernel
def e_X9_its (a1 : Int32) (a2 : Int32) (σ : ES) : Option (Int32 × ES) := (e_X1_isThingOrBase_1 σ a1).bind (fun r1 => if r1 = 0 then ((e_X9_finding (0 : Int32) σ).bind (fun r3 => some (r3.1, r3.2))) else ((e_X9_within a2 (0 : Int32) (1 : Int32)).bind (fun r5 => if r5 = 0 then ((e_X9_finding (0 : Int32) σ).bind (fun r9 => some (r9.1, r9.2))) else (if a2 = 0 then (if mib (a1 + (1 : Int32)) 13 = true then (some ((eI σ 8 (a1 + (1 : Int32)).toNatClampNeg), σ)) else none) else (if mib (a1 + (1 : Int32)) 13 = true then (some ((eI σ 9 (a1 + (1 : Int32)).toNatClampNeg), σ)) else none)))))
set_option maxRecDepth 100000 in
set_option maxHeartbeats 4000000 in
theorem k_X9_its {l : Launch} {σ : ES} {a1 : Int32} {a2 : Int32} {out : (Int32 × ES)} (h : e_X9_its a1 a2 σ = some out) : MK l yX9_its cX9_its 3 (some .int) 3 [.ref 0, .int a1, .int a2] (mkS σ) (some (.int out.1)) (mkS out.2) := by
  unfold e_X9_its at h
  refine mw_entry (own := RX9) (ini := false) (L := [(0, .ref 0), (1, .int a1), (2, .int a2)]) (by decide +kernel) rfl (fun h => nomatch h) rfl (Nat.le_of_ble_eq_true rfl) (Nat.le_of_ble_eq_true rfl) (fun E => ?_)
  refine mw_aload_n dX9_its_0 0 rfl ?_
  refine ev_getR (q := 1) fd_RX9_12_8 dX9_its_1 rfl rfl rfl ?_
  refine mw_iload_n dX9_its_4 1 rfl ?_
  obtain ⟨r1, e2, h⟩ := mbd h
  refine mv_callV_i (As := [.int a1]) (ci := 0) lkV_RX9_155_yX1_isThingOrBase dX9_its_5 (k_X1_isThingOrBase_1 e2) rfl rfl rfl rfl (Nat.le_of_ble_eq_true rfl) (by decide) (by decide) ?_
  refine mw_if_eq (tgt := 20) dX9_its_8 (by decide) (fun hc => ?_) (fun hc => ?_)
  · have h := mit hc h
    refine mw_aload_n dX9_its_20 0 rfl ?_
    refine mw_iconst (v := 0) dX9_its_21 (by decide) ?_
    obtain ⟨r3, e4, h⟩ := mbd h
    refine mv_callV_i (As := [.int (0 : Int32)]) (ci := 8) lkV_RX9_79_yX9_finding dX9_its_22 (k_X9_finding e4) rfl rfl rfl rfl (Nat.le_of_ble_eq_true rfl) (by decide) (by decide) ?_
    exact mw_iret dX9_its_25 rfl (ers_im h) rfl rfl
  · have h := mie hc h
    refine mw_iload_n dX9_its_11 2 rfl ?_
    refine mw_iconst (v := 0) dX9_its_12 (by decide) ?_
    refine mw_iconst (v := 1) dX9_its_13 (by decide) ?_
    obtain ⟨r5, e6, h⟩ := mbd h
    refine mv_callS_i (As := [.int a2, .int (0 : Int32), .int (1 : Int32)]) lkS_RX9_75_yX9_within dX9_its_14 (k_X9_within e6) rfl rfl (Nat.le_of_ble_eq_true rfl) (by decide) (by decide) ?_
    refine mw_if_ne (tgt := 26) dX9_its_17 (by decide) (fun hc => ?_) (fun hc => ?_)
    · have h := mie hc h
      refine mw_iload_n dX9_its_26 2 rfl ?_
      refine mw_if_ne (tgt := 44) dX9_its_27 (by decide) (fun hc => ?_) (fun hc => ?_)
      · have h := mie hc h
        refine mw_aload_n dX9_its_44 0 rfl ?_
        refine ev_getR (q := 1) fd_RX9_12_8 dX9_its_45 rfl rfl rfl ?_
        refine ev_getR (q := 9) fd_RX9_161_0 dX9_its_48 rfl rfl rfl ?_
        refine mw_iload_n dX9_its_51 1 rfl ?_
        refine mw_iconst (v := 1) dX9_its_52 (by decide) ?_
        refine mw_iadd dX9_its_53 ?_
        obtain ⟨m7, h⟩ := mif h
        refine ev_iald dX9_its_54 (by decide) rfl m7 ?_
        exact mw_iret dX9_its_55 rfl (ers_im h) rfl rfl
      · have h := mit hc h
        refine mw_aload_n dX9_its_30 0 rfl ?_
        refine ev_getR (q := 1) fd_RX9_12_8 dX9_its_31 rfl rfl rfl ?_
        refine ev_getR (q := 8) fd_RX9_158_0 dX9_its_34 rfl rfl rfl ?_
        refine mw_iload_n dX9_its_37 1 rfl ?_
        refine mw_iconst (v := 1) dX9_its_38 (by decide) ?_
        refine mw_iadd dX9_its_39 ?_
        obtain ⟨m8, h⟩ := mif h
        refine ev_iald dX9_its_40 (by decide) rfl m8 ?_
        refine mw_goto (tgt := 55) dX9_its_41 (by decide) ?_
        exact mw_iret dX9_its_55 rfl (ers_im h) rfl rfl
    · have h := mit hc h
      refine mw_aload_n dX9_its_20 0 rfl ?_
      refine mw_iconst (v := 0) dX9_its_21 (by decide) ?_
      obtain ⟨r9, e10, h⟩ := mbd h
      refine mv_callV_i (As := [.int (0 : Int32)]) (ci := 8) lkV_RX9_79_yX9_finding dX9_its_22 (k_X9_finding e10) rfl rfl rfl rfl (Nat.le_of_ble_eq_true rfl) (by decide) (by decide) ?_
      exact mw_iret dX9_its_25 rfl (ers_im h) rfl rfl

theorem dX4_keep_0 : decode cX4_keep 0 = .ok (.aload_n 0, 1) := by decide +kernel
theorem dX4_keep_1 : decode cX4_keep 1 = .ok (.getfield 44, 3) := by decide +kernel
theorem dX4_keep_4 : decode cX4_keep 4 = .ok (.sipush 1296, 3) := by decide +kernel
theorem dX4_keep_7 : decode cX4_keep 7 = .ok (.if_icmp .ge 44, 3) := by decide +kernel
theorem dX4_keep_10 : decode cX4_keep 10 = .ok (.aload_n 0, 1) := by decide +kernel
theorem dX4_keep_11 : decode cX4_keep 11 = .ok (.getfield 9, 3) := by decide +kernel
theorem dX4_keep_14 : decode cX4_keep 14 = .ok (.aload_n 0, 1) := by decide +kernel
theorem dX4_keep_15 : decode cX4_keep 15 = .ok (.getfield 44, 3) := by decide +kernel
theorem dX4_keep_18 : decode cX4_keep 18 = .ok (.iload_n 1, 1) := by decide +kernel
theorem dX4_keep_19 : decode cX4_keep 19 = .ok (.iastore, 1) := by decide +kernel
theorem dX4_keep_20 : decode cX4_keep 20 = .ok (.aload_n 0, 1) := by decide +kernel
theorem dX4_keep_21 : decode cX4_keep 21 = .ok (.getfield 15, 3) := by decide +kernel
theorem dX4_keep_24 : decode cX4_keep 24 = .ok (.aload_n 0, 1) := by decide +kernel
theorem dX4_keep_25 : decode cX4_keep 25 = .ok (.getfield 44, 3) := by decide +kernel
theorem dX4_keep_28 : decode cX4_keep 28 = .ok (.lload_n 2, 1) := by decide +kernel
theorem dX4_keep_29 : decode cX4_keep 29 = .ok (.lastore, 1) := by decide +kernel
theorem dX4_keep_30 : decode cX4_keep 30 = .ok (.aload_n 0, 1) := by decide +kernel
theorem dX4_keep_31 : decode cX4_keep 31 = .ok (.getfield 19, 3) := by decide +kernel
theorem dX4_keep_34 : decode cX4_keep 34 = .ok (.aload_n 0, 1) := by decide +kernel
theorem dX4_keep_35 : decode cX4_keep 35 = .ok (.getfield 44, 3) := by decide +kernel
theorem dX4_keep_38 : decode cX4_keep 38 = .ok (.lload 4, 2) := by decide +kernel
theorem dX4_keep_40 : decode cX4_keep 40 = .ok (.lastore, 1) := by decide +kernel
theorem dX4_keep_41 : decode cX4_keep 41 = .ok (.aload_n 0, 1) := by decide +kernel
theorem dX4_keep_42 : decode cX4_keep 42 = .ok (.dup, 1) := by decide +kernel
theorem dX4_keep_43 : decode cX4_keep 43 = .ok (.getfield 44, 3) := by decide +kernel
theorem dX4_keep_46 : decode cX4_keep 46 = .ok (.iconst 1, 1) := by decide +kernel
theorem dX4_keep_47 : decode cX4_keep 47 = .ok (.iadd, 1) := by decide +kernel
theorem dX4_keep_48 : decode cX4_keep 48 = .ok (.putfield 44, 3) := by decide +kernel
theorem dX4_keep_51 : decode cX4_keep 51 = .ok (.return_, 1) := by decide +kernel
def e_X4_keep (a1 : Int32) (a2 : Int64) (a4 : Int64) (σ : ES) : Option ES := if (1296 : Int32) ≤ (eI σ 28 0) then (some σ) else (if mib (eI σ 28 0) 1296 = true then (if mib (eI (uI σ 29 (eI σ 28 0).toNatClampNeg a1) 28 0) 1296 = true then (if mib (eI (uL (uI σ 29 (eI σ 28 0).toNatClampNeg a1) 30 (eI (uI σ 29 (eI σ 28 0).toNatClampNeg a1) 28 0).toNatClampNeg a2) 28 0) 1296 = true then (some (uI (uL (uL (uI σ 29 (eI σ 28 0).toNatClampNeg a1) 30 (eI (uI σ 29 (eI σ 28 0).toNatClampNeg a1) 28 0).toNatClampNeg a2) 31 (eI (uL (uI σ 29 (eI σ 28 0).toNatClampNeg a1) 30 (eI (uI σ 29 (eI σ 28 0).toNatClampNeg a1) 28 0).toNatClampNeg a2) 28 0).toNatClampNeg a4) 28 0 ((eI (uL (uL (uI σ 29 (eI σ 28 0).toNatClampNeg a1) 30 (eI (uI σ 29 (eI σ 28 0).toNatClampNeg a1) 28 0).toNatClampNeg a2) 31 (eI (uL (uI σ 29 (eI σ 28 0).toNatClampNeg a1) 30 (eI (uI σ 29 (eI σ 28 0).toNatClampNeg a1) 28 0).toNatClampNeg a2) 28 0).toNatClampNeg a4) 28 0) + (1 : Int32)))) else none) else none) else none)
set_option maxRecDepth 100000 in
set_option maxHeartbeats 4000000 in
theorem k_X4_keep {l : Launch} {σ : ES} {a1 : Int32} {a2 : Int64} {a4 : Int64} {out : ES} (h : e_X4_keep a1 a2 a4 σ = some out) : MK l yX4_keep cX4_keep 6 none 1 [.ref 28, .int a1, .long a2, .long a4] (mkS σ) none (mkS out) := by
  unfold e_X4_keep at h
  refine mw_entry (own := RX4) (ini := false) (L := [(0, .ref 28), (1, .int a1), (2, .long a2), (4, .long a4)]) (by decide +kernel) rfl (fun h => nomatch h) rfl (Nat.le_of_ble_eq_true rfl) (Nat.le_of_ble_eq_true rfl) (fun E => ?_)
  refine mw_aload_n dX4_keep_0 0 rfl ?_
  refine ev_getI fd_RX4_44_3 dX4_keep_1 rfl rfl ?_
  refine mw_sipush (v := 1296) dX4_keep_4 (by decide) ?_
  refine mw_icmp_ge (tgt := 51) dX4_keep_7 (by decide) (fun hc => ?_) (fun hc => ?_)
  · have h := mit hc h
    exact mw_vret dX4_keep_51 rfl (ers_vm h) rfl rfl
  · have h := mie hc h
    refine mw_aload_n dX4_keep_10 0 rfl ?_
    refine ev_getR (q := 29) fd_RX4_9_3 dX4_keep_11 rfl rfl rfl ?_
    refine mw_aload_n dX4_keep_14 0 rfl ?_
    refine ev_getI fd_RX4_44_3 dX4_keep_15 rfl rfl ?_
    refine mw_iload_n dX4_keep_18 1 rfl ?_
    obtain ⟨m1, h⟩ := mif h
    refine ev_iast dX4_keep_19 (by decide) rfl m1 ?_
    refine mw_aload_n dX4_keep_20 0 rfl ?_
    refine ev_getR (q := 30) fd_RX4_15_3 dX4_keep_21 rfl rfl rfl ?_
    refine mw_aload_n dX4_keep_24 0 rfl ?_
    refine ev_getI fd_RX4_44_3 dX4_keep_25 rfl rfl ?_
    refine mw_lload_n dX4_keep_28 2 rfl ?_
    obtain ⟨m2, h⟩ := mif h
    refine ev_last dX4_keep_29 (by decide) rfl m2 ?_
    refine mw_aload_n dX4_keep_30 0 rfl ?_
    refine ev_getR (q := 31) fd_RX4_19_3 dX4_keep_31 rfl rfl rfl ?_
    refine mw_aload_n dX4_keep_34 0 rfl ?_
    refine ev_getI fd_RX4_44_3 dX4_keep_35 rfl rfl ?_
    refine mw_lload dX4_keep_38 3 rfl ?_
    obtain ⟨m3, h⟩ := mif h
    refine ev_last dX4_keep_40 (by decide) rfl m3 ?_
    refine mw_aload_n dX4_keep_41 0 rfl ?_
    refine mw_dup dX4_keep_42 rfl ?_
    refine ev_getI fd_RX4_44_3 dX4_keep_43 rfl rfl ?_
    refine mw_iconst (v := 1) dX4_keep_46 (by decide) ?_
    refine mw_iadd dX4_keep_47 ?_
    refine ev_putI fw_RX4_44_3 dX4_keep_48 rfl rfl ?_
    exact mw_vret dX4_keep_51 rfl (ers_vm h) rfl rfl

theorem dX4_goOn_0 : decode cX4_goOn 0 = .ok (.iconst 0, 1) := by decide +kernel
theorem dX4_goOn_1 : decode cX4_goOn 1 = .ok (.istore 9, 2) := by decide +kernel
theorem dX4_goOn_3 : decode cX4_goOn 3 = .ok (.iload 9, 2) := by decide +kernel
theorem dX4_goOn_5 : decode cX4_goOn 5 = .ok (.aload_n 0, 1) := by decide +kernel
theorem dX4_goOn_6 : decode cX4_goOn 6 = .ok (.getfield 29, 3) := by decide +kernel
theorem dX4_goOn_9 : decode cX4_goOn 9 = .ok (.iload_n 2, 1) := by decide +kernel
theorem dX4_goOn_10 : decode cX4_goOn 10 = .ok (.iaload, 1) := by decide +kernel
theorem dX4_goOn_11 : decode cX4_goOn 11 = .ok (.if_icmp .ge 126, 3) := by decide +kernel
theorem dX4_goOn_14 : decode cX4_goOn 14 = .ok (.aload_n 0, 1) := by decide +kernel
theorem dX4_goOn_15 : decode cX4_goOn 15 = .ok (.getfield 32, 3) := by decide +kernel
theorem dX4_goOn_18 : decode cX4_goOn 18 = .ok (.iload_n 2, 1) := by decide +kernel
theorem dX4_goOn_19 : decode cX4_goOn 19 = .ok (.bipush 14, 2) := by decide +kernel
theorem dX4_goOn_21 : decode cX4_goOn 21 = .ok (.imul, 1) := by decide +kernel
theorem dX4_goOn_22 : decode cX4_goOn 22 = .ok (.iload 9, 2) := by decide +kernel
theorem dX4_goOn_24 : decode cX4_goOn 24 = .ok (.iadd, 1) := by decide +kernel
theorem dX4_goOn_25 : decode cX4_goOn 25 = .ok (.iaload, 1) := by decide +kernel
theorem dX4_goOn_26 : decode cX4_goOn 26 = .ok (.istore 10, 2) := by decide +kernel
theorem dX4_goOn_28 : decode cX4_goOn 28 = .ok (.aload_n 0, 1) := by decide +kernel
theorem dX4_goOn_29 : decode cX4_goOn 29 = .ok (.getfield 35, 3) := by decide +kernel
theorem dX4_goOn_32 : decode cX4_goOn 32 = .ok (.iload 10, 2) := by decide +kernel
theorem dX4_goOn_34 : decode cX4_goOn 34 = .ok (.iaload, 1) := by decide +kernel
theorem dX4_goOn_35 : decode cX4_goOn 35 = .ok (.istore 11, 2) := by decide +kernel
theorem dX4_goOn_37 : decode cX4_goOn 37 = .ok (.iload 4, 2) := by decide +kernel
theorem dX4_goOn_39 : decode cX4_goOn 39 = .ok (.iconst 1, 1) := by decide +kernel
theorem dX4_goOn_40 : decode cX4_goOn 40 = .ok (.iload 10, 2) := by decide +kernel
theorem dX4_goOn_42 : decode cX4_goOn 42 = .ok (.ishl, 1) := by decide +kernel
theorem dX4_goOn_43 : decode cX4_goOn 43 = .ok (.ior, 1) := by decide +kernel
theorem dX4_goOn_44 : decode cX4_goOn 44 = .ok (.istore 12, 2) := by decide +kernel
theorem dX4_goOn_46 : decode cX4_goOn 46 = .ok (.iload 11, 2) := by decide +kernel
theorem dX4_goOn_48 : decode cX4_goOn 48 = .ok (.iload_n 1, 1) := by decide +kernel
theorem dX4_goOn_49 : decode cX4_goOn 49 = .ok (.if_icmp .ne 32, 3) := by decide +kernel
theorem dX4_goOn_52 : decode cX4_goOn 52 = .ok (.aload_n 0, 1) := by decide +kernel
theorem dX4_goOn_53 : decode cX4_goOn 53 = .ok (.iload 12, 2) := by decide +kernel
theorem dX4_goOn_55 : decode cX4_goOn 55 = .ok (.lload 5, 2) := by decide +kernel
theorem dX4_goOn_57 : decode cX4_goOn 57 = .ok (.aload_n 0, 1) := by decide +kernel
theorem dX4_goOn_58 : decode cX4_goOn 58 = .ok (.getfield 38, 3) := by decide +kernel
theorem dX4_goOn_61 : decode cX4_goOn 61 = .ok (.iload 10, 2) := by decide +kernel
theorem dX4_goOn_63 : decode cX4_goOn 63 = .ok (.laload, 1) := by decide +kernel
theorem dX4_goOn_64 : decode cX4_goOn 64 = .ok (.ladd, 1) := by decide +kernel
theorem dX4_goOn_65 : decode cX4_goOn 65 = .ok (.lload 7, 2) := by decide +kernel
theorem dX4_goOn_67 : decode cX4_goOn 67 = .ok (.aload_n 0, 1) := by decide +kernel
theorem dX4_goOn_68 : decode cX4_goOn 68 = .ok (.getfield 41, 3) := by decide +kernel
theorem dX4_goOn_71 : decode cX4_goOn 71 = .ok (.iload 10, 2) := by decide +kernel
theorem dX4_goOn_73 : decode cX4_goOn 73 = .ok (.laload, 1) := by decide +kernel
theorem dX4_goOn_74 : decode cX4_goOn 74 = .ok (.ladd, 1) := by decide +kernel
theorem dX4_goOn_75 : decode cX4_goOn 75 = .ok (.invokevirtual 74, 3) := by decide +kernel
theorem dX4_goOn_78 : decode cX4_goOn 78 = .ok (.goto 53, 3) := by decide +kernel
theorem dX4_goOn_81 : decode cX4_goOn 81 = .ok (.iload 11, 2) := by decide +kernel
theorem dX4_goOn_83 : decode cX4_goOn 83 = .ok (.iload_n 1, 1) := by decide +kernel
theorem dX4_goOn_84 : decode cX4_goOn 84 = .ok (.if_icmp .le 47, 3) := by decide +kernel
theorem dX4_goOn_87 : decode cX4_goOn 87 = .ok (.iload_n 3, 1) := by decide +kernel
theorem dX4_goOn_88 : decode cX4_goOn 88 = .ok (.iconst 1, 1) := by decide +kernel
theorem dX4_goOn_89 : decode cX4_goOn 89 = .ok (.iload 11, 2) := by decide +kernel
theorem dX4_goOn_91 : decode cX4_goOn 91 = .ok (.ishl, 1) := by decide +kernel
theorem dX4_goOn_92 : decode cX4_goOn 92 = .ok (.iand, 1) := by decide +kernel
theorem dX4_goOn_93 : decode cX4_goOn 93 = .ok (.ifCond .ne 38, 3) := by decide +kernel
theorem dX4_goOn_96 : decode cX4_goOn 96 = .ok (.aload_n 0, 1) := by decide +kernel
theorem dX4_goOn_97 : decode cX4_goOn 97 = .ok (.iload_n 1, 1) := by decide +kernel
theorem dX4_goOn_98 : decode cX4_goOn 98 = .ok (.iload 11, 2) := by decide +kernel
theorem dX4_goOn_100 : decode cX4_goOn 100 = .ok (.iload_n 3, 1) := by decide +kernel
theorem dX4_goOn_101 : decode cX4_goOn 101 = .ok (.iconst 1, 1) := by decide +kernel
theorem dX4_goOn_102 : decode cX4_goOn 102 = .ok (.iload 11, 2) := by decide +kernel
theorem dX4_goOn_104 : decode cX4_goOn 104 = .ok (.ishl, 1) := by decide +kernel
theorem dX4_goOn_105 : decode cX4_goOn 105 = .ok (.ior, 1) := by decide +kernel
theorem dX4_goOn_106 : decode cX4_goOn 106 = .ok (.iload 12, 2) := by decide +kernel
theorem dX4_goOn_108 : decode cX4_goOn 108 = .ok (.lload 5, 2) := by decide +kernel
theorem dX4_goOn_110 : decode cX4_goOn 110 = .ok (.aload_n 0, 1) := by decide +kernel
theorem dX4_goOn_111 : decode cX4_goOn 111 = .ok (.getfield 38, 3) := by decide +kernel
theorem dX4_goOn_114 : decode cX4_goOn 114 = .ok (.iload 10, 2) := by decide +kernel
theorem dX4_goOn_116 : decode cX4_goOn 116 = .ok (.laload, 1) := by decide +kernel
theorem dX4_goOn_117 : decode cX4_goOn 117 = .ok (.ladd, 1) := by decide +kernel
theorem dX4_goOn_118 : decode cX4_goOn 118 = .ok (.lload 7, 2) := by decide +kernel
theorem dX4_goOn_120 : decode cX4_goOn 120 = .ok (.aload_n 0, 1) := by decide +kernel
theorem dX4_goOn_121 : decode cX4_goOn 121 = .ok (.getfield 41, 3) := by decide +kernel
theorem dX4_goOn_124 : decode cX4_goOn 124 = .ok (.iload 10, 2) := by decide +kernel
theorem dX4_goOn_126 : decode cX4_goOn 126 = .ok (.laload, 1) := by decide +kernel
theorem dX4_goOn_127 : decode cX4_goOn 127 = .ok (.ladd, 1) := by decide +kernel
theorem dX4_goOn_128 : decode cX4_goOn 128 = .ok (.invokevirtual 70, 3) := by decide +kernel
theorem dX4_goOn_131 : decode cX4_goOn 131 = .ok (.iinc 9 1, 3) := by decide +kernel
theorem dX4_goOn_134 : decode cX4_goOn 134 = .ok (.goto (-131), 3) := by decide +kernel
theorem dX4_goOn_137 : decode cX4_goOn 137 = .ok (.return_, 1) := by decide +kernel
def e_X4_goOn_L3 (g0 : Int32 → Int32 → Int32 → Int32 → Int64 → Int64 → ES → Option ES) (a1 : Int32) (a2 : Int32) (a3 : Int32) (a4 : Int32) (a5 : Int64) (a7 : Int64) : Nat → Int32 → ES → Option ES
  | 0, _, _ => none
  | n + 1, x9, σ => if mib a2 6 = true then (if (eI σ 34 a2.toNatClampNeg) ≤ x9 then (some σ) else (if mib ((a2 * (14 : Int32)) + x9) 84 = true then (if mib (eI σ 35 ((a2 * (14 : Int32)) + x9).toNatClampNeg) 14 = true then (if (eI σ 36 (eI σ 35 ((a2 * (14 : Int32)) + x9).toNatClampNeg).toNatClampNeg) = a1 then ((e_X4_keep (a4 ||| ((1 : Int32) <<< ((eI σ 35 ((a2 * (14 : Int32)) + x9).toNatClampNeg) &&& 31))) (a5 + (eL σ 37 (eI σ 35 ((a2 * (14 : Int32)) + x9).toNatClampNeg).toNatClampNeg)) (a7 + (eL σ 38 (eI σ 35 ((a2 * (14 : Int32)) + x9).toNatClampNeg).toNatClampNeg)) σ).bind (fun r6 => e_X4_goOn_L3 g0 a1 a2 a3 a4 a5 a7 n (x9 + 1) r6)) else (if (eI σ 36 (eI σ 35 ((a2 * (14 : Int32)) + x9).toNatClampNeg).toNatClampNeg) ≤ a1 then (e_X4_goOn_L3 g0 a1 a2 a3 a4 a5 a7 n (x9 + 1) σ) else (if (a3 &&& ((1 : Int32) <<< ((eI σ 36 (eI σ 35 ((a2 * (14 : Int32)) + x9).toNatClampNeg).toNatClampNeg) &&& 31))) = 0 then ((g0 a1 (eI σ 36 (eI σ 35 ((a2 * (14 : Int32)) + x9).toNatClampNeg).toNatClampNeg) (a3 ||| ((1 : Int32) <<< ((eI σ 36 (eI σ 35 ((a2 * (14 : Int32)) + x9).toNatClampNeg).toNatClampNeg) &&& 31))) (a4 ||| ((1 : Int32) <<< ((eI σ 35 ((a2 * (14 : Int32)) + x9).toNatClampNeg) &&& 31))) (a5 + (eL σ 37 (eI σ 35 ((a2 * (14 : Int32)) + x9).toNatClampNeg).toNatClampNeg)) (a7 + (eL σ 38 (eI σ 35 ((a2 * (14 : Int32)) + x9).toNatClampNeg).toNatClampNeg)) σ).bind (fun r4 => e_X4_goOn_L3 g0 a1 a2 a3 a4 a5 a7 n (x9 + 1) r4)) else (e_X4_goOn_L3 g0 a1 a2 a3 a4 a5 a7 n (x9 + 1) σ)))) else none) else none)) else none
set_option maxRecDepth 100000 in
set_option maxHeartbeats 4000000 in
theorem p_X4_goOn_L3 {l : Launch} {E : MX} {out : ES} {g0 : Int32 → Int32 → Int32 → Int32 → Int64 → Int64 → ES → Option ES} {a1 : Int32} {a2 : Int32} {a3 : Int32} {a4 : Int32} {a5 : Int64} {a7 : Int64} {d : Nat} (IH : ∀ (τ : ES) (b1 : Int32) (b2 : Int32) (b3 : Int32) (b4 : Int32) (b5 : Int64) (b7 : Int64) (r : ES), g0 b1 b2 b3 b4 b5 b7 τ = some r → MK l yX4_goOn cX4_goOn 13 none (2 + d) [.ref 28, .int b1, .int b2, .int b3, .int b4, .long b5, .long b7] (mkS τ) none (mkS r))  : ∀ (n : Nat) (x9 : Int32) (σ : ES), e_X4_goOn_L3 g0 a1 a2 a3 a4 a5 a7 n x9 σ = some out → MV l E cX4_goOn RX4 13 none (2 + (d + 1)) (82, none, mkS out) (mkS σ) 3 [(0, .ref 28), (1, .int a1), (2, .int a2), (3, .int a3), (4, .int a4), (5, .long a5), (7, .long a7), (9, .int x9)] [] := by
  intro n
  induction n with
  | zero =>
    intro x9 σ h
    exact nomatch h
  | succ n ih =>
    intro x9 σ h
    rw [e_X4_goOn_L3] at h
    refine mw_iload dX4_goOn_3 7 rfl ?_
    refine mw_aload_n dX4_goOn_5 0 rfl ?_
    refine ev_getR (q := 34) fd_RX4_29_3 dX4_goOn_6 rfl rfl rfl ?_
    refine mw_iload_n dX4_goOn_9 2 rfl ?_
    obtain ⟨m1, h⟩ := mif h
    refine ev_iald dX4_goOn_10 (by decide) rfl m1 ?_
    refine mw_icmp_ge (tgt := 137) dX4_goOn_11 (by decide) (fun hc => ?_) (fun hc => ?_)
    · have h := mit hc h
      exact mw_vret dX4_goOn_137 rfl (ers_vm h) rfl rfl
    · have h := mie hc h
      refine mw_aload_n dX4_goOn_14 0 rfl ?_
      refine ev_getR (q := 35) fd_RX4_32_3 dX4_goOn_15 rfl rfl rfl ?_
      refine mw_iload_n dX4_goOn_18 2 rfl ?_
      refine mw_bipush (v := 14) dX4_goOn_19 (by decide) ?_
      refine mw_imul dX4_goOn_21 ?_
      refine mw_iload dX4_goOn_22 7 rfl ?_
      refine mw_iadd dX4_goOn_24 ?_
      obtain ⟨m2, h⟩ := mif h
      refine ev_iald dX4_goOn_25 (by decide) rfl m2 ?_
      refine mw_istore (L' := [(10, .int (eI σ 35 ((a2 * (14 : Int32)) + x9).toNatClampNeg)), (0, .ref 28), (1, .int a1), (2, .int a2), (3, .int a3), (4, .int a4), (5, .long a5), (7, .long a7), (9, .int x9)]) dX4_goOn_26 (by decide) rfl ?_
      refine mw_aload_n dX4_goOn_28 1 rfl ?_
      refine ev_getR (q := 36) fd_RX4_35_3 dX4_goOn_29 rfl rfl rfl ?_
      refine mw_iload dX4_goOn_32 0 rfl ?_
      obtain ⟨m3, h⟩ := mif h
      refine ev_iald dX4_goOn_34 (by decide) rfl m3 ?_
      refine mw_istore (L' := [(11, .int (eI σ 36 (eI σ 35 ((a2 * (14 : Int32)) + x9).toNatClampNeg).toNatClampNeg)), (10, .int (eI σ 35 ((a2 * (14 : Int32)) + x9).toNatClampNeg)), (0, .ref 28), (1, .int a1), (2, .int a2), (3, .int a3), (4, .int a4), (5, .long a5), (7, .long a7), (9, .int x9)]) dX4_goOn_35 (by decide) rfl ?_
      refine mw_iload dX4_goOn_37 6 rfl ?_
      refine mw_iconst (v := 1) dX4_goOn_39 (by decide) ?_
      refine mw_iload dX4_goOn_40 1 rfl ?_
      refine mw_ishl dX4_goOn_42 ?_
      refine mw_ior dX4_goOn_43 ?_
      refine mw_istore (L' := [(12, .int (a4 ||| ((1 : Int32) <<< ((eI σ 35 ((a2 * (14 : Int32)) + x9).toNatClampNeg) &&& 31)))), (11, .int (eI σ 36 (eI σ 35 ((a2 * (14 : Int32)) + x9).toNatClampNeg).toNatClampNeg)), (10, .int (eI σ 35 ((a2 * (14 : Int32)) + x9).toNatClampNeg)), (0, .ref 28), (1, .int a1), (2, .int a2), (3, .int a3), (4, .int a4), (5, .long a5), (7, .long a7), (9, .int x9)]) dX4_goOn_44 (by decide) rfl ?_
      refine mw_iload dX4_goOn_46 1 rfl ?_
      refine mw_iload_n dX4_goOn_48 4 rfl ?_
      refine mw_icmp_ne (tgt := 81) dX4_goOn_49 (by decide) (fun hc => ?_) (fun hc => ?_)
      · have h := mie hc h
        refine mw_iload dX4_goOn_81 1 rfl ?_
        refine mw_iload_n dX4_goOn_83 4 rfl ?_
        refine mw_icmp_le (tgt := 131) dX4_goOn_84 (by decide) (fun hc => ?_) (fun hc => ?_)
        · have h := mit hc h
          refine mw_iinc (v := (x9 + 1)) (L' := [(9, .int (x9 + 1)), (12, .int (a4 ||| ((1 : Int32) <<< ((eI σ 35 ((a2 * (14 : Int32)) + x9).toNatClampNeg) &&& 31)))), (11, .int (eI σ 36 (eI σ 35 ((a2 * (14 : Int32)) + x9).toNatClampNeg).toNatClampNeg)), (10, .int (eI σ 35 ((a2 * (14 : Int32)) + x9).toNatClampNeg)), (0, .ref 28), (1, .int a1), (2, .int a2), (3, .int a3), (4, .int a4), (5, .long a5), (7, .long a7)]) dX4_goOn_131 10 rfl rfl (by decide) rfl ?_
          refine mw_goto (tgt := 3) dX4_goOn_134 (by decide) ?_
          exact mw_sub (L' := [(0, .ref 28), (1, .int a1), (2, .int a2), (3, .int a3), (4, .int a4), (5, .long a5), (7, .long a7), (9, .int (x9 + 1))]) [4, 5, 6, 7, 8, 9, 10, 0] rfl (ih _ _ h)
        · have h := mie hc h
          refine mw_iload_n dX4_goOn_87 6 rfl ?_
          refine mw_iconst (v := 1) dX4_goOn_88 (by decide) ?_
          refine mw_iload dX4_goOn_89 1 rfl ?_
          refine mw_ishl dX4_goOn_91 ?_
          refine mw_iand dX4_goOn_92 ?_
          refine mw_if_ne (tgt := 131) dX4_goOn_93 (by decide) (fun hc => ?_) (fun hc => ?_)
          · have h := mie hc h
            refine mw_iinc (v := (x9 + 1)) (L' := [(9, .int (x9 + 1)), (12, .int (a4 ||| ((1 : Int32) <<< ((eI σ 35 ((a2 * (14 : Int32)) + x9).toNatClampNeg) &&& 31)))), (11, .int (eI σ 36 (eI σ 35 ((a2 * (14 : Int32)) + x9).toNatClampNeg).toNatClampNeg)), (10, .int (eI σ 35 ((a2 * (14 : Int32)) + x9).toNatClampNeg)), (0, .ref 28), (1, .int a1), (2, .int a2), (3, .int a3), (4, .int a4), (5, .long a5), (7, .long a7)]) dX4_goOn_131 10 rfl rfl (by decide) rfl ?_
            refine mw_goto (tgt := 3) dX4_goOn_134 (by decide) ?_
            exact mw_sub (L' := [(0, .ref 28), (1, .int a1), (2, .int a2), (3, .int a3), (4, .int a4), (5, .long a5), (7, .long a7), (9, .int (x9 + 1))]) [4, 5, 6, 7, 8, 9, 10, 0] rfl (ih _ _ h)
          · have h := mit hc h
            refine mw_aload_n dX4_goOn_96 3 rfl ?_
            refine mw_iload_n dX4_goOn_97 4 rfl ?_
            refine mw_iload dX4_goOn_98 1 rfl ?_
            refine mw_iload_n dX4_goOn_100 6 rfl ?_
            refine mw_iconst (v := 1) dX4_goOn_101 (by decide) ?_
            refine mw_iload dX4_goOn_102 1 rfl ?_
            refine mw_ishl dX4_goOn_104 ?_
            refine mw_ior dX4_goOn_105 ?_
            refine mw_iload dX4_goOn_106 0 rfl ?_
            refine mw_lload dX4_goOn_108 8 rfl ?_
            refine mw_aload_n dX4_goOn_110 3 rfl ?_
            refine ev_getR (q := 37) fd_RX4_38_3 dX4_goOn_111 rfl rfl rfl ?_
            refine mw_iload dX4_goOn_114 2 rfl ?_
            refine ev_lald dX4_goOn_116 (by decide) rfl m3 ?_
            refine mw_ladd dX4_goOn_117 ?_
            refine mw_lload dX4_goOn_118 9 rfl ?_
            refine mw_aload_n dX4_goOn_120 3 rfl ?_
            refine ev_getR (q := 38) fd_RX4_41_3 dX4_goOn_121 rfl rfl rfl ?_
            refine mw_iload dX4_goOn_124 2 rfl ?_
            refine ev_lald dX4_goOn_126 (by decide) rfl m3 ?_
            refine mw_ladd dX4_goOn_127 ?_
            obtain ⟨r4, e5, h⟩ := mbd h
            refine mv_callV_v (As := [.int a1, .int (eI σ 36 (eI σ 35 ((a2 * (14 : Int32)) + x9).toNatClampNeg).toNatClampNeg), .int (a3 ||| ((1 : Int32) <<< ((eI σ 36 (eI σ 35 ((a2 * (14 : Int32)) + x9).toNatClampNeg).toNatClampNeg) &&& 31))), .int (a4 ||| ((1 : Int32) <<< ((eI σ 35 ((a2 * (14 : Int32)) + x9).toNatClampNeg) &&& 31))), .long (a5 + (eL σ 37 (eI σ 35 ((a2 * (14 : Int32)) + x9).toNatClampNeg).toNatClampNeg)), .long (a7 + (eL σ 38 (eI σ 35 ((a2 * (14 : Int32)) + x9).toNatClampNeg).toNatClampNeg))]) (ci := 3) lkV_RX4_70_yX4_goOn dX4_goOn_128 (IH _ _ _ _ _ _ _ _ e5) rfl rfl rfl rfl (Nat.le_of_ble_eq_true rfl) (by omega) (by decide) ?_
            refine mw_iinc (v := (x9 + 1)) (L' := [(9, .int (x9 + 1)), (12, .int (a4 ||| ((1 : Int32) <<< ((eI σ 35 ((a2 * (14 : Int32)) + x9).toNatClampNeg) &&& 31)))), (11, .int (eI σ 36 (eI σ 35 ((a2 * (14 : Int32)) + x9).toNatClampNeg).toNatClampNeg)), (10, .int (eI σ 35 ((a2 * (14 : Int32)) + x9).toNatClampNeg)), (0, .ref 28), (1, .int a1), (2, .int a2), (3, .int a3), (4, .int a4), (5, .long a5), (7, .long a7)]) dX4_goOn_131 10 rfl rfl (by decide) rfl ?_
            refine mw_goto (tgt := 3) dX4_goOn_134 (by decide) ?_
            exact mw_sub (L' := [(0, .ref 28), (1, .int a1), (2, .int a2), (3, .int a3), (4, .int a4), (5, .long a5), (7, .long a7), (9, .int (x9 + 1))]) [4, 5, 6, 7, 8, 9, 10, 0] rfl (ih _ _ h)
      · have h := mit hc h
        refine mw_aload_n dX4_goOn_52 3 rfl ?_
        refine mw_iload dX4_goOn_53 0 rfl ?_
        refine mw_lload dX4_goOn_55 8 rfl ?_
        refine mw_aload_n dX4_goOn_57 3 rfl ?_
        refine ev_getR (q := 37) fd_RX4_38_3 dX4_goOn_58 rfl rfl rfl ?_
        refine mw_iload dX4_goOn_61 2 rfl ?_
        refine ev_lald dX4_goOn_63 (by decide) rfl m3 ?_
        refine mw_ladd dX4_goOn_64 ?_
        refine mw_lload dX4_goOn_65 9 rfl ?_
        refine mw_aload_n dX4_goOn_67 3 rfl ?_
        refine ev_getR (q := 38) fd_RX4_41_3 dX4_goOn_68 rfl rfl rfl ?_
        refine mw_iload dX4_goOn_71 2 rfl ?_
        refine ev_lald dX4_goOn_73 (by decide) rfl m3 ?_
        refine mw_ladd dX4_goOn_74 ?_
        obtain ⟨r6, e7, h⟩ := mbd h
        refine mv_callV_v (As := [.int (a4 ||| ((1 : Int32) <<< ((eI σ 35 ((a2 * (14 : Int32)) + x9).toNatClampNeg) &&& 31))), .long (a5 + (eL σ 37 (eI σ 35 ((a2 * (14 : Int32)) + x9).toNatClampNeg).toNatClampNeg)), .long (a7 + (eL σ 38 (eI σ 35 ((a2 * (14 : Int32)) + x9).toNatClampNeg).toNatClampNeg))]) (ci := 3) lkV_RX4_74_yX4_keep dX4_goOn_75 (k_X4_keep e7) rfl rfl rfl rfl (Nat.le_of_ble_eq_true rfl) (by omega) (by decide) ?_
        refine mw_goto (tgt := 131) dX4_goOn_78 (by decide) ?_
        refine mw_iinc (v := (x9 + 1)) (L' := [(9, .int (x9 + 1)), (12, .int (a4 ||| ((1 : Int32) <<< ((eI σ 35 ((a2 * (14 : Int32)) + x9).toNatClampNeg) &&& 31)))), (11, .int (eI σ 36 (eI σ 35 ((a2 * (14 : Int32)) + x9).toNatClampNeg).toNatClampNeg)), (10, .int (eI σ 35 ((a2 * (14 : Int32)) + x9).toNatClampNeg)), (0, .ref 28), (1, .int a1), (2, .int a2), (3, .int a3), (4, .int a4), (5, .long a5), (7, .long a7)]) dX4_goOn_131 10 rfl rfl (by decide) rfl ?_
        refine mw_goto (tgt := 3) dX4_goOn_134 (by decide) ?_
        exact mw_sub (L' := [(0, .ref 28), (1, .int a1), (2, .int a2), (3, .int a3), (4, .int a4), (5, .long a5), (7, .long a7), (9, .int (x9 + 1))]) [4, 5, 6, 7, 8, 9, 10, 0] rfl (ih _ _ h)
def e_X4_goOn  : Nat → Int32 → Int32 → Int32 → Int32 → Int64 → Int64 → ES → Option ES
  | 0, _, _, _, _, _, _, _ => none
  | d + 1, a1, a2, a3, a4, a5, a7, σ => e_X4_goOn_L3 (e_X4_goOn d) a1 a2 a3 a4 a5 a7 mN (0 : Int32) σ
set_option maxRecDepth 100000 in
set_option maxHeartbeats 4000000 in
theorem k_X4_goOn {l : Launch} : ∀ (d : Nat), ∀ (τ : ES) (b1 : Int32) (b2 : Int32) (b3 : Int32) (b4 : Int32) (b5 : Int64) (b7 : Int64) (r : ES), e_X4_goOn d b1 b2 b3 b4 b5 b7 τ = some r → MK l yX4_goOn cX4_goOn 13 none (2 + d) [.ref 28, .int b1, .int b2, .int b3, .int b4, .long b5, .long b7] (mkS τ) none (mkS r) := by
  intro d
  induction d with
  | zero =>
    intro τ b1 b2 b3 b4 b5 b7 r h
    exact nomatch h
  | succ d IH =>
    intro σ a1 a2 a3 a4 a5 a7 out h
    rw [e_X4_goOn] at h
    refine mw_entry (own := RX4) (ini := false) (L := [(0, .ref 28), (1, .int a1), (2, .int a2), (3, .int a3), (4, .int a4), (5, .long a5), (7, .long a7)]) (by decide +kernel) rfl (fun h => nomatch h) rfl (Nat.le_of_ble_eq_true rfl) (Nat.le_of_ble_eq_true rfl) (fun E => ?_)
    refine mw_iconst (v := 0) dX4_goOn_0 (by decide) ?_
    refine mw_istore (L' := [(9, .int (0 : Int32)), (0, .ref 28), (1, .int a1), (2, .int a2), (3, .int a3), (4, .int a4), (5, .long a5), (7, .long a7)]) dX4_goOn_1 (by decide) rfl ?_
    exact mw_sub (L' := [(0, .ref 28), (1, .int a1), (2, .int a2), (3, .int a3), (4, .int a4), (5, .long a5), (7, .long a7), (9, .int (0 : Int32))]) [1, 2, 3, 4, 5, 6, 7, 0] rfl (p_X4_goOn_L3 IH  mN _ _ h)

theorem dX4_gather_0 : decode cX4_gather 0 = .ok (.aload_n 0, 1) := by decide +kernel
theorem dX4_gather_1 : decode cX4_gather 1 = .ok (.iconst 0, 1) := by decide +kernel
theorem dX4_gather_2 : decode cX4_gather 2 = .ok (.putfield 44, 3) := by decide +kernel
theorem dX4_gather_5 : decode cX4_gather 5 = .ok (.iconst 0, 1) := by decide +kernel
theorem dX4_gather_6 : decode cX4_gather 6 = .ok (.istore_n 3, 1) := by decide +kernel
theorem dX4_gather_7 : decode cX4_gather 7 = .ok (.iload_n 3, 1) := by decide +kernel
theorem dX4_gather_8 : decode cX4_gather 8 = .ok (.bipush 6, 2) := by decide +kernel
theorem dX4_gather_10 : decode cX4_gather 10 = .ok (.if_icmp .ge 16, 3) := by decide +kernel
theorem dX4_gather_13 : decode cX4_gather 13 = .ok (.aload_n 0, 1) := by decide +kernel
theorem dX4_gather_14 : decode cX4_gather 14 = .ok (.getfield 29, 3) := by decide +kernel
theorem dX4_gather_17 : decode cX4_gather 17 = .ok (.iload_n 3, 1) := by decide +kernel
theorem dX4_gather_18 : decode cX4_gather 18 = .ok (.iconst 0, 1) := by decide +kernel
theorem dX4_gather_19 : decode cX4_gather 19 = .ok (.iastore, 1) := by decide +kernel
theorem dX4_gather_20 : decode cX4_gather 20 = .ok (.iinc 3 1, 3) := by decide +kernel
theorem dX4_gather_23 : decode cX4_gather 23 = .ok (.goto (-16), 3) := by decide +kernel
theorem dX4_gather_26 : decode cX4_gather 26 = .ok (.iconst 0, 1) := by decide +kernel
theorem dX4_gather_27 : decode cX4_gather 27 = .ok (.istore_n 3, 1) := by decide +kernel
theorem dX4_gather_28 : decode cX4_gather 28 = .ok (.iload_n 3, 1) := by decide +kernel
theorem dX4_gather_29 : decode cX4_gather 29 = .ok (.aload_n 1, 1) := by decide +kernel
theorem dX4_gather_30 : decode cX4_gather 30 = .ok (.getfield 48, 3) := by decide +kernel
theorem dX4_gather_33 : decode cX4_gather 33 = .ok (.if_icmp .ge 97, 3) := by decide +kernel
theorem dX4_gather_36 : decode cX4_gather 36 = .ok (.aload_n 0, 1) := by decide +kernel
theorem dX4_gather_37 : decode cX4_gather 37 = .ok (.getfield 35, 3) := by decide +kernel
theorem dX4_gather_40 : decode cX4_gather 40 = .ok (.iload_n 3, 1) := by decide +kernel
theorem dX4_gather_41 : decode cX4_gather 41 = .ok (.aload_n 1, 1) := by decide +kernel
theorem dX4_gather_42 : decode cX4_gather 42 = .ok (.getfield 53, 3) := by decide +kernel
theorem dX4_gather_45 : decode cX4_gather 45 = .ok (.iload_n 3, 1) := by decide +kernel
theorem dX4_gather_46 : decode cX4_gather 46 = .ok (.iaload, 1) := by decide +kernel
theorem dX4_gather_47 : decode cX4_gather 47 = .ok (.iastore, 1) := by decide +kernel
theorem dX4_gather_48 : decode cX4_gather 48 = .ok (.aload_n 0, 1) := by decide +kernel
theorem dX4_gather_49 : decode cX4_gather 49 = .ok (.getfield 38, 3) := by decide +kernel
theorem dX4_gather_52 : decode cX4_gather 52 = .ok (.iload_n 3, 1) := by decide +kernel
theorem dX4_gather_53 : decode cX4_gather 53 = .ok (.aload_n 1, 1) := by decide +kernel
theorem dX4_gather_54 : decode cX4_gather 54 = .ok (.iload_n 3, 1) := by decide +kernel
theorem dX4_gather_55 : decode cX4_gather 55 = .ok (.invokevirtual 54, 3) := by decide +kernel
theorem dX4_gather_58 : decode cX4_gather 58 = .ok (.i2l, 1) := by decide +kernel
theorem dX4_gather_59 : decode cX4_gather 59 = .ok (.lastore, 1) := by decide +kernel
theorem dX4_gather_60 : decode cX4_gather 60 = .ok (.aload_n 0, 1) := by decide +kernel
theorem dX4_gather_61 : decode cX4_gather 61 = .ok (.getfield 41, 3) := by decide +kernel
theorem dX4_gather_64 : decode cX4_gather 64 = .ok (.iload_n 3, 1) := by decide +kernel
theorem dX4_gather_65 : decode cX4_gather 65 = .ok (.aload_n 1, 1) := by decide +kernel
theorem dX4_gather_66 : decode cX4_gather 66 = .ok (.iload_n 3, 1) := by decide +kernel
theorem dX4_gather_67 : decode cX4_gather 67 = .ok (.invokevirtual 58, 3) := by decide +kernel
theorem dX4_gather_70 : decode cX4_gather 70 = .ok (.i2l, 1) := by decide +kernel
theorem dX4_gather_71 : decode cX4_gather 71 = .ok (.lastore, 1) := by decide +kernel
theorem dX4_gather_72 : decode cX4_gather 72 = .ok (.aload_n 1, 1) := by decide +kernel
theorem dX4_gather_73 : decode cX4_gather 73 = .ok (.getfield 61, 3) := by decide +kernel
theorem dX4_gather_76 : decode cX4_gather 76 = .ok (.iload_n 3, 1) := by decide +kernel
theorem dX4_gather_77 : decode cX4_gather 77 = .ok (.iaload, 1) := by decide +kernel
theorem dX4_gather_78 : decode cX4_gather 78 = .ok (.ifCond .eq 8, 3) := by decide +kernel
theorem dX4_gather_81 : decode cX4_gather 81 = .ok (.iload_n 3, 1) := by decide +kernel
theorem dX4_gather_82 : decode cX4_gather 82 = .ok (.iload_n 2, 1) := by decide +kernel
theorem dX4_gather_83 : decode cX4_gather 83 = .ok (.if_icmp .ne 41, 3) := by decide +kernel
theorem dX4_gather_86 : decode cX4_gather 86 = .ok (.aload_n 1, 1) := by decide +kernel
theorem dX4_gather_87 : decode cX4_gather 87 = .ok (.getfield 64, 3) := by decide +kernel
theorem dX4_gather_90 : decode cX4_gather 90 = .ok (.iload_n 3, 1) := by decide +kernel
theorem dX4_gather_91 : decode cX4_gather 91 = .ok (.iaload, 1) := by decide +kernel
theorem dX4_gather_92 : decode cX4_gather 92 = .ok (.istore 4, 2) := by decide +kernel
theorem dX4_gather_94 : decode cX4_gather 94 = .ok (.aload_n 0, 1) := by decide +kernel
theorem dX4_gather_95 : decode cX4_gather 95 = .ok (.getfield 32, 3) := by decide +kernel
theorem dX4_gather_98 : decode cX4_gather 98 = .ok (.iload 4, 2) := by decide +kernel
theorem dX4_gather_100 : decode cX4_gather 100 = .ok (.bipush 14, 2) := by decide +kernel
theorem dX4_gather_102 : decode cX4_gather 102 = .ok (.imul, 1) := by decide +kernel
theorem dX4_gather_103 : decode cX4_gather 103 = .ok (.aload_n 0, 1) := by decide +kernel
theorem dX4_gather_104 : decode cX4_gather 104 = .ok (.getfield 29, 3) := by decide +kernel
theorem dX4_gather_107 : decode cX4_gather 107 = .ok (.iload 4, 2) := by decide +kernel
theorem dX4_gather_109 : decode cX4_gather 109 = .ok (.iaload, 1) := by decide +kernel
theorem dX4_gather_110 : decode cX4_gather 110 = .ok (.iadd, 1) := by decide +kernel
theorem dX4_gather_111 : decode cX4_gather 111 = .ok (.iload_n 3, 1) := by decide +kernel
theorem dX4_gather_112 : decode cX4_gather 112 = .ok (.iastore, 1) := by decide +kernel
theorem dX4_gather_113 : decode cX4_gather 113 = .ok (.aload_n 0, 1) := by decide +kernel
theorem dX4_gather_114 : decode cX4_gather 114 = .ok (.getfield 29, 3) := by decide +kernel
theorem dX4_gather_117 : decode cX4_gather 117 = .ok (.iload 4, 2) := by decide +kernel
theorem dX4_gather_119 : decode cX4_gather 119 = .ok (.dup2, 1) := by decide +kernel
theorem dX4_gather_120 : decode cX4_gather 120 = .ok (.iaload, 1) := by decide +kernel
theorem dX4_gather_121 : decode cX4_gather 121 = .ok (.iconst 1, 1) := by decide +kernel
theorem dX4_gather_122 : decode cX4_gather 122 = .ok (.iadd, 1) := by decide +kernel
theorem dX4_gather_123 : decode cX4_gather 123 = .ok (.iastore, 1) := by decide +kernel
theorem dX4_gather_124 : decode cX4_gather 124 = .ok (.iinc 3 1, 3) := by decide +kernel
theorem dX4_gather_127 : decode cX4_gather 127 = .ok (.goto (-99), 3) := by decide +kernel
theorem dX4_gather_130 : decode cX4_gather 130 = .ok (.iconst 0, 1) := by decide +kernel
theorem dX4_gather_131 : decode cX4_gather 131 = .ok (.istore_n 3, 1) := by decide +kernel
theorem dX4_gather_132 : decode cX4_gather 132 = .ok (.iload_n 3, 1) := by decide +kernel
theorem dX4_gather_133 : decode cX4_gather 133 = .ok (.aload_n 1, 1) := by decide +kernel
theorem dX4_gather_134 : decode cX4_gather 134 = .ok (.getfield 67, 3) := by decide +kernel
theorem dX4_gather_137 : decode cX4_gather 137 = .ok (.if_icmp .ge 21, 3) := by decide +kernel
theorem dX4_gather_140 : decode cX4_gather 140 = .ok (.aload_n 0, 1) := by decide +kernel
theorem dX4_gather_141 : decode cX4_gather 141 = .ok (.iload_n 3, 1) := by decide +kernel
theorem dX4_gather_142 : decode cX4_gather 142 = .ok (.iload_n 3, 1) := by decide +kernel
theorem dX4_gather_143 : decode cX4_gather 143 = .ok (.iconst 1, 1) := by decide +kernel
theorem dX4_gather_144 : decode cX4_gather 144 = .ok (.iload_n 3, 1) := by decide +kernel
theorem dX4_gather_145 : decode cX4_gather 145 = .ok (.ishl, 1) := by decide +kernel
theorem dX4_gather_146 : decode cX4_gather 146 = .ok (.iconst 0, 1) := by decide +kernel
theorem dX4_gather_147 : decode cX4_gather 147 = .ok (.lconst 0, 1) := by decide +kernel
theorem dX4_gather_148 : decode cX4_gather 148 = .ok (.lconst 0, 1) := by decide +kernel
theorem dX4_gather_149 : decode cX4_gather 149 = .ok (.invokevirtual 70, 3) := by decide +kernel
theorem dX4_gather_152 : decode cX4_gather 152 = .ok (.iinc 3 1, 3) := by decide +kernel
theorem dX4_gather_155 : decode cX4_gather 155 = .ok (.goto (-23), 3) := by decide +kernel
theorem dX4_gather_158 : decode cX4_gather 158 = .ok (.return_, 1) := by decide +kernel
def e_X4_gather_1_L132 (a2 : Int32) : Nat → Int32 → ES → Option ES
  | 0, _, _ => none
  | n + 1, x3, σ => if (eI σ 1 0) ≤ x3 then (some σ) else ((e_X4_goOn 8 x3 x3 ((1 : Int32) <<< (x3 &&& 31)) (0 : Int32) (0 : Int64) (0 : Int64) σ).bind (fun r1 => e_X4_gather_1_L132 a2 n (x3 + 1) r1))
set_option maxRecDepth 100000 in
set_option maxHeartbeats 4000000 in
theorem p_X4_gather_1_L132 {l : Launch} {E : MX} {out : ES} {a2 : Int32}  : ∀ (n : Nat) (x3 : Int32) (σ : ES), e_X4_gather_1_L132 a2 n x3 σ = some out → MV l E cX4_gather RX4 5 none 11 (82, none, mkS out) (mkS σ) 132 [(0, .ref 28), (1, .ref 1), (2, .int a2), (3, .int x3)] [] := by
  intro n
  induction n with
  | zero =>
    intro x3 σ h
    exact nomatch h
  | succ n ih =>
    intro x3 σ h
    rw [e_X4_gather_1_L132] at h
    refine mw_iload_n dX4_gather_132 3 rfl ?_
    refine mw_aload_n dX4_gather_133 1 rfl ?_
    refine ev_getI fd_RX4_67_0 dX4_gather_134 rfl rfl ?_
    refine mw_icmp_ge (tgt := 158) dX4_gather_137 (by decide) (fun hc => ?_) (fun hc => ?_)
    · have h := mit hc h
      exact mw_vret dX4_gather_158 rfl (ers_vm h) rfl rfl
    · have h := mie hc h
      refine mw_aload_n dX4_gather_140 0 rfl ?_
      refine mw_iload_n dX4_gather_141 3 rfl ?_
      refine mw_iload_n dX4_gather_142 3 rfl ?_
      refine mw_iconst (v := 1) dX4_gather_143 (by decide) ?_
      refine mw_iload_n dX4_gather_144 3 rfl ?_
      refine mw_ishl dX4_gather_145 ?_
      refine mw_iconst (v := 0) dX4_gather_146 (by decide) ?_
      refine mw_lconst (v := 0) dX4_gather_147 (by decide) ?_
      refine mw_lconst (v := 0) dX4_gather_148 (by decide) ?_
      obtain ⟨r1, e2, h⟩ := mbd h
      refine mv_callV_v (As := [.int x3, .int x3, .int ((1 : Int32) <<< (x3 &&& 31)), .int (0 : Int32), .long (0 : Int64), .long (0 : Int64)]) (ci := 3) lkV_RX4_70_yX4_goOn dX4_gather_149 (k_X4_goOn 8 _ _ _ _ _ _ _ _ e2) rfl rfl rfl rfl (Nat.le_of_ble_eq_true rfl) (by decide) (by decide) ?_
      refine mw_iinc (v := (x3 + 1)) (L' := [(3, .int (x3 + 1)), (0, .ref 28), (1, .ref 1), (2, .int a2)]) dX4_gather_152 3 rfl rfl (by decide) rfl ?_
      refine mw_goto (tgt := 132) dX4_gather_155 (by decide) ?_
      exact mw_sub (L' := [(0, .ref 28), (1, .ref 1), (2, .int a2), (3, .int (x3 + 1))]) [1, 2, 3, 0] rfl (ih _ _ h)
def e_X4_gather_1_J86 (a2 : Int32) (k28 : Int32 → ES → Option ES) (x3 : Int32) (σ : ES) : Option ES := if mib x3 14 = true then (if mib (eI σ 3 x3.toNatClampNeg) 6 = true then (if mib (((eI σ 3 x3.toNatClampNeg) * (14 : Int32)) + (eI σ 34 (eI σ 3 x3.toNatClampNeg).toNatClampNeg)) 84 = true then (k28 (x3 + 1) (uI (uI σ 35 (((eI σ 3 x3.toNatClampNeg) * (14 : Int32)) + (eI σ 34 (eI σ 3 x3.toNatClampNeg).toNatClampNeg)).toNatClampNeg x3) 34 (eI σ 3 x3.toNatClampNeg).toNatClampNeg ((eI (uI σ 35 (((eI σ 3 x3.toNatClampNeg) * (14 : Int32)) + (eI σ 34 (eI σ 3 x3.toNatClampNeg).toNatClampNeg)).toNatClampNeg x3) 34 (eI σ 3 x3.toNatClampNeg).toNatClampNeg) + (1 : Int32)))) else none) else none) else none
set_option maxRecDepth 100000 in
set_option maxHeartbeats 4000000 in
theorem p_X4_gather_1_J86 {l : Launch} {E : MX} {out : ES} {a2 : Int32} {k28 : Int32 → ES → Option ES} (hk28 : ∀ (z0 : Int32) (τ : ES), k28 z0 τ = some out → MV l E cX4_gather RX4 5 none 11 (82, none, mkS out) (mkS τ) 28 [(0, .ref 28), (1, .ref 1), (2, .int a2), (3, .int z0)] []) {x3 : Int32} {σ : ES} (h : e_X4_gather_1_J86 a2 k28 x3 σ = some out) : MV l E cX4_gather RX4 5 none 11 (82, none, mkS out) (mkS σ) 86 [(0, .ref 28), (1, .ref 1), (2, .int a2), (3, .int x3)] [] := by
  unfold e_X4_gather_1_J86 at h
  refine mw_aload_n dX4_gather_86 1 rfl ?_
  refine ev_getR (q := 3) fd_RX4_64_0 dX4_gather_87 rfl rfl rfl ?_
  refine mw_iload_n dX4_gather_90 3 rfl ?_
  obtain ⟨m1, h⟩ := mif h
  refine ev_iald dX4_gather_91 (by decide) rfl m1 ?_
  refine mw_istore (L' := [(4, .int (eI σ 3 x3.toNatClampNeg)), (0, .ref 28), (1, .ref 1), (2, .int a2), (3, .int x3)]) dX4_gather_92 (by decide) rfl ?_
  refine mw_aload_n dX4_gather_94 1 rfl ?_
  refine ev_getR (q := 35) fd_RX4_32_3 dX4_gather_95 rfl rfl rfl ?_
  refine mw_iload dX4_gather_98 0 rfl ?_
  refine mw_bipush (v := 14) dX4_gather_100 (by decide) ?_
  refine mw_imul dX4_gather_102 ?_
  refine mw_aload_n dX4_gather_103 1 rfl ?_
  refine ev_getR (q := 34) fd_RX4_29_3 dX4_gather_104 rfl rfl rfl ?_
  refine mw_iload dX4_gather_107 0 rfl ?_
  obtain ⟨m2, h⟩ := mif h
  refine ev_iald dX4_gather_109 (by decide) rfl m2 ?_
  refine mw_iadd dX4_gather_110 ?_
  refine mw_iload_n dX4_gather_111 4 rfl ?_
  obtain ⟨m3, h⟩ := mif h
  refine ev_iast dX4_gather_112 (by decide) rfl m3 ?_
  refine mw_aload_n dX4_gather_113 1 rfl ?_
  refine ev_getR (q := 34) fd_RX4_29_3 dX4_gather_114 rfl rfl rfl ?_
  refine mw_iload dX4_gather_117 0 rfl ?_
  refine mw_dup2 dX4_gather_119 rfl rfl ?_
  refine ev_iald dX4_gather_120 (by decide) rfl m2 ?_
  refine mw_iconst (v := 1) dX4_gather_121 (by decide) ?_
  refine mw_iadd dX4_gather_122 ?_
  refine ev_iast dX4_gather_123 (by decide) rfl m2 ?_
  refine mw_iinc (v := (x3 + 1)) (L' := [(3, .int (x3 + 1)), (4, .int (eI σ 3 x3.toNatClampNeg)), (0, .ref 28), (1, .ref 1), (2, .int a2)]) dX4_gather_124 4 rfl rfl (by decide) rfl ?_
  refine mw_goto (tgt := 28) dX4_gather_127 (by decide) ?_
  exact mw_sub (L' := [(0, .ref 28), (1, .ref 1), (2, .int a2), (3, .int (x3 + 1))]) [2, 3, 4, 0] rfl (hk28 _ _ h)
def e_X4_gather_1_L28 (a2 : Int32) : Nat → Int32 → ES → Option ES
  | 0, _, _ => none
  | n + 1, x3, σ => if (eI σ 1 2) ≤ x3 then (e_X4_gather_1_L132 a2 mN (0 : Int32) σ) else (if mib x3 14 = true then ((e_X1_bringsOf_1 (uI σ 36 x3.toNatClampNeg (eI σ 4 x3.toNatClampNeg)) x3).bind (fun r2 => (e_X1_lastsOf_1 (uL (uI σ 36 x3.toNatClampNeg (eI σ 4 x3.toNatClampNeg)) 37 x3.toNatClampNeg r2.toInt64) x3).bind (fun r4 => if (eI (uL (uL (uI σ 36 x3.toNatClampNeg (eI σ 4 x3.toNatClampNeg)) 37 x3.toNatClampNeg r2.toInt64) 38 x3.toNatClampNeg r4.toInt64) 7 x3.toNatClampNeg) = 0 then (e_X4_gather_1_J86 a2 (e_X4_gather_1_L28 a2 n) x3 (uL (uL (uI σ 36 x3.toNatClampNeg (eI σ 4 x3.toNatClampNeg)) 37 x3.toNatClampNeg r2.toInt64) 38 x3.toNatClampNeg r4.toInt64)) else (if x3 = a2 then (e_X4_gather_1_J86 a2 (e_X4_gather_1_L28 a2 n) x3 (uL (uL (uI σ 36 x3.toNatClampNeg (eI σ 4 x3.toNatClampNeg)) 37 x3.toNatClampNeg r2.toInt64) 38 x3.toNatClampNeg r4.toInt64)) else (e_X4_gather_1_L28 a2 n (x3 + 1) (uL (uL (uI σ 36 x3.toNatClampNeg (eI σ 4 x3.toNatClampNeg)) 37 x3.toNatClampNeg r2.toInt64) 38 x3.toNatClampNeg r4.toInt64)))))) else none)
set_option maxRecDepth 100000 in
set_option maxHeartbeats 4000000 in
theorem p_X4_gather_1_L28 {l : Launch} {E : MX} {out : ES} {a2 : Int32}  : ∀ (n : Nat) (x3 : Int32) (σ : ES), e_X4_gather_1_L28 a2 n x3 σ = some out → MV l E cX4_gather RX4 5 none 11 (82, none, mkS out) (mkS σ) 28 [(0, .ref 28), (1, .ref 1), (2, .int a2), (3, .int x3)] [] := by
  intro n
  induction n with
  | zero =>
    intro x3 σ h
    exact nomatch h
  | succ n ih =>
    intro x3 σ h
    rw [e_X4_gather_1_L28] at h
    refine mw_iload_n dX4_gather_28 3 rfl ?_
    refine mw_aload_n dX4_gather_29 1 rfl ?_
    refine ev_getI fd_RX4_48_0 dX4_gather_30 rfl rfl ?_
    refine mw_icmp_ge (tgt := 130) dX4_gather_33 (by decide) (fun hc => ?_) (fun hc => ?_)
    · have h := mit hc h
      refine mw_iconst (v := 0) dX4_gather_130 (by decide) ?_
      refine mw_istore_n (L' := [(3, .int (0 : Int32)), (0, .ref 28), (1, .ref 1), (2, .int a2)]) dX4_gather_131 rfl (by decide) rfl ?_
      exact mw_sub (L' := [(0, .ref 28), (1, .ref 1), (2, .int a2), (3, .int (0 : Int32))]) [1, 2, 3, 0] rfl (p_X4_gather_1_L132  mN _ _ h)
    · have h := mie hc h
      refine mw_aload_n dX4_gather_36 0 rfl ?_
      refine ev_getR (q := 36) fd_RX4_35_3 dX4_gather_37 rfl rfl rfl ?_
      refine mw_iload_n dX4_gather_40 3 rfl ?_
      refine mw_aload_n dX4_gather_41 1 rfl ?_
      refine ev_getR (q := 4) fd_RX4_53_0 dX4_gather_42 rfl rfl rfl ?_
      refine mw_iload_n dX4_gather_45 3 rfl ?_
      obtain ⟨m1, h⟩ := mif h
      refine ev_iald dX4_gather_46 (by decide) rfl m1 ?_
      refine ev_iast dX4_gather_47 (by decide) rfl m1 ?_
      refine mw_aload_n dX4_gather_48 0 rfl ?_
      refine ev_getR (q := 37) fd_RX4_38_3 dX4_gather_49 rfl rfl rfl ?_
      refine mw_iload_n dX4_gather_52 3 rfl ?_
      refine mw_aload_n dX4_gather_53 1 rfl ?_
      refine mw_iload_n dX4_gather_54 3 rfl ?_
      obtain ⟨r2, e3, h⟩ := mbd h
      refine mv_callV_i (As := [.int x3]) (ci := 0) lkV_RX4_54_yX1_bringsOf dX4_gather_55 (k_X1_bringsOf_1 e3) rfl rfl rfl rfl (Nat.le_of_ble_eq_true rfl) (by decide) (by decide) ?_
      refine mw_i2l dX4_gather_58 ?_
      refine ev_last dX4_gather_59 (by decide) rfl m1 ?_
      refine mw_aload_n dX4_gather_60 0 rfl ?_
      refine ev_getR (q := 38) fd_RX4_41_3 dX4_gather_61 rfl rfl rfl ?_
      refine mw_iload_n dX4_gather_64 3 rfl ?_
      refine mw_aload_n dX4_gather_65 1 rfl ?_
      refine mw_iload_n dX4_gather_66 3 rfl ?_
      obtain ⟨r4, e5, h⟩ := mbd h
      refine mv_callV_i (As := [.int x3]) (ci := 0) lkV_RX4_58_yX1_lastsOf dX4_gather_67 (k_X1_lastsOf_1 e5) rfl rfl rfl rfl (Nat.le_of_ble_eq_true rfl) (by decide) (by decide) ?_
      refine mw_i2l dX4_gather_70 ?_
      refine ev_last dX4_gather_71 (by decide) rfl m1 ?_
      refine mw_aload_n dX4_gather_72 1 rfl ?_
      refine ev_getR (q := 7) fd_RX4_61_0 dX4_gather_73 rfl rfl rfl ?_
      refine mw_iload_n dX4_gather_76 3 rfl ?_
      refine ev_iald dX4_gather_77 (by decide) rfl m1 ?_
      refine mw_if_eq (tgt := 86) dX4_gather_78 (by decide) (fun hc => ?_) (fun hc => ?_)
      · have h := mit hc h
        exact mw_sub (L' := [(0, .ref 28), (1, .ref 1), (2, .int a2), (3, .int x3)]) [0, 1, 2, 3] rfl (p_X4_gather_1_J86 ih h)
      · have h := mie hc h
        refine mw_iload_n dX4_gather_81 3 rfl ?_
        refine mw_iload_n dX4_gather_82 2 rfl ?_
        refine mw_icmp_ne (tgt := 124) dX4_gather_83 (by decide) (fun hc => ?_) (fun hc => ?_)
        · have h := mie hc h
          refine mw_iinc (v := (x3 + 1)) (L' := [(3, .int (x3 + 1)), (0, .ref 28), (1, .ref 1), (2, .int a2)]) dX4_gather_124 3 rfl rfl (by decide) rfl ?_
          refine mw_goto (tgt := 28) dX4_gather_127 (by decide) ?_
          exact mw_sub (L' := [(0, .ref 28), (1, .ref 1), (2, .int a2), (3, .int (x3 + 1))]) [1, 2, 3, 0] rfl (ih _ _ h)
        · have h := mit hc h
          exact mw_sub (L' := [(0, .ref 28), (1, .ref 1), (2, .int a2), (3, .int x3)]) [0, 1, 2, 3] rfl (p_X4_gather_1_J86 ih h)
def e_X4_gather_1_L7 (a2 : Int32) : Nat → Int32 → ES → Option ES
  | 0, _, _ => none
  | n + 1, x3, σ => if (6 : Int32) ≤ x3 then (e_X4_gather_1_L28 a2 mN (0 : Int32) σ) else (if mib x3 6 = true then (e_X4_gather_1_L7 a2 n (x3 + 1) (uI σ 34 x3.toNatClampNeg (0 : Int32))) else none)
set_option maxRecDepth 100000 in
set_option maxHeartbeats 4000000 in
theorem p_X4_gather_1_L7 {l : Launch} {E : MX} {out : ES} {a2 : Int32}  : ∀ (n : Nat) (x3 : Int32) (σ : ES), e_X4_gather_1_L7 a2 n x3 σ = some out → MV l E cX4_gather RX4 5 none 11 (82, none, mkS out) (mkS σ) 7 [(0, .ref 28), (1, .ref 1), (2, .int a2), (3, .int x3)] [] := by
  intro n
  induction n with
  | zero =>
    intro x3 σ h
    exact nomatch h
  | succ n ih =>
    intro x3 σ h
    rw [e_X4_gather_1_L7] at h
    refine mw_iload_n dX4_gather_7 3 rfl ?_
    refine mw_bipush (v := 6) dX4_gather_8 (by decide) ?_
    refine mw_icmp_ge (tgt := 26) dX4_gather_10 (by decide) (fun hc => ?_) (fun hc => ?_)
    · have h := mit hc h
      refine mw_iconst (v := 0) dX4_gather_26 (by decide) ?_
      refine mw_istore_n (L' := [(3, .int (0 : Int32)), (0, .ref 28), (1, .ref 1), (2, .int a2)]) dX4_gather_27 rfl (by decide) rfl ?_
      exact mw_sub (L' := [(0, .ref 28), (1, .ref 1), (2, .int a2), (3, .int (0 : Int32))]) [1, 2, 3, 0] rfl (p_X4_gather_1_L28  mN _ _ h)
    · have h := mie hc h
      refine mw_aload_n dX4_gather_13 0 rfl ?_
      refine ev_getR (q := 34) fd_RX4_29_3 dX4_gather_14 rfl rfl rfl ?_
      refine mw_iload_n dX4_gather_17 3 rfl ?_
      refine mw_iconst (v := 0) dX4_gather_18 (by decide) ?_
      obtain ⟨m1, h⟩ := mif h
      refine ev_iast dX4_gather_19 (by decide) rfl m1 ?_
      refine mw_iinc (v := (x3 + 1)) (L' := [(3, .int (x3 + 1)), (0, .ref 28), (1, .ref 1), (2, .int a2)]) dX4_gather_20 3 rfl rfl (by decide) rfl ?_
      refine mw_goto (tgt := 7) dX4_gather_23 (by decide) ?_
      exact mw_sub (L' := [(0, .ref 28), (1, .ref 1), (2, .int a2), (3, .int (x3 + 1))]) [1, 2, 3, 0] rfl (ih _ _ h)
def e_X4_gather_1 (a2 : Int32) (σ : ES) : Option ES := e_X4_gather_1_L7 a2 mN (0 : Int32) (uI σ 28 0 (0 : Int32))
set_option maxRecDepth 100000 in
set_option maxHeartbeats 4000000 in
theorem k_X4_gather_1 {l : Launch} {σ : ES} {a2 : Int32} {out : ES} (h : e_X4_gather_1 a2 σ = some out) : MK l yX4_gather cX4_gather 5 none 11 [.ref 28, .ref 1, .int a2] (mkS σ) none (mkS out) := by
  unfold e_X4_gather_1 at h
  refine mw_entry (own := RX4) (ini := false) (L := [(0, .ref 28), (1, .ref 1), (2, .int a2)]) (by decide +kernel) rfl (fun h => nomatch h) rfl (Nat.le_of_ble_eq_true rfl) (Nat.le_of_ble_eq_true rfl) (fun E => ?_)
  refine mw_aload_n dX4_gather_0 0 rfl ?_
  refine mw_iconst (v := 0) dX4_gather_1 (by decide) ?_
  refine ev_putI fw_RX4_44_3 dX4_gather_2 rfl rfl ?_
  refine mw_iconst (v := 0) dX4_gather_5 (by decide) ?_
  refine mw_istore_n (L' := [(3, .int (0 : Int32)), (0, .ref 28), (1, .ref 1), (2, .int a2)]) dX4_gather_6 rfl (by decide) rfl ?_
  exact mw_sub (L' := [(0, .ref 28), (1, .ref 1), (2, .int a2), (3, .int (0 : Int32))]) [1, 2, 3, 0] rfl (p_X4_gather_1_L7  mN _ _ h)

theorem dJ13_compare_74951_0 : decode cJ13_compare_74951 0 = .ok (.lload_n 0, 1) := by decide +kernel
theorem dJ13_compare_74951_1 : decode cJ13_compare_74951 1 = .ok (.lload_n 2, 1) := by decide +kernel
theorem dJ13_compare_74951_2 : decode cJ13_compare_74951 2 = .ok (.lcmp, 1) := by decide +kernel
theorem dJ13_compare_74951_3 : decode cJ13_compare_74951 3 = .ok (.ifCond .ge 7, 3) := by decide +kernel
theorem dJ13_compare_74951_6 : decode cJ13_compare_74951 6 = .ok (.iconst (-1), 1) := by decide +kernel
theorem dJ13_compare_74951_7 : decode cJ13_compare_74951 7 = .ok (.goto 14, 3) := by decide +kernel
theorem dJ13_compare_74951_10 : decode cJ13_compare_74951 10 = .ok (.lload_n 0, 1) := by decide +kernel
theorem dJ13_compare_74951_11 : decode cJ13_compare_74951 11 = .ok (.lload_n 2, 1) := by decide +kernel
theorem dJ13_compare_74951_12 : decode cJ13_compare_74951 12 = .ok (.lcmp, 1) := by decide +kernel
theorem dJ13_compare_74951_13 : decode cJ13_compare_74951 13 = .ok (.ifCond .ne 7, 3) := by decide +kernel
theorem dJ13_compare_74951_16 : decode cJ13_compare_74951 16 = .ok (.iconst 0, 1) := by decide +kernel
theorem dJ13_compare_74951_17 : decode cJ13_compare_74951 17 = .ok (.goto 4, 3) := by decide +kernel
theorem dJ13_compare_74951_20 : decode cJ13_compare_74951 20 = .ok (.iconst 1, 1) := by decide +kernel
theorem dJ13_compare_74951_21 : decode cJ13_compare_74951 21 = .ok (.ireturn, 1) := by decide +kernel
def e_J13_compare_74951 (a0 : Int64) (a2 : Int64) : Option Int32 := if a2 ≤ a0 then (if a0 = a2 then (some (0 : Int32)) else (some (1 : Int32))) else (some (-1 : Int32))
set_option maxRecDepth 100000 in
set_option maxHeartbeats 4000000 in
theorem k_J13_compare_74951 {l : Launch} {σ : ES} {a0 : Int64} {a2 : Int64} {out : Int32} (h : e_J13_compare_74951 a0 a2 = some out) : MK l yJ13_compare_74951 cJ13_compare_74951 4 (some .int) 1 [.long a0, .long a2] (mkS σ) (some (.int out)) (mkS σ) := by
  unfold e_J13_compare_74951 at h
  refine mw_entry (own := RJ13) (ini := false) (L := [(0, .long a0), (2, .long a2)]) (by decide +kernel) rfl (fun h => nomatch h) rfl (Nat.le_of_ble_eq_true rfl) (Nat.le_of_ble_eq_true rfl) (fun E => ?_)
  refine mw_lload_n dJ13_compare_74951_0 0 rfl ?_
  refine mw_lload_n dJ13_compare_74951_1 1 rfl ?_
  refine mw_lc_ge (tgt := 10) dJ13_compare_74951_2 dJ13_compare_74951_3 (by decide) (fun hc => ?_) (fun hc => ?_)
  · have h := mit hc h
    refine mw_lload_n dJ13_compare_74951_10 0 rfl ?_
    refine mw_lload_n dJ13_compare_74951_11 1 rfl ?_
    refine mw_lc_ne (tgt := 20) dJ13_compare_74951_12 dJ13_compare_74951_13 (by decide) (fun hc => ?_) (fun hc => ?_)
    · have h := mie hc h
      refine mw_iconst (v := 1) dJ13_compare_74951_20 (by decide) ?_
      exact mw_iret dJ13_compare_74951_21 rfl (ers_i h) rfl rfl
    · have h := mit hc h
      refine mw_iconst (v := 0) dJ13_compare_74951_16 (by decide) ?_
      refine mw_goto (tgt := 21) dJ13_compare_74951_17 (by decide) ?_
      exact mw_iret dJ13_compare_74951_21 rfl (ers_i h) rfl rfl
  · have h := mie hc h
    refine mw_iconst (v := -1) dJ13_compare_74951_6 (by decide) ?_
    refine mw_goto (tgt := 21) dJ13_compare_74951_7 (by decide) ?_
    exact mw_iret dJ13_compare_74951_21 rfl (ers_i h) rfl rfl

theorem dX4_order_0 : decode cX4_order 0 = .ok (.aload_n 0, 1) := by decide +kernel
theorem dX4_order_1 : decode cX4_order 1 = .ok (.getfield 15, 3) := by decide +kernel
theorem dX4_order_4 : decode cX4_order 4 = .ok (.iload_n 1, 1) := by decide +kernel
theorem dX4_order_5 : decode cX4_order 5 = .ok (.laload, 1) := by decide +kernel
theorem dX4_order_6 : decode cX4_order 6 = .ok (.aload_n 0, 1) := by decide +kernel
theorem dX4_order_7 : decode cX4_order 7 = .ok (.getfield 19, 3) := by decide +kernel
theorem dX4_order_10 : decode cX4_order 10 = .ok (.iload_n 2, 1) := by decide +kernel
theorem dX4_order_11 : decode cX4_order 11 = .ok (.laload, 1) := by decide +kernel
theorem dX4_order_12 : decode cX4_order 12 = .ok (.lmul, 1) := by decide +kernel
theorem dX4_order_13 : decode cX4_order 13 = .ok (.aload_n 0, 1) := by decide +kernel
theorem dX4_order_14 : decode cX4_order 14 = .ok (.getfield 15, 3) := by decide +kernel
theorem dX4_order_17 : decode cX4_order 17 = .ok (.iload_n 2, 1) := by decide +kernel
theorem dX4_order_18 : decode cX4_order 18 = .ok (.laload, 1) := by decide +kernel
theorem dX4_order_19 : decode cX4_order 19 = .ok (.aload_n 0, 1) := by decide +kernel
theorem dX4_order_20 : decode cX4_order 20 = .ok (.getfield 19, 3) := by decide +kernel
theorem dX4_order_23 : decode cX4_order 23 = .ok (.iload_n 1, 1) := by decide +kernel
theorem dX4_order_24 : decode cX4_order 24 = .ok (.laload, 1) := by decide +kernel
theorem dX4_order_25 : decode cX4_order 25 = .ok (.lmul, 1) := by decide +kernel
theorem dX4_order_26 : decode cX4_order 26 = .ok (.invokestatic 78, 3) := by decide +kernel
theorem dX4_order_29 : decode cX4_order 29 = .ok (.ireturn, 1) := by decide +kernel
def e_X4_order (σ : ES) (a1 : Int32) (a2 : Int32) : Option Int32 := if mib a1 1296 = true then (if mib a2 1296 = true then ((e_J13_compare_74951 ((eL σ 30 a1.toNatClampNeg) * (eL σ 31 a2.toNatClampNeg)) ((eL σ 30 a2.toNatClampNeg) * (eL σ 31 a1.toNatClampNeg))).bind (fun r3 => some r3)) else none) else none
set_option maxRecDepth 100000 in
set_option maxHeartbeats 4000000 in
theorem k_X4_order {l : Launch} {σ : ES} {a1 : Int32} {a2 : Int32} {out : Int32} (h : e_X4_order σ a1 a2 = some out) : MK l yX4_order cX4_order 3 (some .int) 2 [.ref 28, .int a1, .int a2] (mkS σ) (some (.int out)) (mkS σ) := by
  unfold e_X4_order at h
  refine mw_entry (own := RX4) (ini := false) (L := [(0, .ref 28), (1, .int a1), (2, .int a2)]) (by decide +kernel) rfl (fun h => nomatch h) rfl (Nat.le_of_ble_eq_true rfl) (Nat.le_of_ble_eq_true rfl) (fun E => ?_)
  refine mw_aload_n dX4_order_0 0 rfl ?_
  refine ev_getR (q := 30) fd_RX4_15_3 dX4_order_1 rfl rfl rfl ?_
  refine mw_iload_n dX4_order_4 1 rfl ?_
  obtain ⟨m1, h⟩ := mif h
  refine ev_lald dX4_order_5 (by decide) rfl m1 ?_
  refine mw_aload_n dX4_order_6 0 rfl ?_
  refine ev_getR (q := 31) fd_RX4_19_3 dX4_order_7 rfl rfl rfl ?_
  refine mw_iload_n dX4_order_10 2 rfl ?_
  obtain ⟨m2, h⟩ := mif h
  refine ev_lald dX4_order_11 (by decide) rfl m2 ?_
  refine mw_lmul dX4_order_12 ?_
  refine mw_aload_n dX4_order_13 0 rfl ?_
  refine ev_getR (q := 30) fd_RX4_15_3 dX4_order_14 rfl rfl rfl ?_
  refine mw_iload_n dX4_order_17 2 rfl ?_
  refine ev_lald dX4_order_18 (by decide) rfl m2 ?_
  refine mw_aload_n dX4_order_19 0 rfl ?_
  refine ev_getR (q := 31) fd_RX4_19_3 dX4_order_20 rfl rfl rfl ?_
  refine mw_iload_n dX4_order_23 1 rfl ?_
  refine ev_lald dX4_order_24 (by decide) rfl m1 ?_
  refine mw_lmul dX4_order_25 ?_
  obtain ⟨r3, e4, h⟩ := mbd h
  refine mv_callS_i (As := [.long ((eL σ 30 a1.toNatClampNeg) * (eL σ 31 a2.toNatClampNeg)), .long ((eL σ 30 a2.toNatClampNeg) * (eL σ 31 a1.toNatClampNeg))]) lkS_RX4_78_yJ13_compare_74951 dX4_order_26 (k_J13_compare_74951 e4) rfl rfl (Nat.le_of_ble_eq_true rfl) (by decide) (by decide) ?_
  exact mw_iret dX4_order_29 rfl (ers_i h) rfl rfl

theorem dX4_best_0 : decode cX4_best 0 = .ok (.iconst (-1), 1) := by decide +kernel
theorem dX4_best_1 : decode cX4_best 1 = .ok (.istore_n 2, 1) := by decide +kernel
theorem dX4_best_2 : decode cX4_best 2 = .ok (.iconst 0, 1) := by decide +kernel
theorem dX4_best_3 : decode cX4_best 3 = .ok (.istore_n 3, 1) := by decide +kernel
theorem dX4_best_4 : decode cX4_best 4 = .ok (.iload_n 3, 1) := by decide +kernel
theorem dX4_best_5 : decode cX4_best 5 = .ok (.aload_n 0, 1) := by decide +kernel
theorem dX4_best_6 : decode cX4_best 6 = .ok (.getfield 44, 3) := by decide +kernel
theorem dX4_best_9 : decode cX4_best 9 = .ok (.if_icmp .ge 36, 3) := by decide +kernel
theorem dX4_best_12 : decode cX4_best 12 = .ok (.aload_n 0, 1) := by decide +kernel
theorem dX4_best_13 : decode cX4_best 13 = .ok (.getfield 9, 3) := by decide +kernel
theorem dX4_best_16 : decode cX4_best 16 = .ok (.iload_n 3, 1) := by decide +kernel
theorem dX4_best_17 : decode cX4_best 17 = .ok (.iaload, 1) := by decide +kernel
theorem dX4_best_18 : decode cX4_best 18 = .ok (.iload_n 1, 1) := by decide +kernel
theorem dX4_best_19 : decode cX4_best 19 = .ok (.iand, 1) := by decide +kernel
theorem dX4_best_20 : decode cX4_best 20 = .ok (.ifCond .ne 19, 3) := by decide +kernel
theorem dX4_best_23 : decode cX4_best 23 = .ok (.iload_n 2, 1) := by decide +kernel
theorem dX4_best_24 : decode cX4_best 24 = .ok (.iconst (-1), 1) := by decide +kernel
theorem dX4_best_25 : decode cX4_best 25 = .ok (.if_icmp .eq 12, 3) := by decide +kernel
theorem dX4_best_28 : decode cX4_best 28 = .ok (.aload_n 0, 1) := by decide +kernel
theorem dX4_best_29 : decode cX4_best 29 = .ok (.iload_n 3, 1) := by decide +kernel
theorem dX4_best_30 : decode cX4_best 30 = .ok (.iload_n 2, 1) := by decide +kernel
theorem dX4_best_31 : decode cX4_best 31 = .ok (.invokevirtual 84, 3) := by decide +kernel
theorem dX4_best_34 : decode cX4_best 34 = .ok (.ifCond .le 5, 3) := by decide +kernel
theorem dX4_best_37 : decode cX4_best 37 = .ok (.iload_n 3, 1) := by decide +kernel
theorem dX4_best_38 : decode cX4_best 38 = .ok (.istore_n 2, 1) := by decide +kernel
theorem dX4_best_39 : decode cX4_best 39 = .ok (.iinc 3 1, 3) := by decide +kernel
theorem dX4_best_42 : decode cX4_best 42 = .ok (.goto (-38), 3) := by decide +kernel
theorem dX4_best_45 : decode cX4_best 45 = .ok (.iload_n 2, 1) := by decide +kernel
theorem dX4_best_46 : decode cX4_best 46 = .ok (.ireturn, 1) := by decide +kernel
def e_X4_best_L4 (σ : ES) (a1 : Int32) : Nat → Int32 → Int32 → Option Int32
  | 0, _, _ => none
  | n + 1, x2, x3 => if (eI σ 28 0) ≤ x3 then (some x2) else (if mib x3 1296 = true then (if ((eI σ 29 x3.toNatClampNeg) &&& a1) = 0 then (if x2 = (-1 : Int32) then (e_X4_best_L4 σ a1 n x3 (x3 + 1)) else ((e_X4_order σ x3 x2).bind (fun r2 => if r2 ≤ 0 then (e_X4_best_L4 σ a1 n x2 (x3 + 1)) else (e_X4_best_L4 σ a1 n x3 (x3 + 1))))) else (e_X4_best_L4 σ a1 n x2 (x3 + 1))) else none)
set_option maxRecDepth 100000 in
set_option maxHeartbeats 4000000 in
theorem p_X4_best_L4 {l : Launch} {E : MX} {out : Int32} {σ : ES} {a1 : Int32}  : ∀ (n : Nat) (x2 : Int32) (x3 : Int32), e_X4_best_L4 σ a1 n x2 x3 = some out → MV l E cX4_best RX4 4 (some .int) 3 (82, (some (.int out)), mkS σ) (mkS σ) 4 [(0, .ref 28), (1, .int a1), (2, .int x2), (3, .int x3)] [] := by
  intro n
  induction n with
  | zero =>
    intro x2 x3 h
    exact nomatch h
  | succ n ih =>
    intro x2 x3 h
    rw [e_X4_best_L4] at h
    refine mw_iload_n dX4_best_4 3 rfl ?_
    refine mw_aload_n dX4_best_5 0 rfl ?_
    refine ev_getI fd_RX4_44_3 dX4_best_6 rfl rfl ?_
    refine mw_icmp_ge (tgt := 45) dX4_best_9 (by decide) (fun hc => ?_) (fun hc => ?_)
    · have h := mit hc h
      refine mw_iload_n dX4_best_45 2 rfl ?_
      exact mw_iret dX4_best_46 rfl (ers_i h) rfl rfl
    · have h := mie hc h
      refine mw_aload_n dX4_best_12 0 rfl ?_
      refine ev_getR (q := 29) fd_RX4_9_3 dX4_best_13 rfl rfl rfl ?_
      refine mw_iload_n dX4_best_16 3 rfl ?_
      obtain ⟨m1, h⟩ := mif h
      refine ev_iald dX4_best_17 (by decide) rfl m1 ?_
      refine mw_iload_n dX4_best_18 1 rfl ?_
      refine mw_iand dX4_best_19 ?_
      refine mw_if_ne (tgt := 39) dX4_best_20 (by decide) (fun hc => ?_) (fun hc => ?_)
      · have h := mie hc h
        refine mw_iinc (v := (x3 + 1)) (L' := [(3, .int (x3 + 1)), (0, .ref 28), (1, .int a1), (2, .int x2)]) dX4_best_39 3 rfl rfl (by decide) rfl ?_
        refine mw_goto (tgt := 4) dX4_best_42 (by decide) ?_
        exact mw_sub (L' := [(0, .ref 28), (1, .int a1), (2, .int x2), (3, .int (x3 + 1))]) [1, 2, 3, 0] rfl (ih _ _ h)
      · have h := mit hc h
        refine mw_iload_n dX4_best_23 2 rfl ?_
        refine mw_iconst (v := -1) dX4_best_24 (by decide) ?_
        refine mw_icmp_eq (tgt := 37) dX4_best_25 (by decide) (fun hc => ?_) (fun hc => ?_)
        · have h := mit hc h
          refine mw_iload_n dX4_best_37 3 rfl ?_
          refine mw_istore_n (L' := [(2, .int x3), (0, .ref 28), (1, .int a1), (3, .int x3)]) dX4_best_38 rfl (by decide) rfl ?_
          refine mw_iinc (v := (x3 + 1)) (L' := [(3, .int (x3 + 1)), (2, .int x3), (0, .ref 28), (1, .int a1)]) dX4_best_39 3 rfl rfl (by decide) rfl ?_
          refine mw_goto (tgt := 4) dX4_best_42 (by decide) ?_
          exact mw_sub (L' := [(0, .ref 28), (1, .int a1), (2, .int x3), (3, .int (x3 + 1))]) [2, 3, 1, 0] rfl (ih _ _ h)
        · have h := mie hc h
          refine mw_aload_n dX4_best_28 0 rfl ?_
          refine mw_iload_n dX4_best_29 3 rfl ?_
          refine mw_iload_n dX4_best_30 2 rfl ?_
          obtain ⟨r2, e3, h⟩ := mbd h
          refine mv_callV_i (As := [.int x3, .int x2]) (ci := 3) lkV_RX4_84_yX4_order dX4_best_31 (k_X4_order e3) rfl rfl rfl rfl (Nat.le_of_ble_eq_true rfl) (by decide) (by decide) ?_
          refine mw_if_le (tgt := 39) dX4_best_34 (by decide) (fun hc => ?_) (fun hc => ?_)
          · have h := mit hc h
            refine mw_iinc (v := (x3 + 1)) (L' := [(3, .int (x3 + 1)), (0, .ref 28), (1, .int a1), (2, .int x2)]) dX4_best_39 3 rfl rfl (by decide) rfl ?_
            refine mw_goto (tgt := 4) dX4_best_42 (by decide) ?_
            exact mw_sub (L' := [(0, .ref 28), (1, .int a1), (2, .int x2), (3, .int (x3 + 1))]) [1, 2, 3, 0] rfl (ih _ _ h)
          · have h := mie hc h
            refine mw_iload_n dX4_best_37 3 rfl ?_
            refine mw_istore_n (L' := [(2, .int x3), (0, .ref 28), (1, .int a1), (3, .int x3)]) dX4_best_38 rfl (by decide) rfl ?_
            refine mw_iinc (v := (x3 + 1)) (L' := [(3, .int (x3 + 1)), (2, .int x3), (0, .ref 28), (1, .int a1)]) dX4_best_39 3 rfl rfl (by decide) rfl ?_
            refine mw_goto (tgt := 4) dX4_best_42 (by decide) ?_
            exact mw_sub (L' := [(0, .ref 28), (1, .int a1), (2, .int x3), (3, .int (x3 + 1))]) [2, 3, 1, 0] rfl (ih _ _ h)
def e_X4_best (σ : ES) (a1 : Int32) : Option Int32 := e_X4_best_L4 σ a1 mN (-1 : Int32) (0 : Int32)
set_option maxRecDepth 100000 in
set_option maxHeartbeats 4000000 in
theorem k_X4_best {l : Launch} {σ : ES} {a1 : Int32} {out : Int32} (h : e_X4_best σ a1 = some out) : MK l yX4_best cX4_best 4 (some .int) 3 [.ref 28, .int a1] (mkS σ) (some (.int out)) (mkS σ) := by
  unfold e_X4_best at h
  refine mw_entry (own := RX4) (ini := false) (L := [(0, .ref 28), (1, .int a1)]) (by decide +kernel) rfl (fun h => nomatch h) rfl (Nat.le_of_ble_eq_true rfl) (Nat.le_of_ble_eq_true rfl) (fun E => ?_)
  refine mw_iconst (v := -1) dX4_best_0 (by decide) ?_
  refine mw_istore_n (L' := [(2, .int (-1 : Int32)), (0, .ref 28), (1, .int a1)]) dX4_best_1 rfl (by decide) rfl ?_
  refine mw_iconst (v := 0) dX4_best_2 (by decide) ?_
  refine mw_istore_n (L' := [(3, .int (0 : Int32)), (2, .int (-1 : Int32)), (0, .ref 28), (1, .int a1)]) dX4_best_3 rfl (by decide) rfl ?_
  exact mw_sub (L' := [(0, .ref 28), (1, .int a1), (2, .int (-1 : Int32)), (3, .int (0 : Int32))]) [2, 3, 1, 0] rfl (p_X4_best_L4  mN _ _ h)

theorem dX9_bestRing_0 : decode cX9_bestRing 0 = .ok (.aload_n 0, 1) := by decide +kernel
theorem dX9_bestRing_1 : decode cX9_bestRing 1 = .ok (.getfield 25, 3) := by decide +kernel
theorem dX9_bestRing_4 : decode cX9_bestRing 4 = .ok (.aload_n 0, 1) := by decide +kernel
theorem dX9_bestRing_5 : decode cX9_bestRing 5 = .ok (.getfield 12, 3) := by decide +kernel
theorem dX9_bestRing_8 : decode cX9_bestRing 8 = .ok (.iconst (-1), 1) := by decide +kernel
theorem dX9_bestRing_9 : decode cX9_bestRing 9 = .ok (.invokevirtual 205, 3) := by decide +kernel
theorem dX9_bestRing_12 : decode cX9_bestRing 12 = .ok (.aload_n 0, 1) := by decide +kernel
theorem dX9_bestRing_13 : decode cX9_bestRing 13 = .ok (.getfield 25, 3) := by decide +kernel
theorem dX9_bestRing_16 : decode cX9_bestRing 16 = .ok (.iconst 0, 1) := by decide +kernel
theorem dX9_bestRing_17 : decode cX9_bestRing 17 = .ok (.invokevirtual 209, 3) := by decide +kernel
theorem dX9_bestRing_20 : decode cX9_bestRing 20 = .ok (.ireturn, 1) := by decide +kernel
def e_X9_bestRing (σ : ES) : Option (Int32 × ES) := (e_X4_gather_1 (-1 : Int32) σ).bind (fun r1 => (e_X4_best r1 (0 : Int32)).bind (fun r3 => some (r3, r1)))
set_option maxRecDepth 100000 in
set_option maxHeartbeats 4000000 in
theorem k_X9_bestRing {l : Launch} {σ : ES}  {out : (Int32 × ES)} (h : e_X9_bestRing σ = some out) : MK l yX9_bestRing cX9_bestRing 1 (some .int) 12 [.ref 0] (mkS σ) (some (.int out.1)) (mkS out.2) := by
  unfold e_X9_bestRing at h
  refine mw_entry (own := RX9) (ini := false) (L := [(0, .ref 0)]) (by decide +kernel) rfl (fun h => nomatch h) rfl (Nat.le_of_ble_eq_true rfl) (Nat.le_of_ble_eq_true rfl) (fun E => ?_)
  refine mw_aload_n dX9_bestRing_0 0 rfl ?_
  refine ev_getR (q := 28) fd_RX9_25_8 dX9_bestRing_1 rfl rfl rfl ?_
  refine mw_aload_n dX9_bestRing_4 0 rfl ?_
  refine ev_getR (q := 1) fd_RX9_12_8 dX9_bestRing_5 rfl rfl rfl ?_
  refine mw_iconst (v := -1) dX9_bestRing_8 (by decide) ?_
  obtain ⟨r1, e2, h⟩ := mbd h
  refine mv_callV_v (As := [.ref 1, .int (-1 : Int32)]) (ci := 3) lkV_RX9_205_yX4_gather dX9_bestRing_9 (k_X4_gather_1 e2) rfl rfl rfl rfl (Nat.le_of_ble_eq_true rfl) (by decide) (by decide) ?_
  refine mw_aload_n dX9_bestRing_12 0 rfl ?_
  refine ev_getR (q := 28) fd_RX9_25_8 dX9_bestRing_13 rfl rfl rfl ?_
  refine mw_iconst (v := 0) dX9_bestRing_16 (by decide) ?_
  obtain ⟨r3, e4, h⟩ := mbd h
  refine mv_callV_i (As := [.int (0 : Int32)]) (ci := 3) lkV_RX9_209_yX4_best dX9_bestRing_17 (k_X4_best e4) rfl rfl rfl rfl (Nat.le_of_ble_eq_true rfl) (by decide) (by decide) ?_
  exact mw_iret dX9_bestRing_20 rfl (ers_im h) rfl rfl
