/-! ===== methods as functions, and that the machine does so (written by gen/all.py) ===== -/
theorem dX10_lift_0 : decode cX10_lift 0 = .ok (.aload_n 0, 1) := by decide +kernel
theorem dX10_lift_1 : decode cX10_lift 1 = .ok (.iload_n 1, 1) := by decide +kernel
theorem dX10_lift_2 : decode cX10_lift 2 = .ok (.invokevirtual 87, 3) := by decide +kernel
theorem dX10_lift_5 : decode cX10_lift 5 = .ok (.ifCond .eq 11, 3) := by decide +kernel
theorem dX10_lift_8 : decode cX10_lift 8 = .ok (.aload_n 0, 1) := by decide +kernel
theorem dX10_lift_9 : decode cX10_lift 9 = .ok (.iload_n 2, 1) := by decide +kernel
theorem dX10_lift_10 : decode cX10_lift 10 = .ok (.invokevirtual 87, 3) := by decide +kernel
theorem dX10_lift_13 : decode cX10_lift 13 = .ok (.ifCond .ne 9, 3) := by decide +kernel
theorem dX10_lift_16 : decode cX10_lift 16 = .ok (.aload_n 0, 1) := by decide +kernel
theorem dX10_lift_17 : decode cX10_lift 17 = .ok (.iconst 0, 1) := by decide +kernel
theorem dX10_lift_18 : decode cX10_lift 18 = .ok (.invokevirtual 165, 3) := by decide +kernel
theorem dX10_lift_21 : decode cX10_lift 21 = .ok (.lreturn, 1) := by decide +kernel
theorem dX10_lift_22 : decode cX10_lift 22 = .ok (.aload_n 0, 1) := by decide +kernel
theorem dX10_lift_23 : decode cX10_lift 23 = .ok (.invokevirtual 169, 3) := by decide +kernel
theorem dX10_lift_26 : decode cX10_lift 26 = .ok (.ifCond .ne 9, 3) := by decide +kernel
theorem dX10_lift_29 : decode cX10_lift 29 = .ok (.aload_n 0, 1) := by decide +kernel
theorem dX10_lift_30 : decode cX10_lift 30 = .ok (.iconst 3, 1) := by decide +kernel
theorem dX10_lift_31 : decode cX10_lift 31 = .ok (.invokevirtual 165, 3) := by decide +kernel
theorem dX10_lift_34 : decode cX10_lift 34 = .ok (.lreturn, 1) := by decide +kernel
theorem dX10_lift_35 : decode cX10_lift 35 = .ok (.aload_n 0, 1) := by decide +kernel
theorem dX10_lift_36 : decode cX10_lift 36 = .ok (.getfield 140, 3) := by decide +kernel
theorem dX10_lift_39 : decode cX10_lift 39 = .ok (.aload_n 0, 1) := by decide +kernel
theorem dX10_lift_40 : decode cX10_lift 40 = .ok (.getfield 136, 3) := by decide +kernel
theorem dX10_lift_43 : decode cX10_lift 43 = .ok (.iconst 0, 1) := by decide +kernel
theorem dX10_lift_44 : decode cX10_lift 44 = .ok (.invokestatic 173, 3) := by decide +kernel
theorem dX10_lift_47 : decode cX10_lift 47 = .ok (.lstore_n 3, 1) := by decide +kernel
theorem dX10_lift_48 : decode cX10_lift 48 = .ok (.aload_n 0, 1) := by decide +kernel
theorem dX10_lift_49 : decode cX10_lift 49 = .ok (.getfield 140, 3) := by decide +kernel
theorem dX10_lift_52 : decode cX10_lift 52 = .ok (.aload_n 0, 1) := by decide +kernel
theorem dX10_lift_53 : decode cX10_lift 53 = .ok (.getfield 136, 3) := by decide +kernel
theorem dX10_lift_56 : decode cX10_lift 56 = .ok (.iconst 1, 1) := by decide +kernel
theorem dX10_lift_57 : decode cX10_lift 57 = .ok (.invokestatic 173, 3) := by decide +kernel
theorem dX10_lift_60 : decode cX10_lift 60 = .ok (.lstore 5, 2) := by decide +kernel
theorem dX10_lift_62 : decode cX10_lift 62 = .ok (.iconst 0, 1) := by decide +kernel
theorem dX10_lift_63 : decode cX10_lift 63 = .ok (.istore 7, 2) := by decide +kernel
theorem dX10_lift_65 : decode cX10_lift 65 = .ok (.iload 7, 2) := by decide +kernel
theorem dX10_lift_67 : decode cX10_lift 67 = .ok (.aload_n 0, 1) := by decide +kernel
theorem dX10_lift_68 : decode cX10_lift 68 = .ok (.getfield 15, 3) := by decide +kernel
theorem dX10_lift_71 : decode cX10_lift 71 = .ok (.if_icmp .ge 29, 3) := by decide +kernel
theorem dX10_lift_74 : decode cX10_lift 74 = .ok (.aload_n 0, 1) := by decide +kernel
theorem dX10_lift_75 : decode cX10_lift 75 = .ok (.getfield 28, 3) := by decide +kernel
theorem dX10_lift_78 : decode cX10_lift 78 = .ok (.iload 7, 2) := by decide +kernel
theorem dX10_lift_80 : decode cX10_lift 80 = .ok (.iload 7, 2) := by decide +kernel
theorem dX10_lift_82 : decode cX10_lift 82 = .ok (.iload_n 1, 1) := by decide +kernel
theorem dX10_lift_83 : decode cX10_lift 83 = .ok (.if_icmp .ne 7, 3) := by decide +kernel
theorem dX10_lift_86 : decode cX10_lift 86 = .ok (.lconst 0, 1) := by decide +kernel
theorem dX10_lift_87 : decode cX10_lift 87 = .ok (.goto 6, 3) := by decide +kernel
theorem dX10_lift_90 : decode cX10_lift 90 = .ok (.ldc2_w 177, 3) := by decide +kernel
theorem dX10_lift_93 : decode cX10_lift 93 = .ok (.lastore, 1) := by decide +kernel
theorem dX10_lift_94 : decode cX10_lift 94 = .ok (.iinc 7 1, 3) := by decide +kernel
theorem dX10_lift_97 : decode cX10_lift 97 = .ok (.goto (-32), 3) := by decide +kernel
theorem dX10_lift_100 : decode cX10_lift 100 = .ok (.iconst 1, 1) := by decide +kernel
theorem dX10_lift_101 : decode cX10_lift 101 = .ok (.istore 7, 2) := by decide +kernel
theorem dX10_lift_103 : decode cX10_lift 103 = .ok (.iload 7, 2) := by decide +kernel
theorem dX10_lift_105 : decode cX10_lift 105 = .ok (.ifCond .eq 15, 3) := by decide +kernel
theorem dX10_lift_108 : decode cX10_lift 108 = .ok (.aload_n 0, 1) := by decide +kernel
theorem dX10_lift_109 : decode cX10_lift 109 = .ok (.lload_n 3, 1) := by decide +kernel
theorem dX10_lift_110 : decode cX10_lift 110 = .ok (.lload 5, 2) := by decide +kernel
theorem dX10_lift_112 : decode cX10_lift 112 = .ok (.invokevirtual 179, 3) := by decide +kernel
theorem dX10_lift_115 : decode cX10_lift 115 = .ok (.istore 7, 2) := by decide +kernel
theorem dX10_lift_117 : decode cX10_lift 117 = .ok (.goto (-14), 3) := by decide +kernel
theorem dX10_lift_120 : decode cX10_lift 120 = .ok (.aload_n 0, 1) := by decide +kernel
theorem dX10_lift_121 : decode cX10_lift 121 = .ok (.getfield 28, 3) := by decide +kernel
theorem dX10_lift_124 : decode cX10_lift 124 = .ok (.iload_n 2, 1) := by decide +kernel
theorem dX10_lift_125 : decode cX10_lift 125 = .ok (.laload, 1) := by decide +kernel
theorem dX10_lift_126 : decode cX10_lift 126 = .ok (.ldc2_w 177, 3) := by decide +kernel
theorem dX10_lift_129 : decode cX10_lift 129 = .ok (.lcmp, 1) := by decide +kernel
theorem dX10_lift_130 : decode cX10_lift 130 = .ok (.ifCond .ne 11, 3) := by decide +kernel
theorem dX10_lift_133 : decode cX10_lift 133 = .ok (.aload_n 0, 1) := by decide +kernel
theorem dX10_lift_134 : decode cX10_lift 134 = .ok (.iconst 3, 1) := by decide +kernel
theorem dX10_lift_135 : decode cX10_lift 135 = .ok (.invokevirtual 165, 3) := by decide +kernel
theorem dX10_lift_138 : decode cX10_lift 138 = .ok (.goto 9, 3) := by decide +kernel
theorem dX10_lift_141 : decode cX10_lift 141 = .ok (.aload_n 0, 1) := by decide +kernel
theorem dX10_lift_142 : decode cX10_lift 142 = .ok (.getfield 28, 3) := by decide +kernel
theorem dX10_lift_145 : decode cX10_lift 145 = .ok (.iload_n 2, 1) := by decide +kernel
theorem dX10_lift_146 : decode cX10_lift 146 = .ok (.laload, 1) := by decide +kernel
theorem dX10_lift_147 : decode cX10_lift 147 = .ok (.lreturn, 1) := by decide +kernel
def e_X10_lift_L103 (a1 : Int32) (a2 : Int32) : Nat → Int64 → Int64 → Int32 → ES → Option (Int64 × ES)
  | 0, _, _, _, _ => none
  | n + 1, x3, x5, x7, σ => if x7 = 0 then (if mib a2 6 = true then (if (eL σ 74 a2.toNatClampNeg) = (-9223372036854775808 : Int64) then ((e_X10_farFinds (3 : Int32) σ).bind (fun r2 => some (r2.1, r2.2))) else (some ((eL σ 74 a2.toNatClampNeg), σ))) else none) else ((e_X10_lifts x3 x5 σ).bind (fun r4 => e_X10_lift_L103 a1 a2 n x3 x5 r4.1 r4.2))
set_option maxRecDepth 100000 in
set_option maxHeartbeats 4000000 in
theorem p_X10_lift_L103 {l : Launch} {E : MX} {out : (Int64 × ES)} {a1 : Int32} {a2 : Int32}  : ∀ (n : Nat) (x3 : Int64) (x5 : Int64) (x7 : Int32) (σ : ES), e_X10_lift_L103 a1 a2 n x3 x5 x7 σ = some out → MV l E cX10_lift RX10 8 (some .long) 14 (82, (some (.long out.1)), mkS out.2) (mkS σ) 103 [(0, .ref 69), (1, .int a1), (2, .int a2), (3, .long x3), (5, .long x5), (7, .int x7)] [] := by
  intro n
  induction n with
  | zero =>
    intro x3 x5 x7 σ h
    exact nomatch h
  | succ n ih =>
    intro x3 x5 x7 σ h
    rw [e_X10_lift_L103] at h
    refine mw_iload dX10_lift_103 5 rfl ?_
    refine mw_if_eq (tgt := 120) dX10_lift_105 (by decide) (fun hc => ?_) (fun hc => ?_)
    · have h := mit hc h
      refine mw_aload_n dX10_lift_120 0 rfl ?_
      refine ev_getR (q := 74) fd_RX10_28_9 dX10_lift_121 rfl rfl rfl ?_
      refine mw_iload_n dX10_lift_124 2 rfl ?_
      obtain ⟨m1, h⟩ := mif h
      refine ev_lald dX10_lift_125 (by decide) rfl m1 ?_
      refine mw_ldc2 dX10_lift_126 wt_676 ?_
      refine mw_lc_ne (tgt := 141) dX10_lift_129 dX10_lift_130 (by decide) (fun hc => ?_) (fun hc => ?_)
      · have h := mie hc h
        refine mw_aload_n dX10_lift_141 0 rfl ?_
        refine ev_getR (q := 74) fd_RX10_28_9 dX10_lift_142 rfl rfl rfl ?_
        refine mw_iload_n dX10_lift_145 2 rfl ?_
        refine ev_lald dX10_lift_146 (by decide) rfl m1 ?_
        exact mw_lret dX10_lift_147 rfl (ers_lm h) rfl rfl
      · have h := mit hc h
        refine mw_aload_n dX10_lift_133 0 rfl ?_
        refine mw_iconst (v := 3) dX10_lift_134 (by decide) ?_
        obtain ⟨r2, e3, h⟩ := mbd h
        refine mv_callV_l (As := [.int (3 : Int32)]) (ci := 9) lkV_RX10_165_yX10_farFinds dX10_lift_135 (k_X10_farFinds e3) rfl rfl rfl rfl (Nat.le_of_ble_eq_true rfl) (by decide) (by decide) ?_
        refine mw_goto (tgt := 147) dX10_lift_138 (by decide) ?_
        exact mw_lret dX10_lift_147 rfl (ers_lm h) rfl rfl
    · have h := mie hc h
      refine mw_aload_n dX10_lift_108 0 rfl ?_
      refine mw_lload_n dX10_lift_109 3 rfl ?_
      refine mw_lload dX10_lift_110 4 rfl ?_
      obtain ⟨r4, e5, h⟩ := mbd h
      refine mv_callV_i (As := [.long x3, .long x5]) (ci := 9) lkV_RX10_179_yX10_lifts dX10_lift_112 (k_X10_lifts e5) rfl rfl rfl rfl (Nat.le_of_ble_eq_true rfl) (by decide) (by decide) ?_
      refine mw_istore (L' := [(7, .int r4.1), (0, .ref 69), (1, .int a1), (2, .int a2), (3, .long x3), (5, .long x5)]) dX10_lift_115 (by decide) rfl ?_
      refine mw_goto (tgt := 103) dX10_lift_117 (by decide) ?_
      exact mw_sub (L' := [(0, .ref 69), (1, .int a1), (2, .int a2), (3, .long x3), (5, .long x5), (7, .int r4.1)]) [1, 2, 3, 4, 5, 0] rfl (ih _ _ _ _ h)
def e_X10_lift_L65 (a1 : Int32) (a2 : Int32) : Nat → Int64 → Int64 → Int32 → ES → Option (Int64 × ES)
  | 0, _, _, _, _ => none
  | n + 1, x3, x5, x7, σ => if (eI σ 69 1) ≤ x7 then (e_X10_lift_L103 a1 a2 mN x3 x5 (1 : Int32) σ) else (if x7 = a1 then (if mib x7 6 = true then (e_X10_lift_L65 a1 a2 n x3 x5 (x7 + 1) (uL σ 74 x7.toNatClampNeg (0 : Int64))) else none) else (if mib x7 6 = true then (e_X10_lift_L65 a1 a2 n x3 x5 (x7 + 1) (uL σ 74 x7.toNatClampNeg (-9223372036854775808 : Int64))) else none))
set_option maxRecDepth 100000 in
set_option maxHeartbeats 4000000 in
theorem p_X10_lift_L65 {l : Launch} {E : MX} {out : (Int64 × ES)} {a1 : Int32} {a2 : Int32}  : ∀ (n : Nat) (x3 : Int64) (x5 : Int64) (x7 : Int32) (σ : ES), e_X10_lift_L65 a1 a2 n x3 x5 x7 σ = some out → MV l E cX10_lift RX10 8 (some .long) 14 (82, (some (.long out.1)), mkS out.2) (mkS σ) 65 [(0, .ref 69), (1, .int a1), (2, .int a2), (3, .long x3), (5, .long x5), (7, .int x7)] [] := by
  intro n
  induction n with
  | zero =>
    intro x3 x5 x7 σ h
    exact nomatch h
  | succ n ih =>
    intro x3 x5 x7 σ h
    rw [e_X10_lift_L65] at h
    refine mw_iload dX10_lift_65 5 rfl ?_
    refine mw_aload_n dX10_lift_67 0 rfl ?_
    refine ev_getI fd_RX10_15_9 dX10_lift_68 rfl rfl ?_
    refine mw_icmp_ge (tgt := 100) dX10_lift_71 (by decide) (fun hc => ?_) (fun hc => ?_)
    · have h := mit hc h
      refine mw_iconst (v := 1) dX10_lift_100 (by decide) ?_
      refine mw_istore (L' := [(7, .int (1 : Int32)), (0, .ref 69), (1, .int a1), (2, .int a2), (3, .long x3), (5, .long x5)]) dX10_lift_101 (by decide) rfl ?_
      exact mw_sub (L' := [(0, .ref 69), (1, .int a1), (2, .int a2), (3, .long x3), (5, .long x5), (7, .int (1 : Int32))]) [1, 2, 3, 4, 5, 0] rfl (p_X10_lift_L103  mN _ _ _ _ h)
    · have h := mie hc h
      refine mw_aload_n dX10_lift_74 0 rfl ?_
      refine ev_getR (q := 74) fd_RX10_28_9 dX10_lift_75 rfl rfl rfl ?_
      refine mw_iload dX10_lift_78 5 rfl ?_
      refine mw_iload dX10_lift_80 5 rfl ?_
      refine mw_iload_n dX10_lift_82 1 rfl ?_
      refine mw_icmp_ne (tgt := 90) dX10_lift_83 (by decide) (fun hc => ?_) (fun hc => ?_)
      · have h := mie hc h
        refine mw_ldc2 dX10_lift_90 wt_676 ?_
        obtain ⟨m1, h⟩ := mif h
        refine ev_last dX10_lift_93 (by decide) rfl m1 ?_
        refine mw_iinc (v := (x7 + 1)) (L' := [(7, .int (x7 + 1)), (0, .ref 69), (1, .int a1), (2, .int a2), (3, .long x3), (5, .long x5)]) dX10_lift_94 5 rfl rfl (by decide) rfl ?_
        refine mw_goto (tgt := 65) dX10_lift_97 (by decide) ?_
        exact mw_sub (L' := [(0, .ref 69), (1, .int a1), (2, .int a2), (3, .long x3), (5, .long x5), (7, .int (x7 + 1))]) [1, 2, 3, 4, 5, 0] rfl (ih _ _ _ _ h)
      · have h := mit hc h
        refine mw_lconst (v := 0) dX10_lift_86 (by decide) ?_
        refine mw_goto (tgt := 93) dX10_lift_87 (by decide) ?_
        obtain ⟨m2, h⟩ := mif h
        refine ev_last dX10_lift_93 (by decide) rfl m2 ?_
        refine mw_iinc (v := (x7 + 1)) (L' := [(7, .int (x7 + 1)), (0, .ref 69), (1, .int a1), (2, .int a2), (3, .long x3), (5, .long x5)]) dX10_lift_94 5 rfl rfl (by decide) rfl ?_
        refine mw_goto (tgt := 65) dX10_lift_97 (by decide) ?_
        exact mw_sub (L' := [(0, .ref 69), (1, .int a1), (2, .int a2), (3, .long x3), (5, .long x5), (7, .int (x7 + 1))]) [1, 2, 3, 4, 5, 0] rfl (ih _ _ _ _ h)
def e_X10_lift (a1 : Int32) (a2 : Int32) (σ : ES) : Option (Int64 × ES) := (e_X10_isPlace σ a1).bind (fun r1 => if r1 = 0 then ((e_X10_farFinds (0 : Int32) σ).bind (fun r3 => some (r3.1, r3.2))) else ((e_X10_isPlace σ a2).bind (fun r5 => if r5 = 0 then ((e_X10_farFinds (0 : Int32) σ).bind (fun r15 => some (r15.1, r15.2))) else ((e_X10_ringsNow σ).bind (fun r7 => if r7.1 = 0 then ((e_X10_farFinds (3 : Int32) r7.2).bind (fun r13 => some (r13.1, r13.2))) else ((e_X10_lowest (eL r7.2 69 11) (eL r7.2 69 12) (0 : Int32)).bind (fun r9 => (e_X10_lowest (eL r7.2 69 11) (eL r7.2 69 12) (1 : Int32)).bind (fun r11 => e_X10_lift_L65 a1 a2 mN r9 r11 (0 : Int32) r7.2))))))))
set_option maxRecDepth 100000 in
set_option maxHeartbeats 4000000 in
theorem k_X10_lift {l : Launch} {σ : ES} {a1 : Int32} {a2 : Int32} {out : (Int64 × ES)} (h : e_X10_lift a1 a2 σ = some out) : MK l yX10_lift cX10_lift 8 (some .long) 14 [.ref 69, .int a1, .int a2] (mkS σ) (some (.long out.1)) (mkS out.2) := by
  unfold e_X10_lift at h
  refine mw_entry (own := RX10) (ini := false) (L := [(0, .ref 69), (1, .int a1), (2, .int a2)]) (by decide +kernel) rfl (fun h => nomatch h) rfl (Nat.le_of_ble_eq_true rfl) (Nat.le_of_ble_eq_true rfl) (fun E => ?_)
  refine mw_aload_n dX10_lift_0 0 rfl ?_
  refine mw_iload_n dX10_lift_1 1 rfl ?_
  obtain ⟨r1, e2, h⟩ := mbd h
  refine mv_callV_i (As := [.int a1]) (ci := 9) lkV_RX10_87_yX10_isPlace dX10_lift_2 (k_X10_isPlace e2) rfl rfl rfl rfl (Nat.le_of_ble_eq_true rfl) (by decide) (by decide) ?_
  refine mw_if_eq (tgt := 16) dX10_lift_5 (by decide) (fun hc => ?_) (fun hc => ?_)
  · have h := mit hc h
    refine mw_aload_n dX10_lift_16 0 rfl ?_
    refine mw_iconst (v := 0) dX10_lift_17 (by decide) ?_
    obtain ⟨r3, e4, h⟩ := mbd h
    refine mv_callV_l (As := [.int (0 : Int32)]) (ci := 9) lkV_RX10_165_yX10_farFinds dX10_lift_18 (k_X10_farFinds e4) rfl rfl rfl rfl (Nat.le_of_ble_eq_true rfl) (by decide) (by decide) ?_
    exact mw_lret dX10_lift_21 rfl (ers_lm h) rfl rfl
  · have h := mie hc h
    refine mw_aload_n dX10_lift_8 0 rfl ?_
    refine mw_iload_n dX10_lift_9 2 rfl ?_
    obtain ⟨r5, e6, h⟩ := mbd h
    refine mv_callV_i (As := [.int a2]) (ci := 9) lkV_RX10_87_yX10_isPlace dX10_lift_10 (k_X10_isPlace e6) rfl rfl rfl rfl (Nat.le_of_ble_eq_true rfl) (by decide) (by decide) ?_
    refine mw_if_ne (tgt := 22) dX10_lift_13 (by decide) (fun hc => ?_) (fun hc => ?_)
    · have h := mie hc h
      refine mw_aload_n dX10_lift_22 0 rfl ?_
      obtain ⟨r7, e8, h⟩ := mbd h
      refine mv_callV_i (As := []) (ci := 9) lkV_RX10_169_yX10_ringsNow dX10_lift_23 (k_X10_ringsNow e8) rfl rfl rfl rfl (Nat.le_of_ble_eq_true rfl) (by decide) (by decide) ?_
      refine mw_if_ne (tgt := 35) dX10_lift_26 (by decide) (fun hc => ?_) (fun hc => ?_)
      · have h := mie hc h
        refine mw_aload_n dX10_lift_35 0 rfl ?_
        refine ev_getL fd_RX10_140_9 dX10_lift_36 rfl rfl ?_
        refine mw_aload_n dX10_lift_39 0 rfl ?_
        refine ev_getL fd_RX10_136_9 dX10_lift_40 rfl rfl ?_
        refine mw_iconst (v := 0) dX10_lift_43 (by decide) ?_
        obtain ⟨r9, e10, h⟩ := mbd h
        refine mv_callS_l (As := [.long (eL r7.2 69 11), .long (eL r7.2 69 12), .int (0 : Int32)]) lkS_RX10_173_yX10_lowest dX10_lift_44 (k_X10_lowest e10) rfl rfl (Nat.le_of_ble_eq_true rfl) (by decide) (by decide) ?_
        refine mw_lstore_n (L' := [(3, .long r9), (0, .ref 69), (1, .int a1), (2, .int a2)]) dX10_lift_47 rfl (by decide) rfl ?_
        refine mw_aload_n dX10_lift_48 1 rfl ?_
        refine ev_getL fd_RX10_140_9 dX10_lift_49 rfl rfl ?_
        refine mw_aload_n dX10_lift_52 1 rfl ?_
        refine ev_getL fd_RX10_136_9 dX10_lift_53 rfl rfl ?_
        refine mw_iconst (v := 1) dX10_lift_56 (by decide) ?_
        obtain ⟨r11, e12, h⟩ := mbd h
        refine mv_callS_l (As := [.long (eL r7.2 69 11), .long (eL r7.2 69 12), .int (1 : Int32)]) lkS_RX10_173_yX10_lowest dX10_lift_57 (k_X10_lowest e12) rfl rfl (Nat.le_of_ble_eq_true rfl) (by decide) (by decide) ?_
        refine mw_lstore (L' := [(5, .long r11), (3, .long r9), (0, .ref 69), (1, .int a1), (2, .int a2)]) dX10_lift_60 (by decide) rfl ?_
        refine mw_iconst (v := 0) dX10_lift_62 (by decide) ?_
        refine mw_istore (L' := [(7, .int (0 : Int32)), (5, .long r11), (3, .long r9), (0, .ref 69), (1, .int a1), (2, .int a2)]) dX10_lift_63 (by decide) rfl ?_
        exact mw_sub (L' := [(0, .ref 69), (1, .int a1), (2, .int a2), (3, .long r9), (5, .long r11), (7, .int (0 : Int32))]) [3, 4, 5, 2, 1, 0] rfl (p_X10_lift_L65  mN _ _ _ _ h)
      · have h := mit hc h
        refine mw_aload_n dX10_lift_29 0 rfl ?_
        refine mw_iconst (v := 3) dX10_lift_30 (by decide) ?_
        obtain ⟨r13, e14, h⟩ := mbd h
        refine mv_callV_l (As := [.int (3 : Int32)]) (ci := 9) lkV_RX10_165_yX10_farFinds dX10_lift_31 (k_X10_farFinds e14) rfl rfl rfl rfl (Nat.le_of_ble_eq_true rfl) (by decide) (by decide) ?_
        exact mw_lret dX10_lift_34 rfl (ers_lm h) rfl rfl
    · have h := mit hc h
      refine mw_aload_n dX10_lift_16 0 rfl ?_
      refine mw_iconst (v := 0) dX10_lift_17 (by decide) ?_
      obtain ⟨r15, e16, h⟩ := mbd h
      refine mv_callV_l (As := [.int (0 : Int32)]) (ci := 9) lkV_RX10_165_yX10_farFinds dX10_lift_18 (k_X10_farFinds e16) rfl rfl rfl rfl (Nat.le_of_ble_eq_true rfl) (by decide) (by decide) ?_
      exact mw_lret dX10_lift_21 rfl (ers_lm h) rfl rfl

theorem dX10_product_0 : decode cX10_product 0 = .ok (.lload_n 1, 1) := by decide +kernel
theorem dX10_product_1 : decode cX10_product 1 = .ok (.lload_n 3, 1) := by decide +kernel
theorem dX10_product_2 : decode cX10_product 2 = .ok (.lmul, 1) := by decide +kernel
theorem dX10_product_3 : decode cX10_product 3 = .ok (.lstore 5, 2) := by decide +kernel
theorem dX10_product_5 : decode cX10_product 5 = .ok (.aload_n 0, 1) := by decide +kernel
theorem dX10_product_6 : decode cX10_product 6 = .ok (.aload_n 0, 1) := by decide +kernel
theorem dX10_product_7 : decode cX10_product 7 = .ok (.getfield 183, 3) := by decide +kernel
theorem dX10_product_10 : decode cX10_product 10 = .ok (.ifCond .eq 38, 3) := by decide +kernel
theorem dX10_product_13 : decode cX10_product 13 = .ok (.lload_n 1, 1) := by decide +kernel
theorem dX10_product_14 : decode cX10_product 14 = .ok (.lconst 0, 1) := by decide +kernel
theorem dX10_product_15 : decode cX10_product 15 = .ok (.lcmp, 1) := by decide +kernel
theorem dX10_product_16 : decode cX10_product 16 = .ok (.ifCond .eq 28, 3) := by decide +kernel
theorem dX10_product_19 : decode cX10_product 19 = .ok (.lload 5, 2) := by decide +kernel
theorem dX10_product_21 : decode cX10_product 21 = .ok (.lload_n 1, 1) := by decide +kernel
theorem dX10_product_22 : decode cX10_product 22 = .ok (.ldiv, 1) := by decide +kernel
theorem dX10_product_23 : decode cX10_product 23 = .ok (.lload_n 3, 1) := by decide +kernel
theorem dX10_product_24 : decode cX10_product 24 = .ok (.lcmp, 1) := by decide +kernel
theorem dX10_product_25 : decode cX10_product 25 = .ok (.ifCond .ne 23, 3) := by decide +kernel
theorem dX10_product_28 : decode cX10_product 28 = .ok (.lload_n 1, 1) := by decide +kernel
theorem dX10_product_29 : decode cX10_product 29 = .ok (.ldc2_w 120, 3) := by decide +kernel
theorem dX10_product_32 : decode cX10_product 32 = .ok (.lcmp, 1) := by decide +kernel
theorem dX10_product_33 : decode cX10_product 33 = .ok (.ifCond .ne 11, 3) := by decide +kernel
theorem dX10_product_36 : decode cX10_product 36 = .ok (.lload_n 3, 1) := by decide +kernel
theorem dX10_product_37 : decode cX10_product 37 = .ok (.ldc2_w 177, 3) := by decide +kernel
theorem dX10_product_40 : decode cX10_product 40 = .ok (.lcmp, 1) := by decide +kernel
theorem dX10_product_41 : decode cX10_product 41 = .ok (.ifCond .eq 7, 3) := by decide +kernel
theorem dX10_product_44 : decode cX10_product 44 = .ok (.iconst 1, 1) := by decide +kernel
theorem dX10_product_45 : decode cX10_product 45 = .ok (.goto 4, 3) := by decide +kernel
theorem dX10_product_48 : decode cX10_product 48 = .ok (.iconst 0, 1) := by decide +kernel
theorem dX10_product_49 : decode cX10_product 49 = .ok (.putfield 183, 3) := by decide +kernel
theorem dX10_product_52 : decode cX10_product 52 = .ok (.lload 5, 2) := by decide +kernel
theorem dX10_product_54 : decode cX10_product 54 = .ok (.lreturn, 1) := by decide +kernel
def e_X10_product (a1 : Int64) (a3 : Int64) (σ : ES) : Option (Int64 × ES) := if (eI σ 69 15) = 0 then (some ((a1 * a3), (uI σ 69 15 (0 : Int32)))) else (if a1 = (0 : Int64) then (some ((a1 * a3), (uI σ 69 15 (1 : Int32)))) else (if a1 = 0 then none else (if ((a1 * a3) / a1) = a3 then (if a1 = (-1 : Int64) then (if a3 = (-9223372036854775808 : Int64) then (some ((a1 * a3), (uI σ 69 15 (0 : Int32)))) else (some ((a1 * a3), (uI σ 69 15 (1 : Int32))))) else (some ((a1 * a3), (uI σ 69 15 (1 : Int32))))) else (some ((a1 * a3), (uI σ 69 15 (0 : Int32)))))))
set_option maxRecDepth 100000 in
set_option maxHeartbeats 4000000 in
theorem k_X10_product {l : Launch} {σ : ES} {a1 : Int64} {a3 : Int64} {out : (Int64 × ES)} (h : e_X10_product a1 a3 σ = some out) : MK l yX10_product cX10_product 7 (some .long) 1 [.ref 69, .long a1, .long a3] (mkS σ) (some (.long out.1)) (mkS out.2) := by
  unfold e_X10_product at h
  refine mw_entry (own := RX10) (ini := false) (L := [(0, .ref 69), (1, .long a1), (3, .long a3)]) (by decide +kernel) rfl (fun h => nomatch h) rfl (Nat.le_of_ble_eq_true rfl) (Nat.le_of_ble_eq_true rfl) (fun E => ?_)
  refine mw_lload_n dX10_product_0 1 rfl ?_
  refine mw_lload_n dX10_product_1 2 rfl ?_
  refine mw_lmul dX10_product_2 ?_
  refine mw_lstore (L' := [(5, .long (a1 * a3)), (0, .ref 69), (1, .long a1), (3, .long a3)]) dX10_product_3 (by decide) rfl ?_
  refine mw_aload_n dX10_product_5 1 rfl ?_
  refine mw_aload_n dX10_product_6 1 rfl ?_
  refine ev_getZ fd_RX10_183_9 dX10_product_7 rfl rfl ?_
  refine mw_if_eq (tgt := 48) dX10_product_10 (by decide) (fun hc => ?_) (fun hc => ?_)
  · have h := mit hc h
    refine mw_iconst (v := 0) dX10_product_48 (by decide) ?_
    refine ev_putZ fw_RX10_183_9 dX10_product_49 rfl rfl (by decide) ?_
    refine mw_lload dX10_product_52 0 rfl ?_
    exact mw_lret dX10_product_54 rfl (ers_lm h) rfl rfl
  · have h := mie hc h
    refine mw_lload_n dX10_product_13 2 rfl ?_
    refine mw_lconst (v := 0) dX10_product_14 (by decide) ?_
    refine mw_lc_eq (tgt := 44) dX10_product_15 dX10_product_16 (by decide) (fun hc => ?_) (fun hc => ?_)
    · have h := mit hc h
      refine mw_iconst (v := 1) dX10_product_44 (by decide) ?_
      refine mw_goto (tgt := 49) dX10_product_45 (by decide) ?_
      refine ev_putZ fw_RX10_183_9 dX10_product_49 rfl rfl (by decide) ?_
      refine mw_lload dX10_product_52 0 rfl ?_
      exact mw_lret dX10_product_54 rfl (ers_lm h) rfl rfl
    · have h := mie hc h
      refine mw_lload dX10_product_19 0 rfl ?_
      refine mw_lload_n dX10_product_21 2 rfl ?_
      obtain ⟨m1, h⟩ := mnf h
      refine mw_ldiv dX10_product_22 m1 ?_
      refine mw_lload_n dX10_product_23 3 rfl ?_
      refine mw_lc_ne (tgt := 48) dX10_product_24 dX10_product_25 (by decide) (fun hc => ?_) (fun hc => ?_)
      · have h := mie hc h
        refine mw_iconst (v := 0) dX10_product_48 (by decide) ?_
        refine ev_putZ fw_RX10_183_9 dX10_product_49 rfl rfl (by decide) ?_
        refine mw_lload dX10_product_52 0 rfl ?_
        exact mw_lret dX10_product_54 rfl (ers_lm h) rfl rfl
      · have h := mit hc h
        refine mw_lload_n dX10_product_28 2 rfl ?_
        refine mw_ldc2 dX10_product_29 wt_637 ?_
        refine mw_lc_ne (tgt := 44) dX10_product_32 dX10_product_33 (by decide) (fun hc => ?_) (fun hc => ?_)
        · have h := mie hc h
          refine mw_iconst (v := 1) dX10_product_44 (by decide) ?_
          refine mw_goto (tgt := 49) dX10_product_45 (by decide) ?_
          refine ev_putZ fw_RX10_183_9 dX10_product_49 rfl rfl (by decide) ?_
          refine mw_lload dX10_product_52 0 rfl ?_
          exact mw_lret dX10_product_54 rfl (ers_lm h) rfl rfl
        · have h := mit hc h
          refine mw_lload_n dX10_product_36 3 rfl ?_
          refine mw_ldc2 dX10_product_37 wt_676 ?_
          refine mw_lc_eq (tgt := 48) dX10_product_40 dX10_product_41 (by decide) (fun hc => ?_) (fun hc => ?_)
          · have h := mit hc h
            refine mw_iconst (v := 0) dX10_product_48 (by decide) ?_
            refine ev_putZ fw_RX10_183_9 dX10_product_49 rfl rfl (by decide) ?_
            refine mw_lload dX10_product_52 0 rfl ?_
            exact mw_lret dX10_product_54 rfl (ers_lm h) rfl rfl
          · have h := mie hc h
            refine mw_iconst (v := 1) dX10_product_44 (by decide) ?_
            refine mw_goto (tgt := 49) dX10_product_45 (by decide) ?_
            refine ev_putZ fw_RX10_183_9 dX10_product_49 rfl rfl (by decide) ?_
            refine mw_lload dX10_product_52 0 rfl ?_
            exact mw_lret dX10_product_54 rfl (ers_lm h) rfl rfl

theorem dX10_worth_0 : decode cX10_worth 0 = .ok (.aload_n 0, 1) := by decide +kernel
theorem dX10_worth_1 : decode cX10_worth 1 = .ok (.invokevirtual 169, 3) := by decide +kernel
theorem dX10_worth_4 : decode cX10_worth 4 = .ok (.ifCond .ne 9, 3) := by decide +kernel
theorem dX10_worth_7 : decode cX10_worth 7 = .ok (.aload_n 0, 1) := by decide +kernel
theorem dX10_worth_8 : decode cX10_worth 8 = .ok (.iconst 3, 1) := by decide +kernel
theorem dX10_worth_9 : decode cX10_worth 9 = .ok (.invokevirtual 165, 3) := by decide +kernel
theorem dX10_worth_12 : decode cX10_worth 12 = .ok (.lreturn, 1) := by decide +kernel
theorem dX10_worth_13 : decode cX10_worth 13 = .ok (.aload_n 0, 1) := by decide +kernel
theorem dX10_worth_14 : decode cX10_worth 14 = .ok (.iconst 1, 1) := by decide +kernel
theorem dX10_worth_15 : decode cX10_worth 15 = .ok (.putfield 183, 3) := by decide +kernel
theorem dX10_worth_18 : decode cX10_worth 18 = .ok (.aload_n 0, 1) := by decide +kernel
theorem dX10_worth_19 : decode cX10_worth 19 = .ok (.lload_n 1, 1) := by decide +kernel
theorem dX10_worth_20 : decode cX10_worth 20 = .ok (.aload_n 0, 1) := by decide +kernel
theorem dX10_worth_21 : decode cX10_worth 21 = .ok (.getfield 140, 3) := by decide +kernel
theorem dX10_worth_24 : decode cX10_worth 24 = .ok (.aload_n 0, 1) := by decide +kernel
theorem dX10_worth_25 : decode cX10_worth 25 = .ok (.getfield 136, 3) := by decide +kernel
theorem dX10_worth_28 : decode cX10_worth 28 = .ok (.iconst 0, 1) := by decide +kernel
theorem dX10_worth_29 : decode cX10_worth 29 = .ok (.invokestatic 173, 3) := by decide +kernel
theorem dX10_worth_32 : decode cX10_worth 32 = .ok (.invokevirtual 186, 3) := by decide +kernel
theorem dX10_worth_35 : decode cX10_worth 35 = .ok (.aload_n 0, 1) := by decide +kernel
theorem dX10_worth_36 : decode cX10_worth 36 = .ok (.getfield 140, 3) := by decide +kernel
theorem dX10_worth_39 : decode cX10_worth 39 = .ok (.aload_n 0, 1) := by decide +kernel
theorem dX10_worth_40 : decode cX10_worth 40 = .ok (.getfield 136, 3) := by decide +kernel
theorem dX10_worth_43 : decode cX10_worth 43 = .ok (.iconst 1, 1) := by decide +kernel
theorem dX10_worth_44 : decode cX10_worth 44 = .ok (.invokestatic 173, 3) := by decide +kernel
theorem dX10_worth_47 : decode cX10_worth 47 = .ok (.ldiv, 1) := by decide +kernel
theorem dX10_worth_48 : decode cX10_worth 48 = .ok (.lstore_n 3, 1) := by decide +kernel
theorem dX10_worth_49 : decode cX10_worth 49 = .ok (.aload_n 0, 1) := by decide +kernel
theorem dX10_worth_50 : decode cX10_worth 50 = .ok (.getfield 183, 3) := by decide +kernel
theorem dX10_worth_53 : decode cX10_worth 53 = .ok (.ifCond .eq 15, 3) := by decide +kernel
theorem dX10_worth_56 : decode cX10_worth 56 = .ok (.lload_n 3, 1) := by decide +kernel
theorem dX10_worth_57 : decode cX10_worth 57 = .ok (.ldc2_w 189, 3) := by decide +kernel
theorem dX10_worth_60 : decode cX10_worth 60 = .ok (.lcmp, 1) := by decide +kernel
theorem dX10_worth_61 : decode cX10_worth 61 = .ok (.ifCond .lt 7, 3) := by decide +kernel
theorem dX10_worth_64 : decode cX10_worth 64 = .ok (.lload_n 3, 1) := by decide +kernel
theorem dX10_worth_65 : decode cX10_worth 65 = .ok (.goto 9, 3) := by decide +kernel
theorem dX10_worth_68 : decode cX10_worth 68 = .ok (.aload_n 0, 1) := by decide +kernel
theorem dX10_worth_69 : decode cX10_worth 69 = .ok (.bipush 8, 2) := by decide +kernel
theorem dX10_worth_71 : decode cX10_worth 71 = .ok (.invokevirtual 165, 3) := by decide +kernel
theorem dX10_worth_74 : decode cX10_worth 74 = .ok (.lreturn, 1) := by decide +kernel
def e_X10_worth (a1 : Int64) (σ : ES) : Option (Int64 × ES) := (e_X10_ringsNow σ).bind (fun r1 => if r1.1 = 0 then ((e_X10_farFinds (3 : Int32) r1.2).bind (fun r14 => some (r14.1, r14.2))) else ((e_X10_lowest (eL (uI r1.2 69 15 (1 : Int32)) 69 11) (eL (uI r1.2 69 15 (1 : Int32)) 69 12) (0 : Int32)).bind (fun r3 => (e_X10_product a1 r3 (uI r1.2 69 15 (1 : Int32))).bind (fun r5 => (e_X10_lowest (eL r5.2 69 11) (eL r5.2 69 12) (1 : Int32)).bind (fun r7 => if r7 = 0 then none else (if (eI r5.2 69 15) = 0 then ((e_X10_farFinds (8 : Int32) r5.2).bind (fun r10 => some (r10.1, r10.2))) else (if (r5.1 / r7) < (-4000000000000000000 : Int64) then ((e_X10_farFinds (8 : Int32) r5.2).bind (fun r12 => some (r12.1, r12.2))) else (some ((r5.1 / r7), r5.2)))))))))
set_option maxRecDepth 100000 in
set_option maxHeartbeats 4000000 in
theorem k_X10_worth {l : Launch} {σ : ES} {a1 : Int64} {out : (Int64 × ES)} (h : e_X10_worth a1 σ = some out) : MK l yX10_worth cX10_worth 5 (some .long) 14 [.ref 69, .long a1] (mkS σ) (some (.long out.1)) (mkS out.2) := by
  unfold e_X10_worth at h
  refine mw_entry (own := RX10) (ini := false) (L := [(0, .ref 69), (1, .long a1)]) (by decide +kernel) rfl (fun h => nomatch h) rfl (Nat.le_of_ble_eq_true rfl) (Nat.le_of_ble_eq_true rfl) (fun E => ?_)
  refine mw_aload_n dX10_worth_0 0 rfl ?_
  obtain ⟨r1, e2, h⟩ := mbd h
  refine mv_callV_i (As := []) (ci := 9) lkV_RX10_169_yX10_ringsNow dX10_worth_1 (k_X10_ringsNow e2) rfl rfl rfl rfl (Nat.le_of_ble_eq_true rfl) (by decide) (by decide) ?_
  refine mw_if_ne (tgt := 13) dX10_worth_4 (by decide) (fun hc => ?_) (fun hc => ?_)
  · have h := mie hc h
    refine mw_aload_n dX10_worth_13 0 rfl ?_
    refine mw_iconst (v := 1) dX10_worth_14 (by decide) ?_
    refine ev_putZ fw_RX10_183_9 dX10_worth_15 rfl rfl (by decide) ?_
    refine mw_aload_n dX10_worth_18 0 rfl ?_
    refine mw_lload_n dX10_worth_19 1 rfl ?_
    refine mw_aload_n dX10_worth_20 0 rfl ?_
    refine ev_getL fd_RX10_140_9 dX10_worth_21 rfl rfl ?_
    refine mw_aload_n dX10_worth_24 0 rfl ?_
    refine ev_getL fd_RX10_136_9 dX10_worth_25 rfl rfl ?_
    refine mw_iconst (v := 0) dX10_worth_28 (by decide) ?_
    obtain ⟨r3, e4, h⟩ := mbd h
    refine mv_callS_l (As := [.long (eL (uI r1.2 69 15 (1 : Int32)) 69 11), .long (eL (uI r1.2 69 15 (1 : Int32)) 69 12), .int (0 : Int32)]) lkS_RX10_173_yX10_lowest dX10_worth_29 (k_X10_lowest e4) rfl rfl (Nat.le_of_ble_eq_true rfl) (by decide) (by decide) ?_
    obtain ⟨r5, e6, h⟩ := mbd h
    refine mv_callV_l (As := [.long a1, .long r3]) (ci := 9) lkV_RX10_186_yX10_product dX10_worth_32 (k_X10_product e6) rfl rfl rfl rfl (Nat.le_of_ble_eq_true rfl) (by decide) (by decide) ?_
    refine mw_aload_n dX10_worth_35 0 rfl ?_
    refine ev_getL fd_RX10_140_9 dX10_worth_36 rfl rfl ?_
    refine mw_aload_n dX10_worth_39 0 rfl ?_
    refine ev_getL fd_RX10_136_9 dX10_worth_40 rfl rfl ?_
    refine mw_iconst (v := 1) dX10_worth_43 (by decide) ?_
    obtain ⟨r7, e8, h⟩ := mbd h
    refine mv_callS_l (As := [.long (eL r5.2 69 11), .long (eL r5.2 69 12), .int (1 : Int32)]) lkS_RX10_173_yX10_lowest dX10_worth_44 (k_X10_lowest e8) rfl rfl (Nat.le_of_ble_eq_true rfl) (by decide) (by decide) ?_
    obtain ⟨m9, h⟩ := mnf h
    refine mw_ldiv dX10_worth_47 m9 ?_
    refine mw_lstore_n (L' := [(3, .long (r5.1 / r7)), (0, .ref 69), (1, .long a1)]) dX10_worth_48 rfl (by decide) rfl ?_
    refine mw_aload_n dX10_worth_49 1 rfl ?_
    refine ev_getZ fd_RX10_183_9 dX10_worth_50 rfl rfl ?_
    refine mw_if_eq (tgt := 68) dX10_worth_53 (by decide) (fun hc => ?_) (fun hc => ?_)
    · have h := mit hc h
      refine mw_aload_n dX10_worth_68 1 rfl ?_
      refine mw_bipush (v := 8) dX10_worth_69 (by decide) ?_
      obtain ⟨r10, e11, h⟩ := mbd h
      refine mv_callV_l (As := [.int (8 : Int32)]) (ci := 9) lkV_RX10_165_yX10_farFinds dX10_worth_71 (k_X10_farFinds e11) rfl rfl rfl rfl (Nat.le_of_ble_eq_true rfl) (by decide) (by decide) ?_
      exact mw_lret dX10_worth_74 rfl (ers_lm h) rfl rfl
    · have h := mie hc h
      refine mw_lload_n dX10_worth_56 0 rfl ?_
      refine mw_ldc2 dX10_worth_57 wt_686 ?_
      refine mw_lc_lt (tgt := 68) dX10_worth_60 dX10_worth_61 (by decide) (fun hc => ?_) (fun hc => ?_)
      · have h := mit hc h
        refine mw_aload_n dX10_worth_68 1 rfl ?_
        refine mw_bipush (v := 8) dX10_worth_69 (by decide) ?_
        obtain ⟨r12, e13, h⟩ := mbd h
        refine mv_callV_l (As := [.int (8 : Int32)]) (ci := 9) lkV_RX10_165_yX10_farFinds dX10_worth_71 (k_X10_farFinds e13) rfl rfl rfl rfl (Nat.le_of_ble_eq_true rfl) (by decide) (by decide) ?_
        exact mw_lret dX10_worth_74 rfl (ers_lm h) rfl rfl
      · have h := mie hc h
        refine mw_lload_n dX10_worth_64 0 rfl ?_
        refine mw_goto (tgt := 74) dX10_worth_65 (by decide) ?_
        exact mw_lret dX10_worth_74 rfl (ers_lm h) rfl rfl
  · have h := mit hc h
    refine mw_aload_n dX10_worth_7 0 rfl ?_
    refine mw_iconst (v := 3) dX10_worth_8 (by decide) ?_
    obtain ⟨r14, e15, h⟩ := mbd h
    refine mv_callV_l (As := [.int (3 : Int32)]) (ci := 9) lkV_RX10_165_yX10_farFinds dX10_worth_9 (k_X10_farFinds e15) rfl rfl rfl rfl (Nat.le_of_ble_eq_true rfl) (by decide) (by decide) ?_
    exact mw_lret dX10_worth_12 rfl (ers_lm h) rfl rfl

theorem dX10_isRaised_0 : decode cX10_isRaised 0 = .ok (.aload_n 0, 1) := by decide +kernel
theorem dX10_isRaised_1 : decode cX10_isRaised 1 = .ok (.getfield 19, 3) := by decide +kernel
theorem dX10_isRaised_4 : decode cX10_isRaised 4 = .ok (.bipush 6, 2) := by decide +kernel
theorem dX10_isRaised_6 : decode cX10_isRaised 6 = .ok (.iload_n 1, 1) := by decide +kernel
theorem dX10_isRaised_7 : decode cX10_isRaised 7 = .ok (.imul, 1) := by decide +kernel
theorem dX10_isRaised_8 : decode cX10_isRaised 8 = .ok (.iconst 3, 1) := by decide +kernel
theorem dX10_isRaised_9 : decode cX10_isRaised 9 = .ok (.iadd, 1) := by decide +kernel
theorem dX10_isRaised_10 : decode cX10_isRaised 10 = .ok (.iload_n 2, 1) := by decide +kernel
theorem dX10_isRaised_11 : decode cX10_isRaised 11 = .ok (.iastore, 1) := by decide +kernel
theorem dX10_isRaised_12 : decode cX10_isRaised 12 = .ok (.aload_n 0, 1) := by decide +kernel
theorem dX10_isRaised_13 : decode cX10_isRaised 13 = .ok (.iload_n 3, 1) := by decide +kernel
theorem dX10_isRaised_14 : decode cX10_isRaised 14 = .ok (.iconst 1, 1) := by decide +kernel
theorem dX10_isRaised_15 : decode cX10_isRaised 15 = .ok (.iload_n 1, 1) := by decide +kernel
theorem dX10_isRaised_16 : decode cX10_isRaised 16 = .ok (.ishl, 1) := by decide +kernel
theorem dX10_isRaised_17 : decode cX10_isRaised 17 = .ok (.invokevirtual 161, 3) := by decide +kernel
theorem dX10_isRaised_20 : decode cX10_isRaised 20 = .ok (.pop, 1) := by decide +kernel
theorem dX10_isRaised_21 : decode cX10_isRaised 21 = .ok (.aload_n 0, 1) := by decide +kernel
theorem dX10_isRaised_22 : decode cX10_isRaised 22 = .ok (.getfield 140, 3) := by decide +kernel
theorem dX10_isRaised_25 : decode cX10_isRaised 25 = .ok (.lload 6, 2) := by decide +kernel
theorem dX10_isRaised_27 : decode cX10_isRaised 27 = .ok (.lmul, 1) := by decide +kernel
theorem dX10_isRaised_28 : decode cX10_isRaised 28 = .ok (.lload 4, 2) := by decide +kernel
theorem dX10_isRaised_30 : decode cX10_isRaised 30 = .ok (.aload_n 0, 1) := by decide +kernel
theorem dX10_isRaised_31 : decode cX10_isRaised 31 = .ok (.getfield 136, 3) := by decide +kernel
theorem dX10_isRaised_34 : decode cX10_isRaised 34 = .ok (.lmul, 1) := by decide +kernel
theorem dX10_isRaised_35 : decode cX10_isRaised 35 = .ok (.lsub, 1) := by decide +kernel
theorem dX10_isRaised_36 : decode cX10_isRaised 36 = .ok (.lconst 0, 1) := by decide +kernel
theorem dX10_isRaised_37 : decode cX10_isRaised 37 = .ok (.lcmp, 1) := by decide +kernel
theorem dX10_isRaised_38 : decode cX10_isRaised 38 = .ok (.ifCond .lt 7, 3) := by decide +kernel
theorem dX10_isRaised_41 : decode cX10_isRaised 41 = .ok (.iconst 1, 1) := by decide +kernel
theorem dX10_isRaised_42 : decode cX10_isRaised 42 = .ok (.goto 4, 3) := by decide +kernel
theorem dX10_isRaised_45 : decode cX10_isRaised 45 = .ok (.iconst 0, 1) := by decide +kernel
theorem dX10_isRaised_46 : decode cX10_isRaised 46 = .ok (.ireturn, 1) := by decide +kernel
def e_X10_isRaised (a1 : Int32) (a2 : Int32) (a3 : Int32) (a4 : Int64) (a6 : Int64) (σ : ES) : Option (Int32 × ES) := if mib (((6 : Int32) * a1) + (3 : Int32)) 84 = true then ((e_X10_rings a3 ((1 : Int32) <<< (a1 &&& 31)) (uI σ 71 (((6 : Int32) * a1) + (3 : Int32)).toNatClampNeg a2)).bind (fun r2 => if (((eL r2.2 69 11) * a6) - (a4 * (eL r2.2 69 12))) < (0 : Int64) then (some ((0 : Int32), r2.2)) else (some ((1 : Int32), r2.2)))) else none
set_option maxRecDepth 100000 in
set_option maxHeartbeats 4000000 in
theorem k_X10_isRaised {l : Launch} {σ : ES} {a1 : Int32} {a2 : Int32} {a3 : Int32} {a4 : Int64} {a6 : Int64} {out : (Int32 × ES)} (h : e_X10_isRaised a1 a2 a3 a4 a6 σ = some out) : MK l yX10_isRaised cX10_isRaised 8 (some .boolean) 13 [.ref 69, .int a1, .int a2, .int a3, .long a4, .long a6] (mkS σ) (some (.int out.1)) (mkS out.2) := by
  unfold e_X10_isRaised at h
  refine mw_entry (own := RX10) (ini := false) (L := [(0, .ref 69), (1, .int a1), (2, .int a2), (3, .int a3), (4, .long a4), (6, .long a6)]) (by decide +kernel) rfl (fun h => nomatch h) rfl (Nat.le_of_ble_eq_true rfl) (Nat.le_of_ble_eq_true rfl) (fun E => ?_)
  refine mw_aload_n dX10_isRaised_0 0 rfl ?_
  refine ev_getR (q := 71) fd_RX10_19_9 dX10_isRaised_1 rfl rfl rfl ?_
  refine mw_bipush (v := 6) dX10_isRaised_4 (by decide) ?_
  refine mw_iload_n dX10_isRaised_6 1 rfl ?_
  refine mw_imul dX10_isRaised_7 ?_
  refine mw_iconst (v := 3) dX10_isRaised_8 (by decide) ?_
  refine mw_iadd dX10_isRaised_9 ?_
  refine mw_iload_n dX10_isRaised_10 2 rfl ?_
  obtain ⟨m1, h⟩ := mif h
  refine ev_iast dX10_isRaised_11 (by decide) rfl m1 ?_
  refine mw_aload_n dX10_isRaised_12 0 rfl ?_
  refine mw_iload_n dX10_isRaised_13 3 rfl ?_
  refine mw_iconst (v := 1) dX10_isRaised_14 (by decide) ?_
  refine mw_iload_n dX10_isRaised_15 1 rfl ?_
  refine mw_ishl dX10_isRaised_16 ?_
  obtain ⟨r2, e3, h⟩ := mbd h
  refine mv_callV_i (As := [.int a3, .int ((1 : Int32) <<< (a1 &&& 31))]) (ci := 9) lkV_RX10_161_yX10_rings dX10_isRaised_17 (k_X10_rings e3) rfl rfl rfl rfl (Nat.le_of_ble_eq_true rfl) (by decide) (by decide) ?_
  refine mw_pop dX10_isRaised_20 rfl ?_
  refine mw_aload_n dX10_isRaised_21 0 rfl ?_
  refine ev_getL fd_RX10_140_9 dX10_isRaised_22 rfl rfl ?_
  refine mw_lload dX10_isRaised_25 5 rfl ?_
  refine mw_lmul dX10_isRaised_27 ?_
  refine mw_lload dX10_isRaised_28 4 rfl ?_
  refine mw_aload_n dX10_isRaised_30 0 rfl ?_
  refine ev_getL fd_RX10_136_9 dX10_isRaised_31 rfl rfl ?_
  refine mw_lmul dX10_isRaised_34 ?_
  refine mw_lsub dX10_isRaised_35 ?_
  refine mw_lconst (v := 0) dX10_isRaised_36 (by decide) ?_
  refine mw_lc_lt (tgt := 45) dX10_isRaised_37 dX10_isRaised_38 (by decide) (fun hc => ?_) (fun hc => ?_)
  · have h := mit hc h
    refine mw_iconst (v := 0) dX10_isRaised_45 (by decide) ?_
    exact mw_zret dX10_isRaised_46 rfl (by decide) (ers_im h) rfl rfl
  · have h := mie hc h
    refine mw_iconst (v := 1) dX10_isRaised_41 (by decide) ?_
    refine mw_goto (tgt := 46) dX10_isRaised_42 (by decide) ?_
    exact mw_zret dX10_isRaised_46 rfl (by decide) (ers_im h) rfl rfl

theorem dX10_raised_0 : decode cX10_raised 0 = .ok (.aload_n 0, 1) := by decide +kernel
theorem dX10_raised_1 : decode cX10_raised 1 = .ok (.invokevirtual 157, 3) := by decide +kernel
theorem dX10_raised_4 : decode cX10_raised 4 = .ok (.iconst 1, 1) := by decide +kernel
theorem dX10_raised_5 : decode cX10_raised 5 = .ok (.iload_n 1, 1) := by decide +kernel
theorem dX10_raised_6 : decode cX10_raised 6 = .ok (.ishl, 1) := by decide +kernel
theorem dX10_raised_7 : decode cX10_raised 7 = .ok (.ior, 1) := by decide +kernel
theorem dX10_raised_8 : decode cX10_raised 8 = .ok (.istore_n 2, 1) := by decide +kernel
theorem dX10_raised_9 : decode cX10_raised 9 = .ok (.aload_n 0, 1) := by decide +kernel
theorem dX10_raised_10 : decode cX10_raised 10 = .ok (.iload_n 2, 1) := by decide +kernel
theorem dX10_raised_11 : decode cX10_raised 11 = .ok (.iconst 1, 1) := by decide +kernel
theorem dX10_raised_12 : decode cX10_raised 12 = .ok (.iload_n 1, 1) := by decide +kernel
theorem dX10_raised_13 : decode cX10_raised 13 = .ok (.ishl, 1) := by decide +kernel
theorem dX10_raised_14 : decode cX10_raised 14 = .ok (.invokevirtual 161, 3) := by decide +kernel
theorem dX10_raised_17 : decode cX10_raised 17 = .ok (.ifCond .ne 9, 3) := by decide +kernel
theorem dX10_raised_20 : decode cX10_raised 20 = .ok (.aload_n 0, 1) := by decide +kernel
theorem dX10_raised_21 : decode cX10_raised 21 = .ok (.iconst 3, 1) := by decide +kernel
theorem dX10_raised_22 : decode cX10_raised 22 = .ok (.invokevirtual 81, 3) := by decide +kernel
theorem dX10_raised_25 : decode cX10_raised 25 = .ok (.ireturn, 1) := by decide +kernel
theorem dX10_raised_26 : decode cX10_raised 26 = .ok (.aload_n 0, 1) := by decide +kernel
theorem dX10_raised_27 : decode cX10_raised 27 = .ok (.iload_n 2, 1) := by decide +kernel
theorem dX10_raised_28 : decode cX10_raised 28 = .ok (.iconst 1, 1) := by decide +kernel
theorem dX10_raised_29 : decode cX10_raised 29 = .ok (.iload_n 1, 1) := by decide +kernel
theorem dX10_raised_30 : decode cX10_raised 30 = .ok (.ishl, 1) := by decide +kernel
theorem dX10_raised_31 : decode cX10_raised 31 = .ok (.iconst (-1), 1) := by decide +kernel
theorem dX10_raised_32 : decode cX10_raised 32 = .ok (.ixor, 1) := by decide +kernel
theorem dX10_raised_33 : decode cX10_raised 33 = .ok (.iand, 1) := by decide +kernel
theorem dX10_raised_34 : decode cX10_raised 34 = .ok (.iconst 0, 1) := by decide +kernel
theorem dX10_raised_35 : decode cX10_raised 35 = .ok (.invokevirtual 161, 3) := by decide +kernel
theorem dX10_raised_38 : decode cX10_raised 38 = .ok (.ifCond .ne 6, 3) := by decide +kernel
theorem dX10_raised_41 : decode cX10_raised 41 = .ok (.ldc 191, 2) := by decide +kernel
theorem dX10_raised_43 : decode cX10_raised 43 = .ok (.ireturn, 1) := by decide +kernel
theorem dX10_raised_44 : decode cX10_raised 44 = .ok (.aload_n 0, 1) := by decide +kernel
theorem dX10_raised_45 : decode cX10_raised 45 = .ok (.getfield 140, 3) := by decide +kernel
theorem dX10_raised_48 : decode cX10_raised 48 = .ok (.lstore_n 3, 1) := by decide +kernel
theorem dX10_raised_49 : decode cX10_raised 49 = .ok (.aload_n 0, 1) := by decide +kernel
theorem dX10_raised_50 : decode cX10_raised 50 = .ok (.getfield 136, 3) := by decide +kernel
theorem dX10_raised_53 : decode cX10_raised 53 = .ok (.lstore 5, 2) := by decide +kernel
theorem dX10_raised_55 : decode cX10_raised 55 = .ok (.aload_n 0, 1) := by decide +kernel
theorem dX10_raised_56 : decode cX10_raised 56 = .ok (.iload_n 1, 1) := by decide +kernel
theorem dX10_raised_57 : decode cX10_raised 57 = .ok (.ldc 192, 2) := by decide +kernel
theorem dX10_raised_59 : decode cX10_raised 59 = .ok (.iload_n 2, 1) := by decide +kernel
theorem dX10_raised_60 : decode cX10_raised 60 = .ok (.lload_n 3, 1) := by decide +kernel
theorem dX10_raised_61 : decode cX10_raised 61 = .ok (.lload 5, 2) := by decide +kernel
theorem dX10_raised_63 : decode cX10_raised 63 = .ok (.invokevirtual 193, 3) := by decide +kernel
theorem dX10_raised_66 : decode cX10_raised 66 = .ok (.ifCond .ne 9, 3) := by decide +kernel
theorem dX10_raised_69 : decode cX10_raised 69 = .ok (.aload_n 0, 1) := by decide +kernel
theorem dX10_raised_70 : decode cX10_raised 70 = .ok (.iconst 3, 1) := by decide +kernel
theorem dX10_raised_71 : decode cX10_raised 71 = .ok (.invokevirtual 81, 3) := by decide +kernel
theorem dX10_raised_74 : decode cX10_raised 74 = .ok (.ireturn, 1) := by decide +kernel
theorem dX10_raised_75 : decode cX10_raised 75 = .ok (.ldc 191, 2) := by decide +kernel
theorem dX10_raised_77 : decode cX10_raised 77 = .ok (.istore 7, 2) := by decide +kernel
theorem dX10_raised_79 : decode cX10_raised 79 = .ok (.ldc 192, 2) := by decide +kernel
theorem dX10_raised_81 : decode cX10_raised 81 = .ok (.istore 8, 2) := by decide +kernel
theorem dX10_raised_83 : decode cX10_raised 83 = .ok (.iload 7, 2) := by decide +kernel
theorem dX10_raised_85 : decode cX10_raised 85 = .ok (.iload 8, 2) := by decide +kernel
theorem dX10_raised_87 : decode cX10_raised 87 = .ok (.if_icmp .ge 45, 3) := by decide +kernel
theorem dX10_raised_90 : decode cX10_raised 90 = .ok (.iload 7, 2) := by decide +kernel
theorem dX10_raised_92 : decode cX10_raised 92 = .ok (.iload 8, 2) := by decide +kernel
theorem dX10_raised_94 : decode cX10_raised 94 = .ok (.iload 7, 2) := by decide +kernel
theorem dX10_raised_96 : decode cX10_raised 96 = .ok (.isub, 1) := by decide +kernel
theorem dX10_raised_97 : decode cX10_raised 97 = .ok (.iconst 2, 1) := by decide +kernel
theorem dX10_raised_98 : decode cX10_raised 98 = .ok (.idiv, 1) := by decide +kernel
theorem dX10_raised_99 : decode cX10_raised 99 = .ok (.iadd, 1) := by decide +kernel
theorem dX10_raised_100 : decode cX10_raised 100 = .ok (.istore 9, 2) := by decide +kernel
theorem dX10_raised_102 : decode cX10_raised 102 = .ok (.aload_n 0, 1) := by decide +kernel
theorem dX10_raised_103 : decode cX10_raised 103 = .ok (.iload_n 1, 1) := by decide +kernel
theorem dX10_raised_104 : decode cX10_raised 104 = .ok (.iload 9, 2) := by decide +kernel
theorem dX10_raised_106 : decode cX10_raised 106 = .ok (.iload_n 2, 1) := by decide +kernel
theorem dX10_raised_107 : decode cX10_raised 107 = .ok (.lload_n 3, 1) := by decide +kernel
theorem dX10_raised_108 : decode cX10_raised 108 = .ok (.lload 5, 2) := by decide +kernel
theorem dX10_raised_110 : decode cX10_raised 110 = .ok (.invokevirtual 193, 3) := by decide +kernel
theorem dX10_raised_113 : decode cX10_raised 113 = .ok (.ifCond .eq 10, 3) := by decide +kernel
theorem dX10_raised_116 : decode cX10_raised 116 = .ok (.iload 9, 2) := by decide +kernel
theorem dX10_raised_118 : decode cX10_raised 118 = .ok (.istore 8, 2) := by decide +kernel
theorem dX10_raised_120 : decode cX10_raised 120 = .ok (.goto 9, 3) := by decide +kernel
theorem dX10_raised_123 : decode cX10_raised 123 = .ok (.iload 9, 2) := by decide +kernel
theorem dX10_raised_125 : decode cX10_raised 125 = .ok (.iconst 1, 1) := by decide +kernel
theorem dX10_raised_126 : decode cX10_raised 126 = .ok (.iadd, 1) := by decide +kernel
theorem dX10_raised_127 : decode cX10_raised 127 = .ok (.istore 7, 2) := by decide +kernel
theorem dX10_raised_129 : decode cX10_raised 129 = .ok (.goto (-46), 3) := by decide +kernel
theorem dX10_raised_132 : decode cX10_raised 132 = .ok (.iload 7, 2) := by decide +kernel
theorem dX10_raised_134 : decode cX10_raised 134 = .ok (.ireturn, 1) := by decide +kernel
def e_X10_raised_L83 (a1 : Int32) : Nat → Int32 → Int64 → Int64 → Int32 → Int32 → ES → Option (Int32 × ES)
  | 0, _, _, _, _, _, _ => none
  | n + 1, x2, x3, x5, x7, x8, σ => if x8 ≤ x7 then (some (x7, σ)) else ((e_X10_isRaised a1 (x7 + ((x8 - x7) / (2 : Int32))) x2 x3 x5 σ).bind (fun r1 => if r1.1 = 0 then (e_X10_raised_L83 a1 n x2 x3 x5 ((x7 + ((x8 - x7) / (2 : Int32))) + (1 : Int32)) x8 r1.2) else (e_X10_raised_L83 a1 n x2 x3 x5 x7 (x7 + ((x8 - x7) / (2 : Int32))) r1.2)))
set_option maxRecDepth 100000 in
set_option maxHeartbeats 4000000 in
theorem p_X10_raised_L83 {l : Launch} {E : MX} {out : (Int32 × ES)} {a1 : Int32}  : ∀ (n : Nat) (x2 : Int32) (x3 : Int64) (x5 : Int64) (x7 : Int32) (x8 : Int32) (σ : ES), e_X10_raised_L83 a1 n x2 x3 x5 x7 x8 σ = some out → MV l E cX10_raised RX10 10 (some .int) 14 (82, (some (.int out.1)), mkS out.2) (mkS σ) 83 [(0, .ref 69), (1, .int a1), (2, .int x2), (3, .long x3), (5, .long x5), (7, .int x7), (8, .int x8)] [] := by
  intro n
  induction n with
  | zero =>
    intro x2 x3 x5 x7 x8 σ h
    exact nomatch h
  | succ n ih =>
    intro x2 x3 x5 x7 x8 σ h
    rw [e_X10_raised_L83] at h
    refine mw_iload dX10_raised_83 5 rfl ?_
    refine mw_iload dX10_raised_85 6 rfl ?_
    refine mw_icmp_ge (tgt := 132) dX10_raised_87 (by decide) (fun hc => ?_) (fun hc => ?_)
    · have h := mit hc h
      refine mw_iload dX10_raised_132 5 rfl ?_
      exact mw_iret dX10_raised_134 rfl (ers_im h) rfl rfl
    · have h := mie hc h
      refine mw_iload dX10_raised_90 5 rfl ?_
      refine mw_iload dX10_raised_92 6 rfl ?_
      refine mw_iload dX10_raised_94 5 rfl ?_
      refine mw_isub dX10_raised_96 ?_
      refine mw_iconst (v := 2) dX10_raised_97 (by decide) ?_
      refine mw_idiv dX10_raised_98 (by decide) ?_
      refine mw_iadd dX10_raised_99 ?_
      refine mw_istore (L' := [(9, .int (x7 + ((x8 - x7) / (2 : Int32)))), (0, .ref 69), (1, .int a1), (2, .int x2), (3, .long x3), (5, .long x5), (7, .int x7), (8, .int x8)]) dX10_raised_100 (by decide) rfl ?_
      refine mw_aload_n dX10_raised_102 1 rfl ?_
      refine mw_iload_n dX10_raised_103 2 rfl ?_
      refine mw_iload dX10_raised_104 0 rfl ?_
      refine mw_iload_n dX10_raised_106 3 rfl ?_
      refine mw_lload_n dX10_raised_107 4 rfl ?_
      refine mw_lload dX10_raised_108 5 rfl ?_
      obtain ⟨r1, e2, h⟩ := mbd h
      refine mv_callV_i (As := [.int a1, .int (x7 + ((x8 - x7) / (2 : Int32))), .int x2, .long x3, .long x5]) (ci := 9) lkV_RX10_193_yX10_isRaised dX10_raised_110 (k_X10_isRaised e2) rfl rfl rfl rfl (Nat.le_of_ble_eq_true rfl) (by decide) (by decide) ?_
      refine mw_if_eq (tgt := 123) dX10_raised_113 (by decide) (fun hc => ?_) (fun hc => ?_)
      · have h := mit hc h
        refine mw_iload dX10_raised_123 0 rfl ?_
        refine mw_iconst (v := 1) dX10_raised_125 (by decide) ?_
        refine mw_iadd dX10_raised_126 ?_
        refine mw_istore (L' := [(7, .int ((x7 + ((x8 - x7) / (2 : Int32))) + (1 : Int32))), (9, .int (x7 + ((x8 - x7) / (2 : Int32)))), (0, .ref 69), (1, .int a1), (2, .int x2), (3, .long x3), (5, .long x5), (8, .int x8)]) dX10_raised_127 (by decide) rfl ?_
        refine mw_goto (tgt := 83) dX10_raised_129 (by decide) ?_
        exact mw_sub (L' := [(0, .ref 69), (1, .int a1), (2, .int x2), (3, .long x3), (5, .long x5), (7, .int ((x7 + ((x8 - x7) / (2 : Int32))) + (1 : Int32))), (8, .int x8)]) [2, 3, 4, 5, 6, 0, 7] rfl (ih _ _ _ _ _ _ h)
      · have h := mie hc h
        refine mw_iload dX10_raised_116 0 rfl ?_
        refine mw_istore (L' := [(8, .int (x7 + ((x8 - x7) / (2 : Int32)))), (9, .int (x7 + ((x8 - x7) / (2 : Int32)))), (0, .ref 69), (1, .int a1), (2, .int x2), (3, .long x3), (5, .long x5), (7, .int x7)]) dX10_raised_118 (by decide) rfl ?_
        refine mw_goto (tgt := 129) dX10_raised_120 (by decide) ?_
        refine mw_goto (tgt := 83) dX10_raised_129 (by decide) ?_
        exact mw_sub (L' := [(0, .ref 69), (1, .int a1), (2, .int x2), (3, .long x3), (5, .long x5), (7, .int x7), (8, .int (x7 + ((x8 - x7) / (2 : Int32))))]) [2, 3, 4, 5, 6, 7, 0] rfl (ih _ _ _ _ _ _ h)
def e_X10_raised (a1 : Int32) (σ : ES) : Option (Int32 × ES) := (e_X10_openWays σ).bind (fun r1 => (e_X10_rings (r1 ||| ((1 : Int32) <<< (a1 &&& 31))) ((1 : Int32) <<< (a1 &&& 31)) σ).bind (fun r3 => if r3.1 = 0 then ((e_X10_finds (3 : Int32) r3.2).bind (fun r11 => some (r11.1, r11.2))) else ((e_X10_rings ((r1 ||| ((1 : Int32) <<< (a1 &&& 31))) &&& (((1 : Int32) <<< (a1 &&& 31)) ^^^ (-1 : Int32))) (0 : Int32) r3.2).bind (fun r5 => if r5.1 = 0 then (some ((-999999999 : Int32), r5.2)) else ((e_X10_isRaised a1 (999999999 : Int32) (r1 ||| ((1 : Int32) <<< (a1 &&& 31))) (eL r5.2 69 11) (eL r5.2 69 12) r5.2).bind (fun r7 => if r7.1 = 0 then ((e_X10_finds (3 : Int32) r7.2).bind (fun r9 => some (r9.1, r9.2))) else (e_X10_raised_L83 a1 mN (r1 ||| ((1 : Int32) <<< (a1 &&& 31))) (eL r5.2 69 11) (eL r5.2 69 12) (-999999999 : Int32) (999999999 : Int32) r7.2)))))))
set_option maxRecDepth 100000 in
set_option maxHeartbeats 4000000 in
theorem k_X10_raised {l : Launch} {σ : ES} {a1 : Int32} {out : (Int32 × ES)} (h : e_X10_raised a1 σ = some out) : MK l yX10_raised cX10_raised 10 (some .int) 14 [.ref 69, .int a1] (mkS σ) (some (.int out.1)) (mkS out.2) := by
  unfold e_X10_raised at h
  refine mw_entry (own := RX10) (ini := false) (L := [(0, .ref 69), (1, .int a1)]) (by decide +kernel) rfl (fun h => nomatch h) rfl (Nat.le_of_ble_eq_true rfl) (Nat.le_of_ble_eq_true rfl) (fun E => ?_)
  refine mw_aload_n dX10_raised_0 0 rfl ?_
  obtain ⟨r1, e2, h⟩ := mbd h
  refine mv_callV_i (As := []) (ci := 9) lkV_RX10_157_yX10_openWays dX10_raised_1 (k_X10_openWays e2) rfl rfl rfl rfl (Nat.le_of_ble_eq_true rfl) (by decide) (by decide) ?_
  refine mw_iconst (v := 1) dX10_raised_4 (by decide) ?_
  refine mw_iload_n dX10_raised_5 1 rfl ?_
  refine mw_ishl dX10_raised_6 ?_
  refine mw_ior dX10_raised_7 ?_
  refine mw_istore_n (L' := [(2, .int (r1 ||| ((1 : Int32) <<< (a1 &&& 31)))), (0, .ref 69), (1, .int a1)]) dX10_raised_8 rfl (by decide) rfl ?_
  refine mw_aload_n dX10_raised_9 1 rfl ?_
  refine mw_iload_n dX10_raised_10 0 rfl ?_
  refine mw_iconst (v := 1) dX10_raised_11 (by decide) ?_
  refine mw_iload_n dX10_raised_12 2 rfl ?_
  refine mw_ishl dX10_raised_13 ?_
  obtain ⟨r3, e4, h⟩ := mbd h
  refine mv_callV_i (As := [.int (r1 ||| ((1 : Int32) <<< (a1 &&& 31))), .int ((1 : Int32) <<< (a1 &&& 31))]) (ci := 9) lkV_RX10_161_yX10_rings dX10_raised_14 (k_X10_rings e4) rfl rfl rfl rfl (Nat.le_of_ble_eq_true rfl) (by decide) (by decide) ?_
  refine mw_if_ne (tgt := 26) dX10_raised_17 (by decide) (fun hc => ?_) (fun hc => ?_)
  · have h := mie hc h
    refine mw_aload_n dX10_raised_26 1 rfl ?_
    refine mw_iload_n dX10_raised_27 0 rfl ?_
    refine mw_iconst (v := 1) dX10_raised_28 (by decide) ?_
    refine mw_iload_n dX10_raised_29 2 rfl ?_
    refine mw_ishl dX10_raised_30 ?_
    refine mw_iconst (v := -1) dX10_raised_31 (by decide) ?_
    refine mw_ixor dX10_raised_32 ?_
    refine mw_iand dX10_raised_33 ?_
    refine mw_iconst (v := 0) dX10_raised_34 (by decide) ?_
    obtain ⟨r5, e6, h⟩ := mbd h
    refine mv_callV_i (As := [.int ((r1 ||| ((1 : Int32) <<< (a1 &&& 31))) &&& (((1 : Int32) <<< (a1 &&& 31)) ^^^ (-1 : Int32))), .int (0 : Int32)]) (ci := 9) lkV_RX10_161_yX10_rings dX10_raised_35 (k_X10_rings e6) rfl rfl rfl rfl (Nat.le_of_ble_eq_true rfl) (by decide) (by decide) ?_
    refine mw_if_ne (tgt := 44) dX10_raised_38 (by decide) (fun hc => ?_) (fun hc => ?_)
    · have h := mie hc h
      refine mw_aload_n dX10_raised_44 1 rfl ?_
      refine ev_getL fd_RX10_140_9 dX10_raised_45 rfl rfl ?_
      refine mw_lstore_n (L' := [(3, .long (eL r5.2 69 11)), (2, .int (r1 ||| ((1 : Int32) <<< (a1 &&& 31)))), (0, .ref 69), (1, .int a1)]) dX10_raised_48 rfl (by decide) rfl ?_
      refine mw_aload_n dX10_raised_49 2 rfl ?_
      refine ev_getL fd_RX10_136_9 dX10_raised_50 rfl rfl ?_
      refine mw_lstore (L' := [(5, .long (eL r5.2 69 12)), (3, .long (eL r5.2 69 11)), (2, .int (r1 ||| ((1 : Int32) <<< (a1 &&& 31)))), (0, .ref 69), (1, .int a1)]) dX10_raised_53 (by decide) rfl ?_
      refine mw_aload_n dX10_raised_55 3 rfl ?_
      refine mw_iload_n dX10_raised_56 4 rfl ?_
      refine mw_ldc dX10_raised_57 wt_695 ?_
      refine mw_iload_n dX10_raised_59 2 rfl ?_
      refine mw_lload_n dX10_raised_60 1 rfl ?_
      refine mw_lload dX10_raised_61 0 rfl ?_
      obtain ⟨r7, e8, h⟩ := mbd h
      refine mv_callV_i (As := [.int a1, .int (999999999 : Int32), .int (r1 ||| ((1 : Int32) <<< (a1 &&& 31))), .long (eL r5.2 69 11), .long (eL r5.2 69 12)]) (ci := 9) lkV_RX10_193_yX10_isRaised dX10_raised_63 (k_X10_isRaised e8) rfl rfl rfl rfl (Nat.le_of_ble_eq_true rfl) (by decide) (by decide) ?_
      refine mw_if_ne (tgt := 75) dX10_raised_66 (by decide) (fun hc => ?_) (fun hc => ?_)
      · have h := mie hc h
        refine mw_ldc dX10_raised_75 wt_696 ?_
        refine mw_istore (L' := [(7, .int (-999999999 : Int32)), (5, .long (eL r5.2 69 12)), (3, .long (eL r5.2 69 11)), (2, .int (r1 ||| ((1 : Int32) <<< (a1 &&& 31)))), (0, .ref 69), (1, .int a1)]) dX10_raised_77 (by decide) rfl ?_
        refine mw_ldc dX10_raised_79 wt_695 ?_
        refine mw_istore (L' := [(8, .int (999999999 : Int32)), (7, .int (-999999999 : Int32)), (5, .long (eL r5.2 69 12)), (3, .long (eL r5.2 69 11)), (2, .int (r1 ||| ((1 : Int32) <<< (a1 &&& 31)))), (0, .ref 69), (1, .int a1)]) dX10_raised_81 (by decide) rfl ?_
        exact mw_sub (L' := [(0, .ref 69), (1, .int a1), (2, .int (r1 ||| ((1 : Int32) <<< (a1 &&& 31)))), (3, .long (eL r5.2 69 11)), (5, .long (eL r5.2 69 12)), (7, .int (-999999999 : Int32)), (8, .int (999999999 : Int32))]) [5, 6, 4, 3, 2, 1, 0] rfl (p_X10_raised_L83  mN _ _ _ _ _ _ h)
      · have h := mit hc h
        refine mw_aload_n dX10_raised_69 3 rfl ?_
        refine mw_iconst (v := 3) dX10_raised_70 (by decide) ?_
        obtain ⟨r9, e10, h⟩ := mbd h
        refine mv_callV_i (As := [.int (3 : Int32)]) (ci := 9) lkV_RX10_81_yX10_finds dX10_raised_71 (k_X10_finds e10) rfl rfl rfl rfl (Nat.le_of_ble_eq_true rfl) (by decide) (by decide) ?_
        exact mw_iret dX10_raised_74 rfl (ers_im h) rfl rfl
    · have h := mit hc h
      refine mw_ldc dX10_raised_41 wt_696 ?_
      exact mw_iret dX10_raised_43 rfl (ers_im h) rfl rfl
  · have h := mit hc h
    refine mw_aload_n dX10_raised_20 1 rfl ?_
    refine mw_iconst (v := 3) dX10_raised_21 (by decide) ?_
    obtain ⟨r11, e12, h⟩ := mbd h
    refine mv_callV_i (As := [.int (3 : Int32)]) (ci := 9) lkV_RX10_81_yX10_finds dX10_raised_22 (k_X10_finds e12) rfl rfl rfl rfl (Nat.le_of_ble_eq_true rfl) (by decide) (by decide) ?_
    exact mw_iret dX10_raised_25 rfl (ers_im h) rfl rfl

theorem dX10_raise_0 : decode cX10_raise 0 = .ok (.aload_n 0, 1) := by decide +kernel
theorem dX10_raise_1 : decode cX10_raise 1 = .ok (.iload_n 1, 1) := by decide +kernel
theorem dX10_raise_2 : decode cX10_raise 2 = .ok (.invokevirtual 102, 3) := by decide +kernel
theorem dX10_raise_5 : decode cX10_raise 5 = .ok (.ifCond .ne 9, 3) := by decide +kernel
theorem dX10_raise_8 : decode cX10_raise 8 = .ok (.aload_n 0, 1) := by decide +kernel
theorem dX10_raise_9 : decode cX10_raise 9 = .ok (.iconst 0, 1) := by decide +kernel
theorem dX10_raise_10 : decode cX10_raise 10 = .ok (.invokevirtual 81, 3) := by decide +kernel
theorem dX10_raise_13 : decode cX10_raise 13 = .ok (.ireturn, 1) := by decide +kernel
theorem dX10_raise_14 : decode cX10_raise 14 = .ok (.aload_n 0, 1) := by decide +kernel
theorem dX10_raise_15 : decode cX10_raise 15 = .ok (.iload_n 1, 1) := by decide +kernel
theorem dX10_raise_16 : decode cX10_raise 16 = .ok (.iconst 3, 1) := by decide +kernel
theorem dX10_raise_17 : decode cX10_raise 17 = .ok (.invokevirtual 70, 3) := by decide +kernel
theorem dX10_raise_20 : decode cX10_raise 20 = .ok (.istore_n 2, 1) := by decide +kernel
theorem dX10_raise_21 : decode cX10_raise 21 = .ok (.aload_n 0, 1) := by decide +kernel
theorem dX10_raise_22 : decode cX10_raise 22 = .ok (.iload_n 1, 1) := by decide +kernel
theorem dX10_raise_23 : decode cX10_raise 23 = .ok (.invokevirtual 197, 3) := by decide +kernel
theorem dX10_raise_26 : decode cX10_raise 26 = .ok (.istore_n 3, 1) := by decide +kernel
theorem dX10_raise_27 : decode cX10_raise 27 = .ok (.aload_n 0, 1) := by decide +kernel
theorem dX10_raise_28 : decode cX10_raise 28 = .ok (.getfield 19, 3) := by decide +kernel
theorem dX10_raise_31 : decode cX10_raise 31 = .ok (.bipush 6, 2) := by decide +kernel
theorem dX10_raise_33 : decode cX10_raise 33 = .ok (.iload_n 1, 1) := by decide +kernel
theorem dX10_raise_34 : decode cX10_raise 34 = .ok (.imul, 1) := by decide +kernel
theorem dX10_raise_35 : decode cX10_raise 35 = .ok (.iconst 3, 1) := by decide +kernel
theorem dX10_raise_36 : decode cX10_raise 36 = .ok (.iadd, 1) := by decide +kernel
theorem dX10_raise_37 : decode cX10_raise 37 = .ok (.iload_n 2, 1) := by decide +kernel
theorem dX10_raise_38 : decode cX10_raise 38 = .ok (.iastore, 1) := by decide +kernel
theorem dX10_raise_39 : decode cX10_raise 39 = .ok (.iload_n 3, 1) := by decide +kernel
theorem dX10_raise_40 : decode cX10_raise 40 = .ok (.ireturn, 1) := by decide +kernel
def e_X10_raise (a1 : Int32) (σ : ES) : Option (Int32 × ES) := (e_X10_isWay σ a1).bind (fun r1 => if r1 = 0 then ((e_X10_finds (0 : Int32) σ).bind (fun r8 => some (r8.1, r8.2))) else ((e_X10_at σ a1 (3 : Int32)).bind (fun r3 => (e_X10_raised a1 σ).bind (fun r5 => if mib (((6 : Int32) * a1) + (3 : Int32)) 84 = true then (some (r5.1, (uI r5.2 71 (((6 : Int32) * a1) + (3 : Int32)).toNatClampNeg r3))) else none))))
set_option maxRecDepth 100000 in
set_option maxHeartbeats 4000000 in
theorem k_X10_raise {l : Launch} {σ : ES} {a1 : Int32} {out : (Int32 × ES)} (h : e_X10_raise a1 σ = some out) : MK l yX10_raise cX10_raise 4 (some .int) 15 [.ref 69, .int a1] (mkS σ) (some (.int out.1)) (mkS out.2) := by
  unfold e_X10_raise at h
  refine mw_entry (own := RX10) (ini := false) (L := [(0, .ref 69), (1, .int a1)]) (by decide +kernel) rfl (fun h => nomatch h) rfl (Nat.le_of_ble_eq_true rfl) (Nat.le_of_ble_eq_true rfl) (fun E => ?_)
  refine mw_aload_n dX10_raise_0 0 rfl ?_
  refine mw_iload_n dX10_raise_1 1 rfl ?_
  obtain ⟨r1, e2, h⟩ := mbd h
  refine mv_callV_i (As := [.int a1]) (ci := 9) lkV_RX10_102_yX10_isWay dX10_raise_2 (k_X10_isWay e2) rfl rfl rfl rfl (Nat.le_of_ble_eq_true rfl) (by decide) (by decide) ?_
  refine mw_if_ne (tgt := 14) dX10_raise_5 (by decide) (fun hc => ?_) (fun hc => ?_)
  · have h := mie hc h
    refine mw_aload_n dX10_raise_14 0 rfl ?_
    refine mw_iload_n dX10_raise_15 1 rfl ?_
    refine mw_iconst (v := 3) dX10_raise_16 (by decide) ?_
    obtain ⟨r3, e4, h⟩ := mbd h
    refine mv_callV_i (As := [.int a1, .int (3 : Int32)]) (ci := 9) lkV_RX10_70_yX10_at dX10_raise_17 (k_X10_at e4) rfl rfl rfl rfl (Nat.le_of_ble_eq_true rfl) (by decide) (by decide) ?_
    refine mw_istore_n (L' := [(2, .int r3), (0, .ref 69), (1, .int a1)]) dX10_raise_20 rfl (by decide) rfl ?_
    refine mw_aload_n dX10_raise_21 1 rfl ?_
    refine mw_iload_n dX10_raise_22 2 rfl ?_
    obtain ⟨r5, e6, h⟩ := mbd h
    refine mv_callV_i (As := [.int a1]) (ci := 9) lkV_RX10_197_yX10_raised dX10_raise_23 (k_X10_raised e6) rfl rfl rfl rfl (Nat.le_of_ble_eq_true rfl) (by decide) (by decide) ?_
    refine mw_istore_n (L' := [(3, .int r5.1), (2, .int r3), (0, .ref 69), (1, .int a1)]) dX10_raise_26 rfl (by decide) rfl ?_
    refine mw_aload_n dX10_raise_27 2 rfl ?_
    refine ev_getR (q := 71) fd_RX10_19_9 dX10_raise_28 rfl rfl rfl ?_
    refine mw_bipush (v := 6) dX10_raise_31 (by decide) ?_
    refine mw_iload_n dX10_raise_33 3 rfl ?_
    refine mw_imul dX10_raise_34 ?_
    refine mw_iconst (v := 3) dX10_raise_35 (by decide) ?_
    refine mw_iadd dX10_raise_36 ?_
    refine mw_iload_n dX10_raise_37 1 rfl ?_
    obtain ⟨m7, h⟩ := mif h
    refine ev_iast dX10_raise_38 (by decide) rfl m7 ?_
    refine mw_iload_n dX10_raise_39 0 rfl ?_
    exact mw_iret dX10_raise_40 rfl (ers_im h) rfl rfl
  · have h := mit hc h
    refine mw_aload_n dX10_raise_8 0 rfl ?_
    refine mw_iconst (v := 0) dX10_raise_9 (by decide) ?_
    obtain ⟨r8, e9, h⟩ := mbd h
    refine mv_callV_i (As := [.int (0 : Int32)]) (ci := 9) lkV_RX10_81_yX10_finds dX10_raise_10 (k_X10_finds e9) rfl rfl rfl rfl (Nat.le_of_ble_eq_true rfl) (by decide) (by decide) ?_
    exact mw_iret dX10_raise_13 rfl (ers_im h) rfl rfl

theorem dX10_lose_0 : decode cX10_lose 0 = .ok (.aload_n 0, 1) := by decide +kernel
theorem dX10_lose_1 : decode cX10_lose 1 = .ok (.invokevirtual 169, 3) := by decide +kernel
theorem dX10_lose_4 : decode cX10_lose 4 = .ok (.ifCond .ne 9, 3) := by decide +kernel
theorem dX10_lose_7 : decode cX10_lose 7 = .ok (.aload_n 0, 1) := by decide +kernel
theorem dX10_lose_8 : decode cX10_lose 8 = .ok (.iconst 3, 1) := by decide +kernel
theorem dX10_lose_9 : decode cX10_lose 9 = .ok (.invokevirtual 81, 3) := by decide +kernel
theorem dX10_lose_12 : decode cX10_lose 12 = .ok (.ireturn, 1) := by decide +kernel
theorem dX10_lose_13 : decode cX10_lose 13 = .ok (.iconst (-1), 1) := by decide +kernel
theorem dX10_lose_14 : decode cX10_lose 14 = .ok (.istore_n 1, 1) := by decide +kernel
theorem dX10_lose_15 : decode cX10_lose 15 = .ok (.iconst 0, 1) := by decide +kernel
theorem dX10_lose_16 : decode cX10_lose 16 = .ok (.istore_n 2, 1) := by decide +kernel
theorem dX10_lose_17 : decode cX10_lose 17 = .ok (.lconst 0, 1) := by decide +kernel
theorem dX10_lose_18 : decode cX10_lose 18 = .ok (.lstore_n 3, 1) := by decide +kernel
theorem dX10_lose_19 : decode cX10_lose 19 = .ok (.lconst 1, 1) := by decide +kernel
theorem dX10_lose_20 : decode cX10_lose 20 = .ok (.lstore 5, 2) := by decide +kernel
theorem dX10_lose_22 : decode cX10_lose 22 = .ok (.aload_n 0, 1) := by decide +kernel
theorem dX10_lose_23 : decode cX10_lose 23 = .ok (.invokevirtual 157, 3) := by decide +kernel
theorem dX10_lose_26 : decode cX10_lose 26 = .ok (.istore 7, 2) := by decide +kernel
theorem dX10_lose_28 : decode cX10_lose 28 = .ok (.iconst 0, 1) := by decide +kernel
theorem dX10_lose_29 : decode cX10_lose 29 = .ok (.istore 8, 2) := by decide +kernel
theorem dX10_lose_31 : decode cX10_lose 31 = .ok (.iload 8, 2) := by decide +kernel
theorem dX10_lose_33 : decode cX10_lose 33 = .ok (.aload_n 0, 1) := by decide +kernel
theorem dX10_lose_34 : decode cX10_lose 34 = .ok (.getfield 61, 3) := by decide +kernel
theorem dX10_lose_37 : decode cX10_lose 37 = .ok (.if_icmp .ge 86, 3) := by decide +kernel
theorem dX10_lose_40 : decode cX10_lose 40 = .ok (.iload_n 2, 1) := by decide +kernel
theorem dX10_lose_41 : decode cX10_lose 41 = .ok (.ifCond .ne 82, 3) := by decide +kernel
theorem dX10_lose_44 : decode cX10_lose 44 = .ok (.iload 7, 2) := by decide +kernel
theorem dX10_lose_46 : decode cX10_lose 46 = .ok (.iload 8, 2) := by decide +kernel
theorem dX10_lose_48 : decode cX10_lose 48 = .ok (.ishr, 1) := by decide +kernel
theorem dX10_lose_49 : decode cX10_lose 49 = .ok (.iconst 1, 1) := by decide +kernel
theorem dX10_lose_50 : decode cX10_lose 50 = .ok (.iand, 1) := by decide +kernel
theorem dX10_lose_51 : decode cX10_lose 51 = .ok (.iconst 1, 1) := by decide +kernel
theorem dX10_lose_52 : decode cX10_lose 52 = .ok (.if_icmp .ne 65, 3) := by decide +kernel
theorem dX10_lose_55 : decode cX10_lose 55 = .ok (.aload_n 0, 1) := by decide +kernel
theorem dX10_lose_56 : decode cX10_lose 56 = .ok (.iload 7, 2) := by decide +kernel
theorem dX10_lose_58 : decode cX10_lose 58 = .ok (.iconst 1, 1) := by decide +kernel
theorem dX10_lose_59 : decode cX10_lose 59 = .ok (.iload 8, 2) := by decide +kernel
theorem dX10_lose_61 : decode cX10_lose 61 = .ok (.ishl, 1) := by decide +kernel
theorem dX10_lose_62 : decode cX10_lose 62 = .ok (.iconst (-1), 1) := by decide +kernel
theorem dX10_lose_63 : decode cX10_lose 63 = .ok (.ixor, 1) := by decide +kernel
theorem dX10_lose_64 : decode cX10_lose 64 = .ok (.iand, 1) := by decide +kernel
theorem dX10_lose_65 : decode cX10_lose 65 = .ok (.iconst 0, 1) := by decide +kernel
theorem dX10_lose_66 : decode cX10_lose 66 = .ok (.invokevirtual 161, 3) := by decide +kernel
theorem dX10_lose_69 : decode cX10_lose 69 = .ok (.ifCond .ne 7, 3) := by decide +kernel
theorem dX10_lose_72 : decode cX10_lose 72 = .ok (.iconst 1, 1) := by decide +kernel
theorem dX10_lose_73 : decode cX10_lose 73 = .ok (.goto 4, 3) := by decide +kernel
theorem dX10_lose_76 : decode cX10_lose 76 = .ok (.iconst 0, 1) := by decide +kernel
theorem dX10_lose_77 : decode cX10_lose 77 = .ok (.istore_n 2, 1) := by decide +kernel
theorem dX10_lose_78 : decode cX10_lose 78 = .ok (.iload_n 1, 1) := by decide +kernel
theorem dX10_lose_79 : decode cX10_lose 79 = .ok (.ifCond .lt 24, 3) := by decide +kernel
theorem dX10_lose_82 : decode cX10_lose 82 = .ok (.iload_n 2, 1) := by decide +kernel
theorem dX10_lose_83 : decode cX10_lose 83 = .ok (.ifCond .ne 20, 3) := by decide +kernel
theorem dX10_lose_86 : decode cX10_lose 86 = .ok (.aload_n 0, 1) := by decide +kernel
theorem dX10_lose_87 : decode cX10_lose 87 = .ok (.getfield 140, 3) := by decide +kernel
theorem dX10_lose_90 : decode cX10_lose 90 = .ok (.lload 5, 2) := by decide +kernel
theorem dX10_lose_92 : decode cX10_lose 92 = .ok (.lmul, 1) := by decide +kernel
theorem dX10_lose_93 : decode cX10_lose 93 = .ok (.lload_n 3, 1) := by decide +kernel
theorem dX10_lose_94 : decode cX10_lose 94 = .ok (.aload_n 0, 1) := by decide +kernel
theorem dX10_lose_95 : decode cX10_lose 95 = .ok (.getfield 136, 3) := by decide +kernel
theorem dX10_lose_98 : decode cX10_lose 98 = .ok (.lmul, 1) := by decide +kernel
theorem dX10_lose_99 : decode cX10_lose 99 = .ok (.lcmp, 1) := by decide +kernel
theorem dX10_lose_100 : decode cX10_lose 100 = .ok (.ifCond .ge 17, 3) := by decide +kernel
theorem dX10_lose_103 : decode cX10_lose 103 = .ok (.iload 8, 2) := by decide +kernel
theorem dX10_lose_105 : decode cX10_lose 105 = .ok (.istore_n 1, 1) := by decide +kernel
theorem dX10_lose_106 : decode cX10_lose 106 = .ok (.aload_n 0, 1) := by decide +kernel
theorem dX10_lose_107 : decode cX10_lose 107 = .ok (.getfield 140, 3) := by decide +kernel
theorem dX10_lose_110 : decode cX10_lose 110 = .ok (.lstore_n 3, 1) := by decide +kernel
theorem dX10_lose_111 : decode cX10_lose 111 = .ok (.aload_n 0, 1) := by decide +kernel
theorem dX10_lose_112 : decode cX10_lose 112 = .ok (.getfield 136, 3) := by decide +kernel
theorem dX10_lose_115 : decode cX10_lose 115 = .ok (.lstore 5, 2) := by decide +kernel
theorem dX10_lose_117 : decode cX10_lose 117 = .ok (.iinc 8 1, 3) := by decide +kernel
theorem dX10_lose_120 : decode cX10_lose 120 = .ok (.goto (-89), 3) := by decide +kernel
theorem dX10_lose_123 : decode cX10_lose 123 = .ok (.iload_n 1, 1) := by decide +kernel
theorem dX10_lose_124 : decode cX10_lose 124 = .ok (.ireturn, 1) := by decide +kernel
def e_X10_lose_J103 (k31 : Int32 → Int32 → Int64 → Int64 → Int32 → Int32 → ES → Option (Int32 × ES)) (x2 : Int32) (x7 : Int32) (x8 : Int32) (σ : ES) : Option (Int32 × ES) := k31 x8 x2 (eL σ 69 11) (eL σ 69 12) x7 (x8 + 1) σ
set_option maxRecDepth 100000 in
set_option maxHeartbeats 4000000 in
theorem p_X10_lose_J103 {l : Launch} {E : MX} {out : (Int32 × ES)} {k31 : Int32 → Int32 → Int64 → Int64 → Int32 → Int32 → ES → Option (Int32 × ES)} (hk31 : ∀ (z0 : Int32) (z1 : Int32) (z2 : Int64) (z3 : Int64) (z4 : Int32) (z5 : Int32) (τ : ES), k31 z0 z1 z2 z3 z4 z5 τ = some out → MV l E cX10_lose RX10 9 (some .int) 14 (82, (some (.int out.1)), mkS out.2) (mkS τ) 31 [(0, .ref 69), (1, .int z0), (2, .int z1), (3, .long z2), (5, .long z3), (7, .int z4), (8, .int z5)] []) {x2 : Int32} {x7 : Int32} {x8 : Int32} {σ : ES} (h : e_X10_lose_J103 k31 x2 x7 x8 σ = some out) : MV l E cX10_lose RX10 9 (some .int) 14 (82, (some (.int out.1)), mkS out.2) (mkS σ) 103 [(0, .ref 69), (2, .int x2), (7, .int x7), (8, .int x8)] [] := by
  unfold e_X10_lose_J103 at h
  refine mw_iload dX10_lose_103 3 rfl ?_
  refine mw_istore_n (L' := [(1, .int x8), (0, .ref 69), (2, .int x2), (7, .int x7), (8, .int x8)]) dX10_lose_105 rfl (by decide) rfl ?_
  refine mw_aload_n dX10_lose_106 1 rfl ?_
  refine ev_getL fd_RX10_140_9 dX10_lose_107 rfl rfl ?_
  refine mw_lstore_n (L' := [(3, .long (eL σ 69 11)), (1, .int x8), (0, .ref 69), (2, .int x2), (7, .int x7), (8, .int x8)]) dX10_lose_110 rfl (by decide) rfl ?_
  refine mw_aload_n dX10_lose_111 2 rfl ?_
  refine ev_getL fd_RX10_136_9 dX10_lose_112 rfl rfl ?_
  refine mw_lstore (L' := [(5, .long (eL σ 69 12)), (3, .long (eL σ 69 11)), (1, .int x8), (0, .ref 69), (2, .int x2), (7, .int x7), (8, .int x8)]) dX10_lose_115 (by decide) rfl ?_
  refine mw_iinc (v := (x8 + 1)) (L' := [(8, .int (x8 + 1)), (5, .long (eL σ 69 12)), (3, .long (eL σ 69 11)), (1, .int x8), (0, .ref 69), (2, .int x2), (7, .int x7)]) dX10_lose_117 6 rfl rfl (by decide) rfl ?_
  refine mw_goto (tgt := 31) dX10_lose_120 (by decide) ?_
  exact mw_sub (L' := [(0, .ref 69), (1, .int x8), (2, .int x2), (3, .long (eL σ 69 11)), (5, .long (eL σ 69 12)), (7, .int x7), (8, .int (x8 + 1))]) [4, 3, 5, 2, 1, 6, 0] rfl (hk31 _ _ _ _ _ _ _ h)
def e_X10_lose_J77 (k31 : Int32 → Int32 → Int64 → Int64 → Int32 → Int32 → ES → Option (Int32 × ES)) (x1 : Int32) (x3 : Int64) (x5 : Int64) (x7 : Int32) (x8 : Int32) (s0 : Int32) (σ : ES) : Option (Int32 × ES) := if x1 < 0 then (e_X10_lose_J103 k31 s0 x7 x8 σ) else (if s0 = 0 then (if (x3 * (eL σ 69 12)) ≤ ((eL σ 69 11) * x5) then (k31 x1 s0 x3 x5 x7 (x8 + 1) σ) else (e_X10_lose_J103 k31 s0 x7 x8 σ)) else (e_X10_lose_J103 k31 s0 x7 x8 σ))
set_option maxRecDepth 100000 in
set_option maxHeartbeats 4000000 in
theorem p_X10_lose_J77 {l : Launch} {E : MX} {out : (Int32 × ES)} {k31 : Int32 → Int32 → Int64 → Int64 → Int32 → Int32 → ES → Option (Int32 × ES)} (hk31 : ∀ (z0 : Int32) (z1 : Int32) (z2 : Int64) (z3 : Int64) (z4 : Int32) (z5 : Int32) (τ : ES), k31 z0 z1 z2 z3 z4 z5 τ = some out → MV l E cX10_lose RX10 9 (some .int) 14 (82, (some (.int out.1)), mkS out.2) (mkS τ) 31 [(0, .ref 69), (1, .int z0), (2, .int z1), (3, .long z2), (5, .long z3), (7, .int z4), (8, .int z5)] []) {x1 : Int32} {x3 : Int64} {x5 : Int64} {x7 : Int32} {x8 : Int32} {s0 : Int32} {σ : ES} (h : e_X10_lose_J77 k31 x1 x3 x5 x7 x8 s0 σ = some out) : MV l E cX10_lose RX10 9 (some .int) 14 (82, (some (.int out.1)), mkS out.2) (mkS σ) 77 [(0, .ref 69), (1, .int x1), (3, .long x3), (5, .long x5), (7, .int x7), (8, .int x8)] [.int s0] := by
  unfold e_X10_lose_J77 at h
  refine mw_istore_n (L' := [(2, .int s0), (0, .ref 69), (1, .int x1), (3, .long x3), (5, .long x5), (7, .int x7), (8, .int x8)]) dX10_lose_77 rfl (by decide) rfl ?_
  refine mw_iload_n dX10_lose_78 2 rfl ?_
  refine mw_if_lt (tgt := 103) dX10_lose_79 (by decide) (fun hc => ?_) (fun hc => ?_)
  · have h := mit hc h
    exact mw_sub (L' := [(0, .ref 69), (2, .int s0), (7, .int x7), (8, .int x8)]) [1, 0, 5, 6] rfl (p_X10_lose_J103 hk31 h)
  · have h := mie hc h
    refine mw_iload_n dX10_lose_82 0 rfl ?_
    refine mw_if_ne (tgt := 103) dX10_lose_83 (by decide) (fun hc => ?_) (fun hc => ?_)
    · have h := mie hc h
      exact mw_sub (L' := [(0, .ref 69), (2, .int s0), (7, .int x7), (8, .int x8)]) [1, 0, 5, 6] rfl (p_X10_lose_J103 hk31 h)
    · have h := mit hc h
      refine mw_aload_n dX10_lose_86 1 rfl ?_
      refine ev_getL fd_RX10_140_9 dX10_lose_87 rfl rfl ?_
      refine mw_lload dX10_lose_90 4 rfl ?_
      refine mw_lmul dX10_lose_92 ?_
      refine mw_lload_n dX10_lose_93 3 rfl ?_
      refine mw_aload_n dX10_lose_94 1 rfl ?_
      refine ev_getL fd_RX10_136_9 dX10_lose_95 rfl rfl ?_
      refine mw_lmul dX10_lose_98 ?_
      refine mw_lc_ge (tgt := 117) dX10_lose_99 dX10_lose_100 (by decide) (fun hc => ?_) (fun hc => ?_)
      · have h := mit hc h
        refine mw_iinc (v := (x8 + 1)) (L' := [(8, .int (x8 + 1)), (2, .int s0), (0, .ref 69), (1, .int x1), (3, .long x3), (5, .long x5), (7, .int x7)]) dX10_lose_117 6 rfl rfl (by decide) rfl ?_
        refine mw_goto (tgt := 31) dX10_lose_120 (by decide) ?_
        exact mw_sub (L' := [(0, .ref 69), (1, .int x1), (2, .int s0), (3, .long x3), (5, .long x5), (7, .int x7), (8, .int (x8 + 1))]) [2, 3, 1, 4, 5, 6, 0] rfl (hk31 _ _ _ _ _ _ _ h)
      · have h := mie hc h
        exact mw_sub (L' := [(0, .ref 69), (2, .int s0), (7, .int x7), (8, .int x8)]) [1, 0, 5, 6] rfl (p_X10_lose_J103 hk31 h)
def e_X10_lose_L31  : Nat → Int32 → Int32 → Int64 → Int64 → Int32 → Int32 → ES → Option (Int32 × ES)
  | 0, _, _, _, _, _, _, _ => none
  | n + 1, x1, x2, x3, x5, x7, x8, σ => if (eI σ 69 3) ≤ x8 then (some (x1, σ)) else (if x2 = 0 then (if ((x7 >>> (x8 &&& 31)) &&& (1 : Int32)) = (1 : Int32) then ((e_X10_rings (x7 &&& (((1 : Int32) <<< (x8 &&& 31)) ^^^ (-1 : Int32))) (0 : Int32) σ).bind (fun r1 => if r1.1 = 0 then (e_X10_lose_J77 (e_X10_lose_L31 n) x1 x3 x5 x7 x8 (1 : Int32) r1.2) else (e_X10_lose_J77 (e_X10_lose_L31 n) x1 x3 x5 x7 x8 (0 : Int32) r1.2))) else (e_X10_lose_L31 n x1 x2 x3 x5 x7 (x8 + 1) σ)) else (some (x1, σ)))
set_option maxRecDepth 100000 in
set_option maxHeartbeats 4000000 in
theorem p_X10_lose_L31 {l : Launch} {E : MX} {out : (Int32 × ES)}   : ∀ (n : Nat) (x1 : Int32) (x2 : Int32) (x3 : Int64) (x5 : Int64) (x7 : Int32) (x8 : Int32) (σ : ES), e_X10_lose_L31 n x1 x2 x3 x5 x7 x8 σ = some out → MV l E cX10_lose RX10 9 (some .int) 14 (82, (some (.int out.1)), mkS out.2) (mkS σ) 31 [(0, .ref 69), (1, .int x1), (2, .int x2), (3, .long x3), (5, .long x5), (7, .int x7), (8, .int x8)] [] := by
  intro n
  induction n with
  | zero =>
    intro x1 x2 x3 x5 x7 x8 σ h
    exact nomatch h
  | succ n ih =>
    intro x1 x2 x3 x5 x7 x8 σ h
    rw [e_X10_lose_L31] at h
    refine mw_iload dX10_lose_31 6 rfl ?_
    refine mw_aload_n dX10_lose_33 0 rfl ?_
    refine ev_getI fd_RX10_61_9 dX10_lose_34 rfl rfl ?_
    refine mw_icmp_ge (tgt := 123) dX10_lose_37 (by decide) (fun hc => ?_) (fun hc => ?_)
    · have h := mit hc h
      refine mw_iload_n dX10_lose_123 1 rfl ?_
      exact mw_iret dX10_lose_124 rfl (ers_im h) rfl rfl
    · have h := mie hc h
      refine mw_iload_n dX10_lose_40 2 rfl ?_
      refine mw_if_ne (tgt := 123) dX10_lose_41 (by decide) (fun hc => ?_) (fun hc => ?_)
      · have h := mie hc h
        refine mw_iload_n dX10_lose_123 1 rfl ?_
        exact mw_iret dX10_lose_124 rfl (ers_im h) rfl rfl
      · have h := mit hc h
        refine mw_iload dX10_lose_44 5 rfl ?_
        refine mw_iload dX10_lose_46 6 rfl ?_
        refine mw_ishr dX10_lose_48 ?_
        refine mw_iconst (v := 1) dX10_lose_49 (by decide) ?_
        refine mw_iand dX10_lose_50 ?_
        refine mw_iconst (v := 1) dX10_lose_51 (by decide) ?_
        refine mw_icmp_ne (tgt := 117) dX10_lose_52 (by decide) (fun hc => ?_) (fun hc => ?_)
        · have h := mie hc h
          refine mw_iinc (v := (x8 + 1)) (L' := [(8, .int (x8 + 1)), (0, .ref 69), (1, .int x1), (2, .int x2), (3, .long x3), (5, .long x5), (7, .int x7)]) dX10_lose_117 6 rfl rfl (by decide) rfl ?_
          refine mw_goto (tgt := 31) dX10_lose_120 (by decide) ?_
          exact mw_sub (L' := [(0, .ref 69), (1, .int x1), (2, .int x2), (3, .long x3), (5, .long x5), (7, .int x7), (8, .int (x8 + 1))]) [1, 2, 3, 4, 5, 6, 0] rfl (ih _ _ _ _ _ _ _ h)
        · have h := mit hc h
          refine mw_aload_n dX10_lose_55 0 rfl ?_
          refine mw_iload dX10_lose_56 5 rfl ?_
          refine mw_iconst (v := 1) dX10_lose_58 (by decide) ?_
          refine mw_iload dX10_lose_59 6 rfl ?_
          refine mw_ishl dX10_lose_61 ?_
          refine mw_iconst (v := -1) dX10_lose_62 (by decide) ?_
          refine mw_ixor dX10_lose_63 ?_
          refine mw_iand dX10_lose_64 ?_
          refine mw_iconst (v := 0) dX10_lose_65 (by decide) ?_
          obtain ⟨r1, e2, h⟩ := mbd h
          refine mv_callV_i (As := [.int (x7 &&& (((1 : Int32) <<< (x8 &&& 31)) ^^^ (-1 : Int32))), .int (0 : Int32)]) (ci := 9) lkV_RX10_161_yX10_rings dX10_lose_66 (k_X10_rings e2) rfl rfl rfl rfl (Nat.le_of_ble_eq_true rfl) (by decide) (by decide) ?_
          refine mw_if_ne (tgt := 76) dX10_lose_69 (by decide) (fun hc => ?_) (fun hc => ?_)
          · have h := mie hc h
            refine mw_iconst (v := 0) dX10_lose_76 (by decide) ?_
            exact mw_sub (L' := [(0, .ref 69), (1, .int x1), (3, .long x3), (5, .long x5), (7, .int x7), (8, .int x8)]) [0, 1, 3, 4, 5, 6] rfl (p_X10_lose_J77 ih h)
          · have h := mit hc h
            refine mw_iconst (v := 1) dX10_lose_72 (by decide) ?_
            refine mw_goto (tgt := 77) dX10_lose_73 (by decide) ?_
            exact mw_sub (L' := [(0, .ref 69), (1, .int x1), (3, .long x3), (5, .long x5), (7, .int x7), (8, .int x8)]) [0, 1, 3, 4, 5, 6] rfl (p_X10_lose_J77 ih h)
def e_X10_lose (σ : ES) : Option (Int32 × ES) := (e_X10_ringsNow σ).bind (fun r1 => if r1.1 = 0 then ((e_X10_finds (3 : Int32) r1.2).bind (fun r5 => some (r5.1, r5.2))) else ((e_X10_openWays r1.2).bind (fun r3 => e_X10_lose_L31 mN (-1 : Int32) (0 : Int32) (0 : Int64) (1 : Int64) r3 (0 : Int32) r1.2)))
set_option maxRecDepth 100000 in
set_option maxHeartbeats 4000000 in
theorem k_X10_lose {l : Launch} {σ : ES}  {out : (Int32 × ES)} (h : e_X10_lose σ = some out) : MK l yX10_lose cX10_lose 9 (some .int) 14 [.ref 69] (mkS σ) (some (.int out.1)) (mkS out.2) := by
  unfold e_X10_lose at h
  refine mw_entry (own := RX10) (ini := false) (L := [(0, .ref 69)]) (by decide +kernel) rfl (fun h => nomatch h) rfl (Nat.le_of_ble_eq_true rfl) (Nat.le_of_ble_eq_true rfl) (fun E => ?_)
  refine mw_aload_n dX10_lose_0 0 rfl ?_
  obtain ⟨r1, e2, h⟩ := mbd h
  refine mv_callV_i (As := []) (ci := 9) lkV_RX10_169_yX10_ringsNow dX10_lose_1 (k_X10_ringsNow e2) rfl rfl rfl rfl (Nat.le_of_ble_eq_true rfl) (by decide) (by decide) ?_
  refine mw_if_ne (tgt := 13) dX10_lose_4 (by decide) (fun hc => ?_) (fun hc => ?_)
  · have h := mie hc h
    refine mw_iconst (v := -1) dX10_lose_13 (by decide) ?_
    refine mw_istore_n (L' := [(1, .int (-1 : Int32)), (0, .ref 69)]) dX10_lose_14 rfl (by decide) rfl ?_
    refine mw_iconst (v := 0) dX10_lose_15 (by decide) ?_
    refine mw_istore_n (L' := [(2, .int (0 : Int32)), (1, .int (-1 : Int32)), (0, .ref 69)]) dX10_lose_16 rfl (by decide) rfl ?_
    refine mw_lconst (v := 0) dX10_lose_17 (by decide) ?_
    refine mw_lstore_n (L' := [(3, .long (0 : Int64)), (2, .int (0 : Int32)), (1, .int (-1 : Int32)), (0, .ref 69)]) dX10_lose_18 rfl (by decide) rfl ?_
    refine mw_lconst (v := 1) dX10_lose_19 (by decide) ?_
    refine mw_lstore (L' := [(5, .long (1 : Int64)), (3, .long (0 : Int64)), (2, .int (0 : Int32)), (1, .int (-1 : Int32)), (0, .ref 69)]) dX10_lose_20 (by decide) rfl ?_
    refine mw_aload_n dX10_lose_22 4 rfl ?_
    obtain ⟨r3, e4, h⟩ := mbd h
    refine mv_callV_i (As := []) (ci := 9) lkV_RX10_157_yX10_openWays dX10_lose_23 (k_X10_openWays e4) rfl rfl rfl rfl (Nat.le_of_ble_eq_true rfl) (by decide) (by decide) ?_
    refine mw_istore (L' := [(7, .int r3), (5, .long (1 : Int64)), (3, .long (0 : Int64)), (2, .int (0 : Int32)), (1, .int (-1 : Int32)), (0, .ref 69)]) dX10_lose_26 (by decide) rfl ?_
    refine mw_iconst (v := 0) dX10_lose_28 (by decide) ?_
    refine mw_istore (L' := [(8, .int (0 : Int32)), (7, .int r3), (5, .long (1 : Int64)), (3, .long (0 : Int64)), (2, .int (0 : Int32)), (1, .int (-1 : Int32)), (0, .ref 69)]) dX10_lose_29 (by decide) rfl ?_
    exact mw_sub (L' := [(0, .ref 69), (1, .int (-1 : Int32)), (2, .int (0 : Int32)), (3, .long (0 : Int64)), (5, .long (1 : Int64)), (7, .int r3), (8, .int (0 : Int32))]) [6, 5, 4, 3, 2, 1, 0] rfl (p_X10_lose_L31  mN _ _ _ _ _ _ _ h)
  · have h := mit hc h
    refine mw_aload_n dX10_lose_7 0 rfl ?_
    refine mw_iconst (v := 3) dX10_lose_8 (by decide) ?_
    obtain ⟨r5, e6, h⟩ := mbd h
    refine mv_callV_i (As := [.int (3 : Int32)]) (ci := 9) lkV_RX10_81_yX10_finds dX10_lose_9 (k_X10_finds e6) rfl rfl rfl rfl (Nat.le_of_ble_eq_true rfl) (by decide) (by decide) ?_
    exact mw_iret dX10_lose_12 rfl (ers_im h) rfl rfl

theorem dX10_kind_0 : decode cX10_kind 0 = .ok (.aload_n 0, 1) := by decide +kernel
theorem dX10_kind_1 : decode cX10_kind 1 = .ok (.iload_n 1, 1) := by decide +kernel
theorem dX10_kind_2 : decode cX10_kind 2 = .ok (.invokevirtual 102, 3) := by decide +kernel
theorem dX10_kind_5 : decode cX10_kind 5 = .ok (.ifCond .ne 9, 3) := by decide +kernel
theorem dX10_kind_8 : decode cX10_kind 8 = .ok (.aload_n 0, 1) := by decide +kernel
theorem dX10_kind_9 : decode cX10_kind 9 = .ok (.iconst 0, 1) := by decide +kernel
theorem dX10_kind_10 : decode cX10_kind 10 = .ok (.invokevirtual 81, 3) := by decide +kernel
theorem dX10_kind_13 : decode cX10_kind 13 = .ok (.ireturn, 1) := by decide +kernel
theorem dX10_kind_14 : decode cX10_kind 14 = .ok (.aload_n 0, 1) := by decide +kernel
theorem dX10_kind_15 : decode cX10_kind 15 = .ok (.invokevirtual 169, 3) := by decide +kernel
theorem dX10_kind_18 : decode cX10_kind 18 = .ok (.ifCond .ne 9, 3) := by decide +kernel
theorem dX10_kind_21 : decode cX10_kind 21 = .ok (.aload_n 0, 1) := by decide +kernel
theorem dX10_kind_22 : decode cX10_kind 22 = .ok (.iconst 3, 1) := by decide +kernel
theorem dX10_kind_23 : decode cX10_kind 23 = .ok (.invokevirtual 81, 3) := by decide +kernel
theorem dX10_kind_26 : decode cX10_kind 26 = .ok (.ireturn, 1) := by decide +kernel
theorem dX10_kind_27 : decode cX10_kind 27 = .ok (.aload_n 0, 1) := by decide +kernel
theorem dX10_kind_28 : decode cX10_kind 28 = .ok (.iload_n 1, 1) := by decide +kernel
theorem dX10_kind_29 : decode cX10_kind 29 = .ok (.iconst 0, 1) := by decide +kernel
theorem dX10_kind_30 : decode cX10_kind 30 = .ok (.invokevirtual 70, 3) := by decide +kernel
theorem dX10_kind_33 : decode cX10_kind 33 = .ok (.istore_n 2, 1) := by decide +kernel
theorem dX10_kind_34 : decode cX10_kind 34 = .ok (.iconst (-1), 1) := by decide +kernel
theorem dX10_kind_35 : decode cX10_kind 35 = .ok (.istore_n 3, 1) := by decide +kernel
theorem dX10_kind_36 : decode cX10_kind 36 = .ok (.lconst 0, 1) := by decide +kernel
theorem dX10_kind_37 : decode cX10_kind 37 = .ok (.lstore 4, 2) := by decide +kernel
theorem dX10_kind_39 : decode cX10_kind 39 = .ok (.lconst 1, 1) := by decide +kernel
theorem dX10_kind_40 : decode cX10_kind 40 = .ok (.lstore 6, 2) := by decide +kernel
theorem dX10_kind_42 : decode cX10_kind 42 = .ok (.iconst 0, 1) := by decide +kernel
theorem dX10_kind_43 : decode cX10_kind 43 = .ok (.istore 8, 2) := by decide +kernel
theorem dX10_kind_45 : decode cX10_kind 45 = .ok (.iload 8, 2) := by decide +kernel
theorem dX10_kind_47 : decode cX10_kind 47 = .ok (.bipush 6, 2) := by decide +kernel
theorem dX10_kind_49 : decode cX10_kind 49 = .ok (.if_icmp .ge 62, 3) := by decide +kernel
theorem dX10_kind_52 : decode cX10_kind 52 = .ok (.aload_n 0, 1) := by decide +kernel
theorem dX10_kind_53 : decode cX10_kind 53 = .ok (.getfield 19, 3) := by decide +kernel
theorem dX10_kind_56 : decode cX10_kind 56 = .ok (.bipush 6, 2) := by decide +kernel
theorem dX10_kind_58 : decode cX10_kind 58 = .ok (.iload_n 1, 1) := by decide +kernel
theorem dX10_kind_59 : decode cX10_kind 59 = .ok (.imul, 1) := by decide +kernel
theorem dX10_kind_60 : decode cX10_kind 60 = .ok (.iload 8, 2) := by decide +kernel
theorem dX10_kind_62 : decode cX10_kind 62 = .ok (.iastore, 1) := by decide +kernel
theorem dX10_kind_63 : decode cX10_kind 63 = .ok (.aload_n 0, 1) := by decide +kernel
theorem dX10_kind_64 : decode cX10_kind 64 = .ok (.invokevirtual 169, 3) := by decide +kernel
theorem dX10_kind_67 : decode cX10_kind 67 = .ok (.pop, 1) := by decide +kernel
theorem dX10_kind_68 : decode cX10_kind 68 = .ok (.iload_n 3, 1) := by decide +kernel
theorem dX10_kind_69 : decode cX10_kind 69 = .ok (.ifCond .lt 21, 3) := by decide +kernel
theorem dX10_kind_72 : decode cX10_kind 72 = .ok (.aload_n 0, 1) := by decide +kernel
theorem dX10_kind_73 : decode cX10_kind 73 = .ok (.getfield 140, 3) := by decide +kernel
theorem dX10_kind_76 : decode cX10_kind 76 = .ok (.lload 6, 2) := by decide +kernel
theorem dX10_kind_78 : decode cX10_kind 78 = .ok (.lmul, 1) := by decide +kernel
theorem dX10_kind_79 : decode cX10_kind 79 = .ok (.lload 4, 2) := by decide +kernel
theorem dX10_kind_81 : decode cX10_kind 81 = .ok (.aload_n 0, 1) := by decide +kernel
theorem dX10_kind_82 : decode cX10_kind 82 = .ok (.getfield 136, 3) := by decide +kernel
theorem dX10_kind_85 : decode cX10_kind 85 = .ok (.lmul, 1) := by decide +kernel
theorem dX10_kind_86 : decode cX10_kind 86 = .ok (.lcmp, 1) := by decide +kernel
theorem dX10_kind_87 : decode cX10_kind 87 = .ok (.ifCond .le 18, 3) := by decide +kernel
theorem dX10_kind_90 : decode cX10_kind 90 = .ok (.iload 8, 2) := by decide +kernel
theorem dX10_kind_92 : decode cX10_kind 92 = .ok (.istore_n 3, 1) := by decide +kernel
theorem dX10_kind_93 : decode cX10_kind 93 = .ok (.aload_n 0, 1) := by decide +kernel
theorem dX10_kind_94 : decode cX10_kind 94 = .ok (.getfield 140, 3) := by decide +kernel
theorem dX10_kind_97 : decode cX10_kind 97 = .ok (.lstore 4, 2) := by decide +kernel
theorem dX10_kind_99 : decode cX10_kind 99 = .ok (.aload_n 0, 1) := by decide +kernel
theorem dX10_kind_100 : decode cX10_kind 100 = .ok (.getfield 136, 3) := by decide +kernel
theorem dX10_kind_103 : decode cX10_kind 103 = .ok (.lstore 6, 2) := by decide +kernel
theorem dX10_kind_105 : decode cX10_kind 105 = .ok (.iinc 8 1, 3) := by decide +kernel
theorem dX10_kind_108 : decode cX10_kind 108 = .ok (.goto (-63), 3) := by decide +kernel
theorem dX10_kind_111 : decode cX10_kind 111 = .ok (.aload_n 0, 1) := by decide +kernel
theorem dX10_kind_112 : decode cX10_kind 112 = .ok (.getfield 19, 3) := by decide +kernel
theorem dX10_kind_115 : decode cX10_kind 115 = .ok (.bipush 6, 2) := by decide +kernel
theorem dX10_kind_117 : decode cX10_kind 117 = .ok (.iload_n 1, 1) := by decide +kernel
theorem dX10_kind_118 : decode cX10_kind 118 = .ok (.imul, 1) := by decide +kernel
theorem dX10_kind_119 : decode cX10_kind 119 = .ok (.iload_n 2, 1) := by decide +kernel
theorem dX10_kind_120 : decode cX10_kind 120 = .ok (.iastore, 1) := by decide +kernel
theorem dX10_kind_121 : decode cX10_kind 121 = .ok (.iload_n 3, 1) := by decide +kernel
theorem dX10_kind_122 : decode cX10_kind 122 = .ok (.ireturn, 1) := by decide +kernel
def e_X10_kind_J90 (a1 : Int32) (k45 : Int32 → Int32 → Int64 → Int64 → Int32 → ES → Option (Int32 × ES)) (x2 : Int32) (x8 : Int32) (σ : ES) : Option (Int32 × ES) := k45 x2 x8 (eL σ 69 11) (eL σ 69 12) (x8 + 1) σ
set_option maxRecDepth 100000 in
set_option maxHeartbeats 4000000 in
theorem p_X10_kind_J90 {l : Launch} {E : MX} {out : (Int32 × ES)} {a1 : Int32} {k45 : Int32 → Int32 → Int64 → Int64 → Int32 → ES → Option (Int32 × ES)} (hk45 : ∀ (z0 : Int32) (z1 : Int32) (z2 : Int64) (z3 : Int64) (z4 : Int32) (τ : ES), k45 z0 z1 z2 z3 z4 τ = some out → MV l E cX10_kind RX10 9 (some .int) 14 (82, (some (.int out.1)), mkS out.2) (mkS τ) 45 [(0, .ref 69), (1, .int a1), (2, .int z0), (3, .int z1), (4, .long z2), (6, .long z3), (8, .int z4)] []) {x2 : Int32} {x8 : Int32} {σ : ES} (h : e_X10_kind_J90 a1 k45 x2 x8 σ = some out) : MV l E cX10_kind RX10 9 (some .int) 14 (82, (some (.int out.1)), mkS out.2) (mkS σ) 90 [(0, .ref 69), (1, .int a1), (2, .int x2), (8, .int x8)] [] := by
  unfold e_X10_kind_J90 at h
  refine mw_iload dX10_kind_90 3 rfl ?_
  refine mw_istore_n (L' := [(3, .int x8), (0, .ref 69), (1, .int a1), (2, .int x2), (8, .int x8)]) dX10_kind_92 rfl (by decide) rfl ?_
  refine mw_aload_n dX10_kind_93 1 rfl ?_
  refine ev_getL fd_RX10_140_9 dX10_kind_94 rfl rfl ?_
  refine mw_lstore (L' := [(4, .long (eL σ 69 11)), (3, .int x8), (0, .ref 69), (1, .int a1), (2, .int x2), (8, .int x8)]) dX10_kind_97 (by decide) rfl ?_
  refine mw_aload_n dX10_kind_99 2 rfl ?_
  refine ev_getL fd_RX10_136_9 dX10_kind_100 rfl rfl ?_
  refine mw_lstore (L' := [(6, .long (eL σ 69 12)), (4, .long (eL σ 69 11)), (3, .int x8), (0, .ref 69), (1, .int a1), (2, .int x2), (8, .int x8)]) dX10_kind_103 (by decide) rfl ?_
  refine mw_iinc (v := (x8 + 1)) (L' := [(8, .int (x8 + 1)), (6, .long (eL σ 69 12)), (4, .long (eL σ 69 11)), (3, .int x8), (0, .ref 69), (1, .int a1), (2, .int x2)]) dX10_kind_105 6 rfl rfl (by decide) rfl ?_
  refine mw_goto (tgt := 45) dX10_kind_108 (by decide) ?_
  exact mw_sub (L' := [(0, .ref 69), (1, .int a1), (2, .int x2), (3, .int x8), (4, .long (eL σ 69 11)), (6, .long (eL σ 69 12)), (8, .int (x8 + 1))]) [4, 5, 6, 3, 2, 1, 0] rfl (hk45 _ _ _ _ _ _ h)
def e_X10_kind_L45 (a1 : Int32) : Nat → Int32 → Int32 → Int64 → Int64 → Int32 → ES → Option (Int32 × ES)
  | 0, _, _, _, _, _, _ => none
  | n + 1, x2, x3, x4, x6, x8, σ => if (6 : Int32) ≤ x8 then (if mib ((6 : Int32) * a1) 84 = true then (some (x3, (uI σ 71 ((6 : Int32) * a1).toNatClampNeg x2))) else none) else (if mib ((6 : Int32) * a1) 84 = true then ((e_X10_ringsNow (uI σ 71 ((6 : Int32) * a1).toNatClampNeg x8)).bind (fun r3 => if x3 < 0 then (e_X10_kind_J90 a1 (e_X10_kind_L45 a1 n) x2 x8 r3.2) else (if ((eL r3.2 69 11) * x6) ≤ (x4 * (eL r3.2 69 12)) then (e_X10_kind_L45 a1 n x2 x3 x4 x6 (x8 + 1) r3.2) else (e_X10_kind_J90 a1 (e_X10_kind_L45 a1 n) x2 x8 r3.2)))) else none)
set_option maxRecDepth 100000 in
set_option maxHeartbeats 4000000 in
theorem p_X10_kind_L45 {l : Launch} {E : MX} {out : (Int32 × ES)} {a1 : Int32}  : ∀ (n : Nat) (x2 : Int32) (x3 : Int32) (x4 : Int64) (x6 : Int64) (x8 : Int32) (σ : ES), e_X10_kind_L45 a1 n x2 x3 x4 x6 x8 σ = some out → MV l E cX10_kind RX10 9 (some .int) 14 (82, (some (.int out.1)), mkS out.2) (mkS σ) 45 [(0, .ref 69), (1, .int a1), (2, .int x2), (3, .int x3), (4, .long x4), (6, .long x6), (8, .int x8)] [] := by
  intro n
  induction n with
  | zero =>
    intro x2 x3 x4 x6 x8 σ h
    exact nomatch h
  | succ n ih =>
    intro x2 x3 x4 x6 x8 σ h
    rw [e_X10_kind_L45] at h
    refine mw_iload dX10_kind_45 6 rfl ?_
    refine mw_bipush (v := 6) dX10_kind_47 (by decide) ?_
    refine mw_icmp_ge (tgt := 111) dX10_kind_49 (by decide) (fun hc => ?_) (fun hc => ?_)
    · have h := mit hc h
      refine mw_aload_n dX10_kind_111 0 rfl ?_
      refine ev_getR (q := 71) fd_RX10_19_9 dX10_kind_112 rfl rfl rfl ?_
      refine mw_bipush (v := 6) dX10_kind_115 (by decide) ?_
      refine mw_iload_n dX10_kind_117 1 rfl ?_
      refine mw_imul dX10_kind_118 ?_
      refine mw_iload_n dX10_kind_119 2 rfl ?_
      obtain ⟨m1, h⟩ := mif h
      refine ev_iast dX10_kind_120 (by decide) rfl m1 ?_
      refine mw_iload_n dX10_kind_121 3 rfl ?_
      exact mw_iret dX10_kind_122 rfl (ers_im h) rfl rfl
    · have h := mie hc h
      refine mw_aload_n dX10_kind_52 0 rfl ?_
      refine ev_getR (q := 71) fd_RX10_19_9 dX10_kind_53 rfl rfl rfl ?_
      refine mw_bipush (v := 6) dX10_kind_56 (by decide) ?_
      refine mw_iload_n dX10_kind_58 1 rfl ?_
      refine mw_imul dX10_kind_59 ?_
      refine mw_iload dX10_kind_60 6 rfl ?_
      obtain ⟨m2, h⟩ := mif h
      refine ev_iast dX10_kind_62 (by decide) rfl m2 ?_
      refine mw_aload_n dX10_kind_63 0 rfl ?_
      obtain ⟨r3, e4, h⟩ := mbd h
      refine mv_callV_i (As := []) (ci := 9) lkV_RX10_169_yX10_ringsNow dX10_kind_64 (k_X10_ringsNow e4) rfl rfl rfl rfl (Nat.le_of_ble_eq_true rfl) (by decide) (by decide) ?_
      refine mw_pop dX10_kind_67 rfl ?_
      refine mw_iload_n dX10_kind_68 3 rfl ?_
      refine mw_if_lt (tgt := 90) dX10_kind_69 (by decide) (fun hc => ?_) (fun hc => ?_)
      · have h := mit hc h
        exact mw_sub (L' := [(0, .ref 69), (1, .int a1), (2, .int x2), (8, .int x8)]) [0, 1, 2, 6] rfl (p_X10_kind_J90 ih h)
      · have h := mie hc h
        refine mw_aload_n dX10_kind_72 0 rfl ?_
        refine ev_getL fd_RX10_140_9 dX10_kind_73 rfl rfl ?_
        refine mw_lload dX10_kind_76 5 rfl ?_
        refine mw_lmul dX10_kind_78 ?_
        refine mw_lload dX10_kind_79 4 rfl ?_
        refine mw_aload_n dX10_kind_81 0 rfl ?_
        refine ev_getL fd_RX10_136_9 dX10_kind_82 rfl rfl ?_
        refine mw_lmul dX10_kind_85 ?_
        refine mw_lc_le (tgt := 105) dX10_kind_86 dX10_kind_87 (by decide) (fun hc => ?_) (fun hc => ?_)
        · have h := mit hc h
          refine mw_iinc (v := (x8 + 1)) (L' := [(8, .int (x8 + 1)), (0, .ref 69), (1, .int a1), (2, .int x2), (3, .int x3), (4, .long x4), (6, .long x6)]) dX10_kind_105 6 rfl rfl (by decide) rfl ?_
          refine mw_goto (tgt := 45) dX10_kind_108 (by decide) ?_
          exact mw_sub (L' := [(0, .ref 69), (1, .int a1), (2, .int x2), (3, .int x3), (4, .long x4), (6, .long x6), (8, .int (x8 + 1))]) [1, 2, 3, 4, 5, 6, 0] rfl (ih _ _ _ _ _ _ h)
        · have h := mie hc h
          exact mw_sub (L' := [(0, .ref 69), (1, .int a1), (2, .int x2), (8, .int x8)]) [0, 1, 2, 6] rfl (p_X10_kind_J90 ih h)
def e_X10_kind (a1 : Int32) (σ : ES) : Option (Int32 × ES) := (e_X10_isWay σ a1).bind (fun r1 => if r1 = 0 then ((e_X10_finds (0 : Int32) σ).bind (fun r9 => some (r9.1, r9.2))) else ((e_X10_ringsNow σ).bind (fun r3 => if r3.1 = 0 then ((e_X10_finds (3 : Int32) r3.2).bind (fun r7 => some (r7.1, r7.2))) else ((e_X10_at r3.2 a1 (0 : Int32)).bind (fun r5 => e_X10_kind_L45 a1 mN r5 (-1 : Int32) (0 : Int64) (1 : Int64) (0 : Int32) r3.2)))))
set_option maxRecDepth 100000 in
set_option maxHeartbeats 4000000 in
theorem k_X10_kind {l : Launch} {σ : ES} {a1 : Int32} {out : (Int32 × ES)} (h : e_X10_kind a1 σ = some out) : MK l yX10_kind cX10_kind 9 (some .int) 14 [.ref 69, .int a1] (mkS σ) (some (.int out.1)) (mkS out.2) := by
  unfold e_X10_kind at h
  refine mw_entry (own := RX10) (ini := false) (L := [(0, .ref 69), (1, .int a1)]) (by decide +kernel) rfl (fun h => nomatch h) rfl (Nat.le_of_ble_eq_true rfl) (Nat.le_of_ble_eq_true rfl) (fun E => ?_)
  refine mw_aload_n dX10_kind_0 0 rfl ?_
  refine mw_iload_n dX10_kind_1 1 rfl ?_
  obtain ⟨r1, e2, h⟩ := mbd h
  refine mv_callV_i (As := [.int a1]) (ci := 9) lkV_RX10_102_yX10_isWay dX10_kind_2 (k_X10_isWay e2) rfl rfl rfl rfl (Nat.le_of_ble_eq_true rfl) (by decide) (by decide) ?_
  refine mw_if_ne (tgt := 14) dX10_kind_5 (by decide) (fun hc => ?_) (fun hc => ?_)
  · have h := mie hc h
    refine mw_aload_n dX10_kind_14 0 rfl ?_
    obtain ⟨r3, e4, h⟩ := mbd h
    refine mv_callV_i (As := []) (ci := 9) lkV_RX10_169_yX10_ringsNow dX10_kind_15 (k_X10_ringsNow e4) rfl rfl rfl rfl (Nat.le_of_ble_eq_true rfl) (by decide) (by decide) ?_
    refine mw_if_ne (tgt := 27) dX10_kind_18 (by decide) (fun hc => ?_) (fun hc => ?_)
    · have h := mie hc h
      refine mw_aload_n dX10_kind_27 0 rfl ?_
      refine mw_iload_n dX10_kind_28 1 rfl ?_
      refine mw_iconst (v := 0) dX10_kind_29 (by decide) ?_
      obtain ⟨r5, e6, h⟩ := mbd h
      refine mv_callV_i (As := [.int a1, .int (0 : Int32)]) (ci := 9) lkV_RX10_70_yX10_at dX10_kind_30 (k_X10_at e6) rfl rfl rfl rfl (Nat.le_of_ble_eq_true rfl) (by decide) (by decide) ?_
      refine mw_istore_n (L' := [(2, .int r5), (0, .ref 69), (1, .int a1)]) dX10_kind_33 rfl (by decide) rfl ?_
      refine mw_iconst (v := -1) dX10_kind_34 (by decide) ?_
      refine mw_istore_n (L' := [(3, .int (-1 : Int32)), (2, .int r5), (0, .ref 69), (1, .int a1)]) dX10_kind_35 rfl (by decide) rfl ?_
      refine mw_lconst (v := 0) dX10_kind_36 (by decide) ?_
      refine mw_lstore (L' := [(4, .long (0 : Int64)), (3, .int (-1 : Int32)), (2, .int r5), (0, .ref 69), (1, .int a1)]) dX10_kind_37 (by decide) rfl ?_
      refine mw_lconst (v := 1) dX10_kind_39 (by decide) ?_
      refine mw_lstore (L' := [(6, .long (1 : Int64)), (4, .long (0 : Int64)), (3, .int (-1 : Int32)), (2, .int r5), (0, .ref 69), (1, .int a1)]) dX10_kind_40 (by decide) rfl ?_
      refine mw_iconst (v := 0) dX10_kind_42 (by decide) ?_
      refine mw_istore (L' := [(8, .int (0 : Int32)), (6, .long (1 : Int64)), (4, .long (0 : Int64)), (3, .int (-1 : Int32)), (2, .int r5), (0, .ref 69), (1, .int a1)]) dX10_kind_43 (by decide) rfl ?_
      exact mw_sub (L' := [(0, .ref 69), (1, .int a1), (2, .int r5), (3, .int (-1 : Int32)), (4, .long (0 : Int64)), (6, .long (1 : Int64)), (8, .int (0 : Int32))]) [5, 6, 4, 3, 2, 1, 0] rfl (p_X10_kind_L45  mN _ _ _ _ _ _ h)
    · have h := mit hc h
      refine mw_aload_n dX10_kind_21 0 rfl ?_
      refine mw_iconst (v := 3) dX10_kind_22 (by decide) ?_
      obtain ⟨r7, e8, h⟩ := mbd h
      refine mv_callV_i (As := [.int (3 : Int32)]) (ci := 9) lkV_RX10_81_yX10_finds dX10_kind_23 (k_X10_finds e8) rfl rfl rfl rfl (Nat.le_of_ble_eq_true rfl) (by decide) (by decide) ?_
      exact mw_iret dX10_kind_26 rfl (ers_im h) rfl rfl
  · have h := mit hc h
    refine mw_aload_n dX10_kind_8 0 rfl ?_
    refine mw_iconst (v := 0) dX10_kind_9 (by decide) ?_
    obtain ⟨r9, e10, h⟩ := mbd h
    refine mv_callV_i (As := [.int (0 : Int32)]) (ci := 9) lkV_RX10_81_yX10_finds dX10_kind_10 (k_X10_finds e10) rfl rfl rfl rfl (Nat.le_of_ble_eq_true rfl) (by decide) (by decide) ?_
    exact mw_iret dX10_kind_13 rfl (ers_im h) rfl rfl

theorem dX10_season_0 : decode cX10_season 0 = .ok (.aload_n 0, 1) := by decide +kernel
theorem dX10_season_1 : decode cX10_season 1 = .ok (.invokevirtual 169, 3) := by decide +kernel
theorem dX10_season_4 : decode cX10_season 4 = .ok (.ifCond .ne 9, 3) := by decide +kernel
theorem dX10_season_7 : decode cX10_season 7 = .ok (.aload_n 0, 1) := by decide +kernel
theorem dX10_season_8 : decode cX10_season 8 = .ok (.iconst 3, 1) := by decide +kernel
theorem dX10_season_9 : decode cX10_season 9 = .ok (.invokevirtual 81, 3) := by decide +kernel
theorem dX10_season_12 : decode cX10_season 12 = .ok (.ireturn, 1) := by decide +kernel
theorem dX10_season_13 : decode cX10_season 13 = .ok (.aload_n 0, 1) := by decide +kernel
theorem dX10_season_14 : decode cX10_season 14 = .ok (.getfield 74, 3) := by decide +kernel
theorem dX10_season_17 : decode cX10_season 17 = .ok (.istore_n 1, 1) := by decide +kernel
theorem dX10_season_18 : decode cX10_season 18 = .ok (.iconst (-1), 1) := by decide +kernel
theorem dX10_season_19 : decode cX10_season 19 = .ok (.istore_n 2, 1) := by decide +kernel
theorem dX10_season_20 : decode cX10_season 20 = .ok (.lconst 0, 1) := by decide +kernel
theorem dX10_season_21 : decode cX10_season 21 = .ok (.lstore_n 3, 1) := by decide +kernel
theorem dX10_season_22 : decode cX10_season 22 = .ok (.lconst 1, 1) := by decide +kernel
theorem dX10_season_23 : decode cX10_season 23 = .ok (.lstore 5, 2) := by decide +kernel
theorem dX10_season_25 : decode cX10_season 25 = .ok (.iconst 0, 1) := by decide +kernel
theorem dX10_season_26 : decode cX10_season 26 = .ok (.istore 7, 2) := by decide +kernel
theorem dX10_season_28 : decode cX10_season 28 = .ok (.iload 7, 2) := by decide +kernel
theorem dX10_season_30 : decode cX10_season 30 = .ok (.bipush 6, 2) := by decide +kernel
theorem dX10_season_32 : decode cX10_season 32 = .ok (.if_icmp .ge 55, 3) := by decide +kernel
theorem dX10_season_35 : decode cX10_season 35 = .ok (.aload_n 0, 1) := by decide +kernel
theorem dX10_season_36 : decode cX10_season 36 = .ok (.iload 7, 2) := by decide +kernel
theorem dX10_season_38 : decode cX10_season 38 = .ok (.putfield 74, 3) := by decide +kernel
theorem dX10_season_41 : decode cX10_season 41 = .ok (.aload_n 0, 1) := by decide +kernel
theorem dX10_season_42 : decode cX10_season 42 = .ok (.invokevirtual 169, 3) := by decide +kernel
theorem dX10_season_45 : decode cX10_season 45 = .ok (.pop, 1) := by decide +kernel
theorem dX10_season_46 : decode cX10_season 46 = .ok (.iload_n 2, 1) := by decide +kernel
theorem dX10_season_47 : decode cX10_season 47 = .ok (.ifCond .lt 20, 3) := by decide +kernel
theorem dX10_season_50 : decode cX10_season 50 = .ok (.aload_n 0, 1) := by decide +kernel
theorem dX10_season_51 : decode cX10_season 51 = .ok (.getfield 140, 3) := by decide +kernel
theorem dX10_season_54 : decode cX10_season 54 = .ok (.lload 5, 2) := by decide +kernel
theorem dX10_season_56 : decode cX10_season 56 = .ok (.lmul, 1) := by decide +kernel
theorem dX10_season_57 : decode cX10_season 57 = .ok (.lload_n 3, 1) := by decide +kernel
theorem dX10_season_58 : decode cX10_season 58 = .ok (.aload_n 0, 1) := by decide +kernel
theorem dX10_season_59 : decode cX10_season 59 = .ok (.getfield 136, 3) := by decide +kernel
theorem dX10_season_62 : decode cX10_season 62 = .ok (.lmul, 1) := by decide +kernel
theorem dX10_season_63 : decode cX10_season 63 = .ok (.lcmp, 1) := by decide +kernel
theorem dX10_season_64 : decode cX10_season 64 = .ok (.ifCond .le 17, 3) := by decide +kernel
theorem dX10_season_67 : decode cX10_season 67 = .ok (.iload 7, 2) := by decide +kernel
theorem dX10_season_69 : decode cX10_season 69 = .ok (.istore_n 2, 1) := by decide +kernel
theorem dX10_season_70 : decode cX10_season 70 = .ok (.aload_n 0, 1) := by decide +kernel
theorem dX10_season_71 : decode cX10_season 71 = .ok (.getfield 140, 3) := by decide +kernel
theorem dX10_season_74 : decode cX10_season 74 = .ok (.lstore_n 3, 1) := by decide +kernel
theorem dX10_season_75 : decode cX10_season 75 = .ok (.aload_n 0, 1) := by decide +kernel
theorem dX10_season_76 : decode cX10_season 76 = .ok (.getfield 136, 3) := by decide +kernel
theorem dX10_season_79 : decode cX10_season 79 = .ok (.lstore 5, 2) := by decide +kernel
theorem dX10_season_81 : decode cX10_season 81 = .ok (.iinc 7 1, 3) := by decide +kernel
theorem dX10_season_84 : decode cX10_season 84 = .ok (.goto (-56), 3) := by decide +kernel
theorem dX10_season_87 : decode cX10_season 87 = .ok (.aload_n 0, 1) := by decide +kernel
theorem dX10_season_88 : decode cX10_season 88 = .ok (.iload_n 1, 1) := by decide +kernel
theorem dX10_season_89 : decode cX10_season 89 = .ok (.putfield 74, 3) := by decide +kernel
theorem dX10_season_92 : decode cX10_season 92 = .ok (.iload_n 2, 1) := by decide +kernel
theorem dX10_season_93 : decode cX10_season 93 = .ok (.ireturn, 1) := by decide +kernel
def e_X10_season_J67 (k28 : Int32 → Int32 → Int64 → Int64 → Int32 → ES → Option (Int32 × ES)) (x1 : Int32) (x7 : Int32) (σ : ES) : Option (Int32 × ES) := k28 x1 x7 (eL σ 69 11) (eL σ 69 12) (x7 + 1) σ
set_option maxRecDepth 100000 in
set_option maxHeartbeats 4000000 in
theorem p_X10_season_J67 {l : Launch} {E : MX} {out : (Int32 × ES)} {k28 : Int32 → Int32 → Int64 → Int64 → Int32 → ES → Option (Int32 × ES)} (hk28 : ∀ (z0 : Int32) (z1 : Int32) (z2 : Int64) (z3 : Int64) (z4 : Int32) (τ : ES), k28 z0 z1 z2 z3 z4 τ = some out → MV l E cX10_season RX10 8 (some .int) 14 (82, (some (.int out.1)), mkS out.2) (mkS τ) 28 [(0, .ref 69), (1, .int z0), (2, .int z1), (3, .long z2), (5, .long z3), (7, .int z4)] []) {x1 : Int32} {x7 : Int32} {σ : ES} (h : e_X10_season_J67 k28 x1 x7 σ = some out) : MV l E cX10_season RX10 8 (some .int) 14 (82, (some (.int out.1)), mkS out.2) (mkS σ) 67 [(0, .ref 69), (1, .int x1), (7, .int x7)] [] := by
  unfold e_X10_season_J67 at h
  refine mw_iload dX10_season_67 2 rfl ?_
  refine mw_istore_n (L' := [(2, .int x7), (0, .ref 69), (1, .int x1), (7, .int x7)]) dX10_season_69 rfl (by decide) rfl ?_
  refine mw_aload_n dX10_season_70 1 rfl ?_
  refine ev_getL fd_RX10_140_9 dX10_season_71 rfl rfl ?_
  refine mw_lstore_n (L' := [(3, .long (eL σ 69 11)), (2, .int x7), (0, .ref 69), (1, .int x1), (7, .int x7)]) dX10_season_74 rfl (by decide) rfl ?_
  refine mw_aload_n dX10_season_75 2 rfl ?_
  refine ev_getL fd_RX10_136_9 dX10_season_76 rfl rfl ?_
  refine mw_lstore (L' := [(5, .long (eL σ 69 12)), (3, .long (eL σ 69 11)), (2, .int x7), (0, .ref 69), (1, .int x1), (7, .int x7)]) dX10_season_79 (by decide) rfl ?_
  refine mw_iinc (v := (x7 + 1)) (L' := [(7, .int (x7 + 1)), (5, .long (eL σ 69 12)), (3, .long (eL σ 69 11)), (2, .int x7), (0, .ref 69), (1, .int x1)]) dX10_season_81 5 rfl rfl (by decide) rfl ?_
  refine mw_goto (tgt := 28) dX10_season_84 (by decide) ?_
  exact mw_sub (L' := [(0, .ref 69), (1, .int x1), (2, .int x7), (3, .long (eL σ 69 11)), (5, .long (eL σ 69 12)), (7, .int (x7 + 1))]) [4, 5, 3, 2, 1, 0] rfl (hk28 _ _ _ _ _ _ h)
def e_X10_season_L28  : Nat → Int32 → Int32 → Int64 → Int64 → Int32 → ES → Option (Int32 × ES)
  | 0, _, _, _, _, _, _ => none
  | n + 1, x1, x2, x3, x5, x7, σ => if (6 : Int32) ≤ x7 then (some (x2, (uI σ 69 2 x1))) else ((e_X10_ringsNow (uI σ 69 2 x7)).bind (fun r1 => if x2 < 0 then (e_X10_season_J67 (e_X10_season_L28 n) x1 x7 r1.2) else (if ((eL r1.2 69 11) * x5) ≤ (x3 * (eL r1.2 69 12)) then (e_X10_season_L28 n x1 x2 x3 x5 (x7 + 1) r1.2) else (e_X10_season_J67 (e_X10_season_L28 n) x1 x7 r1.2))))
set_option maxRecDepth 100000 in
set_option maxHeartbeats 4000000 in
theorem p_X10_season_L28 {l : Launch} {E : MX} {out : (Int32 × ES)}   : ∀ (n : Nat) (x1 : Int32) (x2 : Int32) (x3 : Int64) (x5 : Int64) (x7 : Int32) (σ : ES), e_X10_season_L28 n x1 x2 x3 x5 x7 σ = some out → MV l E cX10_season RX10 8 (some .int) 14 (82, (some (.int out.1)), mkS out.2) (mkS σ) 28 [(0, .ref 69), (1, .int x1), (2, .int x2), (3, .long x3), (5, .long x5), (7, .int x7)] [] := by
  intro n
  induction n with
  | zero =>
    intro x1 x2 x3 x5 x7 σ h
    exact nomatch h
  | succ n ih =>
    intro x1 x2 x3 x5 x7 σ h
    rw [e_X10_season_L28] at h
    refine mw_iload dX10_season_28 5 rfl ?_
    refine mw_bipush (v := 6) dX10_season_30 (by decide) ?_
    refine mw_icmp_ge (tgt := 87) dX10_season_32 (by decide) (fun hc => ?_) (fun hc => ?_)
    · have h := mit hc h
      refine mw_aload_n dX10_season_87 0 rfl ?_
      refine mw_iload_n dX10_season_88 1 rfl ?_
      refine ev_putI fw_RX10_74_9 dX10_season_89 rfl rfl ?_
      refine mw_iload_n dX10_season_92 2 rfl ?_
      exact mw_iret dX10_season_93 rfl (ers_im h) rfl rfl
    · have h := mie hc h
      refine mw_aload_n dX10_season_35 0 rfl ?_
      refine mw_iload dX10_season_36 5 rfl ?_
      refine ev_putI fw_RX10_74_9 dX10_season_38 rfl rfl ?_
      refine mw_aload_n dX10_season_41 0 rfl ?_
      obtain ⟨r1, e2, h⟩ := mbd h
      refine mv_callV_i (As := []) (ci := 9) lkV_RX10_169_yX10_ringsNow dX10_season_42 (k_X10_ringsNow e2) rfl rfl rfl rfl (Nat.le_of_ble_eq_true rfl) (by decide) (by decide) ?_
      refine mw_pop dX10_season_45 rfl ?_
      refine mw_iload_n dX10_season_46 2 rfl ?_
      refine mw_if_lt (tgt := 67) dX10_season_47 (by decide) (fun hc => ?_) (fun hc => ?_)
      · have h := mit hc h
        exact mw_sub (L' := [(0, .ref 69), (1, .int x1), (7, .int x7)]) [0, 1, 5] rfl (p_X10_season_J67 ih h)
      · have h := mie hc h
        refine mw_aload_n dX10_season_50 0 rfl ?_
        refine ev_getL fd_RX10_140_9 dX10_season_51 rfl rfl ?_
        refine mw_lload dX10_season_54 4 rfl ?_
        refine mw_lmul dX10_season_56 ?_
        refine mw_lload_n dX10_season_57 3 rfl ?_
        refine mw_aload_n dX10_season_58 0 rfl ?_
        refine ev_getL fd_RX10_136_9 dX10_season_59 rfl rfl ?_
        refine mw_lmul dX10_season_62 ?_
        refine mw_lc_le (tgt := 81) dX10_season_63 dX10_season_64 (by decide) (fun hc => ?_) (fun hc => ?_)
        · have h := mit hc h
          refine mw_iinc (v := (x7 + 1)) (L' := [(7, .int (x7 + 1)), (0, .ref 69), (1, .int x1), (2, .int x2), (3, .long x3), (5, .long x5)]) dX10_season_81 5 rfl rfl (by decide) rfl ?_
          refine mw_goto (tgt := 28) dX10_season_84 (by decide) ?_
          exact mw_sub (L' := [(0, .ref 69), (1, .int x1), (2, .int x2), (3, .long x3), (5, .long x5), (7, .int (x7 + 1))]) [1, 2, 3, 4, 5, 0] rfl (ih _ _ _ _ _ _ h)
        · have h := mie hc h
          exact mw_sub (L' := [(0, .ref 69), (1, .int x1), (7, .int x7)]) [0, 1, 5] rfl (p_X10_season_J67 ih h)
def e_X10_season (σ : ES) : Option (Int32 × ES) := (e_X10_ringsNow σ).bind (fun r1 => if r1.1 = 0 then ((e_X10_finds (3 : Int32) r1.2).bind (fun r3 => some (r3.1, r3.2))) else (e_X10_season_L28 mN (eI r1.2 69 2) (-1 : Int32) (0 : Int64) (1 : Int64) (0 : Int32) r1.2))
set_option maxRecDepth 100000 in
set_option maxHeartbeats 4000000 in
theorem k_X10_season {l : Launch} {σ : ES}  {out : (Int32 × ES)} (h : e_X10_season σ = some out) : MK l yX10_season cX10_season 8 (some .int) 14 [.ref 69] (mkS σ) (some (.int out.1)) (mkS out.2) := by
  unfold e_X10_season at h
  refine mw_entry (own := RX10) (ini := false) (L := [(0, .ref 69)]) (by decide +kernel) rfl (fun h => nomatch h) rfl (Nat.le_of_ble_eq_true rfl) (Nat.le_of_ble_eq_true rfl) (fun E => ?_)
  refine mw_aload_n dX10_season_0 0 rfl ?_
  obtain ⟨r1, e2, h⟩ := mbd h
  refine mv_callV_i (As := []) (ci := 9) lkV_RX10_169_yX10_ringsNow dX10_season_1 (k_X10_ringsNow e2) rfl rfl rfl rfl (Nat.le_of_ble_eq_true rfl) (by decide) (by decide) ?_
  refine mw_if_ne (tgt := 13) dX10_season_4 (by decide) (fun hc => ?_) (fun hc => ?_)
  · have h := mie hc h
    refine mw_aload_n dX10_season_13 0 rfl ?_
    refine ev_getI fd_RX10_74_9 dX10_season_14 rfl rfl ?_
    refine mw_istore_n (L' := [(1, .int (eI r1.2 69 2)), (0, .ref 69)]) dX10_season_17 rfl (by decide) rfl ?_
    refine mw_iconst (v := -1) dX10_season_18 (by decide) ?_
    refine mw_istore_n (L' := [(2, .int (-1 : Int32)), (1, .int (eI r1.2 69 2)), (0, .ref 69)]) dX10_season_19 rfl (by decide) rfl ?_
    refine mw_lconst (v := 0) dX10_season_20 (by decide) ?_
    refine mw_lstore_n (L' := [(3, .long (0 : Int64)), (2, .int (-1 : Int32)), (1, .int (eI r1.2 69 2)), (0, .ref 69)]) dX10_season_21 rfl (by decide) rfl ?_
    refine mw_lconst (v := 1) dX10_season_22 (by decide) ?_
    refine mw_lstore (L' := [(5, .long (1 : Int64)), (3, .long (0 : Int64)), (2, .int (-1 : Int32)), (1, .int (eI r1.2 69 2)), (0, .ref 69)]) dX10_season_23 (by decide) rfl ?_
    refine mw_iconst (v := 0) dX10_season_25 (by decide) ?_
    refine mw_istore (L' := [(7, .int (0 : Int32)), (5, .long (1 : Int64)), (3, .long (0 : Int64)), (2, .int (-1 : Int32)), (1, .int (eI r1.2 69 2)), (0, .ref 69)]) dX10_season_26 (by decide) rfl ?_
    exact mw_sub (L' := [(0, .ref 69), (1, .int (eI r1.2 69 2)), (2, .int (-1 : Int32)), (3, .long (0 : Int64)), (5, .long (1 : Int64)), (7, .int (0 : Int32))]) [5, 4, 3, 2, 1, 0] rfl (p_X10_season_L28  mN _ _ _ _ _ _ h)
  · have h := mit hc h
    refine mw_aload_n dX10_season_7 0 rfl ?_
    refine mw_iconst (v := 3) dX10_season_8 (by decide) ?_
    obtain ⟨r3, e4, h⟩ := mbd h
    refine mv_callV_i (As := [.int (3 : Int32)]) (ci := 9) lkV_RX10_81_yX10_finds dX10_season_9 (k_X10_finds e4) rfl rfl rfl rfl (Nat.le_of_ble_eq_true rfl) (by decide) (by decide) ?_
    exact mw_iret dX10_season_12 rfl (ers_im h) rfl rfl

theorem dX10_allSets_0 : decode cX10_allSets 0 = .ok (.iconst 1, 1) := by decide +kernel
theorem dX10_allSets_1 : decode cX10_allSets 1 = .ok (.aload_n 0, 1) := by decide +kernel
theorem dX10_allSets_2 : decode cX10_allSets 2 = .ok (.getfield 212, 3) := by decide +kernel
theorem dX10_allSets_5 : decode cX10_allSets 5 = .ok (.iconst 2, 1) := by decide +kernel
theorem dX10_allSets_6 : decode cX10_allSets 6 = .ok (.if_icmp .ne 10, 3) := by decide +kernel
theorem dX10_allSets_9 : decode cX10_allSets 9 = .ok (.aload_n 0, 1) := by decide +kernel
theorem dX10_allSets_10 : decode cX10_allSets 10 = .ok (.getfield 117, 3) := by decide +kernel
theorem dX10_allSets_13 : decode cX10_allSets 13 = .ok (.goto 7, 3) := by decide +kernel
theorem dX10_allSets_16 : decode cX10_allSets 16 = .ok (.aload_n 0, 1) := by decide +kernel
theorem dX10_allSets_17 : decode cX10_allSets 17 = .ok (.getfield 61, 3) := by decide +kernel
theorem dX10_allSets_20 : decode cX10_allSets 20 = .ok (.ishl, 1) := by decide +kernel
theorem dX10_allSets_21 : decode cX10_allSets 21 = .ok (.ireturn, 1) := by decide +kernel
def e_X10_allSets (σ : ES) : Option Int32 := if (eI σ 69 16) = (2 : Int32) then (some ((1 : Int32) <<< ((eI σ 69 5) &&& 31))) else (some ((1 : Int32) <<< ((eI σ 69 3) &&& 31)))
set_option maxRecDepth 100000 in
set_option maxHeartbeats 4000000 in
theorem k_X10_allSets {l : Launch} {σ : ES}  {out : Int32} (h : e_X10_allSets σ = some out) : MK l yX10_allSets cX10_allSets 1 (some .int) 1 [.ref 69] (mkS σ) (some (.int out)) (mkS σ) := by
  unfold e_X10_allSets at h
  refine mw_entry (own := RX10) (ini := false) (L := [(0, .ref 69)]) (by decide +kernel) rfl (fun h => nomatch h) rfl (Nat.le_of_ble_eq_true rfl) (Nat.le_of_ble_eq_true rfl) (fun E => ?_)
  refine mw_iconst (v := 1) dX10_allSets_0 (by decide) ?_
  refine mw_aload_n dX10_allSets_1 0 rfl ?_
  refine ev_getI fd_RX10_212_9 dX10_allSets_2 rfl rfl ?_
  refine mw_iconst (v := 2) dX10_allSets_5 (by decide) ?_
  refine mw_icmp_ne (tgt := 16) dX10_allSets_6 (by decide) (fun hc => ?_) (fun hc => ?_)
  · have h := mie hc h
    refine mw_aload_n dX10_allSets_16 0 rfl ?_
    refine ev_getI fd_RX10_61_9 dX10_allSets_17 rfl rfl ?_
    refine mw_ishl dX10_allSets_20 ?_
    exact mw_iret dX10_allSets_21 rfl (ers_i h) rfl rfl
  · have h := mit hc h
    refine mw_aload_n dX10_allSets_9 0 rfl ?_
    refine ev_getI fd_RX10_117_9 dX10_allSets_10 rfl rfl ?_
    refine mw_goto (tgt := 20) dX10_allSets_13 (by decide) ?_
    refine mw_ishl dX10_allSets_20 ?_
    exact mw_iret dX10_allSets_21 rfl (ers_i h) rfl rfl

theorem dX10_wayFrom_0 : decode cX10_wayFrom 0 = .ok (.iconst (-1), 1) := by decide +kernel
theorem dX10_wayFrom_1 : decode cX10_wayFrom 1 = .ok (.istore_n 3, 1) := by decide +kernel
theorem dX10_wayFrom_2 : decode cX10_wayFrom 2 = .ok (.iconst 0, 1) := by decide +kernel
theorem dX10_wayFrom_3 : decode cX10_wayFrom 3 = .ok (.istore 4, 2) := by decide +kernel
theorem dX10_wayFrom_5 : decode cX10_wayFrom 5 = .ok (.iconst 0, 1) := by decide +kernel
theorem dX10_wayFrom_6 : decode cX10_wayFrom 6 = .ok (.istore 5, 2) := by decide +kernel
theorem dX10_wayFrom_8 : decode cX10_wayFrom 8 = .ok (.iload 5, 2) := by decide +kernel
theorem dX10_wayFrom_10 : decode cX10_wayFrom 10 = .ok (.aload_n 0, 1) := by decide +kernel
theorem dX10_wayFrom_11 : decode cX10_wayFrom 11 = .ok (.getfield 61, 3) := by decide +kernel
theorem dX10_wayFrom_14 : decode cX10_wayFrom 14 = .ok (.if_icmp .ge 36, 3) := by decide +kernel
theorem dX10_wayFrom_17 : decode cX10_wayFrom 17 = .ok (.iload_n 1, 1) := by decide +kernel
theorem dX10_wayFrom_18 : decode cX10_wayFrom 18 = .ok (.iload 5, 2) := by decide +kernel
theorem dX10_wayFrom_20 : decode cX10_wayFrom 20 = .ok (.ishr, 1) := by decide +kernel
theorem dX10_wayFrom_21 : decode cX10_wayFrom 21 = .ok (.iconst 1, 1) := by decide +kernel
theorem dX10_wayFrom_22 : decode cX10_wayFrom 22 = .ok (.iand, 1) := by decide +kernel
theorem dX10_wayFrom_23 : decode cX10_wayFrom 23 = .ok (.iconst 1, 1) := by decide +kernel
theorem dX10_wayFrom_24 : decode cX10_wayFrom 24 = .ok (.if_icmp .ne 20, 3) := by decide +kernel
theorem dX10_wayFrom_27 : decode cX10_wayFrom 27 = .ok (.aload_n 0, 1) := by decide +kernel
theorem dX10_wayFrom_28 : decode cX10_wayFrom 28 = .ok (.iload 5, 2) := by decide +kernel
theorem dX10_wayFrom_30 : decode cX10_wayFrom 30 = .ok (.iconst 1, 1) := by decide +kernel
theorem dX10_wayFrom_31 : decode cX10_wayFrom 31 = .ok (.invokevirtual 70, 3) := by decide +kernel
theorem dX10_wayFrom_34 : decode cX10_wayFrom 34 = .ok (.iload_n 2, 1) := by decide +kernel
theorem dX10_wayFrom_35 : decode cX10_wayFrom 35 = .ok (.if_icmp .ne 9, 3) := by decide +kernel
theorem dX10_wayFrom_38 : decode cX10_wayFrom 38 = .ok (.iload 5, 2) := by decide +kernel
theorem dX10_wayFrom_40 : decode cX10_wayFrom 40 = .ok (.istore_n 3, 1) := by decide +kernel
theorem dX10_wayFrom_41 : decode cX10_wayFrom 41 = .ok (.iinc 4 1, 3) := by decide +kernel
theorem dX10_wayFrom_44 : decode cX10_wayFrom 44 = .ok (.iinc 5 1, 3) := by decide +kernel
theorem dX10_wayFrom_47 : decode cX10_wayFrom 47 = .ok (.goto (-39), 3) := by decide +kernel
theorem dX10_wayFrom_50 : decode cX10_wayFrom 50 = .ok (.iload 4, 2) := by decide +kernel
theorem dX10_wayFrom_52 : decode cX10_wayFrom 52 = .ok (.iconst 1, 1) := by decide +kernel
theorem dX10_wayFrom_53 : decode cX10_wayFrom 53 = .ok (.if_icmp .ne 7, 3) := by decide +kernel
theorem dX10_wayFrom_56 : decode cX10_wayFrom 56 = .ok (.iload_n 3, 1) := by decide +kernel
theorem dX10_wayFrom_57 : decode cX10_wayFrom 57 = .ok (.goto 4, 3) := by decide +kernel
theorem dX10_wayFrom_60 : decode cX10_wayFrom 60 = .ok (.iconst (-1), 1) := by decide +kernel
theorem dX10_wayFrom_61 : decode cX10_wayFrom 61 = .ok (.ireturn, 1) := by decide +kernel
def e_X10_wayFrom_L8 (σ : ES) (a1 : Int32) (a2 : Int32) : Nat → Int32 → Int32 → Int32 → Option Int32
  | 0, _, _, _ => none
  | n + 1, x3, x4, x5 => if (eI σ 69 3) ≤ x5 then (if x4 = (1 : Int32) then (some x3) else (some (-1 : Int32))) else (if ((a1 >>> (x5 &&& 31)) &&& (1 : Int32)) = (1 : Int32) then ((e_X10_at σ x5 (1 : Int32)).bind (fun r1 => if r1 = a2 then (e_X10_wayFrom_L8 σ a1 a2 n x5 (x4 + 1) (x5 + 1)) else (e_X10_wayFrom_L8 σ a1 a2 n x3 x4 (x5 + 1)))) else (e_X10_wayFrom_L8 σ a1 a2 n x3 x4 (x5 + 1)))
set_option maxRecDepth 100000 in
set_option maxHeartbeats 4000000 in
theorem p_X10_wayFrom_L8 {l : Launch} {E : MX} {out : Int32} {σ : ES} {a1 : Int32} {a2 : Int32}  : ∀ (n : Nat) (x3 : Int32) (x4 : Int32) (x5 : Int32), e_X10_wayFrom_L8 σ a1 a2 n x3 x4 x5 = some out → MV l E cX10_wayFrom RX10 6 (some .int) 2 (82, (some (.int out)), mkS σ) (mkS σ) 8 [(0, .ref 69), (1, .int a1), (2, .int a2), (3, .int x3), (4, .int x4), (5, .int x5)] [] := by
  intro n
  induction n with
  | zero =>
    intro x3 x4 x5 h
    exact nomatch h
  | succ n ih =>
    intro x3 x4 x5 h
    rw [e_X10_wayFrom_L8] at h
    refine mw_iload dX10_wayFrom_8 5 rfl ?_
    refine mw_aload_n dX10_wayFrom_10 0 rfl ?_
    refine ev_getI fd_RX10_61_9 dX10_wayFrom_11 rfl rfl ?_
    refine mw_icmp_ge (tgt := 50) dX10_wayFrom_14 (by decide) (fun hc => ?_) (fun hc => ?_)
    · have h := mit hc h
      refine mw_iload dX10_wayFrom_50 4 rfl ?_
      refine mw_iconst (v := 1) dX10_wayFrom_52 (by decide) ?_
      refine mw_icmp_ne (tgt := 60) dX10_wayFrom_53 (by decide) (fun hc => ?_) (fun hc => ?_)
      · have h := mie hc h
        refine mw_iconst (v := -1) dX10_wayFrom_60 (by decide) ?_
        exact mw_iret dX10_wayFrom_61 rfl (ers_i h) rfl rfl
      · have h := mit hc h
        refine mw_iload_n dX10_wayFrom_56 3 rfl ?_
        refine mw_goto (tgt := 61) dX10_wayFrom_57 (by decide) ?_
        exact mw_iret dX10_wayFrom_61 rfl (ers_i h) rfl rfl
    · have h := mie hc h
      refine mw_iload_n dX10_wayFrom_17 1 rfl ?_
      refine mw_iload dX10_wayFrom_18 5 rfl ?_
      refine mw_ishr dX10_wayFrom_20 ?_
      refine mw_iconst (v := 1) dX10_wayFrom_21 (by decide) ?_
      refine mw_iand dX10_wayFrom_22 ?_
      refine mw_iconst (v := 1) dX10_wayFrom_23 (by decide) ?_
      refine mw_icmp_ne (tgt := 44) dX10_wayFrom_24 (by decide) (fun hc => ?_) (fun hc => ?_)
      · have h := mie hc h
        refine mw_iinc (v := (x5 + 1)) (L' := [(5, .int (x5 + 1)), (0, .ref 69), (1, .int a1), (2, .int a2), (3, .int x3), (4, .int x4)]) dX10_wayFrom_44 5 rfl rfl (by decide) rfl ?_
        refine mw_goto (tgt := 8) dX10_wayFrom_47 (by decide) ?_
        exact mw_sub (L' := [(0, .ref 69), (1, .int a1), (2, .int a2), (3, .int x3), (4, .int x4), (5, .int (x5 + 1))]) [1, 2, 3, 4, 5, 0] rfl (ih _ _ _ h)
      · have h := mit hc h
        refine mw_aload_n dX10_wayFrom_27 0 rfl ?_
        refine mw_iload dX10_wayFrom_28 5 rfl ?_
        refine mw_iconst (v := 1) dX10_wayFrom_30 (by decide) ?_
        obtain ⟨r1, e2, h⟩ := mbd h
        refine mv_callV_i (As := [.int x5, .int (1 : Int32)]) (ci := 9) lkV_RX10_70_yX10_at dX10_wayFrom_31 (k_X10_at e2) rfl rfl rfl rfl (Nat.le_of_ble_eq_true rfl) (by decide) (by decide) ?_
        refine mw_iload_n dX10_wayFrom_34 2 rfl ?_
        refine mw_icmp_ne (tgt := 44) dX10_wayFrom_35 (by decide) (fun hc => ?_) (fun hc => ?_)
        · have h := mie hc h
          refine mw_iinc (v := (x5 + 1)) (L' := [(5, .int (x5 + 1)), (0, .ref 69), (1, .int a1), (2, .int a2), (3, .int x3), (4, .int x4)]) dX10_wayFrom_44 5 rfl rfl (by decide) rfl ?_
          refine mw_goto (tgt := 8) dX10_wayFrom_47 (by decide) ?_
          exact mw_sub (L' := [(0, .ref 69), (1, .int a1), (2, .int a2), (3, .int x3), (4, .int x4), (5, .int (x5 + 1))]) [1, 2, 3, 4, 5, 0] rfl (ih _ _ _ h)
        · have h := mit hc h
          refine mw_iload dX10_wayFrom_38 5 rfl ?_
          refine mw_istore_n (L' := [(3, .int x5), (0, .ref 69), (1, .int a1), (2, .int a2), (4, .int x4), (5, .int x5)]) dX10_wayFrom_40 rfl (by decide) rfl ?_
          refine mw_iinc (v := (x4 + 1)) (L' := [(4, .int (x4 + 1)), (3, .int x5), (0, .ref 69), (1, .int a1), (2, .int a2), (5, .int x5)]) dX10_wayFrom_41 4 rfl rfl (by decide) rfl ?_
          refine mw_iinc (v := (x5 + 1)) (L' := [(5, .int (x5 + 1)), (4, .int (x4 + 1)), (3, .int x5), (0, .ref 69), (1, .int a1), (2, .int a2)]) dX10_wayFrom_44 5 rfl rfl (by decide) rfl ?_
          refine mw_goto (tgt := 8) dX10_wayFrom_47 (by decide) ?_
          exact mw_sub (L' := [(0, .ref 69), (1, .int a1), (2, .int a2), (3, .int x5), (4, .int (x4 + 1)), (5, .int (x5 + 1))]) [3, 4, 5, 2, 1, 0] rfl (ih _ _ _ h)
def e_X10_wayFrom (σ : ES) (a1 : Int32) (a2 : Int32) : Option Int32 := e_X10_wayFrom_L8 σ a1 a2 mN (-1 : Int32) (0 : Int32) (0 : Int32)
set_option maxRecDepth 100000 in
set_option maxHeartbeats 4000000 in
theorem k_X10_wayFrom {l : Launch} {σ : ES} {a1 : Int32} {a2 : Int32} {out : Int32} (h : e_X10_wayFrom σ a1 a2 = some out) : MK l yX10_wayFrom cX10_wayFrom 6 (some .int) 2 [.ref 69, .int a1, .int a2] (mkS σ) (some (.int out)) (mkS σ) := by
  unfold e_X10_wayFrom at h
  refine mw_entry (own := RX10) (ini := false) (L := [(0, .ref 69), (1, .int a1), (2, .int a2)]) (by decide +kernel) rfl (fun h => nomatch h) rfl (Nat.le_of_ble_eq_true rfl) (Nat.le_of_ble_eq_true rfl) (fun E => ?_)
  refine mw_iconst (v := -1) dX10_wayFrom_0 (by decide) ?_
  refine mw_istore_n (L' := [(3, .int (-1 : Int32)), (0, .ref 69), (1, .int a1), (2, .int a2)]) dX10_wayFrom_1 rfl (by decide) rfl ?_
  refine mw_iconst (v := 0) dX10_wayFrom_2 (by decide) ?_
  refine mw_istore (L' := [(4, .int (0 : Int32)), (3, .int (-1 : Int32)), (0, .ref 69), (1, .int a1), (2, .int a2)]) dX10_wayFrom_3 (by decide) rfl ?_
  refine mw_iconst (v := 0) dX10_wayFrom_5 (by decide) ?_
  refine mw_istore (L' := [(5, .int (0 : Int32)), (4, .int (0 : Int32)), (3, .int (-1 : Int32)), (0, .ref 69), (1, .int a1), (2, .int a2)]) dX10_wayFrom_6 (by decide) rfl ?_
  exact mw_sub (L' := [(0, .ref 69), (1, .int a1), (2, .int a2), (3, .int (-1 : Int32)), (4, .int (0 : Int32)), (5, .int (0 : Int32))]) [3, 4, 5, 2, 1, 0] rfl (p_X10_wayFrom_L8  mN _ _ _ h)

theorem dX10_rises_0 : decode cX10_rises 0 = .ok (.iconst 0, 1) := by decide +kernel
theorem dX10_rises_1 : decode cX10_rises 1 = .ok (.istore_n 2, 1) := by decide +kernel
theorem dX10_rises_2 : decode cX10_rises 2 = .ok (.aload_n 0, 1) := by decide +kernel
theorem dX10_rises_3 : decode cX10_rises 3 = .ok (.getfield 206, 3) := by decide +kernel
theorem dX10_rises_6 : decode cX10_rises 6 = .ok (.istore_n 3, 1) := by decide +kernel
theorem dX10_rises_7 : decode cX10_rises 7 = .ok (.iload_n 3, 1) := by decide +kernel
theorem dX10_rises_8 : decode cX10_rises 8 = .ok (.aload_n 0, 1) := by decide +kernel
theorem dX10_rises_9 : decode cX10_rises 9 = .ok (.getfield 209, 3) := by decide +kernel
theorem dX10_rises_12 : decode cX10_rises 12 = .ok (.if_icmp .eq 61, 3) := by decide +kernel
theorem dX10_rises_15 : decode cX10_rises 15 = .ok (.aload_n 0, 1) := by decide +kernel
theorem dX10_rises_16 : decode cX10_rises 16 = .ok (.iload_n 1, 1) := by decide +kernel
theorem dX10_rises_17 : decode cX10_rises 17 = .ok (.iload_n 3, 1) := by decide +kernel
theorem dX10_rises_18 : decode cX10_rises 18 = .ok (.invokevirtual 200, 3) := by decide +kernel
theorem dX10_rises_21 : decode cX10_rises 21 = .ok (.istore 4, 2) := by decide +kernel
theorem dX10_rises_23 : decode cX10_rises 23 = .ok (.iload 4, 2) := by decide +kernel
theorem dX10_rises_25 : decode cX10_rises 25 = .ok (.ifCond .lt 28, 3) := by decide +kernel
theorem dX10_rises_28 : decode cX10_rises 28 = .ok (.aload_n 0, 1) := by decide +kernel
theorem dX10_rises_29 : decode cX10_rises 29 = .ok (.iload 4, 2) := by decide +kernel
theorem dX10_rises_31 : decode cX10_rises 31 = .ok (.iconst 2, 1) := by decide +kernel
theorem dX10_rises_32 : decode cX10_rises 32 = .ok (.invokevirtual 70, 3) := by decide +kernel
theorem dX10_rises_35 : decode cX10_rises 35 = .ok (.iload_n 3, 1) := by decide +kernel
theorem dX10_rises_36 : decode cX10_rises 36 = .ok (.if_icmp .le 17, 3) := by decide +kernel
theorem dX10_rises_39 : decode cX10_rises 39 = .ok (.aload_n 0, 1) := by decide +kernel
theorem dX10_rises_40 : decode cX10_rises 40 = .ok (.iload 4, 2) := by decide +kernel
theorem dX10_rises_42 : decode cX10_rises 42 = .ok (.iconst 2, 1) := by decide +kernel
theorem dX10_rises_43 : decode cX10_rises 43 = .ok (.invokevirtual 70, 3) := by decide +kernel
theorem dX10_rises_46 : decode cX10_rises 46 = .ok (.aload_n 0, 1) := by decide +kernel
theorem dX10_rises_47 : decode cX10_rises 47 = .ok (.getfield 209, 3) := by decide +kernel
theorem dX10_rises_50 : decode cX10_rises 50 = .ok (.if_icmp .le 5, 3) := by decide +kernel
theorem dX10_rises_53 : decode cX10_rises 53 = .ok (.iconst 0, 1) := by decide +kernel
theorem dX10_rises_54 : decode cX10_rises 54 = .ok (.ireturn, 1) := by decide +kernel
theorem dX10_rises_55 : decode cX10_rises 55 = .ok (.iload_n 2, 1) := by decide +kernel
theorem dX10_rises_56 : decode cX10_rises 56 = .ok (.iconst 1, 1) := by decide +kernel
theorem dX10_rises_57 : decode cX10_rises 57 = .ok (.iload 4, 2) := by decide +kernel
theorem dX10_rises_59 : decode cX10_rises 59 = .ok (.ishl, 1) := by decide +kernel
theorem dX10_rises_60 : decode cX10_rises 60 = .ok (.ior, 1) := by decide +kernel
theorem dX10_rises_61 : decode cX10_rises 61 = .ok (.istore_n 2, 1) := by decide +kernel
theorem dX10_rises_62 : decode cX10_rises 62 = .ok (.aload_n 0, 1) := by decide +kernel
theorem dX10_rises_63 : decode cX10_rises 63 = .ok (.iload 4, 2) := by decide +kernel
theorem dX10_rises_65 : decode cX10_rises 65 = .ok (.iconst 2, 1) := by decide +kernel
theorem dX10_rises_66 : decode cX10_rises 66 = .ok (.invokevirtual 70, 3) := by decide +kernel
theorem dX10_rises_69 : decode cX10_rises 69 = .ok (.istore_n 3, 1) := by decide +kernel
theorem dX10_rises_70 : decode cX10_rises 70 = .ok (.goto (-63), 3) := by decide +kernel
theorem dX10_rises_73 : decode cX10_rises 73 = .ok (.iload_n 2, 1) := by decide +kernel
theorem dX10_rises_74 : decode cX10_rises 74 = .ok (.iload_n 1, 1) := by decide +kernel
theorem dX10_rises_75 : decode cX10_rises 75 = .ok (.if_icmp .ne 7, 3) := by decide +kernel
theorem dX10_rises_78 : decode cX10_rises 78 = .ok (.iconst 1, 1) := by decide +kernel
theorem dX10_rises_79 : decode cX10_rises 79 = .ok (.goto 4, 3) := by decide +kernel
theorem dX10_rises_82 : decode cX10_rises 82 = .ok (.iconst 0, 1) := by decide +kernel
theorem dX10_rises_83 : decode cX10_rises 83 = .ok (.ireturn, 1) := by decide +kernel
def e_X10_rises_L7 (σ : ES) (a1 : Int32) : Nat → Int32 → Int32 → Option Int32
  | 0, _, _ => none
  | n + 1, x2, x3 => if x3 = (eI σ 69 18) then (if x2 = a1 then (some (1 : Int32)) else (some (0 : Int32))) else ((e_X10_wayFrom σ a1 x3).bind (fun r1 => if r1 < 0 then (some (0 : Int32)) else ((e_X10_at σ r1 (2 : Int32)).bind (fun r3 => if r3 ≤ x3 then (some (0 : Int32)) else ((e_X10_at σ r1 (2 : Int32)).bind (fun r5 => if r5 ≤ (eI σ 69 18) then ((e_X10_at σ r1 (2 : Int32)).bind (fun r7 => e_X10_rises_L7 σ a1 n (x2 ||| ((1 : Int32) <<< (r1 &&& 31))) r7)) else (some (0 : Int32))))))))
set_option maxRecDepth 100000 in
set_option maxHeartbeats 4000000 in
theorem p_X10_rises_L7 {l : Launch} {E : MX} {out : Int32} {σ : ES} {a1 : Int32}  : ∀ (n : Nat) (x2 : Int32) (x3 : Int32), e_X10_rises_L7 σ a1 n x2 x3 = some out → MV l E cX10_rises RX10 5 (some .boolean) 3 (82, (some (.int out)), mkS σ) (mkS σ) 7 [(0, .ref 69), (1, .int a1), (2, .int x2), (3, .int x3)] [] := by
  intro n
  induction n with
  | zero =>
    intro x2 x3 h
    exact nomatch h
  | succ n ih =>
    intro x2 x3 h
    rw [e_X10_rises_L7] at h
    refine mw_iload_n dX10_rises_7 3 rfl ?_
    refine mw_aload_n dX10_rises_8 0 rfl ?_
    refine ev_getI fd_RX10_209_9 dX10_rises_9 rfl rfl ?_
    refine mw_icmp_eq (tgt := 73) dX10_rises_12 (by decide) (fun hc => ?_) (fun hc => ?_)
    · have h := mit hc h
      refine mw_iload_n dX10_rises_73 2 rfl ?_
      refine mw_iload_n dX10_rises_74 1 rfl ?_
      refine mw_icmp_ne (tgt := 82) dX10_rises_75 (by decide) (fun hc => ?_) (fun hc => ?_)
      · have h := mie hc h
        refine mw_iconst (v := 0) dX10_rises_82 (by decide) ?_
        exact mw_zret dX10_rises_83 rfl (by decide) (ers_i h) rfl rfl
      · have h := mit hc h
        refine mw_iconst (v := 1) dX10_rises_78 (by decide) ?_
        refine mw_goto (tgt := 83) dX10_rises_79 (by decide) ?_
        exact mw_zret dX10_rises_83 rfl (by decide) (ers_i h) rfl rfl
    · have h := mie hc h
      refine mw_aload_n dX10_rises_15 0 rfl ?_
      refine mw_iload_n dX10_rises_16 1 rfl ?_
      refine mw_iload_n dX10_rises_17 3 rfl ?_
      obtain ⟨r1, e2, h⟩ := mbd h
      refine mv_callV_i (As := [.int a1, .int x3]) (ci := 9) lkV_RX10_200_yX10_wayFrom dX10_rises_18 (k_X10_wayFrom e2) rfl rfl rfl rfl (Nat.le_of_ble_eq_true rfl) (by decide) (by decide) ?_
      refine mw_istore (L' := [(4, .int r1), (0, .ref 69), (1, .int a1), (2, .int x2), (3, .int x3)]) dX10_rises_21 (by decide) rfl ?_
      refine mw_iload dX10_rises_23 0 rfl ?_
      refine mw_if_lt (tgt := 53) dX10_rises_25 (by decide) (fun hc => ?_) (fun hc => ?_)
      · have h := mit hc h
        refine mw_iconst (v := 0) dX10_rises_53 (by decide) ?_
        exact mw_zret dX10_rises_54 rfl (by decide) (ers_i h) rfl rfl
      · have h := mie hc h
        refine mw_aload_n dX10_rises_28 1 rfl ?_
        refine mw_iload dX10_rises_29 0 rfl ?_
        refine mw_iconst (v := 2) dX10_rises_31 (by decide) ?_
        obtain ⟨r3, e4, h⟩ := mbd h
        refine mv_callV_i (As := [.int r1, .int (2 : Int32)]) (ci := 9) lkV_RX10_70_yX10_at dX10_rises_32 (k_X10_at e4) rfl rfl rfl rfl (Nat.le_of_ble_eq_true rfl) (by decide) (by decide) ?_
        refine mw_iload_n dX10_rises_35 4 rfl ?_
        refine mw_icmp_le (tgt := 53) dX10_rises_36 (by decide) (fun hc => ?_) (fun hc => ?_)
        · have h := mit hc h
          refine mw_iconst (v := 0) dX10_rises_53 (by decide) ?_
          exact mw_zret dX10_rises_54 rfl (by decide) (ers_i h) rfl rfl
        · have h := mie hc h
          refine mw_aload_n dX10_rises_39 1 rfl ?_
          refine mw_iload dX10_rises_40 0 rfl ?_
          refine mw_iconst (v := 2) dX10_rises_42 (by decide) ?_
          obtain ⟨r5, e6, h⟩ := mbd h
          refine mv_callV_i (As := [.int r1, .int (2 : Int32)]) (ci := 9) lkV_RX10_70_yX10_at dX10_rises_43 (k_X10_at e6) rfl rfl rfl rfl (Nat.le_of_ble_eq_true rfl) (by decide) (by decide) ?_
          refine mw_aload_n dX10_rises_46 1 rfl ?_
          refine ev_getI fd_RX10_209_9 dX10_rises_47 rfl rfl ?_
          refine mw_icmp_le (tgt := 55) dX10_rises_50 (by decide) (fun hc => ?_) (fun hc => ?_)
          · have h := mit hc h
            refine mw_iload_n dX10_rises_55 3 rfl ?_
            refine mw_iconst (v := 1) dX10_rises_56 (by decide) ?_
            refine mw_iload dX10_rises_57 0 rfl ?_
            refine mw_ishl dX10_rises_59 ?_
            refine mw_ior dX10_rises_60 ?_
            refine mw_istore_n (L' := [(2, .int (x2 ||| ((1 : Int32) <<< (r1 &&& 31)))), (4, .int r1), (0, .ref 69), (1, .int a1), (3, .int x3)]) dX10_rises_61 rfl (by decide) rfl ?_
            refine mw_aload_n dX10_rises_62 2 rfl ?_
            refine mw_iload dX10_rises_63 1 rfl ?_
            refine mw_iconst (v := 2) dX10_rises_65 (by decide) ?_
            obtain ⟨r7, e8, h⟩ := mbd h
            refine mv_callV_i (As := [.int r1, .int (2 : Int32)]) (ci := 9) lkV_RX10_70_yX10_at dX10_rises_66 (k_X10_at e8) rfl rfl rfl rfl (Nat.le_of_ble_eq_true rfl) (by decide) (by decide) ?_
            refine mw_istore_n (L' := [(3, .int r7), (2, .int (x2 ||| ((1 : Int32) <<< (r1 &&& 31)))), (4, .int r1), (0, .ref 69), (1, .int a1)]) dX10_rises_69 rfl (by decide) rfl ?_
            refine mw_goto (tgt := 7) dX10_rises_70 (by decide) ?_
            exact mw_sub (L' := [(0, .ref 69), (1, .int a1), (2, .int (x2 ||| ((1 : Int32) <<< (r1 &&& 31)))), (3, .int r7)]) [3, 4, 1, 0] rfl (ih _ _ h)
          · have h := mie hc h
            refine mw_iconst (v := 0) dX10_rises_53 (by decide) ?_
            exact mw_zret dX10_rises_54 rfl (by decide) (ers_i h) rfl rfl
def e_X10_rises (σ : ES) (a1 : Int32) : Option Int32 := e_X10_rises_L7 σ a1 mN (0 : Int32) (eI σ 69 17)
set_option maxRecDepth 100000 in
set_option maxHeartbeats 4000000 in
theorem k_X10_rises {l : Launch} {σ : ES} {a1 : Int32} {out : Int32} (h : e_X10_rises σ a1 = some out) : MK l yX10_rises cX10_rises 5 (some .boolean) 3 [.ref 69, .int a1] (mkS σ) (some (.int out)) (mkS σ) := by
  unfold e_X10_rises at h
  refine mw_entry (own := RX10) (ini := false) (L := [(0, .ref 69), (1, .int a1)]) (by decide +kernel) rfl (fun h => nomatch h) rfl (Nat.le_of_ble_eq_true rfl) (Nat.le_of_ble_eq_true rfl) (fun E => ?_)
  refine mw_iconst (v := 0) dX10_rises_0 (by decide) ?_
  refine mw_istore_n (L' := [(2, .int (0 : Int32)), (0, .ref 69), (1, .int a1)]) dX10_rises_1 rfl (by decide) rfl ?_
  refine mw_aload_n dX10_rises_2 1 rfl ?_
  refine ev_getI fd_RX10_206_9 dX10_rises_3 rfl rfl ?_
  refine mw_istore_n (L' := [(3, .int (eI σ 69 17)), (2, .int (0 : Int32)), (0, .ref 69), (1, .int a1)]) dX10_rises_6 rfl (by decide) rfl ?_
  exact mw_sub (L' := [(0, .ref 69), (1, .int a1), (2, .int (0 : Int32)), (3, .int (eI σ 69 17))]) [2, 3, 1, 0] rfl (p_X10_rises_L7  mN _ _ h)

theorem dX10_bits_0 : decode cX10_bits 0 = .ok (.iconst 0, 1) := by decide +kernel
theorem dX10_bits_1 : decode cX10_bits 1 = .ok (.istore_n 1, 1) := by decide +kernel
theorem dX10_bits_2 : decode cX10_bits 2 = .ok (.iload_n 0, 1) := by decide +kernel
theorem dX10_bits_3 : decode cX10_bits 3 = .ok (.istore_n 2, 1) := by decide +kernel
theorem dX10_bits_4 : decode cX10_bits 4 = .ok (.iload_n 2, 1) := by decide +kernel
theorem dX10_bits_5 : decode cX10_bits 5 = .ok (.ifCond .eq 15, 3) := by decide +kernel
theorem dX10_bits_8 : decode cX10_bits 8 = .ok (.iinc 1 1, 3) := by decide +kernel
theorem dX10_bits_11 : decode cX10_bits 11 = .ok (.iload_n 2, 1) := by decide +kernel
theorem dX10_bits_12 : decode cX10_bits 12 = .ok (.iload_n 2, 1) := by decide +kernel
theorem dX10_bits_13 : decode cX10_bits 13 = .ok (.iconst 1, 1) := by decide +kernel
theorem dX10_bits_14 : decode cX10_bits 14 = .ok (.isub, 1) := by decide +kernel
theorem dX10_bits_15 : decode cX10_bits 15 = .ok (.iand, 1) := by decide +kernel
theorem dX10_bits_16 : decode cX10_bits 16 = .ok (.istore_n 2, 1) := by decide +kernel
theorem dX10_bits_17 : decode cX10_bits 17 = .ok (.goto (-13), 3) := by decide +kernel
theorem dX10_bits_20 : decode cX10_bits 20 = .ok (.iload_n 1, 1) := by decide +kernel
theorem dX10_bits_21 : decode cX10_bits 21 = .ok (.ireturn, 1) := by decide +kernel
def e_X10_bits_L4 (a0 : Int32) : Nat → Int32 → Int32 → Option Int32
  | 0, _, _ => none
  | n + 1, x1, x2 => if x2 = 0 then (some x1) else (e_X10_bits_L4 a0 n (x1 + 1) (x2 &&& (x2 - (1 : Int32))))
set_option maxRecDepth 100000 in
set_option maxHeartbeats 4000000 in
theorem p_X10_bits_L4 {l : Launch} {E : MX} {out : Int32} {a0 : Int32} {σ : ES}  : ∀ (n : Nat) (x1 : Int32) (x2 : Int32), e_X10_bits_L4 a0 n x1 x2 = some out → MV l E cX10_bits RX10 3 (some .int) 1 (82, (some (.int out)), mkS σ) (mkS σ) 4 [(0, .int a0), (1, .int x1), (2, .int x2)] [] := by
  intro n
  induction n with
  | zero =>
    intro x1 x2 h
    exact nomatch h
  | succ n ih =>
    intro x1 x2 h
    rw [e_X10_bits_L4] at h
    refine mw_iload_n dX10_bits_4 2 rfl ?_
    refine mw_if_eq (tgt := 20) dX10_bits_5 (by decide) (fun hc => ?_) (fun hc => ?_)
    · have h := mit hc h
      refine mw_iload_n dX10_bits_20 1 rfl ?_
      exact mw_iret dX10_bits_21 rfl (ers_i h) rfl rfl
    · have h := mie hc h
      refine mw_iinc (v := (x1 + 1)) (L' := [(1, .int (x1 + 1)), (0, .int a0), (2, .int x2)]) dX10_bits_8 1 rfl rfl (by decide) rfl ?_
      refine mw_iload_n dX10_bits_11 2 rfl ?_
      refine mw_iload_n dX10_bits_12 2 rfl ?_
      refine mw_iconst (v := 1) dX10_bits_13 (by decide) ?_
      refine mw_isub dX10_bits_14 ?_
      refine mw_iand dX10_bits_15 ?_
      refine mw_istore_n (L' := [(2, .int (x2 &&& (x2 - (1 : Int32)))), (1, .int (x1 + 1)), (0, .int a0)]) dX10_bits_16 rfl (by decide) rfl ?_
      refine mw_goto (tgt := 4) dX10_bits_17 (by decide) ?_
      exact mw_sub (L' := [(0, .int a0), (1, .int (x1 + 1)), (2, .int (x2 &&& (x2 - (1 : Int32))))]) [2, 1, 0] rfl (ih _ _ h)
def e_X10_bits (a0 : Int32) : Option Int32 := e_X10_bits_L4 a0 mN (0 : Int32) a0
set_option maxRecDepth 100000 in
set_option maxHeartbeats 4000000 in
theorem k_X10_bits {l : Launch} {σ : ES} {a0 : Int32} {out : Int32} (h : e_X10_bits a0 = some out) : MK l yX10_bits cX10_bits 3 (some .int) 1 [.int a0] (mkS σ) (some (.int out)) (mkS σ) := by
  unfold e_X10_bits at h
  refine mw_entry (own := RX10) (ini := false) (L := [(0, .int a0)]) (by decide +kernel) rfl (fun h => nomatch h) rfl (Nat.le_of_ble_eq_true rfl) (Nat.le_of_ble_eq_true rfl) (fun E => ?_)
  refine mw_iconst (v := 0) dX10_bits_0 (by decide) ?_
  refine mw_istore_n (L' := [(1, .int (0 : Int32)), (0, .int a0)]) dX10_bits_1 rfl (by decide) rfl ?_
  refine mw_iload_n dX10_bits_2 1 rfl ?_
  refine mw_istore_n (L' := [(2, .int a0), (1, .int (0 : Int32)), (0, .int a0)]) dX10_bits_3 rfl (by decide) rfl ?_
  exact mw_sub (L' := [(0, .int a0), (1, .int (0 : Int32)), (2, .int a0)]) [2, 1, 0] rfl (p_X10_bits_L4  mN _ _ h)

theorem dX10_joinsAll_0 : decode cX10_joinsAll 0 = .ok (.iload_n 1, 1) := by decide +kernel
theorem dX10_joinsAll_1 : decode cX10_joinsAll 1 = .ok (.invokestatic 203, 3) := by decide +kernel
theorem dX10_joinsAll_4 : decode cX10_joinsAll 4 = .ok (.aload_n 0, 1) := by decide +kernel
theorem dX10_joinsAll_5 : decode cX10_joinsAll 5 = .ok (.getfield 15, 3) := by decide +kernel
theorem dX10_joinsAll_8 : decode cX10_joinsAll 8 = .ok (.iconst 1, 1) := by decide +kernel
theorem dX10_joinsAll_9 : decode cX10_joinsAll 9 = .ok (.isub, 1) := by decide +kernel
theorem dX10_joinsAll_10 : decode cX10_joinsAll 10 = .ok (.if_icmp .eq 5, 3) := by decide +kernel
theorem dX10_joinsAll_13 : decode cX10_joinsAll 13 = .ok (.iconst 0, 1) := by decide +kernel
theorem dX10_joinsAll_14 : decode cX10_joinsAll 14 = .ok (.ireturn, 1) := by decide +kernel
theorem dX10_joinsAll_15 : decode cX10_joinsAll 15 = .ok (.iconst 1, 1) := by decide +kernel
theorem dX10_joinsAll_16 : decode cX10_joinsAll 16 = .ok (.istore_n 2, 1) := by decide +kernel
theorem dX10_joinsAll_17 : decode cX10_joinsAll 17 = .ok (.iconst 0, 1) := by decide +kernel
theorem dX10_joinsAll_18 : decode cX10_joinsAll 18 = .ok (.istore_n 3, 1) := by decide +kernel
theorem dX10_joinsAll_19 : decode cX10_joinsAll 19 = .ok (.iload_n 2, 1) := by decide +kernel
theorem dX10_joinsAll_20 : decode cX10_joinsAll 20 = .ok (.iload_n 3, 1) := by decide +kernel
theorem dX10_joinsAll_21 : decode cX10_joinsAll 21 = .ok (.if_icmp .eq 73, 3) := by decide +kernel
theorem dX10_joinsAll_24 : decode cX10_joinsAll 24 = .ok (.iload_n 2, 1) := by decide +kernel
theorem dX10_joinsAll_25 : decode cX10_joinsAll 25 = .ok (.istore_n 3, 1) := by decide +kernel
theorem dX10_joinsAll_26 : decode cX10_joinsAll 26 = .ok (.iconst 0, 1) := by decide +kernel
theorem dX10_joinsAll_27 : decode cX10_joinsAll 27 = .ok (.istore 4, 2) := by decide +kernel
theorem dX10_joinsAll_29 : decode cX10_joinsAll 29 = .ok (.iload 4, 2) := by decide +kernel
theorem dX10_joinsAll_31 : decode cX10_joinsAll 31 = .ok (.aload_n 0, 1) := by decide +kernel
theorem dX10_joinsAll_32 : decode cX10_joinsAll 32 = .ok (.getfield 61, 3) := by decide +kernel
theorem dX10_joinsAll_35 : decode cX10_joinsAll 35 = .ok (.if_icmp .ge 56, 3) := by decide +kernel
theorem dX10_joinsAll_38 : decode cX10_joinsAll 38 = .ok (.iconst 1, 1) := by decide +kernel
theorem dX10_joinsAll_39 : decode cX10_joinsAll 39 = .ok (.aload_n 0, 1) := by decide +kernel
theorem dX10_joinsAll_40 : decode cX10_joinsAll 40 = .ok (.iload 4, 2) := by decide +kernel
theorem dX10_joinsAll_42 : decode cX10_joinsAll 42 = .ok (.iconst 1, 1) := by decide +kernel
theorem dX10_joinsAll_43 : decode cX10_joinsAll 43 = .ok (.invokevirtual 70, 3) := by decide +kernel
theorem dX10_joinsAll_46 : decode cX10_joinsAll 46 = .ok (.ishl, 1) := by decide +kernel
theorem dX10_joinsAll_47 : decode cX10_joinsAll 47 = .ok (.iconst 1, 1) := by decide +kernel
theorem dX10_joinsAll_48 : decode cX10_joinsAll 48 = .ok (.aload_n 0, 1) := by decide +kernel
theorem dX10_joinsAll_49 : decode cX10_joinsAll 49 = .ok (.iload 4, 2) := by decide +kernel
theorem dX10_joinsAll_51 : decode cX10_joinsAll 51 = .ok (.iconst 2, 1) := by decide +kernel
theorem dX10_joinsAll_52 : decode cX10_joinsAll 52 = .ok (.invokevirtual 70, 3) := by decide +kernel
theorem dX10_joinsAll_55 : decode cX10_joinsAll 55 = .ok (.ishl, 1) := by decide +kernel
theorem dX10_joinsAll_56 : decode cX10_joinsAll 56 = .ok (.ior, 1) := by decide +kernel
theorem dX10_joinsAll_57 : decode cX10_joinsAll 57 = .ok (.istore 5, 2) := by decide +kernel
theorem dX10_joinsAll_59 : decode cX10_joinsAll 59 = .ok (.iload_n 2, 1) := by decide +kernel
theorem dX10_joinsAll_60 : decode cX10_joinsAll 60 = .ok (.iload_n 1, 1) := by decide +kernel
theorem dX10_joinsAll_61 : decode cX10_joinsAll 61 = .ok (.iload 4, 2) := by decide +kernel
theorem dX10_joinsAll_63 : decode cX10_joinsAll 63 = .ok (.ishr, 1) := by decide +kernel
theorem dX10_joinsAll_64 : decode cX10_joinsAll 64 = .ok (.iconst 1, 1) := by decide +kernel
theorem dX10_joinsAll_65 : decode cX10_joinsAll 65 = .ok (.iand, 1) := by decide +kernel
theorem dX10_joinsAll_66 : decode cX10_joinsAll 66 = .ok (.iconst 1, 1) := by decide +kernel
theorem dX10_joinsAll_67 : decode cX10_joinsAll 67 = .ok (.if_icmp .ne 15, 3) := by decide +kernel
theorem dX10_joinsAll_70 : decode cX10_joinsAll 70 = .ok (.iload_n 2, 1) := by decide +kernel
theorem dX10_joinsAll_71 : decode cX10_joinsAll 71 = .ok (.iload 5, 2) := by decide +kernel
theorem dX10_joinsAll_73 : decode cX10_joinsAll 73 = .ok (.iand, 1) := by decide +kernel
theorem dX10_joinsAll_74 : decode cX10_joinsAll 74 = .ok (.ifCond .eq 8, 3) := by decide +kernel
theorem dX10_joinsAll_77 : decode cX10_joinsAll 77 = .ok (.iload 5, 2) := by decide +kernel
theorem dX10_joinsAll_79 : decode cX10_joinsAll 79 = .ok (.goto 4, 3) := by decide +kernel
theorem dX10_joinsAll_82 : decode cX10_joinsAll 82 = .ok (.iconst 0, 1) := by decide +kernel
theorem dX10_joinsAll_83 : decode cX10_joinsAll 83 = .ok (.ior, 1) := by decide +kernel
theorem dX10_joinsAll_84 : decode cX10_joinsAll 84 = .ok (.istore_n 2, 1) := by decide +kernel
theorem dX10_joinsAll_85 : decode cX10_joinsAll 85 = .ok (.iinc 4 1, 3) := by decide +kernel
theorem dX10_joinsAll_88 : decode cX10_joinsAll 88 = .ok (.goto (-59), 3) := by decide +kernel
theorem dX10_joinsAll_91 : decode cX10_joinsAll 91 = .ok (.goto (-72), 3) := by decide +kernel
theorem dX10_joinsAll_94 : decode cX10_joinsAll 94 = .ok (.iload_n 2, 1) := by decide +kernel
theorem dX10_joinsAll_95 : decode cX10_joinsAll 95 = .ok (.iconst 1, 1) := by decide +kernel
theorem dX10_joinsAll_96 : decode cX10_joinsAll 96 = .ok (.aload_n 0, 1) := by decide +kernel
theorem dX10_joinsAll_97 : decode cX10_joinsAll 97 = .ok (.getfield 15, 3) := by decide +kernel
theorem dX10_joinsAll_100 : decode cX10_joinsAll 100 = .ok (.ishl, 1) := by decide +kernel
theorem dX10_joinsAll_101 : decode cX10_joinsAll 101 = .ok (.iconst 1, 1) := by decide +kernel
theorem dX10_joinsAll_102 : decode cX10_joinsAll 102 = .ok (.isub, 1) := by decide +kernel
theorem dX10_joinsAll_103 : decode cX10_joinsAll 103 = .ok (.if_icmp .ne 7, 3) := by decide +kernel
theorem dX10_joinsAll_106 : decode cX10_joinsAll 106 = .ok (.iconst 1, 1) := by decide +kernel
theorem dX10_joinsAll_107 : decode cX10_joinsAll 107 = .ok (.goto 4, 3) := by decide +kernel
theorem dX10_joinsAll_110 : decode cX10_joinsAll 110 = .ok (.iconst 0, 1) := by decide +kernel
theorem dX10_joinsAll_111 : decode cX10_joinsAll 111 = .ok (.ireturn, 1) := by decide +kernel
def e_X10_joinsAll_L29 (σ : ES) (a1 : Int32) (k19 : Int32 → Int32 → Option Int32) : Nat → Int32 → Int32 → Int32 → Option Int32
  | 0, _, _, _ => none
  | n + 1, x2, x3, x4 => if (eI σ 69 3) ≤ x4 then (k19 x2 x3) else ((e_X10_at σ x4 (1 : Int32)).bind (fun r1 => (e_X10_at σ x4 (2 : Int32)).bind (fun r3 => if ((a1 >>> (x4 &&& 31)) &&& (1 : Int32)) = (1 : Int32) then (if (x2 &&& (((1 : Int32) <<< (r1 &&& 31)) ||| ((1 : Int32) <<< (r3 &&& 31)))) = 0 then (e_X10_joinsAll_L29 σ a1 k19 n (x2 ||| (0 : Int32)) x3 (x4 + 1)) else (e_X10_joinsAll_L29 σ a1 k19 n (x2 ||| (((1 : Int32) <<< (r1 &&& 31)) ||| ((1 : Int32) <<< (r3 &&& 31)))) x3 (x4 + 1))) else (e_X10_joinsAll_L29 σ a1 k19 n (x2 ||| (0 : Int32)) x3 (x4 + 1)))))
set_option maxRecDepth 100000 in
set_option maxHeartbeats 4000000 in
theorem p_X10_joinsAll_L29 {l : Launch} {E : MX} {out : Int32} {σ : ES} {a1 : Int32} {k19 : Int32 → Int32 → Option Int32} (hk19 : ∀ (z0 : Int32) (z1 : Int32), k19 z0 z1 = some out → MV l E cX10_joinsAll RX10 6 (some .boolean) 2 (82, (some (.int out)), mkS σ) (mkS σ) 19 [(0, .ref 69), (1, .int a1), (2, .int z0), (3, .int z1)] []) : ∀ (n : Nat) (x2 : Int32) (x3 : Int32) (x4 : Int32), e_X10_joinsAll_L29 σ a1 k19 n x2 x3 x4 = some out → MV l E cX10_joinsAll RX10 6 (some .boolean) 2 (82, (some (.int out)), mkS σ) (mkS σ) 29 [(0, .ref 69), (1, .int a1), (2, .int x2), (3, .int x3), (4, .int x4)] [] := by
  intro n
  induction n with
  | zero =>
    intro x2 x3 x4 h
    exact nomatch h
  | succ n ih =>
    intro x2 x3 x4 h
    rw [e_X10_joinsAll_L29] at h
    refine mw_iload dX10_joinsAll_29 4 rfl ?_
    refine mw_aload_n dX10_joinsAll_31 0 rfl ?_
    refine ev_getI fd_RX10_61_9 dX10_joinsAll_32 rfl rfl ?_
    refine mw_icmp_ge (tgt := 91) dX10_joinsAll_35 (by decide) (fun hc => ?_) (fun hc => ?_)
    · have h := mit hc h
      refine mw_goto (tgt := 19) dX10_joinsAll_91 (by decide) ?_
      exact mw_sub (L' := [(0, .ref 69), (1, .int a1), (2, .int x2), (3, .int x3)]) [0, 1, 2, 3] rfl (hk19 _ _ h)
    · have h := mie hc h
      refine mw_iconst (v := 1) dX10_joinsAll_38 (by decide) ?_
      refine mw_aload_n dX10_joinsAll_39 0 rfl ?_
      refine mw_iload dX10_joinsAll_40 4 rfl ?_
      refine mw_iconst (v := 1) dX10_joinsAll_42 (by decide) ?_
      obtain ⟨r1, e2, h⟩ := mbd h
      refine mv_callV_i (As := [.int x4, .int (1 : Int32)]) (ci := 9) lkV_RX10_70_yX10_at dX10_joinsAll_43 (k_X10_at e2) rfl rfl rfl rfl (Nat.le_of_ble_eq_true rfl) (by decide) (by decide) ?_
      refine mw_ishl dX10_joinsAll_46 ?_
      refine mw_iconst (v := 1) dX10_joinsAll_47 (by decide) ?_
      refine mw_aload_n dX10_joinsAll_48 0 rfl ?_
      refine mw_iload dX10_joinsAll_49 4 rfl ?_
      refine mw_iconst (v := 2) dX10_joinsAll_51 (by decide) ?_
      obtain ⟨r3, e4, h⟩ := mbd h
      refine mv_callV_i (As := [.int x4, .int (2 : Int32)]) (ci := 9) lkV_RX10_70_yX10_at dX10_joinsAll_52 (k_X10_at e4) rfl rfl rfl rfl (Nat.le_of_ble_eq_true rfl) (by decide) (by decide) ?_
      refine mw_ishl dX10_joinsAll_55 ?_
      refine mw_ior dX10_joinsAll_56 ?_
      refine mw_istore (L' := [(5, .int (((1 : Int32) <<< (r1 &&& 31)) ||| ((1 : Int32) <<< (r3 &&& 31)))), (0, .ref 69), (1, .int a1), (2, .int x2), (3, .int x3), (4, .int x4)]) dX10_joinsAll_57 (by decide) rfl ?_
      refine mw_iload_n dX10_joinsAll_59 3 rfl ?_
      refine mw_iload_n dX10_joinsAll_60 2 rfl ?_
      refine mw_iload dX10_joinsAll_61 5 rfl ?_
      refine mw_ishr dX10_joinsAll_63 ?_
      refine mw_iconst (v := 1) dX10_joinsAll_64 (by decide) ?_
      refine mw_iand dX10_joinsAll_65 ?_
      refine mw_iconst (v := 1) dX10_joinsAll_66 (by decide) ?_
      refine mw_icmp_ne (tgt := 82) dX10_joinsAll_67 (by decide) (fun hc => ?_) (fun hc => ?_)
      · have h := mie hc h
        refine mw_iconst (v := 0) dX10_joinsAll_82 (by decide) ?_
        refine mw_ior dX10_joinsAll_83 ?_
        refine mw_istore_n (L' := [(2, .int (x2 ||| (0 : Int32))), (5, .int (((1 : Int32) <<< (r1 &&& 31)) ||| ((1 : Int32) <<< (r3 &&& 31)))), (0, .ref 69), (1, .int a1), (3, .int x3), (4, .int x4)]) dX10_joinsAll_84 rfl (by decide) rfl ?_
        refine mw_iinc (v := (x4 + 1)) (L' := [(4, .int (x4 + 1)), (2, .int (x2 ||| (0 : Int32))), (5, .int (((1 : Int32) <<< (r1 &&& 31)) ||| ((1 : Int32) <<< (r3 &&& 31)))), (0, .ref 69), (1, .int a1), (3, .int x3)]) dX10_joinsAll_85 5 rfl rfl (by decide) rfl ?_
        refine mw_goto (tgt := 29) dX10_joinsAll_88 (by decide) ?_
        exact mw_sub (L' := [(0, .ref 69), (1, .int a1), (2, .int (x2 ||| (0 : Int32))), (3, .int x3), (4, .int (x4 + 1))]) [3, 4, 1, 5, 0] rfl (ih _ _ _ h)
      · have h := mit hc h
        refine mw_iload_n dX10_joinsAll_70 3 rfl ?_
        refine mw_iload dX10_joinsAll_71 0 rfl ?_
        refine mw_iand dX10_joinsAll_73 ?_
        refine mw_if_eq (tgt := 82) dX10_joinsAll_74 (by decide) (fun hc => ?_) (fun hc => ?_)
        · have h := mit hc h
          refine mw_iconst (v := 0) dX10_joinsAll_82 (by decide) ?_
          refine mw_ior dX10_joinsAll_83 ?_
          refine mw_istore_n (L' := [(2, .int (x2 ||| (0 : Int32))), (5, .int (((1 : Int32) <<< (r1 &&& 31)) ||| ((1 : Int32) <<< (r3 &&& 31)))), (0, .ref 69), (1, .int a1), (3, .int x3), (4, .int x4)]) dX10_joinsAll_84 rfl (by decide) rfl ?_
          refine mw_iinc (v := (x4 + 1)) (L' := [(4, .int (x4 + 1)), (2, .int (x2 ||| (0 : Int32))), (5, .int (((1 : Int32) <<< (r1 &&& 31)) ||| ((1 : Int32) <<< (r3 &&& 31)))), (0, .ref 69), (1, .int a1), (3, .int x3)]) dX10_joinsAll_85 5 rfl rfl (by decide) rfl ?_
          refine mw_goto (tgt := 29) dX10_joinsAll_88 (by decide) ?_
          exact mw_sub (L' := [(0, .ref 69), (1, .int a1), (2, .int (x2 ||| (0 : Int32))), (3, .int x3), (4, .int (x4 + 1))]) [3, 4, 1, 5, 0] rfl (ih _ _ _ h)
        · have h := mie hc h
          refine mw_iload dX10_joinsAll_77 0 rfl ?_
          refine mw_goto (tgt := 83) dX10_joinsAll_79 (by decide) ?_
          refine mw_ior dX10_joinsAll_83 ?_
          refine mw_istore_n (L' := [(2, .int (x2 ||| (((1 : Int32) <<< (r1 &&& 31)) ||| ((1 : Int32) <<< (r3 &&& 31))))), (5, .int (((1 : Int32) <<< (r1 &&& 31)) ||| ((1 : Int32) <<< (r3 &&& 31)))), (0, .ref 69), (1, .int a1), (3, .int x3), (4, .int x4)]) dX10_joinsAll_84 rfl (by decide) rfl ?_
          refine mw_iinc (v := (x4 + 1)) (L' := [(4, .int (x4 + 1)), (2, .int (x2 ||| (((1 : Int32) <<< (r1 &&& 31)) ||| ((1 : Int32) <<< (r3 &&& 31))))), (5, .int (((1 : Int32) <<< (r1 &&& 31)) ||| ((1 : Int32) <<< (r3 &&& 31)))), (0, .ref 69), (1, .int a1), (3, .int x3)]) dX10_joinsAll_85 5 rfl rfl (by decide) rfl ?_
          refine mw_goto (tgt := 29) dX10_joinsAll_88 (by decide) ?_
          exact mw_sub (L' := [(0, .ref 69), (1, .int a1), (2, .int (x2 ||| (((1 : Int32) <<< (r1 &&& 31)) ||| ((1 : Int32) <<< (r3 &&& 31))))), (3, .int x3), (4, .int (x4 + 1))]) [3, 4, 1, 5, 0] rfl (ih _ _ _ h)
def e_X10_joinsAll_L19 (σ : ES) (a1 : Int32) : Nat → Int32 → Int32 → Option Int32
  | 0, _, _ => none
  | n + 1, x2, x3 => if x2 = x3 then (if x2 = (((1 : Int32) <<< ((eI σ 69 1) &&& 31)) - (1 : Int32)) then (some (1 : Int32)) else (some (0 : Int32))) else (e_X10_joinsAll_L29 σ a1 (e_X10_joinsAll_L19 σ a1 n) mN x2 x2 (0 : Int32))
set_option maxRecDepth 100000 in
set_option maxHeartbeats 4000000 in
theorem p_X10_joinsAll_L19 {l : Launch} {E : MX} {out : Int32} {σ : ES} {a1 : Int32}  : ∀ (n : Nat) (x2 : Int32) (x3 : Int32), e_X10_joinsAll_L19 σ a1 n x2 x3 = some out → MV l E cX10_joinsAll RX10 6 (some .boolean) 2 (82, (some (.int out)), mkS σ) (mkS σ) 19 [(0, .ref 69), (1, .int a1), (2, .int x2), (3, .int x3)] [] := by
  intro n
  induction n with
  | zero =>
    intro x2 x3 h
    exact nomatch h
  | succ n ih =>
    intro x2 x3 h
    rw [e_X10_joinsAll_L19] at h
    refine mw_iload_n dX10_joinsAll_19 2 rfl ?_
    refine mw_iload_n dX10_joinsAll_20 3 rfl ?_
    refine mw_icmp_eq (tgt := 94) dX10_joinsAll_21 (by decide) (fun hc => ?_) (fun hc => ?_)
    · have h := mit hc h
      refine mw_iload_n dX10_joinsAll_94 2 rfl ?_
      refine mw_iconst (v := 1) dX10_joinsAll_95 (by decide) ?_
      refine mw_aload_n dX10_joinsAll_96 0 rfl ?_
      refine ev_getI fd_RX10_15_9 dX10_joinsAll_97 rfl rfl ?_
      refine mw_ishl dX10_joinsAll_100 ?_
      refine mw_iconst (v := 1) dX10_joinsAll_101 (by decide) ?_
      refine mw_isub dX10_joinsAll_102 ?_
      refine mw_icmp_ne (tgt := 110) dX10_joinsAll_103 (by decide) (fun hc => ?_) (fun hc => ?_)
      · have h := mie hc h
        refine mw_iconst (v := 0) dX10_joinsAll_110 (by decide) ?_
        exact mw_zret dX10_joinsAll_111 rfl (by decide) (ers_i h) rfl rfl
      · have h := mit hc h
        refine mw_iconst (v := 1) dX10_joinsAll_106 (by decide) ?_
        refine mw_goto (tgt := 111) dX10_joinsAll_107 (by decide) ?_
        exact mw_zret dX10_joinsAll_111 rfl (by decide) (ers_i h) rfl rfl
    · have h := mie hc h
      refine mw_iload_n dX10_joinsAll_24 2 rfl ?_
      refine mw_istore_n (L' := [(3, .int x2), (0, .ref 69), (1, .int a1), (2, .int x2)]) dX10_joinsAll_25 rfl (by decide) rfl ?_
      refine mw_iconst (v := 0) dX10_joinsAll_26 (by decide) ?_
      refine mw_istore (L' := [(4, .int (0 : Int32)), (3, .int x2), (0, .ref 69), (1, .int a1), (2, .int x2)]) dX10_joinsAll_27 (by decide) rfl ?_
      exact mw_sub (L' := [(0, .ref 69), (1, .int a1), (2, .int x2), (3, .int x2), (4, .int (0 : Int32))]) [2, 3, 4, 1, 0] rfl (p_X10_joinsAll_L29 ih mN _ _ _ h)
def e_X10_joinsAll (σ : ES) (a1 : Int32) : Option Int32 := (e_X10_bits a1).bind (fun r1 => if r1 = ((eI σ 69 1) - (1 : Int32)) then (e_X10_joinsAll_L19 σ a1 mN (1 : Int32) (0 : Int32)) else (some (0 : Int32)))
set_option maxRecDepth 100000 in
set_option maxHeartbeats 4000000 in
theorem k_X10_joinsAll {l : Launch} {σ : ES} {a1 : Int32} {out : Int32} (h : e_X10_joinsAll σ a1 = some out) : MK l yX10_joinsAll cX10_joinsAll 6 (some .boolean) 2 [.ref 69, .int a1] (mkS σ) (some (.int out)) (mkS σ) := by
  unfold e_X10_joinsAll at h
  refine mw_entry (own := RX10) (ini := false) (L := [(0, .ref 69), (1, .int a1)]) (by decide +kernel) rfl (fun h => nomatch h) rfl (Nat.le_of_ble_eq_true rfl) (Nat.le_of_ble_eq_true rfl) (fun E => ?_)
  refine mw_iload_n dX10_joinsAll_0 1 rfl ?_
  obtain ⟨r1, e2, h⟩ := mbd h
  refine mv_callS_i (As := [.int a1]) lkS_RX10_203_yX10_bits dX10_joinsAll_1 (k_X10_bits e2) rfl rfl (Nat.le_of_ble_eq_true rfl) (by decide) (by decide) ?_
  refine mw_aload_n dX10_joinsAll_4 0 rfl ?_
  refine ev_getI fd_RX10_15_9 dX10_joinsAll_5 rfl rfl ?_
  refine mw_iconst (v := 1) dX10_joinsAll_8 (by decide) ?_
  refine mw_isub dX10_joinsAll_9 ?_
  refine mw_icmp_eq (tgt := 15) dX10_joinsAll_10 (by decide) (fun hc => ?_) (fun hc => ?_)
  · have h := mit hc h
    refine mw_iconst (v := 1) dX10_joinsAll_15 (by decide) ?_
    refine mw_istore_n (L' := [(2, .int (1 : Int32)), (0, .ref 69), (1, .int a1)]) dX10_joinsAll_16 rfl (by decide) rfl ?_
    refine mw_iconst (v := 0) dX10_joinsAll_17 (by decide) ?_
    refine mw_istore_n (L' := [(3, .int (0 : Int32)), (2, .int (1 : Int32)), (0, .ref 69), (1, .int a1)]) dX10_joinsAll_18 rfl (by decide) rfl ?_
    exact mw_sub (L' := [(0, .ref 69), (1, .int a1), (2, .int (1 : Int32)), (3, .int (0 : Int32))]) [2, 3, 1, 0] rfl (p_X10_joinsAll_L19  mN _ _ h)
  · have h := mie hc h
    refine mw_iconst (v := 0) dX10_joinsAll_13 (by decide) ?_
    exact mw_zret dX10_joinsAll_14 rfl (by decide) (ers_i h) rfl rfl

theorem dX10_isRound_0 : decode cX10_isRound 0 = .ok (.iconst 0, 1) := by decide +kernel
theorem dX10_isRound_1 : decode cX10_isRound 1 = .ok (.istore_n 2, 1) := by decide +kernel
theorem dX10_isRound_2 : decode cX10_isRound 2 = .ok (.iload_n 1, 1) := by decide +kernel
theorem dX10_isRound_3 : decode cX10_isRound 3 = .ok (.iload_n 2, 1) := by decide +kernel
theorem dX10_isRound_4 : decode cX10_isRound 4 = .ok (.ishr, 1) := by decide +kernel
theorem dX10_isRound_5 : decode cX10_isRound 5 = .ok (.iconst 1, 1) := by decide +kernel
theorem dX10_isRound_6 : decode cX10_isRound 6 = .ok (.iand, 1) := by decide +kernel
theorem dX10_isRound_7 : decode cX10_isRound 7 = .ok (.ifCond .ne 9, 3) := by decide +kernel
theorem dX10_isRound_10 : decode cX10_isRound 10 = .ok (.iinc 2 1, 3) := by decide +kernel
theorem dX10_isRound_13 : decode cX10_isRound 13 = .ok (.goto (-11), 3) := by decide +kernel
theorem dX10_isRound_16 : decode cX10_isRound 16 = .ok (.aload_n 0, 1) := by decide +kernel
theorem dX10_isRound_17 : decode cX10_isRound 17 = .ok (.iload_n 2, 1) := by decide +kernel
theorem dX10_isRound_18 : decode cX10_isRound 18 = .ok (.iconst 1, 1) := by decide +kernel
theorem dX10_isRound_19 : decode cX10_isRound 19 = .ok (.invokevirtual 70, 3) := by decide +kernel
theorem dX10_isRound_22 : decode cX10_isRound 22 = .ok (.istore_n 3, 1) := by decide +kernel
theorem dX10_isRound_23 : decode cX10_isRound 23 = .ok (.iconst 0, 1) := by decide +kernel
theorem dX10_isRound_24 : decode cX10_isRound 24 = .ok (.istore 4, 2) := by decide +kernel
theorem dX10_isRound_26 : decode cX10_isRound 26 = .ok (.iload_n 3, 1) := by decide +kernel
theorem dX10_isRound_27 : decode cX10_isRound 27 = .ok (.istore 5, 2) := by decide +kernel
theorem dX10_isRound_29 : decode cX10_isRound 29 = .ok (.iconst 0, 1) := by decide +kernel
theorem dX10_isRound_30 : decode cX10_isRound 30 = .ok (.istore 6, 2) := by decide +kernel
theorem dX10_isRound_32 : decode cX10_isRound 32 = .ok (.iload 6, 2) := by decide +kernel
theorem dX10_isRound_34 : decode cX10_isRound 34 = .ok (.iload 5, 2) := by decide +kernel
theorem dX10_isRound_36 : decode cX10_isRound 36 = .ok (.ishr, 1) := by decide +kernel
theorem dX10_isRound_37 : decode cX10_isRound 37 = .ok (.iconst 1, 1) := by decide +kernel
theorem dX10_isRound_38 : decode cX10_isRound 38 = .ok (.iand, 1) := by decide +kernel
theorem dX10_isRound_39 : decode cX10_isRound 39 = .ok (.ifCond .ne 49, 3) := by decide +kernel
theorem dX10_isRound_42 : decode cX10_isRound 42 = .ok (.iload 6, 2) := by decide +kernel
theorem dX10_isRound_44 : decode cX10_isRound 44 = .ok (.iconst 1, 1) := by decide +kernel
theorem dX10_isRound_45 : decode cX10_isRound 45 = .ok (.iload 5, 2) := by decide +kernel
theorem dX10_isRound_47 : decode cX10_isRound 47 = .ok (.ishl, 1) := by decide +kernel
theorem dX10_isRound_48 : decode cX10_isRound 48 = .ok (.ior, 1) := by decide +kernel
theorem dX10_isRound_49 : decode cX10_isRound 49 = .ok (.istore 6, 2) := by decide +kernel
theorem dX10_isRound_51 : decode cX10_isRound 51 = .ok (.aload_n 0, 1) := by decide +kernel
theorem dX10_isRound_52 : decode cX10_isRound 52 = .ok (.iload_n 1, 1) := by decide +kernel
theorem dX10_isRound_53 : decode cX10_isRound 53 = .ok (.iload 5, 2) := by decide +kernel
theorem dX10_isRound_55 : decode cX10_isRound 55 = .ok (.invokevirtual 200, 3) := by decide +kernel
theorem dX10_isRound_58 : decode cX10_isRound 58 = .ok (.istore 7, 2) := by decide +kernel
theorem dX10_isRound_60 : decode cX10_isRound 60 = .ok (.iload 7, 2) := by decide +kernel
theorem dX10_isRound_62 : decode cX10_isRound 62 = .ok (.ifCond .ge 5, 3) := by decide +kernel
theorem dX10_isRound_65 : decode cX10_isRound 65 = .ok (.iconst 0, 1) := by decide +kernel
theorem dX10_isRound_66 : decode cX10_isRound 66 = .ok (.ireturn, 1) := by decide +kernel
theorem dX10_isRound_67 : decode cX10_isRound 67 = .ok (.iload 4, 2) := by decide +kernel
theorem dX10_isRound_69 : decode cX10_isRound 69 = .ok (.iconst 1, 1) := by decide +kernel
theorem dX10_isRound_70 : decode cX10_isRound 70 = .ok (.iload 7, 2) := by decide +kernel
theorem dX10_isRound_72 : decode cX10_isRound 72 = .ok (.ishl, 1) := by decide +kernel
theorem dX10_isRound_73 : decode cX10_isRound 73 = .ok (.ior, 1) := by decide +kernel
theorem dX10_isRound_74 : decode cX10_isRound 74 = .ok (.istore 4, 2) := by decide +kernel
theorem dX10_isRound_76 : decode cX10_isRound 76 = .ok (.aload_n 0, 1) := by decide +kernel
theorem dX10_isRound_77 : decode cX10_isRound 77 = .ok (.iload 7, 2) := by decide +kernel
theorem dX10_isRound_79 : decode cX10_isRound 79 = .ok (.iconst 2, 1) := by decide +kernel
theorem dX10_isRound_80 : decode cX10_isRound 80 = .ok (.invokevirtual 70, 3) := by decide +kernel
theorem dX10_isRound_83 : decode cX10_isRound 83 = .ok (.istore 5, 2) := by decide +kernel
theorem dX10_isRound_85 : decode cX10_isRound 85 = .ok (.goto (-53), 3) := by decide +kernel
theorem dX10_isRound_88 : decode cX10_isRound 88 = .ok (.iload 5, 2) := by decide +kernel
theorem dX10_isRound_90 : decode cX10_isRound 90 = .ok (.iload_n 3, 1) := by decide +kernel
theorem dX10_isRound_91 : decode cX10_isRound 91 = .ok (.if_icmp .ne 13, 3) := by decide +kernel
theorem dX10_isRound_94 : decode cX10_isRound 94 = .ok (.iload 4, 2) := by decide +kernel
theorem dX10_isRound_96 : decode cX10_isRound 96 = .ok (.iload_n 1, 1) := by decide +kernel
theorem dX10_isRound_97 : decode cX10_isRound 97 = .ok (.if_icmp .ne 7, 3) := by decide +kernel
theorem dX10_isRound_100 : decode cX10_isRound 100 = .ok (.iconst 1, 1) := by decide +kernel
theorem dX10_isRound_101 : decode cX10_isRound 101 = .ok (.goto 4, 3) := by decide +kernel
theorem dX10_isRound_104 : decode cX10_isRound 104 = .ok (.iconst 0, 1) := by decide +kernel
theorem dX10_isRound_105 : decode cX10_isRound 105 = .ok (.ireturn, 1) := by decide +kernel
def e_X10_isRound_L32 (σ : ES) (a1 : Int32) : Nat → Int32 → Int32 → Int32 → Int32 → Option Int32
  | 0, _, _, _, _ => none
  | n + 1, x3, x4, x5, x6 => if ((x6 >>> (x5 &&& 31)) &&& (1 : Int32)) = 0 then ((e_X10_wayFrom σ a1 x5).bind (fun r1 => if 0 ≤ r1 then ((e_X10_at σ r1 (2 : Int32)).bind (fun r3 => e_X10_isRound_L32 σ a1 n x3 (x4 ||| ((1 : Int32) <<< (r1 &&& 31))) r3 (x6 ||| ((1 : Int32) <<< (x5 &&& 31))))) else (some (0 : Int32)))) else (if x5 = x3 then (if x4 = a1 then (some (1 : Int32)) else (some (0 : Int32))) else (some (0 : Int32)))
set_option maxRecDepth 100000 in
set_option maxHeartbeats 4000000 in
theorem p_X10_isRound_L32 {l : Launch} {E : MX} {out : Int32} {σ : ES} {a1 : Int32}  : ∀ (n : Nat) (x3 : Int32) (x4 : Int32) (x5 : Int32) (x6 : Int32), e_X10_isRound_L32 σ a1 n x3 x4 x5 x6 = some out → MV l E cX10_isRound RX10 8 (some .boolean) 3 (82, (some (.int out)), mkS σ) (mkS σ) 32 [(0, .ref 69), (1, .int a1), (3, .int x3), (4, .int x4), (5, .int x5), (6, .int x6)] [] := by
  intro n
  induction n with
  | zero =>
    intro x3 x4 x5 x6 h
    exact nomatch h
  | succ n ih =>
    intro x3 x4 x5 x6 h
    rw [e_X10_isRound_L32] at h
    refine mw_iload dX10_isRound_32 5 rfl ?_
    refine mw_iload dX10_isRound_34 4 rfl ?_
    refine mw_ishr dX10_isRound_36 ?_
    refine mw_iconst (v := 1) dX10_isRound_37 (by decide) ?_
    refine mw_iand dX10_isRound_38 ?_
    refine mw_if_ne (tgt := 88) dX10_isRound_39 (by decide) (fun hc => ?_) (fun hc => ?_)
    · have h := mie hc h
      refine mw_iload dX10_isRound_88 4 rfl ?_
      refine mw_iload_n dX10_isRound_90 2 rfl ?_
      refine mw_icmp_ne (tgt := 104) dX10_isRound_91 (by decide) (fun hc => ?_) (fun hc => ?_)
      · have h := mie hc h
        refine mw_iconst (v := 0) dX10_isRound_104 (by decide) ?_
        exact mw_zret dX10_isRound_105 rfl (by decide) (ers_i h) rfl rfl
      · have h := mit hc h
        refine mw_iload dX10_isRound_94 3 rfl ?_
        refine mw_iload_n dX10_isRound_96 1 rfl ?_
        refine mw_icmp_ne (tgt := 104) dX10_isRound_97 (by decide) (fun hc => ?_) (fun hc => ?_)
        · have h := mie hc h
          refine mw_iconst (v := 0) dX10_isRound_104 (by decide) ?_
          exact mw_zret dX10_isRound_105 rfl (by decide) (ers_i h) rfl rfl
        · have h := mit hc h
          refine mw_iconst (v := 1) dX10_isRound_100 (by decide) ?_
          refine mw_goto (tgt := 105) dX10_isRound_101 (by decide) ?_
          exact mw_zret dX10_isRound_105 rfl (by decide) (ers_i h) rfl rfl
    · have h := mit hc h
      refine mw_iload dX10_isRound_42 5 rfl ?_
      refine mw_iconst (v := 1) dX10_isRound_44 (by decide) ?_
      refine mw_iload dX10_isRound_45 4 rfl ?_
      refine mw_ishl dX10_isRound_47 ?_
      refine mw_ior dX10_isRound_48 ?_
      refine mw_istore (L' := [(6, .int (x6 ||| ((1 : Int32) <<< (x5 &&& 31)))), (0, .ref 69), (1, .int a1), (3, .int x3), (4, .int x4), (5, .int x5)]) dX10_isRound_49 (by decide) rfl ?_
      refine mw_aload_n dX10_isRound_51 1 rfl ?_
      refine mw_iload_n dX10_isRound_52 2 rfl ?_
      refine mw_iload dX10_isRound_53 5 rfl ?_
      obtain ⟨r1, e2, h⟩ := mbd h
      refine mv_callV_i (As := [.int a1, .int x5]) (ci := 9) lkV_RX10_200_yX10_wayFrom dX10_isRound_55 (k_X10_wayFrom e2) rfl rfl rfl rfl (Nat.le_of_ble_eq_true rfl) (by decide) (by decide) ?_
      refine mw_istore (L' := [(7, .int r1), (6, .int (x6 ||| ((1 : Int32) <<< (x5 &&& 31)))), (0, .ref 69), (1, .int a1), (3, .int x3), (4, .int x4), (5, .int x5)]) dX10_isRound_58 (by decide) rfl ?_
      refine mw_iload dX10_isRound_60 0 rfl ?_
      refine mw_if_ge (tgt := 67) dX10_isRound_62 (by decide) (fun hc => ?_) (fun hc => ?_)
      · have h := mit hc h
        refine mw_iload dX10_isRound_67 5 rfl ?_
        refine mw_iconst (v := 1) dX10_isRound_69 (by decide) ?_
        refine mw_iload dX10_isRound_70 0 rfl ?_
        refine mw_ishl dX10_isRound_72 ?_
        refine mw_ior dX10_isRound_73 ?_
        refine mw_istore (L' := [(4, .int (x4 ||| ((1 : Int32) <<< (r1 &&& 31)))), (7, .int r1), (6, .int (x6 ||| ((1 : Int32) <<< (x5 &&& 31)))), (0, .ref 69), (1, .int a1), (3, .int x3), (5, .int x5)]) dX10_isRound_74 (by decide) rfl ?_
        refine mw_aload_n dX10_isRound_76 3 rfl ?_
        refine mw_iload dX10_isRound_77 1 rfl ?_
        refine mw_iconst (v := 2) dX10_isRound_79 (by decide) ?_
        obtain ⟨r3, e4, h⟩ := mbd h
        refine mv_callV_i (As := [.int r1, .int (2 : Int32)]) (ci := 9) lkV_RX10_70_yX10_at dX10_isRound_80 (k_X10_at e4) rfl rfl rfl rfl (Nat.le_of_ble_eq_true rfl) (by decide) (by decide) ?_
        refine mw_istore (L' := [(5, .int r3), (4, .int (x4 ||| ((1 : Int32) <<< (r1 &&& 31)))), (7, .int r1), (6, .int (x6 ||| ((1 : Int32) <<< (x5 &&& 31)))), (0, .ref 69), (1, .int a1), (3, .int x3)]) dX10_isRound_83 (by decide) rfl ?_
        refine mw_goto (tgt := 32) dX10_isRound_85 (by decide) ?_
        exact mw_sub (L' := [(0, .ref 69), (1, .int a1), (3, .int x3), (4, .int (x4 ||| ((1 : Int32) <<< (r1 &&& 31)))), (5, .int r3), (6, .int (x6 ||| ((1 : Int32) <<< (x5 &&& 31))))]) [4, 5, 6, 1, 0, 3] rfl (ih _ _ _ _ h)
      · have h := mie hc h
        refine mw_iconst (v := 0) dX10_isRound_65 (by decide) ?_
        exact mw_zret dX10_isRound_66 rfl (by decide) (ers_i h) rfl rfl
def e_X10_isRound_L2 (σ : ES) (a1 : Int32) : Nat → Int32 → Option Int32
  | 0, _ => none
  | n + 1, x2 => if ((a1 >>> (x2 &&& 31)) &&& (1 : Int32)) = 0 then (e_X10_isRound_L2 σ a1 n (x2 + 1)) else ((e_X10_at σ x2 (1 : Int32)).bind (fun r1 => e_X10_isRound_L32 σ a1 mN r1 (0 : Int32) r1 (0 : Int32)))
set_option maxRecDepth 100000 in
set_option maxHeartbeats 4000000 in
theorem p_X10_isRound_L2 {l : Launch} {E : MX} {out : Int32} {σ : ES} {a1 : Int32}  : ∀ (n : Nat) (x2 : Int32), e_X10_isRound_L2 σ a1 n x2 = some out → MV l E cX10_isRound RX10 8 (some .boolean) 3 (82, (some (.int out)), mkS σ) (mkS σ) 2 [(0, .ref 69), (1, .int a1), (2, .int x2)] [] := by
  intro n
  induction n with
  | zero =>
    intro x2 h
    exact nomatch h
  | succ n ih =>
    intro x2 h
    rw [e_X10_isRound_L2] at h
    refine mw_iload_n dX10_isRound_2 1 rfl ?_
    refine mw_iload_n dX10_isRound_3 2 rfl ?_
    refine mw_ishr dX10_isRound_4 ?_
    refine mw_iconst (v := 1) dX10_isRound_5 (by decide) ?_
    refine mw_iand dX10_isRound_6 ?_
    refine mw_if_ne (tgt := 16) dX10_isRound_7 (by decide) (fun hc => ?_) (fun hc => ?_)
    · have h := mie hc h
      refine mw_aload_n dX10_isRound_16 0 rfl ?_
      refine mw_iload_n dX10_isRound_17 2 rfl ?_
      refine mw_iconst (v := 1) dX10_isRound_18 (by decide) ?_
      obtain ⟨r1, e2, h⟩ := mbd h
      refine mv_callV_i (As := [.int x2, .int (1 : Int32)]) (ci := 9) lkV_RX10_70_yX10_at dX10_isRound_19 (k_X10_at e2) rfl rfl rfl rfl (Nat.le_of_ble_eq_true rfl) (by decide) (by decide) ?_
      refine mw_istore_n (L' := [(3, .int r1), (0, .ref 69), (1, .int a1), (2, .int x2)]) dX10_isRound_22 rfl (by decide) rfl ?_
      refine mw_iconst (v := 0) dX10_isRound_23 (by decide) ?_
      refine mw_istore (L' := [(4, .int (0 : Int32)), (3, .int r1), (0, .ref 69), (1, .int a1), (2, .int x2)]) dX10_isRound_24 (by decide) rfl ?_
      refine mw_iload_n dX10_isRound_26 1 rfl ?_
      refine mw_istore (L' := [(5, .int r1), (4, .int (0 : Int32)), (3, .int r1), (0, .ref 69), (1, .int a1), (2, .int x2)]) dX10_isRound_27 (by decide) rfl ?_
      refine mw_iconst (v := 0) dX10_isRound_29 (by decide) ?_
      refine mw_istore (L' := [(6, .int (0 : Int32)), (5, .int r1), (4, .int (0 : Int32)), (3, .int r1), (0, .ref 69), (1, .int a1), (2, .int x2)]) dX10_isRound_30 (by decide) rfl ?_
      exact mw_sub (L' := [(0, .ref 69), (1, .int a1), (3, .int r1), (4, .int (0 : Int32)), (5, .int r1), (6, .int (0 : Int32))]) [4, 5, 3, 2, 1, 0] rfl (p_X10_isRound_L32  mN _ _ _ _ h)
    · have h := mit hc h
      refine mw_iinc (v := (x2 + 1)) (L' := [(2, .int (x2 + 1)), (0, .ref 69), (1, .int a1)]) dX10_isRound_10 2 rfl rfl (by decide) rfl ?_
      refine mw_goto (tgt := 2) dX10_isRound_13 (by decide) ?_
      exact mw_sub (L' := [(0, .ref 69), (1, .int a1), (2, .int (x2 + 1))]) [1, 2, 0] rfl (ih _ h)
def e_X10_isRound (σ : ES) (a1 : Int32) : Option Int32 := e_X10_isRound_L2 σ a1 mN (0 : Int32)
set_option maxRecDepth 100000 in
set_option maxHeartbeats 4000000 in
theorem k_X10_isRound {l : Launch} {σ : ES} {a1 : Int32} {out : Int32} (h : e_X10_isRound σ a1 = some out) : MK l yX10_isRound cX10_isRound 8 (some .boolean) 3 [.ref 69, .int a1] (mkS σ) (some (.int out)) (mkS σ) := by
  unfold e_X10_isRound at h
  refine mw_entry (own := RX10) (ini := false) (L := [(0, .ref 69), (1, .int a1)]) (by decide +kernel) rfl (fun h => nomatch h) rfl (Nat.le_of_ble_eq_true rfl) (Nat.le_of_ble_eq_true rfl) (fun E => ?_)
  refine mw_iconst (v := 0) dX10_isRound_0 (by decide) ?_
  refine mw_istore_n (L' := [(2, .int (0 : Int32)), (0, .ref 69), (1, .int a1)]) dX10_isRound_1 rfl (by decide) rfl ?_
  exact mw_sub (L' := [(0, .ref 69), (1, .int a1), (2, .int (0 : Int32))]) [1, 2, 0] rfl (p_X10_isRound_L2  mN _ h)

theorem dX10_isChoice_0 : decode cX10_isChoice 0 = .ok (.aload_n 0, 1) := by decide +kernel
theorem dX10_isChoice_1 : decode cX10_isChoice 1 = .ok (.getfield 212, 3) := by decide +kernel
theorem dX10_isChoice_4 : decode cX10_isChoice 4 = .ok (.iconst 2, 1) := by decide +kernel
theorem dX10_isChoice_5 : decode cX10_isChoice 5 = .ok (.if_icmp .ne 20, 3) := by decide +kernel
theorem dX10_isChoice_8 : decode cX10_isChoice 8 = .ok (.iload_n 1, 1) := by decide +kernel
theorem dX10_isChoice_9 : decode cX10_isChoice 9 = .ok (.invokestatic 203, 3) := by decide +kernel
theorem dX10_isChoice_12 : decode cX10_isChoice 12 = .ok (.aload_n 0, 1) := by decide +kernel
theorem dX10_isChoice_13 : decode cX10_isChoice 13 = .ok (.getfield 215, 3) := by decide +kernel
theorem dX10_isChoice_16 : decode cX10_isChoice 16 = .ok (.if_icmp .ne 7, 3) := by decide +kernel
theorem dX10_isChoice_19 : decode cX10_isChoice 19 = .ok (.iconst 1, 1) := by decide +kernel
theorem dX10_isChoice_20 : decode cX10_isChoice 20 = .ok (.goto 4, 3) := by decide +kernel
theorem dX10_isChoice_23 : decode cX10_isChoice 23 = .ok (.iconst 0, 1) := by decide +kernel
theorem dX10_isChoice_24 : decode cX10_isChoice 24 = .ok (.ireturn, 1) := by decide +kernel
theorem dX10_isChoice_25 : decode cX10_isChoice 25 = .ok (.iload_n 1, 1) := by decide +kernel
theorem dX10_isChoice_26 : decode cX10_isChoice 26 = .ok (.ifCond .eq 14, 3) := by decide +kernel
theorem dX10_isChoice_29 : decode cX10_isChoice 29 = .ok (.iload_n 1, 1) := by decide +kernel
theorem dX10_isChoice_30 : decode cX10_isChoice 30 = .ok (.aload_n 0, 1) := by decide +kernel
theorem dX10_isChoice_31 : decode cX10_isChoice 31 = .ok (.invokevirtual 157, 3) := by decide +kernel
theorem dX10_isChoice_34 : decode cX10_isChoice 34 = .ok (.iconst (-1), 1) := by decide +kernel
theorem dX10_isChoice_35 : decode cX10_isChoice 35 = .ok (.ixor, 1) := by decide +kernel
theorem dX10_isChoice_36 : decode cX10_isChoice 36 = .ok (.iand, 1) := by decide +kernel
theorem dX10_isChoice_37 : decode cX10_isChoice 37 = .ok (.ifCond .eq 5, 3) := by decide +kernel
theorem dX10_isChoice_40 : decode cX10_isChoice 40 = .ok (.iconst 0, 1) := by decide +kernel
theorem dX10_isChoice_41 : decode cX10_isChoice 41 = .ok (.ireturn, 1) := by decide +kernel
theorem dX10_isChoice_42 : decode cX10_isChoice 42 = .ok (.aload_n 0, 1) := by decide +kernel
theorem dX10_isChoice_43 : decode cX10_isChoice 43 = .ok (.getfield 212, 3) := by decide +kernel
theorem dX10_isChoice_46 : decode cX10_isChoice 46 = .ok (.ifCond .ne 11, 3) := by decide +kernel
theorem dX10_isChoice_49 : decode cX10_isChoice 49 = .ok (.aload_n 0, 1) := by decide +kernel
theorem dX10_isChoice_50 : decode cX10_isChoice 50 = .ok (.iload_n 1, 1) := by decide +kernel
theorem dX10_isChoice_51 : decode cX10_isChoice 51 = .ok (.invokevirtual 218, 3) := by decide +kernel
theorem dX10_isChoice_54 : decode cX10_isChoice 54 = .ok (.goto 24, 3) := by decide +kernel
theorem dX10_isChoice_57 : decode cX10_isChoice 57 = .ok (.aload_n 0, 1) := by decide +kernel
theorem dX10_isChoice_58 : decode cX10_isChoice 58 = .ok (.getfield 212, 3) := by decide +kernel
theorem dX10_isChoice_61 : decode cX10_isChoice 61 = .ok (.iconst 1, 1) := by decide +kernel
theorem dX10_isChoice_62 : decode cX10_isChoice 62 = .ok (.if_icmp .ne 11, 3) := by decide +kernel
theorem dX10_isChoice_65 : decode cX10_isChoice 65 = .ok (.aload_n 0, 1) := by decide +kernel
theorem dX10_isChoice_66 : decode cX10_isChoice 66 = .ok (.iload_n 1, 1) := by decide +kernel
theorem dX10_isChoice_67 : decode cX10_isChoice 67 = .ok (.invokevirtual 221, 3) := by decide +kernel
theorem dX10_isChoice_70 : decode cX10_isChoice 70 = .ok (.goto 8, 3) := by decide +kernel
theorem dX10_isChoice_73 : decode cX10_isChoice 73 = .ok (.aload_n 0, 1) := by decide +kernel
theorem dX10_isChoice_74 : decode cX10_isChoice 74 = .ok (.iload_n 1, 1) := by decide +kernel
theorem dX10_isChoice_75 : decode cX10_isChoice 75 = .ok (.invokevirtual 224, 3) := by decide +kernel
theorem dX10_isChoice_78 : decode cX10_isChoice 78 = .ok (.ireturn, 1) := by decide +kernel
def e_X10_isChoice (σ : ES) (a1 : Int32) : Option Int32 := if (eI σ 69 16) = (2 : Int32) then ((e_X10_bits a1).bind (fun r12 => if r12 = (eI σ 69 19) then (some (1 : Int32)) else (some (0 : Int32)))) else (if a1 = 0 then (some (0 : Int32)) else ((e_X10_openWays σ).bind (fun r1 => if (a1 &&& (r1 ^^^ (-1 : Int32))) = 0 then (if (eI σ 69 16) = 0 then ((e_X10_isRound σ a1).bind (fun r9 => if r9 = 0 ∨ r9 = 1 then (some r9) else none)) else (if (eI σ 69 16) = (1 : Int32) then ((e_X10_joinsAll σ a1).bind (fun r6 => if r6 = 0 ∨ r6 = 1 then (some r6) else none)) else ((e_X10_rises σ a1).bind (fun r3 => if r3 = 0 ∨ r3 = 1 then (some r3) else none)))) else (some (0 : Int32)))))
set_option maxRecDepth 100000 in
set_option maxHeartbeats 4000000 in
theorem k_X10_isChoice {l : Launch} {σ : ES} {a1 : Int32} {out : Int32} (h : e_X10_isChoice σ a1 = some out) : MK l yX10_isChoice cX10_isChoice 2 (some .boolean) 4 [.ref 69, .int a1] (mkS σ) (some (.int out)) (mkS σ) := by
  unfold e_X10_isChoice at h
  refine mw_entry (own := RX10) (ini := false) (L := [(0, .ref 69), (1, .int a1)]) (by decide +kernel) rfl (fun h => nomatch h) rfl (Nat.le_of_ble_eq_true rfl) (Nat.le_of_ble_eq_true rfl) (fun E => ?_)
  refine mw_aload_n dX10_isChoice_0 0 rfl ?_
  refine ev_getI fd_RX10_212_9 dX10_isChoice_1 rfl rfl ?_
  refine mw_iconst (v := 2) dX10_isChoice_4 (by decide) ?_
  refine mw_icmp_ne (tgt := 25) dX10_isChoice_5 (by decide) (fun hc => ?_) (fun hc => ?_)
  · have h := mie hc h
    refine mw_iload_n dX10_isChoice_25 1 rfl ?_
    refine mw_if_eq (tgt := 40) dX10_isChoice_26 (by decide) (fun hc => ?_) (fun hc => ?_)
    · have h := mit hc h
      refine mw_iconst (v := 0) dX10_isChoice_40 (by decide) ?_
      exact mw_zret dX10_isChoice_41 rfl (by decide) (ers_i h) rfl rfl
    · have h := mie hc h
      refine mw_iload_n dX10_isChoice_29 1 rfl ?_
      refine mw_aload_n dX10_isChoice_30 0 rfl ?_
      obtain ⟨r1, e2, h⟩ := mbd h
      refine mv_callV_i (As := []) (ci := 9) lkV_RX10_157_yX10_openWays dX10_isChoice_31 (k_X10_openWays e2) rfl rfl rfl rfl (Nat.le_of_ble_eq_true rfl) (by decide) (by decide) ?_
      refine mw_iconst (v := -1) dX10_isChoice_34 (by decide) ?_
      refine mw_ixor dX10_isChoice_35 ?_
      refine mw_iand dX10_isChoice_36 ?_
      refine mw_if_eq (tgt := 42) dX10_isChoice_37 (by decide) (fun hc => ?_) (fun hc => ?_)
      · have h := mit hc h
        refine mw_aload_n dX10_isChoice_42 0 rfl ?_
        refine ev_getI fd_RX10_212_9 dX10_isChoice_43 rfl rfl ?_
        refine mw_if_ne (tgt := 57) dX10_isChoice_46 (by decide) (fun hc => ?_) (fun hc => ?_)
        · have h := mie hc h
          refine mw_aload_n dX10_isChoice_57 0 rfl ?_
          refine ev_getI fd_RX10_212_9 dX10_isChoice_58 rfl rfl ?_
          refine mw_iconst (v := 1) dX10_isChoice_61 (by decide) ?_
          refine mw_icmp_ne (tgt := 73) dX10_isChoice_62 (by decide) (fun hc => ?_) (fun hc => ?_)
          · have h := mie hc h
            refine mw_aload_n dX10_isChoice_73 0 rfl ?_
            refine mw_iload_n dX10_isChoice_74 1 rfl ?_
            obtain ⟨r3, e4, h⟩ := mbd h
            refine mv_callV_i (As := [.int a1]) (ci := 9) lkV_RX10_224_yX10_rises dX10_isChoice_75 (k_X10_rises e4) rfl rfl rfl rfl (Nat.le_of_ble_eq_true rfl) (by decide) (by decide) ?_
            obtain ⟨m5, h⟩ := mif h
            exact mw_zret dX10_isChoice_78 rfl m5 (ers_i h) rfl rfl
          · have h := mit hc h
            refine mw_aload_n dX10_isChoice_65 0 rfl ?_
            refine mw_iload_n dX10_isChoice_66 1 rfl ?_
            obtain ⟨r6, e7, h⟩ := mbd h
            refine mv_callV_i (As := [.int a1]) (ci := 9) lkV_RX10_221_yX10_joinsAll dX10_isChoice_67 (k_X10_joinsAll e7) rfl rfl rfl rfl (Nat.le_of_ble_eq_true rfl) (by decide) (by decide) ?_
            refine mw_goto (tgt := 78) dX10_isChoice_70 (by decide) ?_
            obtain ⟨m8, h⟩ := mif h
            exact mw_zret dX10_isChoice_78 rfl m8 (ers_i h) rfl rfl
        · have h := mit hc h
          refine mw_aload_n dX10_isChoice_49 0 rfl ?_
          refine mw_iload_n dX10_isChoice_50 1 rfl ?_
          obtain ⟨r9, e10, h⟩ := mbd h
          refine mv_callV_i (As := [.int a1]) (ci := 9) lkV_RX10_218_yX10_isRound dX10_isChoice_51 (k_X10_isRound e10) rfl rfl rfl rfl (Nat.le_of_ble_eq_true rfl) (by decide) (by decide) ?_
          refine mw_goto (tgt := 78) dX10_isChoice_54 (by decide) ?_
          obtain ⟨m11, h⟩ := mif h
          exact mw_zret dX10_isChoice_78 rfl m11 (ers_i h) rfl rfl
      · have h := mie hc h
        refine mw_iconst (v := 0) dX10_isChoice_40 (by decide) ?_
        exact mw_zret dX10_isChoice_41 rfl (by decide) (ers_i h) rfl rfl
  · have h := mit hc h
    refine mw_iload_n dX10_isChoice_8 1 rfl ?_
    obtain ⟨r12, e13, h⟩ := mbd h
    refine mv_callS_i (As := [.int a1]) lkS_RX10_203_yX10_bits dX10_isChoice_9 (k_X10_bits e13) rfl rfl (Nat.le_of_ble_eq_true rfl) (by decide) (by decide) ?_
    refine mw_aload_n dX10_isChoice_12 0 rfl ?_
    refine ev_getI fd_RX10_215_9 dX10_isChoice_13 rfl rfl ?_
    refine mw_icmp_ne (tgt := 23) dX10_isChoice_16 (by decide) (fun hc => ?_) (fun hc => ?_)
    · have h := mie hc h
      refine mw_iconst (v := 0) dX10_isChoice_23 (by decide) ?_
      exact mw_zret dX10_isChoice_24 rfl (by decide) (ers_i h) rfl rfl
    · have h := mit hc h
      refine mw_iconst (v := 1) dX10_isChoice_19 (by decide) ?_
      refine mw_goto (tgt := 24) dX10_isChoice_20 (by decide) ?_
      exact mw_zret dX10_isChoice_24 rfl (by decide) (ers_i h) rfl rfl

theorem dX10_leastChoice_0 : decode cX10_leastChoice 0 = .ok (.iconst 0, 1) := by decide +kernel
theorem dX10_leastChoice_1 : decode cX10_leastChoice 1 = .ok (.istore_n 1, 1) := by decide +kernel
theorem dX10_leastChoice_2 : decode cX10_leastChoice 2 = .ok (.iload_n 1, 1) := by decide +kernel
theorem dX10_leastChoice_3 : decode cX10_leastChoice 3 = .ok (.aload_n 0, 1) := by decide +kernel
theorem dX10_leastChoice_4 : decode cX10_leastChoice 4 = .ok (.invokevirtual 227, 3) := by decide +kernel
theorem dX10_leastChoice_7 : decode cX10_leastChoice 7 = .ok (.if_icmp .ge 19, 3) := by decide +kernel
theorem dX10_leastChoice_10 : decode cX10_leastChoice 10 = .ok (.aload_n 0, 1) := by decide +kernel
theorem dX10_leastChoice_11 : decode cX10_leastChoice 11 = .ok (.iload_n 1, 1) := by decide +kernel
theorem dX10_leastChoice_12 : decode cX10_leastChoice 12 = .ok (.invokevirtual 230, 3) := by decide +kernel
theorem dX10_leastChoice_15 : decode cX10_leastChoice 15 = .ok (.ifCond .eq 5, 3) := by decide +kernel
theorem dX10_leastChoice_18 : decode cX10_leastChoice 18 = .ok (.iload_n 1, 1) := by decide +kernel
theorem dX10_leastChoice_19 : decode cX10_leastChoice 19 = .ok (.ireturn, 1) := by decide +kernel
theorem dX10_leastChoice_20 : decode cX10_leastChoice 20 = .ok (.iinc 1 1, 3) := by decide +kernel
theorem dX10_leastChoice_23 : decode cX10_leastChoice 23 = .ok (.goto (-21), 3) := by decide +kernel
theorem dX10_leastChoice_26 : decode cX10_leastChoice 26 = .ok (.iconst (-1), 1) := by decide +kernel
theorem dX10_leastChoice_27 : decode cX10_leastChoice 27 = .ok (.ireturn, 1) := by decide +kernel
def e_X10_leastChoice_L2 (σ : ES) : Nat → Int32 → Option Int32
  | 0, _ => none
  | n + 1, x1 => (e_X10_allSets σ).bind (fun r1 => if r1 ≤ x1 then (some (-1 : Int32)) else ((e_X10_isChoice σ x1).bind (fun r3 => if r3 = 0 then (e_X10_leastChoice_L2 σ n (x1 + 1)) else (some x1))))
set_option maxRecDepth 100000 in
set_option maxHeartbeats 4000000 in
theorem p_X10_leastChoice_L2 {l : Launch} {E : MX} {out : Int32} {σ : ES}  : ∀ (n : Nat) (x1 : Int32), e_X10_leastChoice_L2 σ n x1 = some out → MV l E cX10_leastChoice RX10 2 (some .int) 5 (82, (some (.int out)), mkS σ) (mkS σ) 2 [(0, .ref 69), (1, .int x1)] [] := by
  intro n
  induction n with
  | zero =>
    intro x1 h
    exact nomatch h
  | succ n ih =>
    intro x1 h
    rw [e_X10_leastChoice_L2] at h
    refine mw_iload_n dX10_leastChoice_2 1 rfl ?_
    refine mw_aload_n dX10_leastChoice_3 0 rfl ?_
    obtain ⟨r1, e2, h⟩ := mbd h
    refine mv_callV_i (As := []) (ci := 9) lkV_RX10_227_yX10_allSets dX10_leastChoice_4 (k_X10_allSets e2) rfl rfl rfl rfl (Nat.le_of_ble_eq_true rfl) (by decide) (by decide) ?_
    refine mw_icmp_ge (tgt := 26) dX10_leastChoice_7 (by decide) (fun hc => ?_) (fun hc => ?_)
    · have h := mit hc h
      refine mw_iconst (v := -1) dX10_leastChoice_26 (by decide) ?_
      exact mw_iret dX10_leastChoice_27 rfl (ers_i h) rfl rfl
    · have h := mie hc h
      refine mw_aload_n dX10_leastChoice_10 0 rfl ?_
      refine mw_iload_n dX10_leastChoice_11 1 rfl ?_
      obtain ⟨r3, e4, h⟩ := mbd h
      refine mv_callV_i (As := [.int x1]) (ci := 9) lkV_RX10_230_yX10_isChoice dX10_leastChoice_12 (k_X10_isChoice e4) rfl rfl rfl rfl (Nat.le_of_ble_eq_true rfl) (by decide) (by decide) ?_
      refine mw_if_eq (tgt := 20) dX10_leastChoice_15 (by decide) (fun hc => ?_) (fun hc => ?_)
      · have h := mit hc h
        refine mw_iinc (v := (x1 + 1)) (L' := [(1, .int (x1 + 1)), (0, .ref 69)]) dX10_leastChoice_20 1 rfl rfl (by decide) rfl ?_
        refine mw_goto (tgt := 2) dX10_leastChoice_23 (by decide) ?_
        exact mw_sub (L' := [(0, .ref 69), (1, .int (x1 + 1))]) [1, 0] rfl (ih _ h)
      · have h := mie hc h
        refine mw_iload_n dX10_leastChoice_18 1 rfl ?_
        exact mw_iret dX10_leastChoice_19 rfl (ers_i h) rfl rfl
def e_X10_leastChoice (σ : ES) : Option Int32 := e_X10_leastChoice_L2 σ mN (0 : Int32)
set_option maxRecDepth 100000 in
set_option maxHeartbeats 4000000 in
theorem k_X10_leastChoice {l : Launch} {σ : ES}  {out : Int32} (h : e_X10_leastChoice σ = some out) : MK l yX10_leastChoice cX10_leastChoice 2 (some .int) 5 [.ref 69] (mkS σ) (some (.int out)) (mkS σ) := by
  unfold e_X10_leastChoice at h
  refine mw_entry (own := RX10) (ini := false) (L := [(0, .ref 69)]) (by decide +kernel) rfl (fun h => nomatch h) rfl (Nat.le_of_ble_eq_true rfl) (Nat.le_of_ble_eq_true rfl) (fun E => ?_)
  refine mw_iconst (v := 0) dX10_leastChoice_0 (by decide) ?_
  refine mw_istore_n (L' := [(1, .int (0 : Int32)), (0, .ref 69)]) dX10_leastChoice_1 rfl (by decide) rfl ?_
  exact mw_sub (L' := [(0, .ref 69), (1, .int (0 : Int32))]) [1, 0] rfl (p_X10_leastChoice_L2  mN _ h)

theorem dX10_aboveOf_0 : decode cX10_aboveOf 0 = .ok (.aload_n 0, 1) := by decide +kernel
theorem dX10_aboveOf_1 : decode cX10_aboveOf 1 = .ok (.getfield 212, 3) := by decide +kernel
theorem dX10_aboveOf_4 : decode cX10_aboveOf 4 = .ok (.iconst 2, 1) := by decide +kernel
theorem dX10_aboveOf_5 : decode cX10_aboveOf 5 = .ok (.if_icmp .ne 13, 3) := by decide +kernel
theorem dX10_aboveOf_8 : decode cX10_aboveOf 8 = .ok (.aload_n 0, 1) := by decide +kernel
theorem dX10_aboveOf_9 : decode cX10_aboveOf 9 = .ok (.getfield 25, 3) := by decide +kernel
theorem dX10_aboveOf_12 : decode cX10_aboveOf 12 = .ok (.iconst 0, 1) := by decide +kernel
theorem dX10_aboveOf_13 : decode cX10_aboveOf 13 = .ok (.iaload, 1) := by decide +kernel
theorem dX10_aboveOf_14 : decode cX10_aboveOf 14 = .ok (.i2l, 1) := by decide +kernel
theorem dX10_aboveOf_15 : decode cX10_aboveOf 15 = .ok (.goto 4, 3) := by decide +kernel
theorem dX10_aboveOf_18 : decode cX10_aboveOf 18 = .ok (.lconst 0, 1) := by decide +kernel
theorem dX10_aboveOf_19 : decode cX10_aboveOf 19 = .ok (.lstore_n 2, 1) := by decide +kernel
theorem dX10_aboveOf_20 : decode cX10_aboveOf 20 = .ok (.iconst 0, 1) := by decide +kernel
theorem dX10_aboveOf_21 : decode cX10_aboveOf 21 = .ok (.istore 4, 2) := by decide +kernel
theorem dX10_aboveOf_23 : decode cX10_aboveOf 23 = .ok (.iload 4, 2) := by decide +kernel
theorem dX10_aboveOf_25 : decode cX10_aboveOf 25 = .ok (.bipush 14, 2) := by decide +kernel
theorem dX10_aboveOf_27 : decode cX10_aboveOf 27 = .ok (.if_icmp .ge 53, 3) := by decide +kernel
theorem dX10_aboveOf_30 : decode cX10_aboveOf 30 = .ok (.lload_n 2, 1) := by decide +kernel
theorem dX10_aboveOf_31 : decode cX10_aboveOf 31 = .ok (.iload_n 1, 1) := by decide +kernel
theorem dX10_aboveOf_32 : decode cX10_aboveOf 32 = .ok (.iload 4, 2) := by decide +kernel
theorem dX10_aboveOf_34 : decode cX10_aboveOf 34 = .ok (.ishr, 1) := by decide +kernel
theorem dX10_aboveOf_35 : decode cX10_aboveOf 35 = .ok (.iconst 1, 1) := by decide +kernel
theorem dX10_aboveOf_36 : decode cX10_aboveOf 36 = .ok (.iand, 1) := by decide +kernel
theorem dX10_aboveOf_37 : decode cX10_aboveOf 37 = .ok (.ifCond .ne 7, 3) := by decide +kernel
theorem dX10_aboveOf_40 : decode cX10_aboveOf 40 = .ok (.lconst 0, 1) := by decide +kernel
theorem dX10_aboveOf_41 : decode cX10_aboveOf 41 = .ok (.goto 31, 3) := by decide +kernel
theorem dX10_aboveOf_44 : decode cX10_aboveOf 44 = .ok (.aload_n 0, 1) := by decide +kernel
theorem dX10_aboveOf_45 : decode cX10_aboveOf 45 = .ok (.getfield 212, 3) := by decide +kernel
theorem dX10_aboveOf_48 : decode cX10_aboveOf 48 = .ok (.iconst 2, 1) := by decide +kernel
theorem dX10_aboveOf_49 : decode cX10_aboveOf 49 = .ok (.if_icmp .ne 16, 3) := by decide +kernel
theorem dX10_aboveOf_52 : decode cX10_aboveOf 52 = .ok (.aload_n 0, 1) := by decide +kernel
theorem dX10_aboveOf_53 : decode cX10_aboveOf 53 = .ok (.getfield 22, 3) := by decide +kernel
theorem dX10_aboveOf_56 : decode cX10_aboveOf 56 = .ok (.iconst 2, 1) := by decide +kernel
theorem dX10_aboveOf_57 : decode cX10_aboveOf 57 = .ok (.iload 4, 2) := by decide +kernel
theorem dX10_aboveOf_59 : decode cX10_aboveOf 59 = .ok (.imul, 1) := by decide +kernel
theorem dX10_aboveOf_60 : decode cX10_aboveOf 60 = .ok (.iaload, 1) := by decide +kernel
theorem dX10_aboveOf_61 : decode cX10_aboveOf 61 = .ok (.i2l, 1) := by decide +kernel
theorem dX10_aboveOf_62 : decode cX10_aboveOf 62 = .ok (.goto 10, 3) := by decide +kernel
theorem dX10_aboveOf_65 : decode cX10_aboveOf 65 = .ok (.aload_n 0, 1) := by decide +kernel
theorem dX10_aboveOf_66 : decode cX10_aboveOf 66 = .ok (.iload 4, 2) := by decide +kernel
theorem dX10_aboveOf_68 : decode cX10_aboveOf 68 = .ok (.invokevirtual 107, 3) := by decide +kernel
theorem dX10_aboveOf_71 : decode cX10_aboveOf 71 = .ok (.i2l, 1) := by decide +kernel
theorem dX10_aboveOf_72 : decode cX10_aboveOf 72 = .ok (.ladd, 1) := by decide +kernel
theorem dX10_aboveOf_73 : decode cX10_aboveOf 73 = .ok (.lstore_n 2, 1) := by decide +kernel
theorem dX10_aboveOf_74 : decode cX10_aboveOf 74 = .ok (.iinc 4 1, 3) := by decide +kernel
theorem dX10_aboveOf_77 : decode cX10_aboveOf 77 = .ok (.goto (-54), 3) := by decide +kernel
theorem dX10_aboveOf_80 : decode cX10_aboveOf 80 = .ok (.lload_n 2, 1) := by decide +kernel
theorem dX10_aboveOf_81 : decode cX10_aboveOf 81 = .ok (.lreturn, 1) := by decide +kernel
def e_X10_aboveOf_L23 (σ : ES) (a1 : Int32) : Nat → Int64 → Int32 → Option Int64
  | 0, _, _ => none
  | n + 1, x2, x4 => if (14 : Int32) ≤ x4 then (some x2) else (if ((a1 >>> (x4 &&& 31)) &&& (1 : Int32)) = 0 then (e_X10_aboveOf_L23 σ a1 n (x2 + (0 : Int64)) (x4 + 1)) else (if (eI σ 69 16) = (2 : Int32) then (if mib ((2 : Int32) * x4) 24 = true then (e_X10_aboveOf_L23 σ a1 n (x2 + (eI σ 72 ((2 : Int32) * x4).toNatClampNeg).toInt64) (x4 + 1)) else none) else ((e_X10_brings σ x4).bind (fun r1 => e_X10_aboveOf_L23 σ a1 n (x2 + r1.toInt64) (x4 + 1)))))
set_option maxRecDepth 100000 in
set_option maxHeartbeats 4000000 in
theorem p_X10_aboveOf_L23 {l : Launch} {E : MX} {out : Int64} {σ : ES} {a1 : Int32}  : ∀ (n : Nat) (x2 : Int64) (x4 : Int32), e_X10_aboveOf_L23 σ a1 n x2 x4 = some out → MV l E cX10_aboveOf RX10 5 (some .long) 3 (82, (some (.long out)), mkS σ) (mkS σ) 23 [(0, .ref 69), (1, .int a1), (2, .long x2), (4, .int x4)] [] := by
  intro n
  induction n with
  | zero =>
    intro x2 x4 h
    exact nomatch h
  | succ n ih =>
    intro x2 x4 h
    rw [e_X10_aboveOf_L23] at h
    refine mw_iload dX10_aboveOf_23 3 rfl ?_
    refine mw_bipush (v := 14) dX10_aboveOf_25 (by decide) ?_
    refine mw_icmp_ge (tgt := 80) dX10_aboveOf_27 (by decide) (fun hc => ?_) (fun hc => ?_)
    · have h := mit hc h
      refine mw_lload_n dX10_aboveOf_80 2 rfl ?_
      exact mw_lret dX10_aboveOf_81 rfl (ers_l h) rfl rfl
    · have h := mie hc h
      refine mw_lload_n dX10_aboveOf_30 2 rfl ?_
      refine mw_iload_n dX10_aboveOf_31 1 rfl ?_
      refine mw_iload dX10_aboveOf_32 3 rfl ?_
      refine mw_ishr dX10_aboveOf_34 ?_
      refine mw_iconst (v := 1) dX10_aboveOf_35 (by decide) ?_
      refine mw_iand dX10_aboveOf_36 ?_
      refine mw_if_ne (tgt := 44) dX10_aboveOf_37 (by decide) (fun hc => ?_) (fun hc => ?_)
      · have h := mie hc h
        refine mw_aload_n dX10_aboveOf_44 0 rfl ?_
        refine ev_getI fd_RX10_212_9 dX10_aboveOf_45 rfl rfl ?_
        refine mw_iconst (v := 2) dX10_aboveOf_48 (by decide) ?_
        refine mw_icmp_ne (tgt := 65) dX10_aboveOf_49 (by decide) (fun hc => ?_) (fun hc => ?_)
        · have h := mie hc h
          refine mw_aload_n dX10_aboveOf_65 0 rfl ?_
          refine mw_iload dX10_aboveOf_66 3 rfl ?_
          obtain ⟨r1, e2, h⟩ := mbd h
          refine mv_callV_i (As := [.int x4]) (ci := 9) lkV_RX10_107_yX10_brings dX10_aboveOf_68 (k_X10_brings e2) rfl rfl rfl rfl (Nat.le_of_ble_eq_true rfl) (by decide) (by decide) ?_
          refine mw_i2l dX10_aboveOf_71 ?_
          refine mw_ladd dX10_aboveOf_72 ?_
          refine mw_lstore_n (L' := [(2, .long (x2 + r1.toInt64)), (0, .ref 69), (1, .int a1), (4, .int x4)]) dX10_aboveOf_73 rfl (by decide) rfl ?_
          refine mw_iinc (v := (x4 + 1)) (L' := [(4, .int (x4 + 1)), (2, .long (x2 + r1.toInt64)), (0, .ref 69), (1, .int a1)]) dX10_aboveOf_74 3 rfl rfl (by decide) rfl ?_
          refine mw_goto (tgt := 23) dX10_aboveOf_77 (by decide) ?_
          exact mw_sub (L' := [(0, .ref 69), (1, .int a1), (2, .long (x2 + r1.toInt64)), (4, .int (x4 + 1))]) [2, 3, 1, 0] rfl (ih _ _ h)
        · have h := mit hc h
          refine mw_aload_n dX10_aboveOf_52 0 rfl ?_
          refine ev_getR (q := 72) fd_RX10_22_9 dX10_aboveOf_53 rfl rfl rfl ?_
          refine mw_iconst (v := 2) dX10_aboveOf_56 (by decide) ?_
          refine mw_iload dX10_aboveOf_57 3 rfl ?_
          refine mw_imul dX10_aboveOf_59 ?_
          obtain ⟨m3, h⟩ := mif h
          refine ev_iald dX10_aboveOf_60 (by decide) rfl m3 ?_
          refine mw_i2l dX10_aboveOf_61 ?_
          refine mw_goto (tgt := 72) dX10_aboveOf_62 (by decide) ?_
          refine mw_ladd dX10_aboveOf_72 ?_
          refine mw_lstore_n (L' := [(2, .long (x2 + (eI σ 72 ((2 : Int32) * x4).toNatClampNeg).toInt64)), (0, .ref 69), (1, .int a1), (4, .int x4)]) dX10_aboveOf_73 rfl (by decide) rfl ?_
          refine mw_iinc (v := (x4 + 1)) (L' := [(4, .int (x4 + 1)), (2, .long (x2 + (eI σ 72 ((2 : Int32) * x4).toNatClampNeg).toInt64)), (0, .ref 69), (1, .int a1)]) dX10_aboveOf_74 3 rfl rfl (by decide) rfl ?_
          refine mw_goto (tgt := 23) dX10_aboveOf_77 (by decide) ?_
          exact mw_sub (L' := [(0, .ref 69), (1, .int a1), (2, .long (x2 + (eI σ 72 ((2 : Int32) * x4).toNatClampNeg).toInt64)), (4, .int (x4 + 1))]) [2, 3, 1, 0] rfl (ih _ _ h)
      · have h := mit hc h
        refine mw_lconst (v := 0) dX10_aboveOf_40 (by decide) ?_
        refine mw_goto (tgt := 72) dX10_aboveOf_41 (by decide) ?_
        refine mw_ladd dX10_aboveOf_72 ?_
        refine mw_lstore_n (L' := [(2, .long (x2 + (0 : Int64))), (0, .ref 69), (1, .int a1), (4, .int x4)]) dX10_aboveOf_73 rfl (by decide) rfl ?_
        refine mw_iinc (v := (x4 + 1)) (L' := [(4, .int (x4 + 1)), (2, .long (x2 + (0 : Int64))), (0, .ref 69), (1, .int a1)]) dX10_aboveOf_74 3 rfl rfl (by decide) rfl ?_
        refine mw_goto (tgt := 23) dX10_aboveOf_77 (by decide) ?_
        exact mw_sub (L' := [(0, .ref 69), (1, .int a1), (2, .long (x2 + (0 : Int64))), (4, .int (x4 + 1))]) [2, 3, 1, 0] rfl (ih _ _ h)
def e_X10_aboveOf (σ : ES) (a1 : Int32) : Option Int64 := if (eI σ 69 16) = (2 : Int32) then (if mib (0 : Int32) 2 = true then (e_X10_aboveOf_L23 σ a1 mN ((eI σ 73 (0 : Int32).toNatClampNeg).toInt64) (0 : Int32)) else none) else (e_X10_aboveOf_L23 σ a1 mN (0 : Int64) (0 : Int32))
set_option maxRecDepth 100000 in
set_option maxHeartbeats 4000000 in
theorem k_X10_aboveOf {l : Launch} {σ : ES} {a1 : Int32} {out : Int64} (h : e_X10_aboveOf σ a1 = some out) : MK l yX10_aboveOf cX10_aboveOf 5 (some .long) 3 [.ref 69, .int a1] (mkS σ) (some (.long out)) (mkS σ) := by
  unfold e_X10_aboveOf at h
  refine mw_entry (own := RX10) (ini := false) (L := [(0, .ref 69), (1, .int a1)]) (by decide +kernel) rfl (fun h => nomatch h) rfl (Nat.le_of_ble_eq_true rfl) (Nat.le_of_ble_eq_true rfl) (fun E => ?_)
  refine mw_aload_n dX10_aboveOf_0 0 rfl ?_
  refine ev_getI fd_RX10_212_9 dX10_aboveOf_1 rfl rfl ?_
  refine mw_iconst (v := 2) dX10_aboveOf_4 (by decide) ?_
  refine mw_icmp_ne (tgt := 18) dX10_aboveOf_5 (by decide) (fun hc => ?_) (fun hc => ?_)
  · have h := mie hc h
    refine mw_lconst (v := 0) dX10_aboveOf_18 (by decide) ?_
    refine mw_lstore_n (L' := [(2, .long (0 : Int64)), (0, .ref 69), (1, .int a1)]) dX10_aboveOf_19 rfl (by decide) rfl ?_
    refine mw_iconst (v := 0) dX10_aboveOf_20 (by decide) ?_
    refine mw_istore (L' := [(4, .int (0 : Int32)), (2, .long (0 : Int64)), (0, .ref 69), (1, .int a1)]) dX10_aboveOf_21 (by decide) rfl ?_
    exact mw_sub (L' := [(0, .ref 69), (1, .int a1), (2, .long (0 : Int64)), (4, .int (0 : Int32))]) [2, 3, 1, 0] rfl (p_X10_aboveOf_L23  mN _ _ h)
  · have h := mit hc h
    refine mw_aload_n dX10_aboveOf_8 0 rfl ?_
    refine ev_getR (q := 73) fd_RX10_25_9 dX10_aboveOf_9 rfl rfl rfl ?_
    refine mw_iconst (v := 0) dX10_aboveOf_12 (by decide) ?_
    obtain ⟨m1, h⟩ := mif h
    refine ev_iald dX10_aboveOf_13 (by decide) rfl m1 ?_
    refine mw_i2l dX10_aboveOf_14 ?_
    refine mw_goto (tgt := 19) dX10_aboveOf_15 (by decide) ?_
    refine mw_lstore_n (L' := [(2, .long (eI σ 73 (0 : Int32).toNatClampNeg).toInt64), (0, .ref 69), (1, .int a1)]) dX10_aboveOf_19 rfl (by decide) rfl ?_
    refine mw_iconst (v := 0) dX10_aboveOf_20 (by decide) ?_
    refine mw_istore (L' := [(4, .int (0 : Int32)), (2, .long (eI σ 73 (0 : Int32).toNatClampNeg).toInt64), (0, .ref 69), (1, .int a1)]) dX10_aboveOf_21 (by decide) rfl ?_
    exact mw_sub (L' := [(0, .ref 69), (1, .int a1), (2, .long (eI σ 73 (0 : Int32).toNatClampNeg).toInt64), (4, .int (0 : Int32))]) [2, 3, 1, 0] rfl (p_X10_aboveOf_L23  mN _ _ h)

theorem dX10_belowOf_0 : decode cX10_belowOf 0 = .ok (.aload_n 0, 1) := by decide +kernel
theorem dX10_belowOf_1 : decode cX10_belowOf 1 = .ok (.getfield 212, 3) := by decide +kernel
theorem dX10_belowOf_4 : decode cX10_belowOf 4 = .ok (.iconst 2, 1) := by decide +kernel
theorem dX10_belowOf_5 : decode cX10_belowOf 5 = .ok (.if_icmp .ne 13, 3) := by decide +kernel
theorem dX10_belowOf_8 : decode cX10_belowOf 8 = .ok (.aload_n 0, 1) := by decide +kernel
theorem dX10_belowOf_9 : decode cX10_belowOf 9 = .ok (.getfield 25, 3) := by decide +kernel
theorem dX10_belowOf_12 : decode cX10_belowOf 12 = .ok (.iconst 1, 1) := by decide +kernel
theorem dX10_belowOf_13 : decode cX10_belowOf 13 = .ok (.iaload, 1) := by decide +kernel
theorem dX10_belowOf_14 : decode cX10_belowOf 14 = .ok (.i2l, 1) := by decide +kernel
theorem dX10_belowOf_15 : decode cX10_belowOf 15 = .ok (.goto 4, 3) := by decide +kernel
theorem dX10_belowOf_18 : decode cX10_belowOf 18 = .ok (.lconst 0, 1) := by decide +kernel
theorem dX10_belowOf_19 : decode cX10_belowOf 19 = .ok (.lstore_n 2, 1) := by decide +kernel
theorem dX10_belowOf_20 : decode cX10_belowOf 20 = .ok (.iconst 0, 1) := by decide +kernel
theorem dX10_belowOf_21 : decode cX10_belowOf 21 = .ok (.istore 4, 2) := by decide +kernel
theorem dX10_belowOf_23 : decode cX10_belowOf 23 = .ok (.iload 4, 2) := by decide +kernel
theorem dX10_belowOf_25 : decode cX10_belowOf 25 = .ok (.bipush 14, 2) := by decide +kernel
theorem dX10_belowOf_27 : decode cX10_belowOf 27 = .ok (.if_icmp .ge 55, 3) := by decide +kernel
theorem dX10_belowOf_30 : decode cX10_belowOf 30 = .ok (.lload_n 2, 1) := by decide +kernel
theorem dX10_belowOf_31 : decode cX10_belowOf 31 = .ok (.iload_n 1, 1) := by decide +kernel
theorem dX10_belowOf_32 : decode cX10_belowOf 32 = .ok (.iload 4, 2) := by decide +kernel
theorem dX10_belowOf_34 : decode cX10_belowOf 34 = .ok (.ishr, 1) := by decide +kernel
theorem dX10_belowOf_35 : decode cX10_belowOf 35 = .ok (.iconst 1, 1) := by decide +kernel
theorem dX10_belowOf_36 : decode cX10_belowOf 36 = .ok (.iand, 1) := by decide +kernel
theorem dX10_belowOf_37 : decode cX10_belowOf 37 = .ok (.ifCond .ne 7, 3) := by decide +kernel
theorem dX10_belowOf_40 : decode cX10_belowOf 40 = .ok (.lconst 0, 1) := by decide +kernel
theorem dX10_belowOf_41 : decode cX10_belowOf 41 = .ok (.goto 33, 3) := by decide +kernel
theorem dX10_belowOf_44 : decode cX10_belowOf 44 = .ok (.aload_n 0, 1) := by decide +kernel
theorem dX10_belowOf_45 : decode cX10_belowOf 45 = .ok (.getfield 212, 3) := by decide +kernel
theorem dX10_belowOf_48 : decode cX10_belowOf 48 = .ok (.iconst 2, 1) := by decide +kernel
theorem dX10_belowOf_49 : decode cX10_belowOf 49 = .ok (.if_icmp .ne 18, 3) := by decide +kernel
theorem dX10_belowOf_52 : decode cX10_belowOf 52 = .ok (.aload_n 0, 1) := by decide +kernel
theorem dX10_belowOf_53 : decode cX10_belowOf 53 = .ok (.getfield 22, 3) := by decide +kernel
theorem dX10_belowOf_56 : decode cX10_belowOf 56 = .ok (.iconst 2, 1) := by decide +kernel
theorem dX10_belowOf_57 : decode cX10_belowOf 57 = .ok (.iload 4, 2) := by decide +kernel
theorem dX10_belowOf_59 : decode cX10_belowOf 59 = .ok (.imul, 1) := by decide +kernel
theorem dX10_belowOf_60 : decode cX10_belowOf 60 = .ok (.iconst 1, 1) := by decide +kernel
theorem dX10_belowOf_61 : decode cX10_belowOf 61 = .ok (.iadd, 1) := by decide +kernel
theorem dX10_belowOf_62 : decode cX10_belowOf 62 = .ok (.iaload, 1) := by decide +kernel
theorem dX10_belowOf_63 : decode cX10_belowOf 63 = .ok (.i2l, 1) := by decide +kernel
theorem dX10_belowOf_64 : decode cX10_belowOf 64 = .ok (.goto 10, 3) := by decide +kernel
theorem dX10_belowOf_67 : decode cX10_belowOf 67 = .ok (.aload_n 0, 1) := by decide +kernel
theorem dX10_belowOf_68 : decode cX10_belowOf 68 = .ok (.iload 4, 2) := by decide +kernel
theorem dX10_belowOf_70 : decode cX10_belowOf 70 = .ok (.invokevirtual 110, 3) := by decide +kernel
theorem dX10_belowOf_73 : decode cX10_belowOf 73 = .ok (.i2l, 1) := by decide +kernel
theorem dX10_belowOf_74 : decode cX10_belowOf 74 = .ok (.ladd, 1) := by decide +kernel
theorem dX10_belowOf_75 : decode cX10_belowOf 75 = .ok (.lstore_n 2, 1) := by decide +kernel
theorem dX10_belowOf_76 : decode cX10_belowOf 76 = .ok (.iinc 4 1, 3) := by decide +kernel
theorem dX10_belowOf_79 : decode cX10_belowOf 79 = .ok (.goto (-56), 3) := by decide +kernel
theorem dX10_belowOf_82 : decode cX10_belowOf 82 = .ok (.lload_n 2, 1) := by decide +kernel
theorem dX10_belowOf_83 : decode cX10_belowOf 83 = .ok (.lreturn, 1) := by decide +kernel
def e_X10_belowOf_L23 (σ : ES) (a1 : Int32) : Nat → Int64 → Int32 → Option Int64
  | 0, _, _ => none
  | n + 1, x2, x4 => if (14 : Int32) ≤ x4 then (some x2) else (if ((a1 >>> (x4 &&& 31)) &&& (1 : Int32)) = 0 then (e_X10_belowOf_L23 σ a1 n (x2 + (0 : Int64)) (x4 + 1)) else (if (eI σ 69 16) = (2 : Int32) then (if mib (((2 : Int32) * x4) + (1 : Int32)) 24 = true then (e_X10_belowOf_L23 σ a1 n (x2 + (eI σ 72 (((2 : Int32) * x4) + (1 : Int32)).toNatClampNeg).toInt64) (x4 + 1)) else none) else ((e_X10_lasts σ x4).bind (fun r1 => e_X10_belowOf_L23 σ a1 n (x2 + r1.toInt64) (x4 + 1)))))
set_option maxRecDepth 100000 in
set_option maxHeartbeats 4000000 in
theorem p_X10_belowOf_L23 {l : Launch} {E : MX} {out : Int64} {σ : ES} {a1 : Int32}  : ∀ (n : Nat) (x2 : Int64) (x4 : Int32), e_X10_belowOf_L23 σ a1 n x2 x4 = some out → MV l E cX10_belowOf RX10 5 (some .long) 3 (82, (some (.long out)), mkS σ) (mkS σ) 23 [(0, .ref 69), (1, .int a1), (2, .long x2), (4, .int x4)] [] := by
  intro n
  induction n with
  | zero =>
    intro x2 x4 h
    exact nomatch h
  | succ n ih =>
    intro x2 x4 h
    rw [e_X10_belowOf_L23] at h
    refine mw_iload dX10_belowOf_23 3 rfl ?_
    refine mw_bipush (v := 14) dX10_belowOf_25 (by decide) ?_
    refine mw_icmp_ge (tgt := 82) dX10_belowOf_27 (by decide) (fun hc => ?_) (fun hc => ?_)
    · have h := mit hc h
      refine mw_lload_n dX10_belowOf_82 2 rfl ?_
      exact mw_lret dX10_belowOf_83 rfl (ers_l h) rfl rfl
    · have h := mie hc h
      refine mw_lload_n dX10_belowOf_30 2 rfl ?_
      refine mw_iload_n dX10_belowOf_31 1 rfl ?_
      refine mw_iload dX10_belowOf_32 3 rfl ?_
      refine mw_ishr dX10_belowOf_34 ?_
      refine mw_iconst (v := 1) dX10_belowOf_35 (by decide) ?_
      refine mw_iand dX10_belowOf_36 ?_
      refine mw_if_ne (tgt := 44) dX10_belowOf_37 (by decide) (fun hc => ?_) (fun hc => ?_)
      · have h := mie hc h
        refine mw_aload_n dX10_belowOf_44 0 rfl ?_
        refine ev_getI fd_RX10_212_9 dX10_belowOf_45 rfl rfl ?_
        refine mw_iconst (v := 2) dX10_belowOf_48 (by decide) ?_
        refine mw_icmp_ne (tgt := 67) dX10_belowOf_49 (by decide) (fun hc => ?_) (fun hc => ?_)
        · have h := mie hc h
          refine mw_aload_n dX10_belowOf_67 0 rfl ?_
          refine mw_iload dX10_belowOf_68 3 rfl ?_
          obtain ⟨r1, e2, h⟩ := mbd h
          refine mv_callV_i (As := [.int x4]) (ci := 9) lkV_RX10_110_yX10_lasts dX10_belowOf_70 (k_X10_lasts e2) rfl rfl rfl rfl (Nat.le_of_ble_eq_true rfl) (by decide) (by decide) ?_
          refine mw_i2l dX10_belowOf_73 ?_
          refine mw_ladd dX10_belowOf_74 ?_
          refine mw_lstore_n (L' := [(2, .long (x2 + r1.toInt64)), (0, .ref 69), (1, .int a1), (4, .int x4)]) dX10_belowOf_75 rfl (by decide) rfl ?_
          refine mw_iinc (v := (x4 + 1)) (L' := [(4, .int (x4 + 1)), (2, .long (x2 + r1.toInt64)), (0, .ref 69), (1, .int a1)]) dX10_belowOf_76 3 rfl rfl (by decide) rfl ?_
          refine mw_goto (tgt := 23) dX10_belowOf_79 (by decide) ?_
          exact mw_sub (L' := [(0, .ref 69), (1, .int a1), (2, .long (x2 + r1.toInt64)), (4, .int (x4 + 1))]) [2, 3, 1, 0] rfl (ih _ _ h)
        · have h := mit hc h
          refine mw_aload_n dX10_belowOf_52 0 rfl ?_
          refine ev_getR (q := 72) fd_RX10_22_9 dX10_belowOf_53 rfl rfl rfl ?_
          refine mw_iconst (v := 2) dX10_belowOf_56 (by decide) ?_
          refine mw_iload dX10_belowOf_57 3 rfl ?_
          refine mw_imul dX10_belowOf_59 ?_
          refine mw_iconst (v := 1) dX10_belowOf_60 (by decide) ?_
          refine mw_iadd dX10_belowOf_61 ?_
          obtain ⟨m3, h⟩ := mif h
          refine ev_iald dX10_belowOf_62 (by decide) rfl m3 ?_
          refine mw_i2l dX10_belowOf_63 ?_
          refine mw_goto (tgt := 74) dX10_belowOf_64 (by decide) ?_
          refine mw_ladd dX10_belowOf_74 ?_
          refine mw_lstore_n (L' := [(2, .long (x2 + (eI σ 72 (((2 : Int32) * x4) + (1 : Int32)).toNatClampNeg).toInt64)), (0, .ref 69), (1, .int a1), (4, .int x4)]) dX10_belowOf_75 rfl (by decide) rfl ?_
          refine mw_iinc (v := (x4 + 1)) (L' := [(4, .int (x4 + 1)), (2, .long (x2 + (eI σ 72 (((2 : Int32) * x4) + (1 : Int32)).toNatClampNeg).toInt64)), (0, .ref 69), (1, .int a1)]) dX10_belowOf_76 3 rfl rfl (by decide) rfl ?_
          refine mw_goto (tgt := 23) dX10_belowOf_79 (by decide) ?_
          exact mw_sub (L' := [(0, .ref 69), (1, .int a1), (2, .long (x2 + (eI σ 72 (((2 : Int32) * x4) + (1 : Int32)).toNatClampNeg).toInt64)), (4, .int (x4 + 1))]) [2, 3, 1, 0] rfl (ih _ _ h)
      · have h := mit hc h
        refine mw_lconst (v := 0) dX10_belowOf_40 (by decide) ?_
        refine mw_goto (tgt := 74) dX10_belowOf_41 (by decide) ?_
        refine mw_ladd dX10_belowOf_74 ?_
        refine mw_lstore_n (L' := [(2, .long (x2 + (0 : Int64))), (0, .ref 69), (1, .int a1), (4, .int x4)]) dX10_belowOf_75 rfl (by decide) rfl ?_
        refine mw_iinc (v := (x4 + 1)) (L' := [(4, .int (x4 + 1)), (2, .long (x2 + (0 : Int64))), (0, .ref 69), (1, .int a1)]) dX10_belowOf_76 3 rfl rfl (by decide) rfl ?_
        refine mw_goto (tgt := 23) dX10_belowOf_79 (by decide) ?_
        exact mw_sub (L' := [(0, .ref 69), (1, .int a1), (2, .long (x2 + (0 : Int64))), (4, .int (x4 + 1))]) [2, 3, 1, 0] rfl (ih _ _ h)
def e_X10_belowOf (σ : ES) (a1 : Int32) : Option Int64 := if (eI σ 69 16) = (2 : Int32) then (if mib (1 : Int32) 2 = true then (e_X10_belowOf_L23 σ a1 mN ((eI σ 73 (1 : Int32).toNatClampNeg).toInt64) (0 : Int32)) else none) else (e_X10_belowOf_L23 σ a1 mN (0 : Int64) (0 : Int32))
set_option maxRecDepth 100000 in
set_option maxHeartbeats 4000000 in
theorem k_X10_belowOf {l : Launch} {σ : ES} {a1 : Int32} {out : Int64} (h : e_X10_belowOf σ a1 = some out) : MK l yX10_belowOf cX10_belowOf 5 (some .long) 3 [.ref 69, .int a1] (mkS σ) (some (.long out)) (mkS σ) := by
  unfold e_X10_belowOf at h
  refine mw_entry (own := RX10) (ini := false) (L := [(0, .ref 69), (1, .int a1)]) (by decide +kernel) rfl (fun h => nomatch h) rfl (Nat.le_of_ble_eq_true rfl) (Nat.le_of_ble_eq_true rfl) (fun E => ?_)
  refine mw_aload_n dX10_belowOf_0 0 rfl ?_
  refine ev_getI fd_RX10_212_9 dX10_belowOf_1 rfl rfl ?_
  refine mw_iconst (v := 2) dX10_belowOf_4 (by decide) ?_
  refine mw_icmp_ne (tgt := 18) dX10_belowOf_5 (by decide) (fun hc => ?_) (fun hc => ?_)
  · have h := mie hc h
    refine mw_lconst (v := 0) dX10_belowOf_18 (by decide) ?_
    refine mw_lstore_n (L' := [(2, .long (0 : Int64)), (0, .ref 69), (1, .int a1)]) dX10_belowOf_19 rfl (by decide) rfl ?_
    refine mw_iconst (v := 0) dX10_belowOf_20 (by decide) ?_
    refine mw_istore (L' := [(4, .int (0 : Int32)), (2, .long (0 : Int64)), (0, .ref 69), (1, .int a1)]) dX10_belowOf_21 (by decide) rfl ?_
    exact mw_sub (L' := [(0, .ref 69), (1, .int a1), (2, .long (0 : Int64)), (4, .int (0 : Int32))]) [2, 3, 1, 0] rfl (p_X10_belowOf_L23  mN _ _ h)
  · have h := mit hc h
    refine mw_aload_n dX10_belowOf_8 0 rfl ?_
    refine ev_getR (q := 73) fd_RX10_25_9 dX10_belowOf_9 rfl rfl rfl ?_
    refine mw_iconst (v := 1) dX10_belowOf_12 (by decide) ?_
    obtain ⟨m1, h⟩ := mif h
    refine ev_iald dX10_belowOf_13 (by decide) rfl m1 ?_
    refine mw_i2l dX10_belowOf_14 ?_
    refine mw_goto (tgt := 19) dX10_belowOf_15 (by decide) ?_
    refine mw_lstore_n (L' := [(2, .long (eI σ 73 (1 : Int32).toNatClampNeg).toInt64), (0, .ref 69), (1, .int a1)]) dX10_belowOf_19 rfl (by decide) rfl ?_
    refine mw_iconst (v := 0) dX10_belowOf_20 (by decide) ?_
    refine mw_istore (L' := [(4, .int (0 : Int32)), (2, .long (eI σ 73 (1 : Int32).toNatClampNeg).toInt64), (0, .ref 69), (1, .int a1)]) dX10_belowOf_21 (by decide) rfl ?_
    exact mw_sub (L' := [(0, .ref 69), (1, .int a1), (2, .long (eI σ 73 (1 : Int32).toNatClampNeg).toInt64), (4, .int (0 : Int32))]) [2, 3, 1, 0] rfl (p_X10_belowOf_L23  mN _ _ h)

theorem dX10_leastLike_0 : decode cX10_leastLike 0 = .ok (.iconst 0, 1) := by decide +kernel
theorem dX10_leastLike_1 : decode cX10_leastLike 1 = .ok (.istore 5, 2) := by decide +kernel
theorem dX10_leastLike_3 : decode cX10_leastLike 3 = .ok (.aload_n 0, 1) := by decide +kernel
theorem dX10_leastLike_4 : decode cX10_leastLike 4 = .ok (.iload 5, 2) := by decide +kernel
theorem dX10_leastLike_6 : decode cX10_leastLike 6 = .ok (.invokevirtual 230, 3) := by decide +kernel
theorem dX10_leastLike_9 : decode cX10_leastLike 9 = .ok (.ifCond .eq 23, 3) := by decide +kernel
theorem dX10_leastLike_12 : decode cX10_leastLike 12 = .ok (.aload_n 0, 1) := by decide +kernel
theorem dX10_leastLike_13 : decode cX10_leastLike 13 = .ok (.iload 5, 2) := by decide +kernel
theorem dX10_leastLike_15 : decode cX10_leastLike 15 = .ok (.invokevirtual 233, 3) := by decide +kernel
theorem dX10_leastLike_18 : decode cX10_leastLike 18 = .ok (.lload_n 3, 1) := by decide +kernel
theorem dX10_leastLike_19 : decode cX10_leastLike 19 = .ok (.lmul, 1) := by decide +kernel
theorem dX10_leastLike_20 : decode cX10_leastLike 20 = .ok (.lload_n 1, 1) := by decide +kernel
theorem dX10_leastLike_21 : decode cX10_leastLike 21 = .ok (.aload_n 0, 1) := by decide +kernel
theorem dX10_leastLike_22 : decode cX10_leastLike 22 = .ok (.iload 5, 2) := by decide +kernel
theorem dX10_leastLike_24 : decode cX10_leastLike 24 = .ok (.invokevirtual 236, 3) := by decide +kernel
theorem dX10_leastLike_27 : decode cX10_leastLike 27 = .ok (.lmul, 1) := by decide +kernel
theorem dX10_leastLike_28 : decode cX10_leastLike 28 = .ok (.lcmp, 1) := by decide +kernel
theorem dX10_leastLike_29 : decode cX10_leastLike 29 = .ok (.ifCond .eq 9, 3) := by decide +kernel
theorem dX10_leastLike_32 : decode cX10_leastLike 32 = .ok (.iinc 5 1, 3) := by decide +kernel
theorem dX10_leastLike_35 : decode cX10_leastLike 35 = .ok (.goto (-32), 3) := by decide +kernel
theorem dX10_leastLike_38 : decode cX10_leastLike 38 = .ok (.iload 5, 2) := by decide +kernel
theorem dX10_leastLike_40 : decode cX10_leastLike 40 = .ok (.ireturn, 1) := by decide +kernel
def e_X10_leastLike_L3 (σ : ES) (a1 : Int64) (a3 : Int64) : Nat → Int32 → Option Int32
  | 0, _ => none
  | n + 1, x5 => (e_X10_isChoice σ x5).bind (fun r1 => if r1 = 0 then (e_X10_leastLike_L3 σ a1 a3 n (x5 + 1)) else ((e_X10_aboveOf σ x5).bind (fun r3 => (e_X10_belowOf σ x5).bind (fun r5 => if (r3 * a3) = (a1 * r5) then (some x5) else (e_X10_leastLike_L3 σ a1 a3 n (x5 + 1))))))
set_option maxRecDepth 100000 in
set_option maxHeartbeats 4000000 in
theorem p_X10_leastLike_L3 {l : Launch} {E : MX} {out : Int32} {σ : ES} {a1 : Int64} {a3 : Int64}  : ∀ (n : Nat) (x5 : Int32), e_X10_leastLike_L3 σ a1 a3 n x5 = some out → MV l E cX10_leastLike RX10 6 (some .int) 5 (82, (some (.int out)), mkS σ) (mkS σ) 3 [(0, .ref 69), (1, .long a1), (3, .long a3), (5, .int x5)] [] := by
  intro n
  induction n with
  | zero =>
    intro x5 h
    exact nomatch h
  | succ n ih =>
    intro x5 h
    rw [e_X10_leastLike_L3] at h
    refine mw_aload_n dX10_leastLike_3 0 rfl ?_
    refine mw_iload dX10_leastLike_4 3 rfl ?_
    obtain ⟨r1, e2, h⟩ := mbd h
    refine mv_callV_i (As := [.int x5]) (ci := 9) lkV_RX10_230_yX10_isChoice dX10_leastLike_6 (k_X10_isChoice e2) rfl rfl rfl rfl (Nat.le_of_ble_eq_true rfl) (by decide) (by decide) ?_
    refine mw_if_eq (tgt := 32) dX10_leastLike_9 (by decide) (fun hc => ?_) (fun hc => ?_)
    · have h := mit hc h
      refine mw_iinc (v := (x5 + 1)) (L' := [(5, .int (x5 + 1)), (0, .ref 69), (1, .long a1), (3, .long a3)]) dX10_leastLike_32 3 rfl rfl (by decide) rfl ?_
      refine mw_goto (tgt := 3) dX10_leastLike_35 (by decide) ?_
      exact mw_sub (L' := [(0, .ref 69), (1, .long a1), (3, .long a3), (5, .int (x5 + 1))]) [1, 2, 3, 0] rfl (ih _ h)
    · have h := mie hc h
      refine mw_aload_n dX10_leastLike_12 0 rfl ?_
      refine mw_iload dX10_leastLike_13 3 rfl ?_
      obtain ⟨r3, e4, h⟩ := mbd h
      refine mv_callV_l (As := [.int x5]) (ci := 9) lkV_RX10_233_yX10_aboveOf dX10_leastLike_15 (k_X10_aboveOf e4) rfl rfl rfl rfl (Nat.le_of_ble_eq_true rfl) (by decide) (by decide) ?_
      refine mw_lload_n dX10_leastLike_18 2 rfl ?_
      refine mw_lmul dX10_leastLike_19 ?_
      refine mw_lload_n dX10_leastLike_20 1 rfl ?_
      refine mw_aload_n dX10_leastLike_21 0 rfl ?_
      refine mw_iload dX10_leastLike_22 3 rfl ?_
      obtain ⟨r5, e6, h⟩ := mbd h
      refine mv_callV_l (As := [.int x5]) (ci := 9) lkV_RX10_236_yX10_belowOf dX10_leastLike_24 (k_X10_belowOf e6) rfl rfl rfl rfl (Nat.le_of_ble_eq_true rfl) (by decide) (by decide) ?_
      refine mw_lmul dX10_leastLike_27 ?_
      refine mw_lc_eq (tgt := 38) dX10_leastLike_28 dX10_leastLike_29 (by decide) (fun hc => ?_) (fun hc => ?_)
      · have h := mit hc h
        refine mw_iload dX10_leastLike_38 3 rfl ?_
        exact mw_iret dX10_leastLike_40 rfl (ers_i h) rfl rfl
      · have h := mie hc h
        refine mw_iinc (v := (x5 + 1)) (L' := [(5, .int (x5 + 1)), (0, .ref 69), (1, .long a1), (3, .long a3)]) dX10_leastLike_32 3 rfl rfl (by decide) rfl ?_
        refine mw_goto (tgt := 3) dX10_leastLike_35 (by decide) ?_
        exact mw_sub (L' := [(0, .ref 69), (1, .long a1), (3, .long a3), (5, .int (x5 + 1))]) [1, 2, 3, 0] rfl (ih _ h)
def e_X10_leastLike (σ : ES) (a1 : Int64) (a3 : Int64) : Option Int32 := e_X10_leastLike_L3 σ a1 a3 mN (0 : Int32)
set_option maxRecDepth 100000 in
set_option maxHeartbeats 4000000 in
theorem k_X10_leastLike {l : Launch} {σ : ES} {a1 : Int64} {a3 : Int64} {out : Int32} (h : e_X10_leastLike σ a1 a3 = some out) : MK l yX10_leastLike cX10_leastLike 6 (some .int) 5 [.ref 69, .long a1, .long a3] (mkS σ) (some (.int out)) (mkS σ) := by
  unfold e_X10_leastLike at h
  refine mw_entry (own := RX10) (ini := false) (L := [(0, .ref 69), (1, .long a1), (3, .long a3)]) (by decide +kernel) rfl (fun h => nomatch h) rfl (Nat.le_of_ble_eq_true rfl) (Nat.le_of_ble_eq_true rfl) (fun E => ?_)
  refine mw_iconst (v := 0) dX10_leastLike_0 (by decide) ?_
  refine mw_istore (L' := [(5, .int (0 : Int32)), (0, .ref 69), (1, .long a1), (3, .long a3)]) dX10_leastLike_1 (by decide) rfl ?_
  exact mw_sub (L' := [(0, .ref 69), (1, .long a1), (3, .long a3), (5, .int (0 : Int32))]) [1, 2, 3, 0] rfl (p_X10_leastLike_L3  mN _ h)
