/-! ===== methods as functions, and that the machine does so (written by gen/all.py) ===== -/
theorem dX1_isRing_0 : decode cX1_isRing 0 = .ok (.aload_n 0, 1) := by decide +kernel
theorem dX1_isRing_1 : decode cX1_isRing 1 = .ok (.iload_n 1, 1) := by decide +kernel
theorem dX1_isRing_2 : decode cX1_isRing 2 = .ok (.iconst (-1), 1) := by decide +kernel
theorem dX1_isRing_3 : decode cX1_isRing 3 = .ok (.invokevirtual 60, 3) := by decide +kernel
theorem dX1_isRing_6 : decode cX1_isRing 6 = .ok (.istore_n 2, 1) := by decide +kernel
theorem dX1_isRing_7 : decode cX1_isRing 7 = .ok (.iload_n 2, 1) := by decide +kernel
theorem dX1_isRing_8 : decode cX1_isRing 8 = .ok (.iconst (-1), 1) := by decide +kernel
theorem dX1_isRing_9 : decode cX1_isRing 9 = .ok (.if_icmp .ne 5, 3) := by decide +kernel
theorem dX1_isRing_12 : decode cX1_isRing 12 = .ok (.iconst 0, 1) := by decide +kernel
theorem dX1_isRing_13 : decode cX1_isRing 13 = .ok (.ireturn, 1) := by decide +kernel
theorem dX1_isRing_14 : decode cX1_isRing 14 = .ok (.aload_n 0, 1) := by decide +kernel
theorem dX1_isRing_15 : decode cX1_isRing 15 = .ok (.getfield 19, 3) := by decide +kernel
theorem dX1_isRing_18 : decode cX1_isRing 18 = .ok (.iload_n 2, 1) := by decide +kernel
theorem dX1_isRing_19 : decode cX1_isRing 19 = .ok (.iaload, 1) := by decide +kernel
theorem dX1_isRing_20 : decode cX1_isRing 20 = .ok (.istore_n 3, 1) := by decide +kernel
theorem dX1_isRing_21 : decode cX1_isRing 21 = .ok (.iload_n 3, 1) := by decide +kernel
theorem dX1_isRing_22 : decode cX1_isRing 22 = .ok (.istore 4, 2) := by decide +kernel
theorem dX1_isRing_24 : decode cX1_isRing 24 = .ok (.iconst 1, 1) := by decide +kernel
theorem dX1_isRing_25 : decode cX1_isRing 25 = .ok (.istore 5, 2) := by decide +kernel
theorem dX1_isRing_27 : decode cX1_isRing 27 = .ok (.iload 5, 2) := by decide +kernel
theorem dX1_isRing_29 : decode cX1_isRing 29 = .ok (.bipush 6, 2) := by decide +kernel
theorem dX1_isRing_31 : decode cX1_isRing 31 = .ok (.if_icmp .gt 56, 3) := by decide +kernel
theorem dX1_isRing_34 : decode cX1_isRing 34 = .ok (.aload_n 0, 1) := by decide +kernel
theorem dX1_isRing_35 : decode cX1_isRing 35 = .ok (.iload_n 1, 1) := by decide +kernel
theorem dX1_isRing_36 : decode cX1_isRing 36 = .ok (.iload 4, 2) := by decide +kernel
theorem dX1_isRing_38 : decode cX1_isRing 38 = .ok (.invokevirtual 60, 3) := by decide +kernel
theorem dX1_isRing_41 : decode cX1_isRing 41 = .ok (.istore 6, 2) := by decide +kernel
theorem dX1_isRing_43 : decode cX1_isRing 43 = .ok (.iload 6, 2) := by decide +kernel
theorem dX1_isRing_45 : decode cX1_isRing 45 = .ok (.iconst (-1), 1) := by decide +kernel
theorem dX1_isRing_46 : decode cX1_isRing 46 = .ok (.if_icmp .ne 5, 3) := by decide +kernel
theorem dX1_isRing_49 : decode cX1_isRing 49 = .ok (.iconst 0, 1) := by decide +kernel
theorem dX1_isRing_50 : decode cX1_isRing 50 = .ok (.ireturn, 1) := by decide +kernel
theorem dX1_isRing_51 : decode cX1_isRing 51 = .ok (.aload_n 0, 1) := by decide +kernel
theorem dX1_isRing_52 : decode cX1_isRing 52 = .ok (.getfield 22, 3) := by decide +kernel
theorem dX1_isRing_55 : decode cX1_isRing 55 = .ok (.iload 6, 2) := by decide +kernel
theorem dX1_isRing_57 : decode cX1_isRing 57 = .ok (.iaload, 1) := by decide +kernel
theorem dX1_isRing_58 : decode cX1_isRing 58 = .ok (.istore 4, 2) := by decide +kernel
theorem dX1_isRing_60 : decode cX1_isRing 60 = .ok (.iload 4, 2) := by decide +kernel
theorem dX1_isRing_62 : decode cX1_isRing 62 = .ok (.iload_n 3, 1) := by decide +kernel
theorem dX1_isRing_63 : decode cX1_isRing 63 = .ok (.if_icmp .ne 18, 3) := by decide +kernel
theorem dX1_isRing_66 : decode cX1_isRing 66 = .ok (.iload 5, 2) := by decide +kernel
theorem dX1_isRing_68 : decode cX1_isRing 68 = .ok (.iload_n 1, 1) := by decide +kernel
theorem dX1_isRing_69 : decode cX1_isRing 69 = .ok (.invokestatic 64, 3) := by decide +kernel
theorem dX1_isRing_72 : decode cX1_isRing 72 = .ok (.if_icmp .ne 7, 3) := by decide +kernel
theorem dX1_isRing_75 : decode cX1_isRing 75 = .ok (.iconst 1, 1) := by decide +kernel
theorem dX1_isRing_76 : decode cX1_isRing 76 = .ok (.goto 4, 3) := by decide +kernel
theorem dX1_isRing_79 : decode cX1_isRing 79 = .ok (.iconst 0, 1) := by decide +kernel
theorem dX1_isRing_80 : decode cX1_isRing 80 = .ok (.ireturn, 1) := by decide +kernel
theorem dX1_isRing_81 : decode cX1_isRing 81 = .ok (.iinc 5 1, 3) := by decide +kernel
theorem dX1_isRing_84 : decode cX1_isRing 84 = .ok (.goto (-57), 3) := by decide +kernel
theorem dX1_isRing_87 : decode cX1_isRing 87 = .ok (.iconst 0, 1) := by decide +kernel
theorem dX1_isRing_88 : decode cX1_isRing 88 = .ok (.ireturn, 1) := by decide +kernel
def e_X1_isRing_1_L27 (σ : ES) (a1 : Int32) : Nat → Int32 → Int32 → Int32 → Option Int32
  | 0, _, _, _ => none
  | n + 1, x3, x4, x5 => if (6 : Int32) < x5 then (some (0 : Int32)) else ((e_X1_firstFrom_1 σ a1 x4).bind (fun r1 => if r1 = (-1 : Int32) then (some (0 : Int32)) else (if mib r1 14 = true then (if (eI σ 4 r1.toNatClampNeg) = x3 then ((e_J6_bitCount_0f7a4 a1).bind (fun r4 => if x5 = r4 then (some (1 : Int32)) else (some (0 : Int32)))) else (e_X1_isRing_1_L27 σ a1 n x3 (eI σ 4 r1.toNatClampNeg) (x5 + 1))) else none)))
set_option maxRecDepth 100000 in
set_option maxHeartbeats 4000000 in
theorem p_X1_isRing_1_L27 {l : Launch} {E : MX} {out : Int32} {σ : ES} {a1 : Int32}  : ∀ (n : Nat) (x3 : Int32) (x4 : Int32) (x5 : Int32), e_X1_isRing_1_L27 σ a1 n x3 x4 x5 = some out → MV l E cX1_isRing RX1 7 (some .boolean) 2 (82, (some (.int out)), mkS σ) (mkS σ) 27 [(0, .ref 1), (1, .int a1), (3, .int x3), (4, .int x4), (5, .int x5)] [] := by
  intro n
  induction n with
  | zero =>
    intro x3 x4 x5 h
    exact nomatch h
  | succ n ih =>
    intro x3 x4 x5 h
    rw [e_X1_isRing_1_L27] at h
    refine mw_iload dX1_isRing_27 4 rfl ?_
    refine mw_bipush (v := 6) dX1_isRing_29 (by decide) ?_
    refine mw_icmp_gt (tgt := 87) dX1_isRing_31 (by decide) (fun hc => ?_) (fun hc => ?_)
    · have h := mit hc h
      refine mw_iconst (v := 0) dX1_isRing_87 (by decide) ?_
      exact mw_zret dX1_isRing_88 rfl (by decide) (ers_i h) rfl rfl
    · have h := mie hc h
      refine mw_aload_n dX1_isRing_34 0 rfl ?_
      refine mw_iload_n dX1_isRing_35 1 rfl ?_
      refine mw_iload dX1_isRing_36 3 rfl ?_
      obtain ⟨r1, e2, h⟩ := mbd h
      refine mv_callV_i (As := [.int a1, .int x4]) (ci := 0) lkV_RX1_60_yX1_firstFrom dX1_isRing_38 (k_X1_firstFrom_1 e2) rfl rfl rfl rfl (Nat.le_of_ble_eq_true rfl) (by decide) (by decide) ?_
      refine mw_istore (L' := [(6, .int r1), (0, .ref 1), (1, .int a1), (3, .int x3), (4, .int x4), (5, .int x5)]) dX1_isRing_41 (by decide) rfl ?_
      refine mw_iload dX1_isRing_43 0 rfl ?_
      refine mw_iconst (v := -1) dX1_isRing_45 (by decide) ?_
      refine mw_icmp_ne (tgt := 51) dX1_isRing_46 (by decide) (fun hc => ?_) (fun hc => ?_)
      · have h := mie hc h
        refine mw_aload_n dX1_isRing_51 1 rfl ?_
        refine ev_getR (q := 4) fd_RX1_22_0 dX1_isRing_52 rfl rfl rfl ?_
        refine mw_iload dX1_isRing_55 0 rfl ?_
        obtain ⟨m3, h⟩ := mif h
        refine ev_iald dX1_isRing_57 (by decide) rfl m3 ?_
        refine mw_istore (L' := [(4, .int (eI σ 4 r1.toNatClampNeg)), (6, .int r1), (0, .ref 1), (1, .int a1), (3, .int x3), (5, .int x5)]) dX1_isRing_58 (by decide) rfl ?_
        refine mw_iload dX1_isRing_60 0 rfl ?_
        refine mw_iload_n dX1_isRing_62 4 rfl ?_
        refine mw_icmp_ne (tgt := 81) dX1_isRing_63 (by decide) (fun hc => ?_) (fun hc => ?_)
        · have h := mie hc h
          refine mw_iinc (v := (x5 + 1)) (L' := [(5, .int (x5 + 1)), (4, .int (eI σ 4 r1.toNatClampNeg)), (6, .int r1), (0, .ref 1), (1, .int a1), (3, .int x3)]) dX1_isRing_81 5 rfl rfl (by decide) rfl ?_
          refine mw_goto (tgt := 27) dX1_isRing_84 (by decide) ?_
          exact mw_sub (L' := [(0, .ref 1), (1, .int a1), (3, .int x3), (4, .int (eI σ 4 r1.toNatClampNeg)), (5, .int (x5 + 1))]) [3, 4, 5, 1, 0] rfl (ih _ _ _ h)
        · have h := mit hc h
          refine mw_iload dX1_isRing_66 5 rfl ?_
          refine mw_iload_n dX1_isRing_68 3 rfl ?_
          obtain ⟨r4, e5, h⟩ := mbd h
          refine mv_callS_i (As := [.int a1]) lkS_RX1_64_yJ6_bitCount_0f7a4 dX1_isRing_69 (k_J6_bitCount_0f7a4 e5) rfl rfl (Nat.le_of_ble_eq_true rfl) (by decide) (by decide) ?_
          refine mw_icmp_ne (tgt := 79) dX1_isRing_72 (by decide) (fun hc => ?_) (fun hc => ?_)
          · have h := mie hc h
            refine mw_iconst (v := 0) dX1_isRing_79 (by decide) ?_
            exact mw_zret dX1_isRing_80 rfl (by decide) (ers_i h) rfl rfl
          · have h := mit hc h
            refine mw_iconst (v := 1) dX1_isRing_75 (by decide) ?_
            refine mw_goto (tgt := 80) dX1_isRing_76 (by decide) ?_
            exact mw_zret dX1_isRing_80 rfl (by decide) (ers_i h) rfl rfl
      · have h := mit hc h
        refine mw_iconst (v := 0) dX1_isRing_49 (by decide) ?_
        exact mw_zret dX1_isRing_50 rfl (by decide) (ers_i h) rfl rfl
def e_X1_isRing_1 (σ : ES) (a1 : Int32) : Option Int32 := (e_X1_firstFrom_1 σ a1 (-1 : Int32)).bind (fun r1 => if r1 = (-1 : Int32) then (some (0 : Int32)) else (if mib r1 14 = true then (e_X1_isRing_1_L27 σ a1 mN (eI σ 3 r1.toNatClampNeg) (eI σ 3 r1.toNatClampNeg) (1 : Int32)) else none))
set_option maxRecDepth 100000 in
set_option maxHeartbeats 4000000 in
theorem k_X1_isRing_1 {l : Launch} {σ : ES} {a1 : Int32} {out : Int32} (h : e_X1_isRing_1 σ a1 = some out) : MK l yX1_isRing cX1_isRing 7 (some .boolean) 2 [.ref 1, .int a1] (mkS σ) (some (.int out)) (mkS σ) := by
  unfold e_X1_isRing_1 at h
  refine mw_entry (own := RX1) (ini := false) (L := [(0, .ref 1), (1, .int a1)]) (by decide +kernel) rfl (fun h => nomatch h) rfl (Nat.le_of_ble_eq_true rfl) (Nat.le_of_ble_eq_true rfl) (fun E => ?_)
  refine mw_aload_n dX1_isRing_0 0 rfl ?_
  refine mw_iload_n dX1_isRing_1 1 rfl ?_
  refine mw_iconst (v := -1) dX1_isRing_2 (by decide) ?_
  obtain ⟨r1, e2, h⟩ := mbd h
  refine mv_callV_i (As := [.int a1, .int (-1 : Int32)]) (ci := 0) lkV_RX1_60_yX1_firstFrom dX1_isRing_3 (k_X1_firstFrom_1 e2) rfl rfl rfl rfl (Nat.le_of_ble_eq_true rfl) (by decide) (by decide) ?_
  refine mw_istore_n (L' := [(2, .int r1), (0, .ref 1), (1, .int a1)]) dX1_isRing_6 rfl (by decide) rfl ?_
  refine mw_iload_n dX1_isRing_7 0 rfl ?_
  refine mw_iconst (v := -1) dX1_isRing_8 (by decide) ?_
  refine mw_icmp_ne (tgt := 14) dX1_isRing_9 (by decide) (fun hc => ?_) (fun hc => ?_)
  · have h := mie hc h
    refine mw_aload_n dX1_isRing_14 1 rfl ?_
    refine ev_getR (q := 3) fd_RX1_19_0 dX1_isRing_15 rfl rfl rfl ?_
    refine mw_iload_n dX1_isRing_18 0 rfl ?_
    obtain ⟨m3, h⟩ := mif h
    refine ev_iald dX1_isRing_19 (by decide) rfl m3 ?_
    refine mw_istore_n (L' := [(3, .int (eI σ 3 r1.toNatClampNeg)), (2, .int r1), (0, .ref 1), (1, .int a1)]) dX1_isRing_20 rfl (by decide) rfl ?_
    refine mw_iload_n dX1_isRing_21 0 rfl ?_
    refine mw_istore (L' := [(4, .int (eI σ 3 r1.toNatClampNeg)), (3, .int (eI σ 3 r1.toNatClampNeg)), (2, .int r1), (0, .ref 1), (1, .int a1)]) dX1_isRing_22 (by decide) rfl ?_
    refine mw_iconst (v := 1) dX1_isRing_24 (by decide) ?_
    refine mw_istore (L' := [(5, .int (1 : Int32)), (4, .int (eI σ 3 r1.toNatClampNeg)), (3, .int (eI σ 3 r1.toNatClampNeg)), (2, .int r1), (0, .ref 1), (1, .int a1)]) dX1_isRing_25 (by decide) rfl ?_
    exact mw_sub (L' := [(0, .ref 1), (1, .int a1), (3, .int (eI σ 3 r1.toNatClampNeg)), (4, .int (eI σ 3 r1.toNatClampNeg)), (5, .int (1 : Int32))]) [4, 5, 2, 1, 0] rfl (p_X1_isRing_1_L27  mN _ _ _ h)
  · have h := mit hc h
    refine mw_iconst (v := 0) dX1_isRing_12 (by decide) ?_
    exact mw_zret dX1_isRing_13 rfl (by decide) (ers_i h) rfl rfl

def e_X2_apart_55 (σ : ES) (a1 : Int32) (a2 : Int32) : Option Int32 := if mib a1 6 = true then (if mib a2 6 = true then (if (eI σ 56 a1.toNatClampNeg) = (eI σ 56 a2.toNatClampNeg) then (some (0 : Int32)) else (some (1 : Int32))) else none) else none
set_option maxRecDepth 100000 in
set_option maxHeartbeats 4000000 in
theorem k_X2_apart_55 {l : Launch} {σ : ES} {a1 : Int32} {a2 : Int32} {out : Int32} (h : e_X2_apart_55 σ a1 a2 = some out) : MK l yX2_apart cX2_apart 3 (some .boolean) 1 [.ref 55, .int a1, .int a2] (mkS σ) (some (.int out)) (mkS σ) := by
  unfold e_X2_apart_55 at h
  refine mw_entry (own := RX2) (ini := false) (L := [(0, .ref 55), (1, .int a1), (2, .int a2)]) (by decide +kernel) rfl (fun h => nomatch h) rfl (Nat.le_of_ble_eq_true rfl) (Nat.le_of_ble_eq_true rfl) (fun E => ?_)
  refine mw_aload_n dX2_apart_0 0 rfl ?_
  refine ev_getR (q := 56) fd_RX2_9_1 dX2_apart_1 rfl rfl rfl ?_
  refine mw_iload_n dX2_apart_4 1 rfl ?_
  obtain ⟨m1, h⟩ := mif h
  refine ev_iald dX2_apart_5 (by decide) rfl m1 ?_
  refine mw_aload_n dX2_apart_6 0 rfl ?_
  refine ev_getR (q := 56) fd_RX2_9_1 dX2_apart_7 rfl rfl rfl ?_
  refine mw_iload_n dX2_apart_10 2 rfl ?_
  obtain ⟨m2, h⟩ := mif h
  refine ev_iald dX2_apart_11 (by decide) rfl m2 ?_
  refine mw_icmp_eq (tgt := 19) dX2_apart_12 (by decide) (fun hc => ?_) (fun hc => ?_)
  · have h := mit hc h
    refine mw_iconst (v := 0) dX2_apart_19 (by decide) ?_
    exact mw_zret dX2_apart_20 rfl (by decide) (ers_i h) rfl rfl
  · have h := mie hc h
    refine mw_iconst (v := 1) dX2_apart_15 (by decide) ?_
    refine mw_goto (tgt := 20) dX2_apart_16 (by decide) ?_
    exact mw_zret dX2_apart_20 rfl (by decide) (ers_i h) rfl rfl

def e_X2_join_55_L18 (a1 : Int32) (a2 : Int32) : Nat → Int32 → Int32 → Int32 → ES → Option ES
  | 0, _, _, _, _ => none
  | n + 1, x3, x4, x5, σ => if (6 : Int32) ≤ x5 then (some σ) else (if mib x5 6 = true then (if (eI σ 56 x5.toNatClampNeg) = x3 then (e_X2_join_55_L18 a1 a2 n x3 x4 (x5 + 1) (uI σ 56 x5.toNatClampNeg x4)) else (e_X2_join_55_L18 a1 a2 n x3 x4 (x5 + 1) σ)) else none)
set_option maxRecDepth 100000 in
set_option maxHeartbeats 4000000 in
theorem p_X2_join_55_L18 {l : Launch} {E : MX} {out : ES} {a1 : Int32} {a2 : Int32}  : ∀ (n : Nat) (x3 : Int32) (x4 : Int32) (x5 : Int32) (σ : ES), e_X2_join_55_L18 a1 a2 n x3 x4 x5 σ = some out → MV l E cX2_join RX2 6 none 1 (82, none, mkS out) (mkS σ) 18 [(0, .ref 55), (1, .int a1), (2, .int a2), (3, .int x3), (4, .int x4), (5, .int x5)] [] := by
  intro n
  induction n with
  | zero =>
    intro x3 x4 x5 σ h
    exact nomatch h
  | succ n ih =>
    intro x3 x4 x5 σ h
    rw [e_X2_join_55_L18] at h
    refine mw_iload dX2_join_18 5 rfl ?_
    refine mw_bipush (v := 6) dX2_join_20 (by decide) ?_
    refine mw_icmp_ge (tgt := 51) dX2_join_22 (by decide) (fun hc => ?_) (fun hc => ?_)
    · have h := mit hc h
      exact mw_vret dX2_join_51 rfl (ers_vm h) rfl rfl
    · have h := mie hc h
      refine mw_aload_n dX2_join_25 0 rfl ?_
      refine ev_getR (q := 56) fd_RX2_9_1 dX2_join_26 rfl rfl rfl ?_
      refine mw_iload dX2_join_29 5 rfl ?_
      obtain ⟨m1, h⟩ := mif h
      refine ev_iald dX2_join_31 (by decide) rfl m1 ?_
      refine mw_iload_n dX2_join_32 3 rfl ?_
      refine mw_icmp_ne (tgt := 45) dX2_join_33 (by decide) (fun hc => ?_) (fun hc => ?_)
      · have h := mie hc h
        refine mw_iinc (v := (x5 + 1)) (L' := [(5, .int (x5 + 1)), (0, .ref 55), (1, .int a1), (2, .int a2), (3, .int x3), (4, .int x4)]) dX2_join_45 5 rfl rfl (by decide) rfl ?_
        refine mw_goto (tgt := 18) dX2_join_48 (by decide) ?_
        exact mw_sub (L' := [(0, .ref 55), (1, .int a1), (2, .int a2), (3, .int x3), (4, .int x4), (5, .int (x5 + 1))]) [1, 2, 3, 4, 5, 0] rfl (ih _ _ _ _ h)
      · have h := mit hc h
        refine mw_aload_n dX2_join_36 0 rfl ?_
        refine ev_getR (q := 56) fd_RX2_9_1 dX2_join_37 rfl rfl rfl ?_
        refine mw_iload dX2_join_40 5 rfl ?_
        refine mw_iload dX2_join_42 4 rfl ?_
        refine ev_iast dX2_join_44 (by decide) rfl m1 ?_
        refine mw_iinc (v := (x5 + 1)) (L' := [(5, .int (x5 + 1)), (0, .ref 55), (1, .int a1), (2, .int a2), (3, .int x3), (4, .int x4)]) dX2_join_45 5 rfl rfl (by decide) rfl ?_
        refine mw_goto (tgt := 18) dX2_join_48 (by decide) ?_
        exact mw_sub (L' := [(0, .ref 55), (1, .int a1), (2, .int a2), (3, .int x3), (4, .int x4), (5, .int (x5 + 1))]) [1, 2, 3, 4, 5, 0] rfl (ih _ _ _ _ h)
def e_X2_join_55 (a1 : Int32) (a2 : Int32) (σ : ES) : Option ES := if mib a1 6 = true then (if mib a2 6 = true then (e_X2_join_55_L18 a1 a2 mN (eI σ 56 a1.toNatClampNeg) (eI σ 56 a2.toNatClampNeg) (0 : Int32) σ) else none) else none
set_option maxRecDepth 100000 in
set_option maxHeartbeats 4000000 in
theorem k_X2_join_55 {l : Launch} {σ : ES} {a1 : Int32} {a2 : Int32} {out : ES} (h : e_X2_join_55 a1 a2 σ = some out) : MK l yX2_join cX2_join 6 none 1 [.ref 55, .int a1, .int a2] (mkS σ) none (mkS out) := by
  unfold e_X2_join_55 at h
  refine mw_entry (own := RX2) (ini := false) (L := [(0, .ref 55), (1, .int a1), (2, .int a2)]) (by decide +kernel) rfl (fun h => nomatch h) rfl (Nat.le_of_ble_eq_true rfl) (Nat.le_of_ble_eq_true rfl) (fun E => ?_)
  refine mw_aload_n dX2_join_0 0 rfl ?_
  refine ev_getR (q := 56) fd_RX2_9_1 dX2_join_1 rfl rfl rfl ?_
  refine mw_iload_n dX2_join_4 1 rfl ?_
  obtain ⟨m1, h⟩ := mif h
  refine ev_iald dX2_join_5 (by decide) rfl m1 ?_
  refine mw_istore_n (L' := [(3, .int (eI σ 56 a1.toNatClampNeg)), (0, .ref 55), (1, .int a1), (2, .int a2)]) dX2_join_6 rfl (by decide) rfl ?_
  refine mw_aload_n dX2_join_7 1 rfl ?_
  refine ev_getR (q := 56) fd_RX2_9_1 dX2_join_8 rfl rfl rfl ?_
  refine mw_iload_n dX2_join_11 3 rfl ?_
  obtain ⟨m2, h⟩ := mif h
  refine ev_iald dX2_join_12 (by decide) rfl m2 ?_
  refine mw_istore (L' := [(4, .int (eI σ 56 a2.toNatClampNeg)), (3, .int (eI σ 56 a1.toNatClampNeg)), (0, .ref 55), (1, .int a1), (2, .int a2)]) dX2_join_13 (by decide) rfl ?_
  refine mw_iconst (v := 0) dX2_join_15 (by decide) ?_
  refine mw_istore (L' := [(5, .int (0 : Int32)), (4, .int (eI σ 56 a2.toNatClampNeg)), (3, .int (eI σ 56 a1.toNatClampNeg)), (0, .ref 55), (1, .int a1), (2, .int a2)]) dX2_join_16 (by decide) rfl ?_
  exact mw_sub (L' := [(0, .ref 55), (1, .int a1), (2, .int a2), (3, .int (eI σ 56 a1.toNatClampNeg)), (4, .int (eI σ 56 a2.toNatClampNeg)), (5, .int (0 : Int32))]) [3, 4, 5, 2, 1, 0] rfl (p_X2_join_55_L18  mN _ _ _ _ h)

def e_X2_part_55_L2  : Nat → Int32 → ES → Option ES
  | 0, _, _ => none
  | n + 1, x1, σ => if (6 : Int32) ≤ x1 then (some σ) else (if mib x1 6 = true then (e_X2_part_55_L2 n (x1 + 1) (uI σ 56 x1.toNatClampNeg x1)) else none)
set_option maxRecDepth 100000 in
set_option maxHeartbeats 4000000 in
theorem p_X2_part_55_L2 {l : Launch} {E : MX} {out : ES}   : ∀ (n : Nat) (x1 : Int32) (σ : ES), e_X2_part_55_L2 n x1 σ = some out → MV l E cX2_part RX2 2 none 1 (82, none, mkS out) (mkS σ) 2 [(0, .ref 55), (1, .int x1)] [] := by
  intro n
  induction n with
  | zero =>
    intro x1 σ h
    exact nomatch h
  | succ n ih =>
    intro x1 σ h
    rw [e_X2_part_55_L2] at h
    refine mw_iload_n dX2_part_2 1 rfl ?_
    refine mw_bipush (v := 6) dX2_part_3 (by decide) ?_
    refine mw_icmp_ge (tgt := 21) dX2_part_5 (by decide) (fun hc => ?_) (fun hc => ?_)
    · have h := mit hc h
      exact mw_vret dX2_part_21 rfl (ers_vm h) rfl rfl
    · have h := mie hc h
      refine mw_aload_n dX2_part_8 0 rfl ?_
      refine ev_getR (q := 56) fd_RX2_9_1 dX2_part_9 rfl rfl rfl ?_
      refine mw_iload_n dX2_part_12 1 rfl ?_
      refine mw_iload_n dX2_part_13 1 rfl ?_
      obtain ⟨m1, h⟩ := mif h
      refine ev_iast dX2_part_14 (by decide) rfl m1 ?_
      refine mw_iinc (v := (x1 + 1)) (L' := [(1, .int (x1 + 1)), (0, .ref 55)]) dX2_part_15 1 rfl rfl (by decide) rfl ?_
      refine mw_goto (tgt := 2) dX2_part_18 (by decide) ?_
      exact mw_sub (L' := [(0, .ref 55), (1, .int (x1 + 1))]) [1, 0] rfl (ih _ _ h)
def e_X2_part_55 (σ : ES) : Option ES := e_X2_part_55_L2 mN (0 : Int32) σ
set_option maxRecDepth 100000 in
set_option maxHeartbeats 4000000 in
theorem k_X2_part_55 {l : Launch} {σ : ES}  {out : ES} (h : e_X2_part_55 σ = some out) : MK l yX2_part cX2_part 2 none 1 [.ref 55] (mkS σ) none (mkS out) := by
  unfold e_X2_part_55 at h
  refine mw_entry (own := RX2) (ini := false) (L := [(0, .ref 55)]) (by decide +kernel) rfl (fun h => nomatch h) rfl (Nat.le_of_ble_eq_true rfl) (Nat.le_of_ble_eq_true rfl) (fun E => ?_)
  refine mw_iconst (v := 0) dX2_part_0 (by decide) ?_
  refine mw_istore_n (L' := [(1, .int (0 : Int32)), (0, .ref 55)]) dX2_part_1 rfl (by decide) rfl ?_
  exact mw_sub (L' := [(0, .ref 55), (1, .int (0 : Int32))]) [1, 0] rfl (p_X2_part_55_L2  mN _ _ h)

theorem dX2_isTree_0 : decode cX2_isTree 0 = .ok (.iload_n 2, 1) := by decide +kernel
theorem dX2_isTree_1 : decode cX2_isTree 1 = .ok (.invokestatic 15, 3) := by decide +kernel
theorem dX2_isTree_4 : decode cX2_isTree 4 = .ok (.aload_n 1, 1) := by decide +kernel
theorem dX2_isTree_5 : decode cX2_isTree 5 = .ok (.getfield 21, 3) := by decide +kernel
theorem dX2_isTree_8 : decode cX2_isTree 8 = .ok (.iconst 1, 1) := by decide +kernel
theorem dX2_isTree_9 : decode cX2_isTree 9 = .ok (.isub, 1) := by decide +kernel
theorem dX2_isTree_10 : decode cX2_isTree 10 = .ok (.if_icmp .eq 5, 3) := by decide +kernel
theorem dX2_isTree_13 : decode cX2_isTree 13 = .ok (.iconst 0, 1) := by decide +kernel
theorem dX2_isTree_14 : decode cX2_isTree 14 = .ok (.ireturn, 1) := by decide +kernel
theorem dX2_isTree_15 : decode cX2_isTree 15 = .ok (.aload_n 0, 1) := by decide +kernel
theorem dX2_isTree_16 : decode cX2_isTree 16 = .ok (.invokevirtual 27, 3) := by decide +kernel
theorem dX2_isTree_19 : decode cX2_isTree 19 = .ok (.iconst 0, 1) := by decide +kernel
theorem dX2_isTree_20 : decode cX2_isTree 20 = .ok (.istore_n 3, 1) := by decide +kernel
theorem dX2_isTree_21 : decode cX2_isTree 21 = .ok (.iload_n 3, 1) := by decide +kernel
theorem dX2_isTree_22 : decode cX2_isTree 22 = .ok (.aload_n 1, 1) := by decide +kernel
theorem dX2_isTree_23 : decode cX2_isTree 23 = .ok (.getfield 30, 3) := by decide +kernel
theorem dX2_isTree_26 : decode cX2_isTree 26 = .ok (.if_icmp .ge 54, 3) := by decide +kernel
theorem dX2_isTree_29 : decode cX2_isTree 29 = .ok (.iload_n 2, 1) := by decide +kernel
theorem dX2_isTree_30 : decode cX2_isTree 30 = .ok (.iconst 1, 1) := by decide +kernel
theorem dX2_isTree_31 : decode cX2_isTree 31 = .ok (.iload_n 3, 1) := by decide +kernel
theorem dX2_isTree_32 : decode cX2_isTree 32 = .ok (.ishl, 1) := by decide +kernel
theorem dX2_isTree_33 : decode cX2_isTree 33 = .ok (.iand, 1) := by decide +kernel
theorem dX2_isTree_34 : decode cX2_isTree 34 = .ok (.ifCond .eq 40, 3) := by decide +kernel
theorem dX2_isTree_37 : decode cX2_isTree 37 = .ok (.aload_n 0, 1) := by decide +kernel
theorem dX2_isTree_38 : decode cX2_isTree 38 = .ok (.aload_n 1, 1) := by decide +kernel
theorem dX2_isTree_39 : decode cX2_isTree 39 = .ok (.getfield 33, 3) := by decide +kernel
theorem dX2_isTree_42 : decode cX2_isTree 42 = .ok (.iload_n 3, 1) := by decide +kernel
theorem dX2_isTree_43 : decode cX2_isTree 43 = .ok (.iaload, 1) := by decide +kernel
theorem dX2_isTree_44 : decode cX2_isTree 44 = .ok (.aload_n 1, 1) := by decide +kernel
theorem dX2_isTree_45 : decode cX2_isTree 45 = .ok (.getfield 36, 3) := by decide +kernel
theorem dX2_isTree_48 : decode cX2_isTree 48 = .ok (.iload_n 3, 1) := by decide +kernel
theorem dX2_isTree_49 : decode cX2_isTree 49 = .ok (.iaload, 1) := by decide +kernel
theorem dX2_isTree_50 : decode cX2_isTree 50 = .ok (.invokevirtual 39, 3) := by decide +kernel
theorem dX2_isTree_53 : decode cX2_isTree 53 = .ok (.ifCond .ne 5, 3) := by decide +kernel
theorem dX2_isTree_56 : decode cX2_isTree 56 = .ok (.iconst 0, 1) := by decide +kernel
theorem dX2_isTree_57 : decode cX2_isTree 57 = .ok (.ireturn, 1) := by decide +kernel
theorem dX2_isTree_58 : decode cX2_isTree 58 = .ok (.aload_n 0, 1) := by decide +kernel
theorem dX2_isTree_59 : decode cX2_isTree 59 = .ok (.aload_n 1, 1) := by decide +kernel
theorem dX2_isTree_60 : decode cX2_isTree 60 = .ok (.getfield 33, 3) := by decide +kernel
theorem dX2_isTree_63 : decode cX2_isTree 63 = .ok (.iload_n 3, 1) := by decide +kernel
theorem dX2_isTree_64 : decode cX2_isTree 64 = .ok (.iaload, 1) := by decide +kernel
theorem dX2_isTree_65 : decode cX2_isTree 65 = .ok (.aload_n 1, 1) := by decide +kernel
theorem dX2_isTree_66 : decode cX2_isTree 66 = .ok (.getfield 36, 3) := by decide +kernel
theorem dX2_isTree_69 : decode cX2_isTree 69 = .ok (.iload_n 3, 1) := by decide +kernel
theorem dX2_isTree_70 : decode cX2_isTree 70 = .ok (.iaload, 1) := by decide +kernel
theorem dX2_isTree_71 : decode cX2_isTree 71 = .ok (.invokevirtual 43, 3) := by decide +kernel
theorem dX2_isTree_74 : decode cX2_isTree 74 = .ok (.iinc 3 1, 3) := by decide +kernel
theorem dX2_isTree_77 : decode cX2_isTree 77 = .ok (.goto (-56), 3) := by decide +kernel
theorem dX2_isTree_80 : decode cX2_isTree 80 = .ok (.iconst 1, 1) := by decide +kernel
theorem dX2_isTree_81 : decode cX2_isTree 81 = .ok (.ireturn, 1) := by decide +kernel
def e_X2_isTree_55_1_L21 (a2 : Int32) : Nat → Int32 → ES → Option (Int32 × ES)
  | 0, _, _ => none
  | n + 1, x3, σ => if (eI σ 1 2) ≤ x3 then (some ((1 : Int32), σ)) else (if (a2 &&& ((1 : Int32) <<< (x3 &&& 31))) = 0 then (e_X2_isTree_55_1_L21 a2 n (x3 + 1) σ) else (if mib x3 14 = true then ((e_X2_apart_55 σ (eI σ 3 x3.toNatClampNeg) (eI σ 4 x3.toNatClampNeg)).bind (fun r2 => if r2 = 0 then (some ((0 : Int32), σ)) else ((e_X2_join_55 (eI σ 3 x3.toNatClampNeg) (eI σ 4 x3.toNatClampNeg) σ).bind (fun r4 => e_X2_isTree_55_1_L21 a2 n (x3 + 1) r4)))) else none))
set_option maxRecDepth 100000 in
set_option maxHeartbeats 4000000 in
theorem p_X2_isTree_55_1_L21 {l : Launch} {E : MX} {out : (Int32 × ES)} {a2 : Int32}  : ∀ (n : Nat) (x3 : Int32) (σ : ES), e_X2_isTree_55_1_L21 a2 n x3 σ = some out → MV l E cX2_isTree RX2 4 (some .boolean) 2 (82, (some (.int out.1)), mkS out.2) (mkS σ) 21 [(0, .ref 55), (1, .ref 1), (2, .int a2), (3, .int x3)] [] := by
  intro n
  induction n with
  | zero =>
    intro x3 σ h
    exact nomatch h
  | succ n ih =>
    intro x3 σ h
    rw [e_X2_isTree_55_1_L21] at h
    refine mw_iload_n dX2_isTree_21 3 rfl ?_
    refine mw_aload_n dX2_isTree_22 1 rfl ?_
    refine ev_getI fd_RX2_30_0 dX2_isTree_23 rfl rfl ?_
    refine mw_icmp_ge (tgt := 80) dX2_isTree_26 (by decide) (fun hc => ?_) (fun hc => ?_)
    · have h := mit hc h
      refine mw_iconst (v := 1) dX2_isTree_80 (by decide) ?_
      exact mw_zret dX2_isTree_81 rfl (by decide) (ers_im h) rfl rfl
    · have h := mie hc h
      refine mw_iload_n dX2_isTree_29 2 rfl ?_
      refine mw_iconst (v := 1) dX2_isTree_30 (by decide) ?_
      refine mw_iload_n dX2_isTree_31 3 rfl ?_
      refine mw_ishl dX2_isTree_32 ?_
      refine mw_iand dX2_isTree_33 ?_
      refine mw_if_eq (tgt := 74) dX2_isTree_34 (by decide) (fun hc => ?_) (fun hc => ?_)
      · have h := mit hc h
        refine mw_iinc (v := (x3 + 1)) (L' := [(3, .int (x3 + 1)), (0, .ref 55), (1, .ref 1), (2, .int a2)]) dX2_isTree_74 3 rfl rfl (by decide) rfl ?_
        refine mw_goto (tgt := 21) dX2_isTree_77 (by decide) ?_
        exact mw_sub (L' := [(0, .ref 55), (1, .ref 1), (2, .int a2), (3, .int (x3 + 1))]) [1, 2, 3, 0] rfl (ih _ _ h)
      · have h := mie hc h
        refine mw_aload_n dX2_isTree_37 0 rfl ?_
        refine mw_aload_n dX2_isTree_38 1 rfl ?_
        refine ev_getR (q := 3) fd_RX2_33_0 dX2_isTree_39 rfl rfl rfl ?_
        refine mw_iload_n dX2_isTree_42 3 rfl ?_
        obtain ⟨m1, h⟩ := mif h
        refine ev_iald dX2_isTree_43 (by decide) rfl m1 ?_
        refine mw_aload_n dX2_isTree_44 1 rfl ?_
        refine ev_getR (q := 4) fd_RX2_36_0 dX2_isTree_45 rfl rfl rfl ?_
        refine mw_iload_n dX2_isTree_48 3 rfl ?_
        refine ev_iald dX2_isTree_49 (by decide) rfl m1 ?_
        obtain ⟨r2, e3, h⟩ := mbd h
        refine mv_callV_i (As := [.int (eI σ 3 x3.toNatClampNeg), .int (eI σ 4 x3.toNatClampNeg)]) (ci := 1) lkV_RX2_39_yX2_apart dX2_isTree_50 (k_X2_apart_55 e3) rfl rfl rfl rfl (Nat.le_of_ble_eq_true rfl) (by decide) (by decide) ?_
        refine mw_if_ne (tgt := 58) dX2_isTree_53 (by decide) (fun hc => ?_) (fun hc => ?_)
        · have h := mie hc h
          refine mw_aload_n dX2_isTree_58 0 rfl ?_
          refine mw_aload_n dX2_isTree_59 1 rfl ?_
          refine ev_getR (q := 3) fd_RX2_33_0 dX2_isTree_60 rfl rfl rfl ?_
          refine mw_iload_n dX2_isTree_63 3 rfl ?_
          refine ev_iald dX2_isTree_64 (by decide) rfl m1 ?_
          refine mw_aload_n dX2_isTree_65 1 rfl ?_
          refine ev_getR (q := 4) fd_RX2_36_0 dX2_isTree_66 rfl rfl rfl ?_
          refine mw_iload_n dX2_isTree_69 3 rfl ?_
          refine ev_iald dX2_isTree_70 (by decide) rfl m1 ?_
          obtain ⟨r4, e5, h⟩ := mbd h
          refine mv_callV_v (As := [.int (eI σ 3 x3.toNatClampNeg), .int (eI σ 4 x3.toNatClampNeg)]) (ci := 1) lkV_RX2_43_yX2_join dX2_isTree_71 (k_X2_join_55 e5) rfl rfl rfl rfl (Nat.le_of_ble_eq_true rfl) (by decide) (by decide) ?_
          refine mw_iinc (v := (x3 + 1)) (L' := [(3, .int (x3 + 1)), (0, .ref 55), (1, .ref 1), (2, .int a2)]) dX2_isTree_74 3 rfl rfl (by decide) rfl ?_
          refine mw_goto (tgt := 21) dX2_isTree_77 (by decide) ?_
          exact mw_sub (L' := [(0, .ref 55), (1, .ref 1), (2, .int a2), (3, .int (x3 + 1))]) [1, 2, 3, 0] rfl (ih _ _ h)
        · have h := mit hc h
          refine mw_iconst (v := 0) dX2_isTree_56 (by decide) ?_
          exact mw_zret dX2_isTree_57 rfl (by decide) (ers_im h) rfl rfl
def e_X2_isTree_55_1 (a2 : Int32) (σ : ES) : Option (Int32 × ES) := (e_J6_bitCount_0f7a4 a2).bind (fun r1 => if r1 = ((eI σ 1 0) - (1 : Int32)) then ((e_X2_part_55 σ).bind (fun r3 => e_X2_isTree_55_1_L21 a2 mN (0 : Int32) r3)) else (some ((0 : Int32), σ)))
set_option maxRecDepth 100000 in
set_option maxHeartbeats 4000000 in
theorem k_X2_isTree_55_1 {l : Launch} {σ : ES} {a2 : Int32} {out : (Int32 × ES)} (h : e_X2_isTree_55_1 a2 σ = some out) : MK l yX2_isTree cX2_isTree 4 (some .boolean) 2 [.ref 55, .ref 1, .int a2] (mkS σ) (some (.int out.1)) (mkS out.2) := by
  unfold e_X2_isTree_55_1 at h
  refine mw_entry (own := RX2) (ini := false) (L := [(0, .ref 55), (1, .ref 1), (2, .int a2)]) (by decide +kernel) rfl (fun h => nomatch h) rfl (Nat.le_of_ble_eq_true rfl) (Nat.le_of_ble_eq_true rfl) (fun E => ?_)
  refine mw_iload_n dX2_isTree_0 2 rfl ?_
  obtain ⟨r1, e2, h⟩ := mbd h
  refine mv_callS_i (As := [.int a2]) lkS_RX2_15_yJ6_bitCount_0f7a4 dX2_isTree_1 (k_J6_bitCount_0f7a4 e2) rfl rfl (Nat.le_of_ble_eq_true rfl) (by decide) (by decide) ?_
  refine mw_aload_n dX2_isTree_4 1 rfl ?_
  refine ev_getI fd_RX2_21_0 dX2_isTree_5 rfl rfl ?_
  refine mw_iconst (v := 1) dX2_isTree_8 (by decide) ?_
  refine mw_isub dX2_isTree_9 ?_
  refine mw_icmp_eq (tgt := 15) dX2_isTree_10 (by decide) (fun hc => ?_) (fun hc => ?_)
  · have h := mit hc h
    refine mw_aload_n dX2_isTree_15 0 rfl ?_
    obtain ⟨r3, e4, h⟩ := mbd h
    refine mv_callV_v (As := []) (ci := 1) lkV_RX2_27_yX2_part dX2_isTree_16 (k_X2_part_55 e4) rfl rfl rfl rfl (Nat.le_of_ble_eq_true rfl) (by decide) (by decide) ?_
    refine mw_iconst (v := 0) dX2_isTree_19 (by decide) ?_
    refine mw_istore_n (L' := [(3, .int (0 : Int32)), (0, .ref 55), (1, .ref 1), (2, .int a2)]) dX2_isTree_20 rfl (by decide) rfl ?_
    exact mw_sub (L' := [(0, .ref 55), (1, .ref 1), (2, .int a2), (3, .int (0 : Int32))]) [1, 2, 3, 0] rfl (p_X2_isTree_55_1_L21  mN _ _ h)
  · have h := mie hc h
    refine mw_iconst (v := 0) dX2_isTree_13 (by decide) ?_
    exact mw_zret dX2_isTree_14 rfl (by decide) (ers_im h) rfl rfl

theorem dX9_isChoice_0 : decode cX9_isChoice 0 = .ok (.iload_n 1, 1) := by decide +kernel
theorem dX9_isChoice_1 : decode cX9_isChoice 1 = .ok (.lookupswitch 87 #[(0, 27), (1, 55)], 27) := by decide +kernel
theorem dX9_isChoice_28 : decode cX9_isChoice 28 = .ok (.aload_n 0, 1) := by decide +kernel
theorem dX9_isChoice_29 : decode cX9_isChoice 29 = .ok (.getfield 12, 3) := by decide +kernel
theorem dX9_isChoice_32 : decode cX9_isChoice 32 = .ok (.iload_n 2, 1) := by decide +kernel
theorem dX9_isChoice_33 : decode cX9_isChoice 33 = .ok (.invokevirtual 282, 3) := by decide +kernel
theorem dX9_isChoice_36 : decode cX9_isChoice 36 = .ok (.ifCond .eq 18, 3) := by decide +kernel
theorem dX9_isChoice_39 : decode cX9_isChoice 39 = .ok (.aload_n 0, 1) := by decide +kernel
theorem dX9_isChoice_40 : decode cX9_isChoice 40 = .ok (.getfield 12, 3) := by decide +kernel
theorem dX9_isChoice_43 : decode cX9_isChoice 43 = .ok (.iload_n 2, 1) := by decide +kernel
theorem dX9_isChoice_44 : decode cX9_isChoice 44 = .ok (.invokevirtual 285, 3) := by decide +kernel
theorem dX9_isChoice_47 : decode cX9_isChoice 47 = .ok (.ifCond .eq 7, 3) := by decide +kernel
theorem dX9_isChoice_50 : decode cX9_isChoice 50 = .ok (.iconst 1, 1) := by decide +kernel
theorem dX9_isChoice_51 : decode cX9_isChoice 51 = .ok (.goto 4, 3) := by decide +kernel
theorem dX9_isChoice_54 : decode cX9_isChoice 54 = .ok (.iconst 0, 1) := by decide +kernel
theorem dX9_isChoice_55 : decode cX9_isChoice 55 = .ok (.ireturn, 1) := by decide +kernel
theorem dX9_isChoice_56 : decode cX9_isChoice 56 = .ok (.aload_n 0, 1) := by decide +kernel
theorem dX9_isChoice_57 : decode cX9_isChoice 57 = .ok (.getfield 12, 3) := by decide +kernel
theorem dX9_isChoice_60 : decode cX9_isChoice 60 = .ok (.iload_n 2, 1) := by decide +kernel
theorem dX9_isChoice_61 : decode cX9_isChoice 61 = .ok (.invokevirtual 282, 3) := by decide +kernel
theorem dX9_isChoice_64 : decode cX9_isChoice 64 = .ok (.ifCond .eq 22, 3) := by decide +kernel
theorem dX9_isChoice_67 : decode cX9_isChoice 67 = .ok (.aload_n 0, 1) := by decide +kernel
theorem dX9_isChoice_68 : decode cX9_isChoice 68 = .ok (.getfield 53, 3) := by decide +kernel
theorem dX9_isChoice_71 : decode cX9_isChoice 71 = .ok (.aload_n 0, 1) := by decide +kernel
theorem dX9_isChoice_72 : decode cX9_isChoice 72 = .ok (.getfield 12, 3) := by decide +kernel
theorem dX9_isChoice_75 : decode cX9_isChoice 75 = .ok (.iload_n 2, 1) := by decide +kernel
theorem dX9_isChoice_76 : decode cX9_isChoice 76 = .ok (.invokevirtual 288, 3) := by decide +kernel
theorem dX9_isChoice_79 : decode cX9_isChoice 79 = .ok (.ifCond .eq 7, 3) := by decide +kernel
theorem dX9_isChoice_82 : decode cX9_isChoice 82 = .ok (.iconst 1, 1) := by decide +kernel
theorem dX9_isChoice_83 : decode cX9_isChoice 83 = .ok (.goto 4, 3) := by decide +kernel
theorem dX9_isChoice_86 : decode cX9_isChoice 86 = .ok (.iconst 0, 1) := by decide +kernel
theorem dX9_isChoice_87 : decode cX9_isChoice 87 = .ok (.ireturn, 1) := by decide +kernel
theorem dX9_isChoice_88 : decode cX9_isChoice 88 = .ok (.iload_n 2, 1) := by decide +kernel
theorem dX9_isChoice_89 : decode cX9_isChoice 89 = .ok (.ifCond .le 20, 3) := by decide +kernel
theorem dX9_isChoice_92 : decode cX9_isChoice 92 = .ok (.iload_n 2, 1) := by decide +kernel
theorem dX9_isChoice_93 : decode cX9_isChoice 93 = .ok (.iconst 1, 1) := by decide +kernel
theorem dX9_isChoice_94 : decode cX9_isChoice 94 = .ok (.aload_n 0, 1) := by decide +kernel
theorem dX9_isChoice_95 : decode cX9_isChoice 95 = .ok (.getfield 12, 3) := by decide +kernel
theorem dX9_isChoice_98 : decode cX9_isChoice 98 = .ok (.getfield 148, 3) := by decide +kernel
theorem dX9_isChoice_101 : decode cX9_isChoice 101 = .ok (.ishl, 1) := by decide +kernel
theorem dX9_isChoice_102 : decode cX9_isChoice 102 = .ok (.if_icmp .ge 7, 3) := by decide +kernel
theorem dX9_isChoice_105 : decode cX9_isChoice 105 = .ok (.iconst 1, 1) := by decide +kernel
theorem dX9_isChoice_106 : decode cX9_isChoice 106 = .ok (.goto 4, 3) := by decide +kernel
theorem dX9_isChoice_109 : decode cX9_isChoice 109 = .ok (.iconst 0, 1) := by decide +kernel
theorem dX9_isChoice_110 : decode cX9_isChoice 110 = .ok (.ireturn, 1) := by decide +kernel
def e_X9_isChoice (a1 : Int32) (a2 : Int32) (σ : ES) : Option (Int32 × ES) := if a1 = 0 then ((e_X1_isOpenSet_1 σ a2).bind (fun r1 => if r1 = 0 then (some ((0 : Int32), σ)) else ((e_X1_isRing_1 σ a2).bind (fun r3 => if r3 = 0 then (some ((0 : Int32), σ)) else (some ((1 : Int32), σ)))))) else (if a1 = 1 then ((e_X1_isOpenSet_1 σ a2).bind (fun r5 => if r5 = 0 then (some ((0 : Int32), σ)) else ((e_X2_isTree_55_1 a2 σ).bind (fun r7 => if r7.1 = 0 then (some ((0 : Int32), r7.2)) else (some ((1 : Int32), r7.2)))))) else (if a2 ≤ 0 then (some ((0 : Int32), σ)) else (if ((1 : Int32) <<< ((eI σ 1 9) &&& 31)) ≤ a2 then (some ((0 : Int32), σ)) else (some ((1 : Int32), σ)))))
set_option maxRecDepth 100000 in
set_option maxHeartbeats 4000000 in
theorem k_X9_isChoice {l : Launch} {σ : ES} {a1 : Int32} {a2 : Int32} {out : (Int32 × ES)} (h : e_X9_isChoice a1 a2 σ = some out) : MK l yX9_isChoice cX9_isChoice 3 (some .boolean) 3 [.ref 0, .int a1, .int a2] (mkS σ) (some (.int out.1)) (mkS out.2) := by
  unfold e_X9_isChoice at h
  refine mw_entry (own := RX9) (ini := false) (L := [(0, .ref 0), (1, .int a1), (2, .int a2)]) (by decide +kernel) rfl (fun h => nomatch h) rfl (Nat.le_of_ble_eq_true rfl) (Nat.le_of_ble_eq_true rfl) (fun E => ?_)
  refine mw_iload_n dX9_isChoice_0 1 rfl ?_
  by_cases hs0 : a1 = 0
  · have h := mit hs0 h
    refine mv_look (tgt := 28) (off := 27) dX9_isChoice_1 rfl (by rw [hs0] <;> rfl) (by decide) ?_
    refine mw_aload_n dX9_isChoice_28 0 rfl ?_
    refine ev_getR (q := 1) fd_RX9_12_8 dX9_isChoice_29 rfl rfl rfl ?_
    refine mw_iload_n dX9_isChoice_32 2 rfl ?_
    obtain ⟨r1, e2, h⟩ := mbd h
    refine mv_callV_i (As := [.int a2]) (ci := 0) lkV_RX9_282_yX1_isOpenSet dX9_isChoice_33 (k_X1_isOpenSet_1 e2) rfl rfl rfl rfl (Nat.le_of_ble_eq_true rfl) (by decide) (by decide) ?_
    refine mw_if_eq (tgt := 54) dX9_isChoice_36 (by decide) (fun hc => ?_) (fun hc => ?_)
    · have h := mit hc h
      refine mw_iconst (v := 0) dX9_isChoice_54 (by decide) ?_
      exact mw_zret dX9_isChoice_55 rfl (by decide) (ers_im h) rfl rfl
    · have h := mie hc h
      refine mw_aload_n dX9_isChoice_39 0 rfl ?_
      refine ev_getR (q := 1) fd_RX9_12_8 dX9_isChoice_40 rfl rfl rfl ?_
      refine mw_iload_n dX9_isChoice_43 2 rfl ?_
      obtain ⟨r3, e4, h⟩ := mbd h
      refine mv_callV_i (As := [.int a2]) (ci := 0) lkV_RX9_285_yX1_isRing dX9_isChoice_44 (k_X1_isRing_1 e4) rfl rfl rfl rfl (Nat.le_of_ble_eq_true rfl) (by decide) (by decide) ?_
      refine mw_if_eq (tgt := 54) dX9_isChoice_47 (by decide) (fun hc => ?_) (fun hc => ?_)
      · have h := mit hc h
        refine mw_iconst (v := 0) dX9_isChoice_54 (by decide) ?_
        exact mw_zret dX9_isChoice_55 rfl (by decide) (ers_im h) rfl rfl
      · have h := mie hc h
        refine mw_iconst (v := 1) dX9_isChoice_50 (by decide) ?_
        refine mw_goto (tgt := 55) dX9_isChoice_51 (by decide) ?_
        exact mw_zret dX9_isChoice_55 rfl (by decide) (ers_im h) rfl rfl
  have h := mie hs0 h
  by_cases hs1 : a1 = 1
  · have h := mit hs1 h
    refine mv_look (tgt := 56) (off := 55) dX9_isChoice_1 rfl (by rw [hs1] <;> rfl) (by decide) ?_
    refine mw_aload_n dX9_isChoice_56 0 rfl ?_
    refine ev_getR (q := 1) fd_RX9_12_8 dX9_isChoice_57 rfl rfl rfl ?_
    refine mw_iload_n dX9_isChoice_60 2 rfl ?_
    obtain ⟨r5, e6, h⟩ := mbd h
    refine mv_callV_i (As := [.int a2]) (ci := 0) lkV_RX9_282_yX1_isOpenSet dX9_isChoice_61 (k_X1_isOpenSet_1 e6) rfl rfl rfl rfl (Nat.le_of_ble_eq_true rfl) (by decide) (by decide) ?_
    refine mw_if_eq (tgt := 86) dX9_isChoice_64 (by decide) (fun hc => ?_) (fun hc => ?_)
    · have h := mit hc h
      refine mw_iconst (v := 0) dX9_isChoice_86 (by decide) ?_
      exact mw_zret dX9_isChoice_87 rfl (by decide) (ers_im h) rfl rfl
    · have h := mie hc h
      refine mw_aload_n dX9_isChoice_67 0 rfl ?_
      refine ev_getR (q := 55) fd_RX9_53_8 dX9_isChoice_68 rfl rfl rfl ?_
      refine mw_aload_n dX9_isChoice_71 0 rfl ?_
      refine ev_getR (q := 1) fd_RX9_12_8 dX9_isChoice_72 rfl rfl rfl ?_
      refine mw_iload_n dX9_isChoice_75 2 rfl ?_
      obtain ⟨r7, e8, h⟩ := mbd h
      refine mv_callV_i (As := [.ref 1, .int a2]) (ci := 1) lkV_RX9_288_yX2_isTree dX9_isChoice_76 (k_X2_isTree_55_1 e8) rfl rfl rfl rfl (Nat.le_of_ble_eq_true rfl) (by decide) (by decide) ?_
      refine mw_if_eq (tgt := 86) dX9_isChoice_79 (by decide) (fun hc => ?_) (fun hc => ?_)
      · have h := mit hc h
        refine mw_iconst (v := 0) dX9_isChoice_86 (by decide) ?_
        exact mw_zret dX9_isChoice_87 rfl (by decide) (ers_im h) rfl rfl
      · have h := mie hc h
        refine mw_iconst (v := 1) dX9_isChoice_82 (by decide) ?_
        refine mw_goto (tgt := 87) dX9_isChoice_83 (by decide) ?_
        exact mw_zret dX9_isChoice_87 rfl (by decide) (ers_im h) rfl rfl
  have h := mie hs1 h
  refine mv_look (tgt := 88) (off := 87) dX9_isChoice_1 rfl (mlook2 (mne32 hs0) (mne32 hs1)) (by decide) ?_
  refine mw_iload_n dX9_isChoice_88 2 rfl ?_
  refine mw_if_le (tgt := 109) dX9_isChoice_89 (by decide) (fun hc => ?_) (fun hc => ?_)
  · have h := mit hc h
    refine mw_iconst (v := 0) dX9_isChoice_109 (by decide) ?_
    exact mw_zret dX9_isChoice_110 rfl (by decide) (ers_im h) rfl rfl
  · have h := mie hc h
    refine mw_iload_n dX9_isChoice_92 2 rfl ?_
    refine mw_iconst (v := 1) dX9_isChoice_93 (by decide) ?_
    refine mw_aload_n dX9_isChoice_94 0 rfl ?_
    refine ev_getR (q := 1) fd_RX9_12_8 dX9_isChoice_95 rfl rfl rfl ?_
    refine ev_getI fd_RX9_148_0 dX9_isChoice_98 rfl rfl ?_
    refine mw_ishl dX9_isChoice_101 ?_
    refine mw_icmp_ge (tgt := 109) dX9_isChoice_102 (by decide) (fun hc => ?_) (fun hc => ?_)
    · have h := mit hc h
      refine mw_iconst (v := 0) dX9_isChoice_109 (by decide) ?_
      exact mw_zret dX9_isChoice_110 rfl (by decide) (ers_im h) rfl rfl
    · have h := mie hc h
      refine mw_iconst (v := 1) dX9_isChoice_105 (by decide) ?_
      refine mw_goto (tgt := 110) dX9_isChoice_106 (by decide) ?_
      exact mw_zret dX9_isChoice_110 rfl (by decide) (ers_im h) rfl rfl

theorem dX1_bringTogether_0 : decode cX1_bringTogether 0 = .ok (.lconst 0, 1) := by decide +kernel
theorem dX1_bringTogether_1 : decode cX1_bringTogether 1 = .ok (.lstore_n 2, 1) := by decide +kernel
theorem dX1_bringTogether_2 : decode cX1_bringTogether 2 = .ok (.iconst 0, 1) := by decide +kernel
theorem dX1_bringTogether_3 : decode cX1_bringTogether 3 = .ok (.istore 4, 2) := by decide +kernel
theorem dX1_bringTogether_5 : decode cX1_bringTogether 5 = .ok (.iload 4, 2) := by decide +kernel
theorem dX1_bringTogether_7 : decode cX1_bringTogether 7 = .ok (.aload_n 0, 1) := by decide +kernel
theorem dX1_bringTogether_8 : decode cX1_bringTogether 8 = .ok (.getfield 44, 3) := by decide +kernel
theorem dX1_bringTogether_11 : decode cX1_bringTogether 11 = .ok (.if_icmp .ge 28, 3) := by decide +kernel
theorem dX1_bringTogether_14 : decode cX1_bringTogether 14 = .ok (.iload_n 1, 1) := by decide +kernel
theorem dX1_bringTogether_15 : decode cX1_bringTogether 15 = .ok (.iconst 1, 1) := by decide +kernel
theorem dX1_bringTogether_16 : decode cX1_bringTogether 16 = .ok (.iload 4, 2) := by decide +kernel
theorem dX1_bringTogether_18 : decode cX1_bringTogether 18 = .ok (.ishl, 1) := by decide +kernel
theorem dX1_bringTogether_19 : decode cX1_bringTogether 19 = .ok (.iand, 1) := by decide +kernel
theorem dX1_bringTogether_20 : decode cX1_bringTogether 20 = .ok (.ifCond .eq 13, 3) := by decide +kernel
theorem dX1_bringTogether_23 : decode cX1_bringTogether 23 = .ok (.lload_n 2, 1) := by decide +kernel
theorem dX1_bringTogether_24 : decode cX1_bringTogether 24 = .ok (.aload_n 0, 1) := by decide +kernel
theorem dX1_bringTogether_25 : decode cX1_bringTogether 25 = .ok (.iload 4, 2) := by decide +kernel
theorem dX1_bringTogether_27 : decode cX1_bringTogether 27 = .ok (.invokevirtual 70, 3) := by decide +kernel
theorem dX1_bringTogether_30 : decode cX1_bringTogether 30 = .ok (.i2l, 1) := by decide +kernel
theorem dX1_bringTogether_31 : decode cX1_bringTogether 31 = .ok (.ladd, 1) := by decide +kernel
theorem dX1_bringTogether_32 : decode cX1_bringTogether 32 = .ok (.lstore_n 2, 1) := by decide +kernel
theorem dX1_bringTogether_33 : decode cX1_bringTogether 33 = .ok (.iinc 4 1, 3) := by decide +kernel
theorem dX1_bringTogether_36 : decode cX1_bringTogether 36 = .ok (.goto (-31), 3) := by decide +kernel
theorem dX1_bringTogether_39 : decode cX1_bringTogether 39 = .ok (.lload_n 2, 1) := by decide +kernel
theorem dX1_bringTogether_40 : decode cX1_bringTogether 40 = .ok (.lreturn, 1) := by decide +kernel
def e_X1_bringTogether_1_L5 (σ : ES) (a1 : Int32) : Nat → Int64 → Int32 → Option Int64
  | 0, _, _ => none
  | n + 1, x2, x4 => if (eI σ 1 2) ≤ x4 then (some x2) else (if (a1 &&& ((1 : Int32) <<< (x4 &&& 31))) = 0 then (e_X1_bringTogether_1_L5 σ a1 n x2 (x4 + 1)) else ((e_X1_bringsOf_1 σ x4).bind (fun r1 => e_X1_bringTogether_1_L5 σ a1 n (x2 + r1.toInt64) (x4 + 1))))
set_option maxRecDepth 100000 in
set_option maxHeartbeats 4000000 in
theorem p_X1_bringTogether_1_L5 {l : Launch} {E : MX} {out : Int64} {σ : ES} {a1 : Int32}  : ∀ (n : Nat) (x2 : Int64) (x4 : Int32), e_X1_bringTogether_1_L5 σ a1 n x2 x4 = some out → MV l E cX1_bringTogether RX1 5 (some .long) 6 (82, (some (.long out)), mkS σ) (mkS σ) 5 [(0, .ref 1), (1, .int a1), (2, .long x2), (4, .int x4)] [] := by
  intro n
  induction n with
  | zero =>
    intro x2 x4 h
    exact nomatch h
  | succ n ih =>
    intro x2 x4 h
    rw [e_X1_bringTogether_1_L5] at h
    refine mw_iload dX1_bringTogether_5 3 rfl ?_
    refine mw_aload_n dX1_bringTogether_7 0 rfl ?_
    refine ev_getI fd_RX1_44_0 dX1_bringTogether_8 rfl rfl ?_
    refine mw_icmp_ge (tgt := 39) dX1_bringTogether_11 (by decide) (fun hc => ?_) (fun hc => ?_)
    · have h := mit hc h
      refine mw_lload_n dX1_bringTogether_39 2 rfl ?_
      exact mw_lret dX1_bringTogether_40 rfl (ers_l h) rfl rfl
    · have h := mie hc h
      refine mw_iload_n dX1_bringTogether_14 1 rfl ?_
      refine mw_iconst (v := 1) dX1_bringTogether_15 (by decide) ?_
      refine mw_iload dX1_bringTogether_16 3 rfl ?_
      refine mw_ishl dX1_bringTogether_18 ?_
      refine mw_iand dX1_bringTogether_19 ?_
      refine mw_if_eq (tgt := 33) dX1_bringTogether_20 (by decide) (fun hc => ?_) (fun hc => ?_)
      · have h := mit hc h
        refine mw_iinc (v := (x4 + 1)) (L' := [(4, .int (x4 + 1)), (0, .ref 1), (1, .int a1), (2, .long x2)]) dX1_bringTogether_33 3 rfl rfl (by decide) rfl ?_
        refine mw_goto (tgt := 5) dX1_bringTogether_36 (by decide) ?_
        exact mw_sub (L' := [(0, .ref 1), (1, .int a1), (2, .long x2), (4, .int (x4 + 1))]) [1, 2, 3, 0] rfl (ih _ _ h)
      · have h := mie hc h
        refine mw_lload_n dX1_bringTogether_23 2 rfl ?_
        refine mw_aload_n dX1_bringTogether_24 0 rfl ?_
        refine mw_iload dX1_bringTogether_25 3 rfl ?_
        obtain ⟨r1, e2, h⟩ := mbd h
        refine mv_callV_i (As := [.int x4]) (ci := 0) lkV_RX1_70_yX1_bringsOf dX1_bringTogether_27 (k_X1_bringsOf_1 e2) rfl rfl rfl rfl (Nat.le_of_ble_eq_true rfl) (by decide) (by decide) ?_
        refine mw_i2l dX1_bringTogether_30 ?_
        refine mw_ladd dX1_bringTogether_31 ?_
        refine mw_lstore_n (L' := [(2, .long (x2 + r1.toInt64)), (0, .ref 1), (1, .int a1), (4, .int x4)]) dX1_bringTogether_32 rfl (by decide) rfl ?_
        refine mw_iinc (v := (x4 + 1)) (L' := [(4, .int (x4 + 1)), (2, .long (x2 + r1.toInt64)), (0, .ref 1), (1, .int a1)]) dX1_bringTogether_33 3 rfl rfl (by decide) rfl ?_
        refine mw_goto (tgt := 5) dX1_bringTogether_36 (by decide) ?_
        exact mw_sub (L' := [(0, .ref 1), (1, .int a1), (2, .long (x2 + r1.toInt64)), (4, .int (x4 + 1))]) [2, 3, 1, 0] rfl (ih _ _ h)
def e_X1_bringTogether_1 (σ : ES) (a1 : Int32) : Option Int64 := e_X1_bringTogether_1_L5 σ a1 mN (0 : Int64) (0 : Int32)
set_option maxRecDepth 100000 in
set_option maxHeartbeats 4000000 in
theorem k_X1_bringTogether_1 {l : Launch} {σ : ES} {a1 : Int32} {out : Int64} (h : e_X1_bringTogether_1 σ a1 = some out) : MK l yX1_bringTogether cX1_bringTogether 5 (some .long) 6 [.ref 1, .int a1] (mkS σ) (some (.long out)) (mkS σ) := by
  unfold e_X1_bringTogether_1 at h
  refine mw_entry (own := RX1) (ini := false) (L := [(0, .ref 1), (1, .int a1)]) (by decide +kernel) rfl (fun h => nomatch h) rfl (Nat.le_of_ble_eq_true rfl) (Nat.le_of_ble_eq_true rfl) (fun E => ?_)
  refine mw_lconst (v := 0) dX1_bringTogether_0 (by decide) ?_
  refine mw_lstore_n (L' := [(2, .long (0 : Int64)), (0, .ref 1), (1, .int a1)]) dX1_bringTogether_1 rfl (by decide) rfl ?_
  refine mw_iconst (v := 0) dX1_bringTogether_2 (by decide) ?_
  refine mw_istore (L' := [(4, .int (0 : Int32)), (2, .long (0 : Int64)), (0, .ref 1), (1, .int a1)]) dX1_bringTogether_3 (by decide) rfl ?_
  exact mw_sub (L' := [(0, .ref 1), (1, .int a1), (2, .long (0 : Int64)), (4, .int (0 : Int32))]) [2, 3, 1, 0] rfl (p_X1_bringTogether_1_L5  mN _ _ h)

theorem dX1_lastTogether_0 : decode cX1_lastTogether 0 = .ok (.lconst 0, 1) := by decide +kernel
theorem dX1_lastTogether_1 : decode cX1_lastTogether 1 = .ok (.lstore_n 2, 1) := by decide +kernel
theorem dX1_lastTogether_2 : decode cX1_lastTogether 2 = .ok (.iconst 0, 1) := by decide +kernel
theorem dX1_lastTogether_3 : decode cX1_lastTogether 3 = .ok (.istore 4, 2) := by decide +kernel
theorem dX1_lastTogether_5 : decode cX1_lastTogether 5 = .ok (.iload 4, 2) := by decide +kernel
theorem dX1_lastTogether_7 : decode cX1_lastTogether 7 = .ok (.aload_n 0, 1) := by decide +kernel
theorem dX1_lastTogether_8 : decode cX1_lastTogether 8 = .ok (.getfield 44, 3) := by decide +kernel
theorem dX1_lastTogether_11 : decode cX1_lastTogether 11 = .ok (.if_icmp .ge 28, 3) := by decide +kernel
theorem dX1_lastTogether_14 : decode cX1_lastTogether 14 = .ok (.iload_n 1, 1) := by decide +kernel
theorem dX1_lastTogether_15 : decode cX1_lastTogether 15 = .ok (.iconst 1, 1) := by decide +kernel
theorem dX1_lastTogether_16 : decode cX1_lastTogether 16 = .ok (.iload 4, 2) := by decide +kernel
theorem dX1_lastTogether_18 : decode cX1_lastTogether 18 = .ok (.ishl, 1) := by decide +kernel
theorem dX1_lastTogether_19 : decode cX1_lastTogether 19 = .ok (.iand, 1) := by decide +kernel
theorem dX1_lastTogether_20 : decode cX1_lastTogether 20 = .ok (.ifCond .eq 13, 3) := by decide +kernel
theorem dX1_lastTogether_23 : decode cX1_lastTogether 23 = .ok (.lload_n 2, 1) := by decide +kernel
theorem dX1_lastTogether_24 : decode cX1_lastTogether 24 = .ok (.aload_n 0, 1) := by decide +kernel
theorem dX1_lastTogether_25 : decode cX1_lastTogether 25 = .ok (.iload 4, 2) := by decide +kernel
theorem dX1_lastTogether_27 : decode cX1_lastTogether 27 = .ok (.invokevirtual 73, 3) := by decide +kernel
theorem dX1_lastTogether_30 : decode cX1_lastTogether 30 = .ok (.i2l, 1) := by decide +kernel
theorem dX1_lastTogether_31 : decode cX1_lastTogether 31 = .ok (.ladd, 1) := by decide +kernel
theorem dX1_lastTogether_32 : decode cX1_lastTogether 32 = .ok (.lstore_n 2, 1) := by decide +kernel
theorem dX1_lastTogether_33 : decode cX1_lastTogether 33 = .ok (.iinc 4 1, 3) := by decide +kernel
theorem dX1_lastTogether_36 : decode cX1_lastTogether 36 = .ok (.goto (-31), 3) := by decide +kernel
theorem dX1_lastTogether_39 : decode cX1_lastTogether 39 = .ok (.lload_n 2, 1) := by decide +kernel
theorem dX1_lastTogether_40 : decode cX1_lastTogether 40 = .ok (.lreturn, 1) := by decide +kernel
def e_X1_lastTogether_1_L5 (σ : ES) (a1 : Int32) : Nat → Int64 → Int32 → Option Int64
  | 0, _, _ => none
  | n + 1, x2, x4 => if (eI σ 1 2) ≤ x4 then (some x2) else (if (a1 &&& ((1 : Int32) <<< (x4 &&& 31))) = 0 then (e_X1_lastTogether_1_L5 σ a1 n x2 (x4 + 1)) else ((e_X1_lastsOf_1 σ x4).bind (fun r1 => e_X1_lastTogether_1_L5 σ a1 n (x2 + r1.toInt64) (x4 + 1))))
set_option maxRecDepth 100000 in
set_option maxHeartbeats 4000000 in
theorem p_X1_lastTogether_1_L5 {l : Launch} {E : MX} {out : Int64} {σ : ES} {a1 : Int32}  : ∀ (n : Nat) (x2 : Int64) (x4 : Int32), e_X1_lastTogether_1_L5 σ a1 n x2 x4 = some out → MV l E cX1_lastTogether RX1 5 (some .long) 6 (82, (some (.long out)), mkS σ) (mkS σ) 5 [(0, .ref 1), (1, .int a1), (2, .long x2), (4, .int x4)] [] := by
  intro n
  induction n with
  | zero =>
    intro x2 x4 h
    exact nomatch h
  | succ n ih =>
    intro x2 x4 h
    rw [e_X1_lastTogether_1_L5] at h
    refine mw_iload dX1_lastTogether_5 3 rfl ?_
    refine mw_aload_n dX1_lastTogether_7 0 rfl ?_
    refine ev_getI fd_RX1_44_0 dX1_lastTogether_8 rfl rfl ?_
    refine mw_icmp_ge (tgt := 39) dX1_lastTogether_11 (by decide) (fun hc => ?_) (fun hc => ?_)
    · have h := mit hc h
      refine mw_lload_n dX1_lastTogether_39 2 rfl ?_
      exact mw_lret dX1_lastTogether_40 rfl (ers_l h) rfl rfl
    · have h := mie hc h
      refine mw_iload_n dX1_lastTogether_14 1 rfl ?_
      refine mw_iconst (v := 1) dX1_lastTogether_15 (by decide) ?_
      refine mw_iload dX1_lastTogether_16 3 rfl ?_
      refine mw_ishl dX1_lastTogether_18 ?_
      refine mw_iand dX1_lastTogether_19 ?_
      refine mw_if_eq (tgt := 33) dX1_lastTogether_20 (by decide) (fun hc => ?_) (fun hc => ?_)
      · have h := mit hc h
        refine mw_iinc (v := (x4 + 1)) (L' := [(4, .int (x4 + 1)), (0, .ref 1), (1, .int a1), (2, .long x2)]) dX1_lastTogether_33 3 rfl rfl (by decide) rfl ?_
        refine mw_goto (tgt := 5) dX1_lastTogether_36 (by decide) ?_
        exact mw_sub (L' := [(0, .ref 1), (1, .int a1), (2, .long x2), (4, .int (x4 + 1))]) [1, 2, 3, 0] rfl (ih _ _ h)
      · have h := mie hc h
        refine mw_lload_n dX1_lastTogether_23 2 rfl ?_
        refine mw_aload_n dX1_lastTogether_24 0 rfl ?_
        refine mw_iload dX1_lastTogether_25 3 rfl ?_
        obtain ⟨r1, e2, h⟩ := mbd h
        refine mv_callV_i (As := [.int x4]) (ci := 0) lkV_RX1_73_yX1_lastsOf dX1_lastTogether_27 (k_X1_lastsOf_1 e2) rfl rfl rfl rfl (Nat.le_of_ble_eq_true rfl) (by decide) (by decide) ?_
        refine mw_i2l dX1_lastTogether_30 ?_
        refine mw_ladd dX1_lastTogether_31 ?_
        refine mw_lstore_n (L' := [(2, .long (x2 + r1.toInt64)), (0, .ref 1), (1, .int a1), (4, .int x4)]) dX1_lastTogether_32 rfl (by decide) rfl ?_
        refine mw_iinc (v := (x4 + 1)) (L' := [(4, .int (x4 + 1)), (2, .long (x2 + r1.toInt64)), (0, .ref 1), (1, .int a1)]) dX1_lastTogether_33 3 rfl rfl (by decide) rfl ?_
        refine mw_goto (tgt := 5) dX1_lastTogether_36 (by decide) ?_
        exact mw_sub (L' := [(0, .ref 1), (1, .int a1), (2, .long (x2 + r1.toInt64)), (4, .int (x4 + 1))]) [2, 3, 1, 0] rfl (ih _ _ h)
def e_X1_lastTogether_1 (σ : ES) (a1 : Int32) : Option Int64 := e_X1_lastTogether_1_L5 σ a1 mN (0 : Int64) (0 : Int32)
set_option maxRecDepth 100000 in
set_option maxHeartbeats 4000000 in
theorem k_X1_lastTogether_1 {l : Launch} {σ : ES} {a1 : Int32} {out : Int64} (h : e_X1_lastTogether_1 σ a1 = some out) : MK l yX1_lastTogether cX1_lastTogether 5 (some .long) 6 [.ref 1, .int a1] (mkS σ) (some (.long out)) (mkS σ) := by
  unfold e_X1_lastTogether_1 at h
  refine mw_entry (own := RX1) (ini := false) (L := [(0, .ref 1), (1, .int a1)]) (by decide +kernel) rfl (fun h => nomatch h) rfl (Nat.le_of_ble_eq_true rfl) (Nat.le_of_ble_eq_true rfl) (fun E => ?_)
  refine mw_lconst (v := 0) dX1_lastTogether_0 (by decide) ?_
  refine mw_lstore_n (L' := [(2, .long (0 : Int64)), (0, .ref 1), (1, .int a1)]) dX1_lastTogether_1 rfl (by decide) rfl ?_
  refine mw_iconst (v := 0) dX1_lastTogether_2 (by decide) ?_
  refine mw_istore (L' := [(4, .int (0 : Int32)), (2, .long (0 : Int64)), (0, .ref 1), (1, .int a1)]) dX1_lastTogether_3 (by decide) rfl ?_
  exact mw_sub (L' := [(0, .ref 1), (1, .int a1), (2, .long (0 : Int64)), (4, .int (0 : Int32))]) [2, 3, 1, 0] rfl (p_X1_lastTogether_1_L5  mN _ _ h)

theorem dX1_sumWithBase_0 : decode cX1_sumWithBase 0 = .ok (.aload_n 1, 1) := by decide +kernel
theorem dX1_sumWithBase_1 : decode cX1_sumWithBase 1 = .ok (.iconst 0, 1) := by decide +kernel
theorem dX1_sumWithBase_2 : decode cX1_sumWithBase 2 = .ok (.iaload, 1) := by decide +kernel
theorem dX1_sumWithBase_3 : decode cX1_sumWithBase 3 = .ok (.i2l, 1) := by decide +kernel
theorem dX1_sumWithBase_4 : decode cX1_sumWithBase 4 = .ok (.lstore_n 3, 1) := by decide +kernel
theorem dX1_sumWithBase_5 : decode cX1_sumWithBase 5 = .ok (.iconst 0, 1) := by decide +kernel
theorem dX1_sumWithBase_6 : decode cX1_sumWithBase 6 = .ok (.istore 5, 2) := by decide +kernel
theorem dX1_sumWithBase_8 : decode cX1_sumWithBase 8 = .ok (.iload 5, 2) := by decide +kernel
theorem dX1_sumWithBase_10 : decode cX1_sumWithBase 10 = .ok (.aload_n 0, 1) := by decide +kernel
theorem dX1_sumWithBase_11 : decode cX1_sumWithBase 11 = .ok (.getfield 47, 3) := by decide +kernel
theorem dX1_sumWithBase_14 : decode cX1_sumWithBase 14 = .ok (.if_icmp .ge 28, 3) := by decide +kernel
theorem dX1_sumWithBase_17 : decode cX1_sumWithBase 17 = .ok (.iload_n 2, 1) := by decide +kernel
theorem dX1_sumWithBase_18 : decode cX1_sumWithBase 18 = .ok (.iconst 1, 1) := by decide +kernel
theorem dX1_sumWithBase_19 : decode cX1_sumWithBase 19 = .ok (.iload 5, 2) := by decide +kernel
theorem dX1_sumWithBase_21 : decode cX1_sumWithBase 21 = .ok (.ishl, 1) := by decide +kernel
theorem dX1_sumWithBase_22 : decode cX1_sumWithBase 22 = .ok (.iand, 1) := by decide +kernel
theorem dX1_sumWithBase_23 : decode cX1_sumWithBase 23 = .ok (.ifCond .eq 13, 3) := by decide +kernel
theorem dX1_sumWithBase_26 : decode cX1_sumWithBase 26 = .ok (.lload_n 3, 1) := by decide +kernel
theorem dX1_sumWithBase_27 : decode cX1_sumWithBase 27 = .ok (.aload_n 1, 1) := by decide +kernel
theorem dX1_sumWithBase_28 : decode cX1_sumWithBase 28 = .ok (.iload 5, 2) := by decide +kernel
theorem dX1_sumWithBase_30 : decode cX1_sumWithBase 30 = .ok (.iconst 1, 1) := by decide +kernel
theorem dX1_sumWithBase_31 : decode cX1_sumWithBase 31 = .ok (.iadd, 1) := by decide +kernel
theorem dX1_sumWithBase_32 : decode cX1_sumWithBase 32 = .ok (.iaload, 1) := by decide +kernel
theorem dX1_sumWithBase_33 : decode cX1_sumWithBase 33 = .ok (.i2l, 1) := by decide +kernel
theorem dX1_sumWithBase_34 : decode cX1_sumWithBase 34 = .ok (.ladd, 1) := by decide +kernel
theorem dX1_sumWithBase_35 : decode cX1_sumWithBase 35 = .ok (.lstore_n 3, 1) := by decide +kernel
theorem dX1_sumWithBase_36 : decode cX1_sumWithBase 36 = .ok (.iinc 5 1, 3) := by decide +kernel
theorem dX1_sumWithBase_39 : decode cX1_sumWithBase 39 = .ok (.goto (-31), 3) := by decide +kernel
theorem dX1_sumWithBase_42 : decode cX1_sumWithBase 42 = .ok (.lload_n 3, 1) := by decide +kernel
theorem dX1_sumWithBase_43 : decode cX1_sumWithBase 43 = .ok (.lreturn, 1) := by decide +kernel
def e_X1_sumWithBase_1_8_L8 (σ : ES) (a2 : Int32) : Nat → Int64 → Int32 → Option Int64
  | 0, _, _ => none
  | n + 1, x3, x5 => if (eI σ 1 9) ≤ x5 then (some x3) else (if (a2 &&& ((1 : Int32) <<< (x5 &&& 31))) = 0 then (e_X1_sumWithBase_1_8_L8 σ a2 n x3 (x5 + 1)) else (if mib (x5 + (1 : Int32)) 13 = true then (e_X1_sumWithBase_1_8_L8 σ a2 n (x3 + (eI σ 8 (x5 + (1 : Int32)).toNatClampNeg).toInt64) (x5 + 1)) else none))
set_option maxRecDepth 100000 in
set_option maxHeartbeats 4000000 in
theorem p_X1_sumWithBase_1_8_L8 {l : Launch} {E : MX} {out : Int64} {σ : ES} {a2 : Int32}  : ∀ (n : Nat) (x3 : Int64) (x5 : Int32), e_X1_sumWithBase_1_8_L8 σ a2 n x3 x5 = some out → MV l E cX1_sumWithBase RX1 6 (some .long) 1 (82, (some (.long out)), mkS σ) (mkS σ) 8 [(0, .ref 1), (1, .ref 8), (2, .int a2), (3, .long x3), (5, .int x5)] [] := by
  intro n
  induction n with
  | zero =>
    intro x3 x5 h
    exact nomatch h
  | succ n ih =>
    intro x3 x5 h
    rw [e_X1_sumWithBase_1_8_L8] at h
    refine mw_iload dX1_sumWithBase_8 4 rfl ?_
    refine mw_aload_n dX1_sumWithBase_10 0 rfl ?_
    refine ev_getI fd_RX1_47_0 dX1_sumWithBase_11 rfl rfl ?_
    refine mw_icmp_ge (tgt := 42) dX1_sumWithBase_14 (by decide) (fun hc => ?_) (fun hc => ?_)
    · have h := mit hc h
      refine mw_lload_n dX1_sumWithBase_42 3 rfl ?_
      exact mw_lret dX1_sumWithBase_43 rfl (ers_l h) rfl rfl
    · have h := mie hc h
      refine mw_iload_n dX1_sumWithBase_17 2 rfl ?_
      refine mw_iconst (v := 1) dX1_sumWithBase_18 (by decide) ?_
      refine mw_iload dX1_sumWithBase_19 4 rfl ?_
      refine mw_ishl dX1_sumWithBase_21 ?_
      refine mw_iand dX1_sumWithBase_22 ?_
      refine mw_if_eq (tgt := 36) dX1_sumWithBase_23 (by decide) (fun hc => ?_) (fun hc => ?_)
      · have h := mit hc h
        refine mw_iinc (v := (x5 + 1)) (L' := [(5, .int (x5 + 1)), (0, .ref 1), (1, .ref 8), (2, .int a2), (3, .long x3)]) dX1_sumWithBase_36 4 rfl rfl (by decide) rfl ?_
        refine mw_goto (tgt := 8) dX1_sumWithBase_39 (by decide) ?_
        exact mw_sub (L' := [(0, .ref 1), (1, .ref 8), (2, .int a2), (3, .long x3), (5, .int (x5 + 1))]) [1, 2, 3, 4, 0] rfl (ih _ _ h)
      · have h := mie hc h
        refine mw_lload_n dX1_sumWithBase_26 3 rfl ?_
        refine mw_aload_n dX1_sumWithBase_27 1 rfl ?_
        refine mw_iload dX1_sumWithBase_28 4 rfl ?_
        refine mw_iconst (v := 1) dX1_sumWithBase_30 (by decide) ?_
        refine mw_iadd dX1_sumWithBase_31 ?_
        obtain ⟨m1, h⟩ := mif h
        refine ev_iald dX1_sumWithBase_32 (by decide) rfl m1 ?_
        refine mw_i2l dX1_sumWithBase_33 ?_
        refine mw_ladd dX1_sumWithBase_34 ?_
        refine mw_lstore_n (L' := [(3, .long (x3 + (eI σ 8 (x5 + (1 : Int32)).toNatClampNeg).toInt64)), (0, .ref 1), (1, .ref 8), (2, .int a2), (5, .int x5)]) dX1_sumWithBase_35 rfl (by decide) rfl ?_
        refine mw_iinc (v := (x5 + 1)) (L' := [(5, .int (x5 + 1)), (3, .long (x3 + (eI σ 8 (x5 + (1 : Int32)).toNatClampNeg).toInt64)), (0, .ref 1), (1, .ref 8), (2, .int a2)]) dX1_sumWithBase_36 4 rfl rfl (by decide) rfl ?_
        refine mw_goto (tgt := 8) dX1_sumWithBase_39 (by decide) ?_
        exact mw_sub (L' := [(0, .ref 1), (1, .ref 8), (2, .int a2), (3, .long (x3 + (eI σ 8 (x5 + (1 : Int32)).toNatClampNeg).toInt64)), (5, .int (x5 + 1))]) [2, 3, 4, 1, 0] rfl (ih _ _ h)
def e_X1_sumWithBase_1_8 (σ : ES) (a2 : Int32) : Option Int64 := if mib (0 : Int32) 13 = true then (e_X1_sumWithBase_1_8_L8 σ a2 mN ((eI σ 8 (0 : Int32).toNatClampNeg).toInt64) (0 : Int32)) else none
set_option maxRecDepth 100000 in
set_option maxHeartbeats 4000000 in
theorem k_X1_sumWithBase_1_8 {l : Launch} {σ : ES} {a2 : Int32} {out : Int64} (h : e_X1_sumWithBase_1_8 σ a2 = some out) : MK l yX1_sumWithBase cX1_sumWithBase 6 (some .long) 1 [.ref 1, .ref 8, .int a2] (mkS σ) (some (.long out)) (mkS σ) := by
  unfold e_X1_sumWithBase_1_8 at h
  refine mw_entry (own := RX1) (ini := false) (L := [(0, .ref 1), (1, .ref 8), (2, .int a2)]) (by decide +kernel) rfl (fun h => nomatch h) rfl (Nat.le_of_ble_eq_true rfl) (Nat.le_of_ble_eq_true rfl) (fun E => ?_)
  refine mw_aload_n dX1_sumWithBase_0 1 rfl ?_
  refine mw_iconst (v := 0) dX1_sumWithBase_1 (by decide) ?_
  obtain ⟨m1, h⟩ := mif h
  refine ev_iald dX1_sumWithBase_2 (by decide) rfl m1 ?_
  refine mw_i2l dX1_sumWithBase_3 ?_
  refine mw_lstore_n (L' := [(3, .long (eI σ 8 (0 : Int32).toNatClampNeg).toInt64), (0, .ref 1), (1, .ref 8), (2, .int a2)]) dX1_sumWithBase_4 rfl (by decide) rfl ?_
  refine mw_iconst (v := 0) dX1_sumWithBase_5 (by decide) ?_
  refine mw_istore (L' := [(5, .int (0 : Int32)), (3, .long (eI σ 8 (0 : Int32).toNatClampNeg).toInt64), (0, .ref 1), (1, .ref 8), (2, .int a2)]) dX1_sumWithBase_6 (by decide) rfl ?_
  exact mw_sub (L' := [(0, .ref 1), (1, .ref 8), (2, .int a2), (3, .long (eI σ 8 (0 : Int32).toNatClampNeg).toInt64), (5, .int (0 : Int32))]) [2, 3, 4, 1, 0] rfl (p_X1_sumWithBase_1_8_L8  mN _ _ h)

theorem dX1_gainTogether_0 : decode cX1_gainTogether 0 = .ok (.aload_n 0, 1) := by decide +kernel
theorem dX1_gainTogether_1 : decode cX1_gainTogether 1 = .ok (.aload_n 0, 1) := by decide +kernel
theorem dX1_gainTogether_2 : decode cX1_gainTogether 2 = .ok (.getfield 34, 3) := by decide +kernel
theorem dX1_gainTogether_5 : decode cX1_gainTogether 5 = .ok (.iload_n 1, 1) := by decide +kernel
theorem dX1_gainTogether_6 : decode cX1_gainTogether 6 = .ok (.invokevirtual 76, 3) := by decide +kernel
theorem dX1_gainTogether_9 : decode cX1_gainTogether 9 = .ok (.lreturn, 1) := by decide +kernel
def e_X1_gainTogether_1 (σ : ES) (a1 : Int32) : Option Int64 := (e_X1_sumWithBase_1_8 σ a1).bind (fun r1 => some r1)
set_option maxRecDepth 100000 in
set_option maxHeartbeats 4000000 in
theorem k_X1_gainTogether_1 {l : Launch} {σ : ES} {a1 : Int32} {out : Int64} (h : e_X1_gainTogether_1 σ a1 = some out) : MK l yX1_gainTogether cX1_gainTogether 2 (some .long) 2 [.ref 1, .int a1] (mkS σ) (some (.long out)) (mkS σ) := by
  unfold e_X1_gainTogether_1 at h
  refine mw_entry (own := RX1) (ini := false) (L := [(0, .ref 1), (1, .int a1)]) (by decide +kernel) rfl (fun h => nomatch h) rfl (Nat.le_of_ble_eq_true rfl) (Nat.le_of_ble_eq_true rfl) (fun E => ?_)
  refine mw_aload_n dX1_gainTogether_0 0 rfl ?_
  refine mw_aload_n dX1_gainTogether_1 0 rfl ?_
  refine ev_getR (q := 8) fd_RX1_34_0 dX1_gainTogether_2 rfl rfl rfl ?_
  refine mw_iload_n dX1_gainTogether_5 1 rfl ?_
  obtain ⟨r1, e2, h⟩ := mbd h
  refine mv_callV_l (As := [.ref 8, .int a1]) (ci := 0) lkV_RX1_76_yX1_sumWithBase dX1_gainTogether_6 (k_X1_sumWithBase_1_8 e2) rfl rfl rfl rfl (Nat.le_of_ble_eq_true rfl) (by decide) (by decide) ?_
  exact mw_lret dX1_gainTogether_9 rfl (ers_l h) rfl rfl

def e_X1_sumWithBase_1_9_L8 (σ : ES) (a2 : Int32) : Nat → Int64 → Int32 → Option Int64
  | 0, _, _ => none
  | n + 1, x3, x5 => if (eI σ 1 9) ≤ x5 then (some x3) else (if (a2 &&& ((1 : Int32) <<< (x5 &&& 31))) = 0 then (e_X1_sumWithBase_1_9_L8 σ a2 n x3 (x5 + 1)) else (if mib (x5 + (1 : Int32)) 13 = true then (e_X1_sumWithBase_1_9_L8 σ a2 n (x3 + (eI σ 9 (x5 + (1 : Int32)).toNatClampNeg).toInt64) (x5 + 1)) else none))
set_option maxRecDepth 100000 in
set_option maxHeartbeats 4000000 in
theorem p_X1_sumWithBase_1_9_L8 {l : Launch} {E : MX} {out : Int64} {σ : ES} {a2 : Int32}  : ∀ (n : Nat) (x3 : Int64) (x5 : Int32), e_X1_sumWithBase_1_9_L8 σ a2 n x3 x5 = some out → MV l E cX1_sumWithBase RX1 6 (some .long) 1 (82, (some (.long out)), mkS σ) (mkS σ) 8 [(0, .ref 1), (1, .ref 9), (2, .int a2), (3, .long x3), (5, .int x5)] [] := by
  intro n
  induction n with
  | zero =>
    intro x3 x5 h
    exact nomatch h
  | succ n ih =>
    intro x3 x5 h
    rw [e_X1_sumWithBase_1_9_L8] at h
    refine mw_iload dX1_sumWithBase_8 4 rfl ?_
    refine mw_aload_n dX1_sumWithBase_10 0 rfl ?_
    refine ev_getI fd_RX1_47_0 dX1_sumWithBase_11 rfl rfl ?_
    refine mw_icmp_ge (tgt := 42) dX1_sumWithBase_14 (by decide) (fun hc => ?_) (fun hc => ?_)
    · have h := mit hc h
      refine mw_lload_n dX1_sumWithBase_42 3 rfl ?_
      exact mw_lret dX1_sumWithBase_43 rfl (ers_l h) rfl rfl
    · have h := mie hc h
      refine mw_iload_n dX1_sumWithBase_17 2 rfl ?_
      refine mw_iconst (v := 1) dX1_sumWithBase_18 (by decide) ?_
      refine mw_iload dX1_sumWithBase_19 4 rfl ?_
      refine mw_ishl dX1_sumWithBase_21 ?_
      refine mw_iand dX1_sumWithBase_22 ?_
      refine mw_if_eq (tgt := 36) dX1_sumWithBase_23 (by decide) (fun hc => ?_) (fun hc => ?_)
      · have h := mit hc h
        refine mw_iinc (v := (x5 + 1)) (L' := [(5, .int (x5 + 1)), (0, .ref 1), (1, .ref 9), (2, .int a2), (3, .long x3)]) dX1_sumWithBase_36 4 rfl rfl (by decide) rfl ?_
        refine mw_goto (tgt := 8) dX1_sumWithBase_39 (by decide) ?_
        exact mw_sub (L' := [(0, .ref 1), (1, .ref 9), (2, .int a2), (3, .long x3), (5, .int (x5 + 1))]) [1, 2, 3, 4, 0] rfl (ih _ _ h)
      · have h := mie hc h
        refine mw_lload_n dX1_sumWithBase_26 3 rfl ?_
        refine mw_aload_n dX1_sumWithBase_27 1 rfl ?_
        refine mw_iload dX1_sumWithBase_28 4 rfl ?_
        refine mw_iconst (v := 1) dX1_sumWithBase_30 (by decide) ?_
        refine mw_iadd dX1_sumWithBase_31 ?_
        obtain ⟨m1, h⟩ := mif h
        refine ev_iald dX1_sumWithBase_32 (by decide) rfl m1 ?_
        refine mw_i2l dX1_sumWithBase_33 ?_
        refine mw_ladd dX1_sumWithBase_34 ?_
        refine mw_lstore_n (L' := [(3, .long (x3 + (eI σ 9 (x5 + (1 : Int32)).toNatClampNeg).toInt64)), (0, .ref 1), (1, .ref 9), (2, .int a2), (5, .int x5)]) dX1_sumWithBase_35 rfl (by decide) rfl ?_
        refine mw_iinc (v := (x5 + 1)) (L' := [(5, .int (x5 + 1)), (3, .long (x3 + (eI σ 9 (x5 + (1 : Int32)).toNatClampNeg).toInt64)), (0, .ref 1), (1, .ref 9), (2, .int a2)]) dX1_sumWithBase_36 4 rfl rfl (by decide) rfl ?_
        refine mw_goto (tgt := 8) dX1_sumWithBase_39 (by decide) ?_
        exact mw_sub (L' := [(0, .ref 1), (1, .ref 9), (2, .int a2), (3, .long (x3 + (eI σ 9 (x5 + (1 : Int32)).toNatClampNeg).toInt64)), (5, .int (x5 + 1))]) [2, 3, 4, 1, 0] rfl (ih _ _ h)
def e_X1_sumWithBase_1_9 (σ : ES) (a2 : Int32) : Option Int64 := if mib (0 : Int32) 13 = true then (e_X1_sumWithBase_1_9_L8 σ a2 mN ((eI σ 9 (0 : Int32).toNatClampNeg).toInt64) (0 : Int32)) else none
set_option maxRecDepth 100000 in
set_option maxHeartbeats 4000000 in
theorem k_X1_sumWithBase_1_9 {l : Launch} {σ : ES} {a2 : Int32} {out : Int64} (h : e_X1_sumWithBase_1_9 σ a2 = some out) : MK l yX1_sumWithBase cX1_sumWithBase 6 (some .long) 1 [.ref 1, .ref 9, .int a2] (mkS σ) (some (.long out)) (mkS σ) := by
  unfold e_X1_sumWithBase_1_9 at h
  refine mw_entry (own := RX1) (ini := false) (L := [(0, .ref 1), (1, .ref 9), (2, .int a2)]) (by decide +kernel) rfl (fun h => nomatch h) rfl (Nat.le_of_ble_eq_true rfl) (Nat.le_of_ble_eq_true rfl) (fun E => ?_)
  refine mw_aload_n dX1_sumWithBase_0 1 rfl ?_
  refine mw_iconst (v := 0) dX1_sumWithBase_1 (by decide) ?_
  obtain ⟨m1, h⟩ := mif h
  refine ev_iald dX1_sumWithBase_2 (by decide) rfl m1 ?_
  refine mw_i2l dX1_sumWithBase_3 ?_
  refine mw_lstore_n (L' := [(3, .long (eI σ 9 (0 : Int32).toNatClampNeg).toInt64), (0, .ref 1), (1, .ref 9), (2, .int a2)]) dX1_sumWithBase_4 rfl (by decide) rfl ?_
  refine mw_iconst (v := 0) dX1_sumWithBase_5 (by decide) ?_
  refine mw_istore (L' := [(5, .int (0 : Int32)), (3, .long (eI σ 9 (0 : Int32).toNatClampNeg).toInt64), (0, .ref 1), (1, .ref 9), (2, .int a2)]) dX1_sumWithBase_6 (by decide) rfl ?_
  exact mw_sub (L' := [(0, .ref 1), (1, .ref 9), (2, .int a2), (3, .long (eI σ 9 (0 : Int32).toNatClampNeg).toInt64), (5, .int (0 : Int32))]) [2, 3, 4, 1, 0] rfl (p_X1_sumWithBase_1_9_L8  mN _ _ h)

theorem dX1_timeTogether_0 : decode cX1_timeTogether 0 = .ok (.aload_n 0, 1) := by decide +kernel
theorem dX1_timeTogether_1 : decode cX1_timeTogether 1 = .ok (.aload_n 0, 1) := by decide +kernel
theorem dX1_timeTogether_2 : decode cX1_timeTogether 2 = .ok (.getfield 37, 3) := by decide +kernel
theorem dX1_timeTogether_5 : decode cX1_timeTogether 5 = .ok (.iload_n 1, 1) := by decide +kernel
theorem dX1_timeTogether_6 : decode cX1_timeTogether 6 = .ok (.invokevirtual 76, 3) := by decide +kernel
theorem dX1_timeTogether_9 : decode cX1_timeTogether 9 = .ok (.lreturn, 1) := by decide +kernel
def e_X1_timeTogether_1 (σ : ES) (a1 : Int32) : Option Int64 := (e_X1_sumWithBase_1_9 σ a1).bind (fun r1 => some r1)
set_option maxRecDepth 100000 in
set_option maxHeartbeats 4000000 in
theorem k_X1_timeTogether_1 {l : Launch} {σ : ES} {a1 : Int32} {out : Int64} (h : e_X1_timeTogether_1 σ a1 = some out) : MK l yX1_timeTogether cX1_timeTogether 2 (some .long) 2 [.ref 1, .int a1] (mkS σ) (some (.long out)) (mkS σ) := by
  unfold e_X1_timeTogether_1 at h
  refine mw_entry (own := RX1) (ini := false) (L := [(0, .ref 1), (1, .int a1)]) (by decide +kernel) rfl (fun h => nomatch h) rfl (Nat.le_of_ble_eq_true rfl) (Nat.le_of_ble_eq_true rfl) (fun E => ?_)
  refine mw_aload_n dX1_timeTogether_0 0 rfl ?_
  refine mw_aload_n dX1_timeTogether_1 0 rfl ?_
  refine ev_getR (q := 9) fd_RX1_37_0 dX1_timeTogether_2 rfl rfl rfl ?_
  refine mw_iload_n dX1_timeTogether_5 1 rfl ?_
  obtain ⟨r1, e2, h⟩ := mbd h
  refine mv_callV_l (As := [.ref 9, .int a1]) (ci := 0) lkV_RX1_76_yX1_sumWithBase dX1_timeTogether_6 (k_X1_sumWithBase_1_9 e2) rfl rfl rfl rfl (Nat.le_of_ble_eq_true rfl) (by decide) (by decide) ?_
  exact mw_lret dX1_timeTogether_9 rfl (ers_l h) rfl rfl

theorem dX9_ratio_0 : decode cX9_ratio 0 = .ok (.iload_n 1, 1) := by decide +kernel
theorem dX9_ratio_1 : decode cX9_ratio 1 = .ok (.iconst 0, 1) := by decide +kernel
theorem dX9_ratio_2 : decode cX9_ratio 2 = .ok (.iconst 2, 1) := by decide +kernel
theorem dX9_ratio_3 : decode cX9_ratio 3 = .ok (.invokestatic 75, 3) := by decide +kernel
theorem dX9_ratio_6 : decode cX9_ratio 6 = .ok (.ifCond .eq 12, 3) := by decide +kernel
theorem dX9_ratio_9 : decode cX9_ratio 9 = .ok (.iload_n 3, 1) := by decide +kernel
theorem dX9_ratio_10 : decode cX9_ratio 10 = .ok (.iconst 0, 1) := by decide +kernel
theorem dX9_ratio_11 : decode cX9_ratio 11 = .ok (.iconst 1, 1) := by decide +kernel
theorem dX9_ratio_12 : decode cX9_ratio 12 = .ok (.invokestatic 75, 3) := by decide +kernel
theorem dX9_ratio_15 : decode cX9_ratio 15 = .ok (.ifCond .ne 9, 3) := by decide +kernel
theorem dX9_ratio_18 : decode cX9_ratio 18 = .ok (.aload_n 0, 1) := by decide +kernel
theorem dX9_ratio_19 : decode cX9_ratio 19 = .ok (.iconst 0, 1) := by decide +kernel
theorem dX9_ratio_20 : decode cX9_ratio 20 = .ok (.invokevirtual 164, 3) := by decide +kernel
theorem dX9_ratio_23 : decode cX9_ratio 23 = .ok (.lreturn, 1) := by decide +kernel
theorem dX9_ratio_24 : decode cX9_ratio 24 = .ok (.aload_n 0, 1) := by decide +kernel
theorem dX9_ratio_25 : decode cX9_ratio 25 = .ok (.iload_n 1, 1) := by decide +kernel
theorem dX9_ratio_26 : decode cX9_ratio 26 = .ok (.iload_n 2, 1) := by decide +kernel
theorem dX9_ratio_27 : decode cX9_ratio 27 = .ok (.invokevirtual 267, 3) := by decide +kernel
theorem dX9_ratio_30 : decode cX9_ratio 30 = .ok (.ifCond .ne 9, 3) := by decide +kernel
theorem dX9_ratio_33 : decode cX9_ratio 33 = .ok (.aload_n 0, 1) := by decide +kernel
theorem dX9_ratio_34 : decode cX9_ratio 34 = .ok (.iconst 4, 1) := by decide +kernel
theorem dX9_ratio_35 : decode cX9_ratio 35 = .ok (.invokevirtual 164, 3) := by decide +kernel
theorem dX9_ratio_38 : decode cX9_ratio 38 = .ok (.lreturn, 1) := by decide +kernel
theorem dX9_ratio_39 : decode cX9_ratio 39 = .ok (.iload_n 1, 1) := by decide +kernel
theorem dX9_ratio_40 : decode cX9_ratio 40 = .ok (.iconst 2, 1) := by decide +kernel
theorem dX9_ratio_41 : decode cX9_ratio 41 = .ok (.if_icmp .ne 24, 3) := by decide +kernel
theorem dX9_ratio_44 : decode cX9_ratio 44 = .ok (.aload_n 0, 1) := by decide +kernel
theorem dX9_ratio_45 : decode cX9_ratio 45 = .ok (.getfield 12, 3) := by decide +kernel
theorem dX9_ratio_48 : decode cX9_ratio 48 = .ok (.iload_n 2, 1) := by decide +kernel
theorem dX9_ratio_49 : decode cX9_ratio 49 = .ok (.invokevirtual 270, 3) := by decide +kernel
theorem dX9_ratio_52 : decode cX9_ratio 52 = .ok (.aload_n 0, 1) := by decide +kernel
theorem dX9_ratio_53 : decode cX9_ratio 53 = .ok (.getfield 12, 3) := by decide +kernel
theorem dX9_ratio_56 : decode cX9_ratio 56 = .ok (.iload_n 2, 1) := by decide +kernel
theorem dX9_ratio_57 : decode cX9_ratio 57 = .ok (.invokevirtual 273, 3) := by decide +kernel
theorem dX9_ratio_60 : decode cX9_ratio 60 = .ok (.iload_n 3, 1) := by decide +kernel
theorem dX9_ratio_61 : decode cX9_ratio 61 = .ok (.invokestatic 179, 3) := by decide +kernel
theorem dX9_ratio_64 : decode cX9_ratio 64 = .ok (.lreturn, 1) := by decide +kernel
theorem dX9_ratio_65 : decode cX9_ratio 65 = .ok (.aload_n 0, 1) := by decide +kernel
theorem dX9_ratio_66 : decode cX9_ratio 66 = .ok (.getfield 12, 3) := by decide +kernel
theorem dX9_ratio_69 : decode cX9_ratio 69 = .ok (.iload_n 2, 1) := by decide +kernel
theorem dX9_ratio_70 : decode cX9_ratio 70 = .ok (.invokevirtual 276, 3) := by decide +kernel
theorem dX9_ratio_73 : decode cX9_ratio 73 = .ok (.aload_n 0, 1) := by decide +kernel
theorem dX9_ratio_74 : decode cX9_ratio 74 = .ok (.getfield 12, 3) := by decide +kernel
theorem dX9_ratio_77 : decode cX9_ratio 77 = .ok (.iload_n 2, 1) := by decide +kernel
theorem dX9_ratio_78 : decode cX9_ratio 78 = .ok (.invokevirtual 279, 3) := by decide +kernel
theorem dX9_ratio_81 : decode cX9_ratio 81 = .ok (.iload_n 3, 1) := by decide +kernel
theorem dX9_ratio_82 : decode cX9_ratio 82 = .ok (.invokestatic 179, 3) := by decide +kernel
theorem dX9_ratio_85 : decode cX9_ratio 85 = .ok (.lreturn, 1) := by decide +kernel
def e_X9_ratio (a1 : Int32) (a2 : Int32) (a3 : Int32) (σ : ES) : Option (Int64 × ES) := (e_X9_within a1 (0 : Int32) (2 : Int32)).bind (fun r1 => if r1 = 0 then ((e_X9_longFinding (0 : Int32) σ).bind (fun r3 => some (r3.1, r3.2))) else ((e_X9_within a3 (0 : Int32) (1 : Int32)).bind (fun r5 => if r5 = 0 then ((e_X9_longFinding (0 : Int32) σ).bind (fun r23 => some (r23.1, r23.2))) else ((e_X9_isChoice a1 a2 σ).bind (fun r7 => if r7.1 = 0 then ((e_X9_longFinding (4 : Int32) r7.2).bind (fun r21 => some (r21.1, r21.2))) else (if a1 = (2 : Int32) then ((e_X1_gainTogether_1 r7.2 a2).bind (fun r15 => (e_X1_timeTogether_1 r7.2 a2).bind (fun r17 => (e_X9_lowest r15 r17 a3).bind (fun r19 => some (r19, r7.2))))) else ((e_X1_bringTogether_1 r7.2 a2).bind (fun r9 => (e_X1_lastTogether_1 r7.2 a2).bind (fun r11 => (e_X9_lowest r9 r11 a3).bind (fun r13 => some (r13, r7.2)))))))))))
set_option maxRecDepth 100000 in
set_option maxHeartbeats 4000000 in
theorem k_X9_ratio {l : Launch} {σ : ES} {a1 : Int32} {a2 : Int32} {a3 : Int32} {out : (Int64 × ES)} (h : e_X9_ratio a1 a2 a3 σ = some out) : MK l yX9_ratio cX9_ratio 4 (some .long) 7 [.ref 0, .int a1, .int a2, .int a3] (mkS σ) (some (.long out.1)) (mkS out.2) := by
  unfold e_X9_ratio at h
  refine mw_entry (own := RX9) (ini := false) (L := [(0, .ref 0), (1, .int a1), (2, .int a2), (3, .int a3)]) (by decide +kernel) rfl (fun h => nomatch h) rfl (Nat.le_of_ble_eq_true rfl) (Nat.le_of_ble_eq_true rfl) (fun E => ?_)
  refine mw_iload_n dX9_ratio_0 1 rfl ?_
  refine mw_iconst (v := 0) dX9_ratio_1 (by decide) ?_
  refine mw_iconst (v := 2) dX9_ratio_2 (by decide) ?_
  obtain ⟨r1, e2, h⟩ := mbd h
  refine mv_callS_i (As := [.int a1, .int (0 : Int32), .int (2 : Int32)]) lkS_RX9_75_yX9_within dX9_ratio_3 (k_X9_within e2) rfl rfl (Nat.le_of_ble_eq_true rfl) (by decide) (by decide) ?_
  refine mw_if_eq (tgt := 18) dX9_ratio_6 (by decide) (fun hc => ?_) (fun hc => ?_)
  · have h := mit hc h
    refine mw_aload_n dX9_ratio_18 0 rfl ?_
    refine mw_iconst (v := 0) dX9_ratio_19 (by decide) ?_
    obtain ⟨r3, e4, h⟩ := mbd h
    refine mv_callV_l (As := [.int (0 : Int32)]) (ci := 8) lkV_RX9_164_yX9_longFinding dX9_ratio_20 (k_X9_longFinding e4) rfl rfl rfl rfl (Nat.le_of_ble_eq_true rfl) (by decide) (by decide) ?_
    exact mw_lret dX9_ratio_23 rfl (ers_lm h) rfl rfl
  · have h := mie hc h
    refine mw_iload_n dX9_ratio_9 3 rfl ?_
    refine mw_iconst (v := 0) dX9_ratio_10 (by decide) ?_
    refine mw_iconst (v := 1) dX9_ratio_11 (by decide) ?_
    obtain ⟨r5, e6, h⟩ := mbd h
    refine mv_callS_i (As := [.int a3, .int (0 : Int32), .int (1 : Int32)]) lkS_RX9_75_yX9_within dX9_ratio_12 (k_X9_within e6) rfl rfl (Nat.le_of_ble_eq_true rfl) (by decide) (by decide) ?_
    refine mw_if_ne (tgt := 24) dX9_ratio_15 (by decide) (fun hc => ?_) (fun hc => ?_)
    · have h := mie hc h
      refine mw_aload_n dX9_ratio_24 0 rfl ?_
      refine mw_iload_n dX9_ratio_25 1 rfl ?_
      refine mw_iload_n dX9_ratio_26 2 rfl ?_
      obtain ⟨r7, e8, h⟩ := mbd h
      refine mv_callV_i (As := [.int a1, .int a2]) (ci := 8) lkV_RX9_267_yX9_isChoice dX9_ratio_27 (k_X9_isChoice e8) rfl rfl rfl rfl (Nat.le_of_ble_eq_true rfl) (by decide) (by decide) ?_
      refine mw_if_ne (tgt := 39) dX9_ratio_30 (by decide) (fun hc => ?_) (fun hc => ?_)
      · have h := mie hc h
        refine mw_iload_n dX9_ratio_39 1 rfl ?_
        refine mw_iconst (v := 2) dX9_ratio_40 (by decide) ?_
        refine mw_icmp_ne (tgt := 65) dX9_ratio_41 (by decide) (fun hc => ?_) (fun hc => ?_)
        · have h := mie hc h
          refine mw_aload_n dX9_ratio_65 0 rfl ?_
          refine ev_getR (q := 1) fd_RX9_12_8 dX9_ratio_66 rfl rfl rfl ?_
          refine mw_iload_n dX9_ratio_69 2 rfl ?_
          obtain ⟨r9, e10, h⟩ := mbd h
          refine mv_callV_l (As := [.int a2]) (ci := 0) lkV_RX9_276_yX1_bringTogether dX9_ratio_70 (k_X1_bringTogether_1 e10) rfl rfl rfl rfl (Nat.le_of_ble_eq_true rfl) (by decide) (by decide) ?_
          refine mw_aload_n dX9_ratio_73 0 rfl ?_
          refine ev_getR (q := 1) fd_RX9_12_8 dX9_ratio_74 rfl rfl rfl ?_
          refine mw_iload_n dX9_ratio_77 2 rfl ?_
          obtain ⟨r11, e12, h⟩ := mbd h
          refine mv_callV_l (As := [.int a2]) (ci := 0) lkV_RX9_279_yX1_lastTogether dX9_ratio_78 (k_X1_lastTogether_1 e12) rfl rfl rfl rfl (Nat.le_of_ble_eq_true rfl) (by decide) (by decide) ?_
          refine mw_iload_n dX9_ratio_81 3 rfl ?_
          obtain ⟨r13, e14, h⟩ := mbd h
          refine mv_callS_l (As := [.long r9, .long r11, .int a3]) lkS_RX9_179_yX9_lowest dX9_ratio_82 (k_X9_lowest e14) rfl rfl (Nat.le_of_ble_eq_true rfl) (by decide) (by decide) ?_
          exact mw_lret dX9_ratio_85 rfl (ers_lm h) rfl rfl
        · have h := mit hc h
          refine mw_aload_n dX9_ratio_44 0 rfl ?_
          refine ev_getR (q := 1) fd_RX9_12_8 dX9_ratio_45 rfl rfl rfl ?_
          refine mw_iload_n dX9_ratio_48 2 rfl ?_
          obtain ⟨r15, e16, h⟩ := mbd h
          refine mv_callV_l (As := [.int a2]) (ci := 0) lkV_RX9_270_yX1_gainTogether dX9_ratio_49 (k_X1_gainTogether_1 e16) rfl rfl rfl rfl (Nat.le_of_ble_eq_true rfl) (by decide) (by decide) ?_
          refine mw_aload_n dX9_ratio_52 0 rfl ?_
          refine ev_getR (q := 1) fd_RX9_12_8 dX9_ratio_53 rfl rfl rfl ?_
          refine mw_iload_n dX9_ratio_56 2 rfl ?_
          obtain ⟨r17, e18, h⟩ := mbd h
          refine mv_callV_l (As := [.int a2]) (ci := 0) lkV_RX9_273_yX1_timeTogether dX9_ratio_57 (k_X1_timeTogether_1 e18) rfl rfl rfl rfl (Nat.le_of_ble_eq_true rfl) (by decide) (by decide) ?_
          refine mw_iload_n dX9_ratio_60 3 rfl ?_
          obtain ⟨r19, e20, h⟩ := mbd h
          refine mv_callS_l (As := [.long r15, .long r17, .int a3]) lkS_RX9_179_yX9_lowest dX9_ratio_61 (k_X9_lowest e20) rfl rfl (Nat.le_of_ble_eq_true rfl) (by decide) (by decide) ?_
          exact mw_lret dX9_ratio_64 rfl (ers_lm h) rfl rfl
      · have h := mit hc h
        refine mw_aload_n dX9_ratio_33 0 rfl ?_
        refine mw_iconst (v := 4) dX9_ratio_34 (by decide) ?_
        obtain ⟨r21, e22, h⟩ := mbd h
        refine mv_callV_l (As := [.int (4 : Int32)]) (ci := 8) lkV_RX9_164_yX9_longFinding dX9_ratio_35 (k_X9_longFinding e22) rfl rfl rfl rfl (Nat.le_of_ble_eq_true rfl) (by decide) (by decide) ?_
        exact mw_lret dX9_ratio_38 rfl (ers_lm h) rfl rfl
    · have h := mit hc h
      refine mw_aload_n dX9_ratio_18 0 rfl ?_
      refine mw_iconst (v := 0) dX9_ratio_19 (by decide) ?_
      obtain ⟨r23, e24, h⟩ := mbd h
      refine mv_callV_l (As := [.int (0 : Int32)]) (ci := 8) lkV_RX9_164_yX9_longFinding dX9_ratio_20 (k_X9_longFinding e24) rfl rfl rfl rfl (Nat.le_of_ble_eq_true rfl) (by decide) (by decide) ?_
      exact mw_lret dX9_ratio_23 rfl (ers_lm h) rfl rfl

theorem dX9_sheetFault_0 : decode cX9_sheetFault 0 = .ok (.iload_n 1, 1) := by decide +kernel
theorem dX9_sheetFault_1 : decode cX9_sheetFault 1 = .ok (.iconst 0, 1) := by decide +kernel
theorem dX9_sheetFault_2 : decode cX9_sheetFault 2 = .ok (.iconst 3, 1) := by decide +kernel
theorem dX9_sheetFault_3 : decode cX9_sheetFault 3 = .ok (.invokestatic 75, 3) := by decide +kernel
theorem dX9_sheetFault_6 : decode cX9_sheetFault 6 = .ok (.ifCond .ne 5, 3) := by decide +kernel
theorem dX9_sheetFault_9 : decode cX9_sheetFault 9 = .ok (.iconst 0, 1) := by decide +kernel
theorem dX9_sheetFault_10 : decode cX9_sheetFault 10 = .ok (.ireturn, 1) := by decide +kernel
theorem dX9_sheetFault_11 : decode cX9_sheetFault 11 = .ok (.aload_n 0, 1) := by decide +kernel
theorem dX9_sheetFault_12 : decode cX9_sheetFault 12 = .ok (.getfield 66, 3) := by decide +kernel
theorem dX9_sheetFault_15 : decode cX9_sheetFault 15 = .ok (.iload_n 1, 1) := by decide +kernel
theorem dX9_sheetFault_16 : decode cX9_sheetFault 16 = .ok (.aaload, 1) := by decide +kernel
theorem dX9_sheetFault_17 : decode cX9_sheetFault 17 = .ok (.getfield 340, 3) := by decide +kernel
theorem dX9_sheetFault_20 : decode cX9_sheetFault 20 = .ok (.ifCond .ne 7, 3) := by decide +kernel
theorem dX9_sheetFault_23 : decode cX9_sheetFault 23 = .ok (.iconst 5, 1) := by decide +kernel
theorem dX9_sheetFault_24 : decode cX9_sheetFault 24 = .ok (.goto 4, 3) := by decide +kernel
theorem dX9_sheetFault_27 : decode cX9_sheetFault 27 = .ok (.iconst (-1), 1) := by decide +kernel
theorem dX9_sheetFault_28 : decode cX9_sheetFault 28 = .ok (.ireturn, 1) := by decide +kernel
def e_X9_sheetFault (σ : ES) (a1 : Int32) : Option Int32 := (e_X9_within a1 (0 : Int32) (3 : Int32)).bind (fun r1 => if r1 = 0 then (some (0 : Int32)) else (if mib a1 4 = true then (if (eI σ (61 + 2 * a1.toNatClampNeg) 0) = 0 then (some (5 : Int32)) else (some (-1 : Int32))) else none))
set_option maxRecDepth 100000 in
set_option maxHeartbeats 4000000 in
theorem k_X9_sheetFault {l : Launch} {σ : ES} {a1 : Int32} {out : Int32} (h : e_X9_sheetFault σ a1 = some out) : MK l yX9_sheetFault cX9_sheetFault 2 (some .int) 2 [.ref 0, .int a1] (mkS σ) (some (.int out)) (mkS σ) := by
  unfold e_X9_sheetFault at h
  refine mw_entry (own := RX9) (ini := false) (L := [(0, .ref 0), (1, .int a1)]) (by decide +kernel) rfl (fun h => nomatch h) rfl (Nat.le_of_ble_eq_true rfl) (Nat.le_of_ble_eq_true rfl) (fun E => ?_)
  refine mw_iload_n dX9_sheetFault_0 1 rfl ?_
  refine mw_iconst (v := 0) dX9_sheetFault_1 (by decide) ?_
  refine mw_iconst (v := 3) dX9_sheetFault_2 (by decide) ?_
  obtain ⟨r1, e2, h⟩ := mbd h
  refine mv_callS_i (As := [.int a1, .int (0 : Int32), .int (3 : Int32)]) lkS_RX9_75_yX9_within dX9_sheetFault_3 (k_X9_within e2) rfl rfl (Nat.le_of_ble_eq_true rfl) (by decide) (by decide) ?_
  refine mw_if_ne (tgt := 11) dX9_sheetFault_6 (by decide) (fun hc => ?_) (fun hc => ?_)
  · have h := mie hc h
    refine mw_aload_n dX9_sheetFault_11 0 rfl ?_
    refine ev_getR (q := 59) fd_RX9_66_8 dX9_sheetFault_12 rfl rfl rfl ?_
    refine mw_iload_n dX9_sheetFault_15 1 rfl ?_
    obtain ⟨m3, h⟩ := mif h
    refine ev_aald dX9_sheetFault_16 m3 ?_
    refine ev_getI fd_RX9_340_4 dX9_sheetFault_17 (msh_ob (esh2 m3)) rfl ?_
    refine mw_if_ne (tgt := 27) dX9_sheetFault_20 (by decide) (fun hc => ?_) (fun hc => ?_)
    · have h := mie hc h
      refine mw_iconst (v := -1) dX9_sheetFault_27 (by decide) ?_
      exact mw_iret dX9_sheetFault_28 rfl (ers_i h) rfl rfl
    · have h := mit hc h
      refine mw_iconst (v := 5) dX9_sheetFault_23 (by decide) ?_
      refine mw_goto (tgt := 28) dX9_sheetFault_24 (by decide) ?_
      exact mw_iret dX9_sheetFault_28 rfl (ers_i h) rfl rfl
  · have h := mit hc h
    refine mw_iconst (v := 0) dX9_sheetFault_9 (by decide) ?_
    exact mw_iret dX9_sheetFault_10 rfl (ers_i h) rfl rfl

theorem dX5_hasFraction_0 : decode cX5_hasFraction 0 = .ok (.iload_n 1, 1) := by decide +kernel
theorem dX5_hasFraction_1 : decode cX5_hasFraction 1 = .ok (.iconst 0, 1) := by decide +kernel
theorem dX5_hasFraction_2 : decode cX5_hasFraction 2 = .ok (.aload_n 0, 1) := by decide +kernel
theorem dX5_hasFraction_3 : decode cX5_hasFraction 3 = .ok (.getfield 19, 3) := by decide +kernel
theorem dX5_hasFraction_6 : decode cX5_hasFraction 6 = .ok (.iconst 2, 1) := by decide +kernel
theorem dX5_hasFraction_7 : decode cX5_hasFraction 7 = .ok (.isub, 1) := by decide +kernel
theorem dX5_hasFraction_8 : decode cX5_hasFraction 8 = .ok (.invokestatic 22, 3) := by decide +kernel
theorem dX5_hasFraction_11 : decode cX5_hasFraction 11 = .ok (.ireturn, 1) := by decide +kernel
def e_X5_hasFraction (σ : ES) (a0 : Nat) (a1 : Int32) : Option Int32 := if msh a0 = true then ((e_X9_within a1 (0 : Int32) ((eI σ a0 1) - (2 : Int32))).bind (fun r2 => if r2 = 0 ∨ r2 = 1 then (some r2) else none)) else none
set_option maxRecDepth 100000 in
set_option maxHeartbeats 4000000 in
theorem k_X5_hasFraction {l : Launch} {σ : ES} {a0 : Nat} {a1 : Int32} {out : Int32} (h : e_X5_hasFraction σ a0 a1 = some out) : MK l yX5_hasFraction cX5_hasFraction 2 (some .boolean) 2 [.ref a0, .int a1] (mkS σ) (some (.int out)) (mkS σ) := by
  unfold e_X5_hasFraction at h
  refine mw_entry (own := RX5) (ini := false) (L := [(0, .ref a0), (1, .int a1)]) (by decide +kernel) rfl (fun h => nomatch h) rfl (Nat.le_of_ble_eq_true rfl) (Nat.le_of_ble_eq_true rfl) (fun E => ?_)
  refine mw_iload_n dX5_hasFraction_0 1 rfl ?_
  refine mw_iconst (v := 0) dX5_hasFraction_1 (by decide) ?_
  refine mw_aload_n dX5_hasFraction_2 0 rfl ?_
  obtain ⟨m1, h⟩ := mif h
  refine ev_getI fd_RX5_19_4 dX5_hasFraction_3 (msh_ob m1) rfl ?_
  refine mw_iconst (v := 2) dX5_hasFraction_6 (by decide) ?_
  refine mw_isub dX5_hasFraction_7 ?_
  obtain ⟨r2, e3, h⟩ := mbd h
  refine mv_callSN_i (As := [.int a1, .int (0 : Int32), .int ((eI σ a0 1) - (2 : Int32))]) lkN_RX5_22_yX9_within dX5_hasFraction_8 (k_X9_within e3) rfl rfl (Nat.le_of_ble_eq_true rfl) (by decide) (by decide) ?_
  obtain ⟨m4, h⟩ := mif h
  exact mw_zret dX5_hasFraction_11 rfl m4 (ers_i h) rfl rfl

theorem dX9_fractionFault_0 : decode cX9_fractionFault 0 = .ok (.aload_n 0, 1) := by decide +kernel
theorem dX9_fractionFault_1 : decode cX9_fractionFault 1 = .ok (.iload_n 1, 1) := by decide +kernel
theorem dX9_fractionFault_2 : decode cX9_fractionFault 2 = .ok (.invokevirtual 315, 3) := by decide +kernel
theorem dX9_fractionFault_5 : decode cX9_fractionFault 5 = .ok (.istore 4, 2) := by decide +kernel
theorem dX9_fractionFault_7 : decode cX9_fractionFault 7 = .ok (.iload 4, 2) := by decide +kernel
theorem dX9_fractionFault_9 : decode cX9_fractionFault 9 = .ok (.iconst (-1), 1) := by decide +kernel
theorem dX9_fractionFault_10 : decode cX9_fractionFault 10 = .ok (.if_icmp .eq 6, 3) := by decide +kernel
theorem dX9_fractionFault_13 : decode cX9_fractionFault 13 = .ok (.iload 4, 2) := by decide +kernel
theorem dX9_fractionFault_15 : decode cX9_fractionFault 15 = .ok (.ireturn, 1) := by decide +kernel
theorem dX9_fractionFault_16 : decode cX9_fractionFault 16 = .ok (.aload_n 0, 1) := by decide +kernel
theorem dX9_fractionFault_17 : decode cX9_fractionFault 17 = .ok (.getfield 66, 3) := by decide +kernel
theorem dX9_fractionFault_20 : decode cX9_fractionFault 20 = .ok (.iload_n 1, 1) := by decide +kernel
theorem dX9_fractionFault_21 : decode cX9_fractionFault 21 = .ok (.aaload, 1) := by decide +kernel
theorem dX9_fractionFault_22 : decode cX9_fractionFault 22 = .ok (.astore 5, 2) := by decide +kernel
theorem dX9_fractionFault_24 : decode cX9_fractionFault 24 = .ok (.aload 5, 2) := by decide +kernel
theorem dX9_fractionFault_26 : decode cX9_fractionFault 26 = .ok (.iload_n 2, 1) := by decide +kernel
theorem dX9_fractionFault_27 : decode cX9_fractionFault 27 = .ok (.invokevirtual 318, 3) := by decide +kernel
theorem dX9_fractionFault_30 : decode cX9_fractionFault 30 = .ok (.ifCond .eq 12, 3) := by decide +kernel
theorem dX9_fractionFault_33 : decode cX9_fractionFault 33 = .ok (.aload 5, 2) := by decide +kernel
theorem dX9_fractionFault_35 : decode cX9_fractionFault 35 = .ok (.iload_n 3, 1) := by decide +kernel
theorem dX9_fractionFault_36 : decode cX9_fractionFault 36 = .ok (.invokevirtual 318, 3) := by decide +kernel
theorem dX9_fractionFault_39 : decode cX9_fractionFault 39 = .ok (.ifCond .ne 5, 3) := by decide +kernel
theorem dX9_fractionFault_42 : decode cX9_fractionFault 42 = .ok (.iconst 0, 1) := by decide +kernel
theorem dX9_fractionFault_43 : decode cX9_fractionFault 43 = .ok (.ireturn, 1) := by decide +kernel
theorem dX9_fractionFault_44 : decode cX9_fractionFault 44 = .ok (.aload 5, 2) := by decide +kernel
theorem dX9_fractionFault_46 : decode cX9_fractionFault 46 = .ok (.getfield 295, 3) := by decide +kernel
theorem dX9_fractionFault_49 : decode cX9_fractionFault 49 = .ok (.iload_n 2, 1) := by decide +kernel
theorem dX9_fractionFault_50 : decode cX9_fractionFault 50 = .ok (.iconst 1, 1) := by decide +kernel
theorem dX9_fractionFault_51 : decode cX9_fractionFault 51 = .ok (.iadd, 1) := by decide +kernel
theorem dX9_fractionFault_52 : decode cX9_fractionFault 52 = .ok (.laload, 1) := by decide +kernel
theorem dX9_fractionFault_53 : decode cX9_fractionFault 53 = .ok (.lconst 0, 1) := by decide +kernel
theorem dX9_fractionFault_54 : decode cX9_fractionFault 54 = .ok (.lcmp, 1) := by decide +kernel
theorem dX9_fractionFault_55 : decode cX9_fractionFault 55 = .ok (.ifCond .eq 17, 3) := by decide +kernel
theorem dX9_fractionFault_58 : decode cX9_fractionFault 58 = .ok (.aload 5, 2) := by decide +kernel
theorem dX9_fractionFault_60 : decode cX9_fractionFault 60 = .ok (.getfield 295, 3) := by decide +kernel
theorem dX9_fractionFault_63 : decode cX9_fractionFault 63 = .ok (.iload_n 3, 1) := by decide +kernel
theorem dX9_fractionFault_64 : decode cX9_fractionFault 64 = .ok (.iconst 1, 1) := by decide +kernel
theorem dX9_fractionFault_65 : decode cX9_fractionFault 65 = .ok (.iadd, 1) := by decide +kernel
theorem dX9_fractionFault_66 : decode cX9_fractionFault 66 = .ok (.laload, 1) := by decide +kernel
theorem dX9_fractionFault_67 : decode cX9_fractionFault 67 = .ok (.lconst 0, 1) := by decide +kernel
theorem dX9_fractionFault_68 : decode cX9_fractionFault 68 = .ok (.lcmp, 1) := by decide +kernel
theorem dX9_fractionFault_69 : decode cX9_fractionFault 69 = .ok (.ifCond .ne 6, 3) := by decide +kernel
theorem dX9_fractionFault_72 : decode cX9_fractionFault 72 = .ok (.bipush 7, 2) := by decide +kernel
theorem dX9_fractionFault_74 : decode cX9_fractionFault 74 = .ok (.ireturn, 1) := by decide +kernel
theorem dX9_fractionFault_75 : decode cX9_fractionFault 75 = .ok (.iconst (-1), 1) := by decide +kernel
theorem dX9_fractionFault_76 : decode cX9_fractionFault 76 = .ok (.ireturn, 1) := by decide +kernel
def e_X9_fractionFault (σ : ES) (a1 : Int32) (a2 : Int32) (a3 : Int32) : Option Int32 := (e_X9_sheetFault σ a1).bind (fun r1 => if r1 = (-1 : Int32) then (if mib a1 4 = true then ((e_X5_hasFraction σ (61 + 2 * a1.toNatClampNeg) a2).bind (fun r4 => if r4 = 0 then (some (0 : Int32)) else ((e_X5_hasFraction σ (61 + 2 * a1.toNatClampNeg) a3).bind (fun r6 => if r6 = 0 then (some (0 : Int32)) else (if mib (a2 + (1 : Int32)) 40 = true then (if (eL σ ((61 + 2 * a1.toNatClampNeg) + 1) (a2 + (1 : Int32)).toNatClampNeg) = (0 : Int64) then (some (7 : Int32)) else (if mib (a3 + (1 : Int32)) 40 = true then (if (eL σ ((61 + 2 * a1.toNatClampNeg) + 1) (a3 + (1 : Int32)).toNatClampNeg) = (0 : Int64) then (some (7 : Int32)) else (some (-1 : Int32))) else none)) else none))))) else none) else (some r1))
set_option maxRecDepth 100000 in
set_option maxHeartbeats 4000000 in
theorem k_X9_fractionFault {l : Launch} {σ : ES} {a1 : Int32} {a2 : Int32} {a3 : Int32} {out : Int32} (h : e_X9_fractionFault σ a1 a2 a3 = some out) : MK l yX9_fractionFault cX9_fractionFault 6 (some .int) 3 [.ref 0, .int a1, .int a2, .int a3] (mkS σ) (some (.int out)) (mkS σ) := by
  unfold e_X9_fractionFault at h
  refine mw_entry (own := RX9) (ini := false) (L := [(0, .ref 0), (1, .int a1), (2, .int a2), (3, .int a3)]) (by decide +kernel) rfl (fun h => nomatch h) rfl (Nat.le_of_ble_eq_true rfl) (Nat.le_of_ble_eq_true rfl) (fun E => ?_)
  refine mw_aload_n dX9_fractionFault_0 0 rfl ?_
  refine mw_iload_n dX9_fractionFault_1 1 rfl ?_
  obtain ⟨r1, e2, h⟩ := mbd h
  refine mv_callV_i (As := [.int a1]) (ci := 8) lkV_RX9_315_yX9_sheetFault dX9_fractionFault_2 (k_X9_sheetFault e2) rfl rfl rfl rfl (Nat.le_of_ble_eq_true rfl) (by decide) (by decide) ?_
  refine mw_istore (L' := [(4, .int r1), (0, .ref 0), (1, .int a1), (2, .int a2), (3, .int a3)]) dX9_fractionFault_5 (by decide) rfl ?_
  refine mw_iload dX9_fractionFault_7 0 rfl ?_
  refine mw_iconst (v := -1) dX9_fractionFault_9 (by decide) ?_
  refine mw_icmp_eq (tgt := 16) dX9_fractionFault_10 (by decide) (fun hc => ?_) (fun hc => ?_)
  · have h := mit hc h
    refine mw_aload_n dX9_fractionFault_16 1 rfl ?_
    refine ev_getR (q := 59) fd_RX9_66_8 dX9_fractionFault_17 rfl rfl rfl ?_
    refine mw_iload_n dX9_fractionFault_20 2 rfl ?_
    obtain ⟨m3, h⟩ := mif h
    refine ev_aald dX9_fractionFault_21 m3 ?_
    refine mw_astore (L' := [(5, .ref (61 + 2 * a1.toNatClampNeg)), (4, .int r1), (0, .ref 0), (1, .int a1), (2, .int a2), (3, .int a3)]) dX9_fractionFault_22 (by decide) rfl ?_
    refine mw_aload dX9_fractionFault_24 0 rfl ?_
    refine mw_iload_n dX9_fractionFault_26 4 rfl ?_
    obtain ⟨r4, e5, h⟩ := mbd h
    refine mv_callV_i (As := [.int a2]) (ci := 4) lkV_RX9_318_yX5_hasFraction dX9_fractionFault_27 (k_X5_hasFraction e5) rfl (msh_ob (esh2 m3)) rfl rfl (Nat.le_of_ble_eq_true rfl) (by decide) (by decide) ?_
    refine mw_if_eq (tgt := 42) dX9_fractionFault_30 (by decide) (fun hc => ?_) (fun hc => ?_)
    · have h := mit hc h
      refine mw_iconst (v := 0) dX9_fractionFault_42 (by decide) ?_
      exact mw_iret dX9_fractionFault_43 rfl (ers_i h) rfl rfl
    · have h := mie hc h
      refine mw_aload dX9_fractionFault_33 0 rfl ?_
      refine mw_iload_n dX9_fractionFault_35 5 rfl ?_
      obtain ⟨r6, e7, h⟩ := mbd h
      refine mv_callV_i (As := [.int a3]) (ci := 4) lkV_RX9_318_yX5_hasFraction dX9_fractionFault_36 (k_X5_hasFraction e7) rfl (msh_ob (esh2 m3)) rfl rfl (Nat.le_of_ble_eq_true rfl) (by decide) (by decide) ?_
      refine mw_if_ne (tgt := 44) dX9_fractionFault_39 (by decide) (fun hc => ?_) (fun hc => ?_)
      · have h := mie hc h
        refine mw_aload dX9_fractionFault_44 0 rfl ?_
        refine ev_getR fd_RX9_295_4 dX9_fractionFault_46 (msh_ob (esh2 m3)) rfl (msh_r (esh2 m3)) ?_
        refine mw_iload_n dX9_fractionFault_49 4 rfl ?_
        refine mw_iconst (v := 1) dX9_fractionFault_50 (by decide) ?_
        refine mw_iadd dX9_fractionFault_51 ?_
        obtain ⟨m8, h⟩ := mif h
        refine ev_lald dX9_fractionFault_52 (msh_n1 (esh2 m3)) (msh_n2 (esh2 m3)) m8 ?_
        refine mw_lconst (v := 0) dX9_fractionFault_53 (by decide) ?_
        refine mw_lc_eq (tgt := 72) dX9_fractionFault_54 dX9_fractionFault_55 (by decide) (fun hc => ?_) (fun hc => ?_)
        · have h := mit hc h
          refine mw_bipush (v := 7) dX9_fractionFault_72 (by decide) ?_
          exact mw_iret dX9_fractionFault_74 rfl (ers_i h) rfl rfl
        · have h := mie hc h
          refine mw_aload dX9_fractionFault_58 0 rfl ?_
          refine ev_getR fd_RX9_295_4 dX9_fractionFault_60 (msh_ob (esh2 m3)) rfl (msh_r (esh2 m3)) ?_
          refine mw_iload_n dX9_fractionFault_63 5 rfl ?_
          refine mw_iconst (v := 1) dX9_fractionFault_64 (by decide) ?_
          refine mw_iadd dX9_fractionFault_65 ?_
          obtain ⟨m9, h⟩ := mif h
          refine ev_lald dX9_fractionFault_66 (msh_n1 (esh2 m3)) (msh_n2 (esh2 m3)) m9 ?_
          refine mw_lconst (v := 0) dX9_fractionFault_67 (by decide) ?_
          refine mw_lc_ne (tgt := 75) dX9_fractionFault_68 dX9_fractionFault_69 (by decide) (fun hc => ?_) (fun hc => ?_)
          · have h := mie hc h
            refine mw_iconst (v := -1) dX9_fractionFault_75 (by decide) ?_
            exact mw_iret dX9_fractionFault_76 rfl (ers_i h) rfl rfl
          · have h := mit hc h
            refine mw_bipush (v := 7) dX9_fractionFault_72 (by decide) ?_
            exact mw_iret dX9_fractionFault_74 rfl (ers_i h) rfl rfl
      · have h := mit hc h
        refine mw_iconst (v := 0) dX9_fractionFault_42 (by decide) ?_
        exact mw_iret dX9_fractionFault_43 rfl (ers_i h) rfl rfl
  · have h := mie hc h
    refine mw_iload dX9_fractionFault_13 0 rfl ?_
    exact mw_iret dX9_fractionFault_15 rfl (ers_i h) rfl rfl

theorem dX9_compare_0 : decode cX9_compare 0 = .ok (.aload_n 0, 1) := by decide +kernel
theorem dX9_compare_1 : decode cX9_compare 1 = .ok (.iload_n 1, 1) := by decide +kernel
theorem dX9_compare_2 : decode cX9_compare 2 = .ok (.iload_n 2, 1) := by decide +kernel
theorem dX9_compare_3 : decode cX9_compare 3 = .ok (.iload_n 3, 1) := by decide +kernel
theorem dX9_compare_4 : decode cX9_compare 4 = .ok (.invokevirtual 291, 3) := by decide +kernel
theorem dX9_compare_7 : decode cX9_compare 7 = .ok (.istore 4, 2) := by decide +kernel
theorem dX9_compare_9 : decode cX9_compare 9 = .ok (.iload 4, 2) := by decide +kernel
theorem dX9_compare_11 : decode cX9_compare 11 = .ok (.iconst (-1), 1) := by decide +kernel
theorem dX9_compare_12 : decode cX9_compare 12 = .ok (.if_icmp .eq 10, 3) := by decide +kernel
theorem dX9_compare_15 : decode cX9_compare 15 = .ok (.aload_n 0, 1) := by decide +kernel
theorem dX9_compare_16 : decode cX9_compare 16 = .ok (.iload 4, 2) := by decide +kernel
theorem dX9_compare_18 : decode cX9_compare 18 = .ok (.invokevirtual 79, 3) := by decide +kernel
theorem dX9_compare_21 : decode cX9_compare 21 = .ok (.ireturn, 1) := by decide +kernel
theorem dX9_compare_22 : decode cX9_compare 22 = .ok (.aload_n 0, 1) := by decide +kernel
theorem dX9_compare_23 : decode cX9_compare 23 = .ok (.getfield 66, 3) := by decide +kernel
theorem dX9_compare_26 : decode cX9_compare 26 = .ok (.iload_n 1, 1) := by decide +kernel
theorem dX9_compare_27 : decode cX9_compare 27 = .ok (.aaload, 1) := by decide +kernel
theorem dX9_compare_28 : decode cX9_compare 28 = .ok (.getfield 295, 3) := by decide +kernel
theorem dX9_compare_31 : decode cX9_compare 31 = .ok (.astore 5, 2) := by decide +kernel
theorem dX9_compare_33 : decode cX9_compare 33 = .ok (.aload 5, 2) := by decide +kernel
theorem dX9_compare_35 : decode cX9_compare 35 = .ok (.iload_n 2, 1) := by decide +kernel
theorem dX9_compare_36 : decode cX9_compare 36 = .ok (.laload, 1) := by decide +kernel
theorem dX9_compare_37 : decode cX9_compare 37 = .ok (.aload 5, 2) := by decide +kernel
theorem dX9_compare_39 : decode cX9_compare 39 = .ok (.iload_n 3, 1) := by decide +kernel
theorem dX9_compare_40 : decode cX9_compare 40 = .ok (.iconst 1, 1) := by decide +kernel
theorem dX9_compare_41 : decode cX9_compare 41 = .ok (.iadd, 1) := by decide +kernel
theorem dX9_compare_42 : decode cX9_compare 42 = .ok (.laload, 1) := by decide +kernel
theorem dX9_compare_43 : decode cX9_compare 43 = .ok (.invokestatic 199, 3) := by decide +kernel
theorem dX9_compare_46 : decode cX9_compare 46 = .ok (.ifCond .eq 19, 3) := by decide +kernel
theorem dX9_compare_49 : decode cX9_compare 49 = .ok (.aload 5, 2) := by decide +kernel
theorem dX9_compare_51 : decode cX9_compare 51 = .ok (.iload_n 3, 1) := by decide +kernel
theorem dX9_compare_52 : decode cX9_compare 52 = .ok (.laload, 1) := by decide +kernel
theorem dX9_compare_53 : decode cX9_compare 53 = .ok (.aload 5, 2) := by decide +kernel
theorem dX9_compare_55 : decode cX9_compare 55 = .ok (.iload_n 2, 1) := by decide +kernel
theorem dX9_compare_56 : decode cX9_compare 56 = .ok (.iconst 1, 1) := by decide +kernel
theorem dX9_compare_57 : decode cX9_compare 57 = .ok (.iadd, 1) := by decide +kernel
theorem dX9_compare_58 : decode cX9_compare 58 = .ok (.laload, 1) := by decide +kernel
theorem dX9_compare_59 : decode cX9_compare 59 = .ok (.invokestatic 199, 3) := by decide +kernel
theorem dX9_compare_62 : decode cX9_compare 62 = .ok (.ifCond .ne 10, 3) := by decide +kernel
theorem dX9_compare_65 : decode cX9_compare 65 = .ok (.aload_n 0, 1) := by decide +kernel
theorem dX9_compare_66 : decode cX9_compare 66 = .ok (.bipush 8, 2) := by decide +kernel
theorem dX9_compare_68 : decode cX9_compare 68 = .ok (.invokevirtual 79, 3) := by decide +kernel
theorem dX9_compare_71 : decode cX9_compare 71 = .ok (.ireturn, 1) := by decide +kernel
theorem dX9_compare_72 : decode cX9_compare 72 = .ok (.aload 5, 2) := by decide +kernel
theorem dX9_compare_74 : decode cX9_compare 74 = .ok (.iload_n 2, 1) := by decide +kernel
theorem dX9_compare_75 : decode cX9_compare 75 = .ok (.laload, 1) := by decide +kernel
theorem dX9_compare_76 : decode cX9_compare 76 = .ok (.aload 5, 2) := by decide +kernel
theorem dX9_compare_78 : decode cX9_compare 78 = .ok (.iload_n 3, 1) := by decide +kernel
theorem dX9_compare_79 : decode cX9_compare 79 = .ok (.iconst 1, 1) := by decide +kernel
theorem dX9_compare_80 : decode cX9_compare 80 = .ok (.iadd, 1) := by decide +kernel
theorem dX9_compare_81 : decode cX9_compare 81 = .ok (.laload, 1) := by decide +kernel
theorem dX9_compare_82 : decode cX9_compare 82 = .ok (.lmul, 1) := by decide +kernel
theorem dX9_compare_83 : decode cX9_compare 83 = .ok (.aload 5, 2) := by decide +kernel
theorem dX9_compare_85 : decode cX9_compare 85 = .ok (.iload_n 3, 1) := by decide +kernel
theorem dX9_compare_86 : decode cX9_compare 86 = .ok (.laload, 1) := by decide +kernel
theorem dX9_compare_87 : decode cX9_compare 87 = .ok (.aload 5, 2) := by decide +kernel
theorem dX9_compare_89 : decode cX9_compare 89 = .ok (.iload_n 2, 1) := by decide +kernel
theorem dX9_compare_90 : decode cX9_compare 90 = .ok (.iconst 1, 1) := by decide +kernel
theorem dX9_compare_91 : decode cX9_compare 91 = .ok (.iadd, 1) := by decide +kernel
theorem dX9_compare_92 : decode cX9_compare 92 = .ok (.laload, 1) := by decide +kernel
theorem dX9_compare_93 : decode cX9_compare 93 = .ok (.lmul, 1) := by decide +kernel
theorem dX9_compare_94 : decode cX9_compare 94 = .ok (.invokestatic 298, 3) := by decide +kernel
theorem dX9_compare_97 : decode cX9_compare 97 = .ok (.istore 6, 2) := by decide +kernel
theorem dX9_compare_99 : decode cX9_compare 99 = .ok (.aload 5, 2) := by decide +kernel
theorem dX9_compare_101 : decode cX9_compare 101 = .ok (.iload_n 2, 1) := by decide +kernel
theorem dX9_compare_102 : decode cX9_compare 102 = .ok (.iconst 1, 1) := by decide +kernel
theorem dX9_compare_103 : decode cX9_compare 103 = .ok (.iadd, 1) := by decide +kernel
theorem dX9_compare_104 : decode cX9_compare 104 = .ok (.laload, 1) := by decide +kernel
theorem dX9_compare_105 : decode cX9_compare 105 = .ok (.lconst 0, 1) := by decide +kernel
theorem dX9_compare_106 : decode cX9_compare 106 = .ok (.lcmp, 1) := by decide +kernel
theorem dX9_compare_107 : decode cX9_compare 107 = .ok (.ifCond .ge 7, 3) := by decide +kernel
theorem dX9_compare_110 : decode cX9_compare 110 = .ok (.iconst 1, 1) := by decide +kernel
theorem dX9_compare_111 : decode cX9_compare 111 = .ok (.goto 4, 3) := by decide +kernel
theorem dX9_compare_114 : decode cX9_compare 114 = .ok (.iconst 0, 1) := by decide +kernel
theorem dX9_compare_115 : decode cX9_compare 115 = .ok (.aload 5, 2) := by decide +kernel
theorem dX9_compare_117 : decode cX9_compare 117 = .ok (.iload_n 3, 1) := by decide +kernel
theorem dX9_compare_118 : decode cX9_compare 118 = .ok (.iconst 1, 1) := by decide +kernel
theorem dX9_compare_119 : decode cX9_compare 119 = .ok (.iadd, 1) := by decide +kernel
theorem dX9_compare_120 : decode cX9_compare 120 = .ok (.laload, 1) := by decide +kernel
theorem dX9_compare_121 : decode cX9_compare 121 = .ok (.lconst 0, 1) := by decide +kernel
theorem dX9_compare_122 : decode cX9_compare 122 = .ok (.lcmp, 1) := by decide +kernel
theorem dX9_compare_123 : decode cX9_compare 123 = .ok (.ifCond .ge 7, 3) := by decide +kernel
theorem dX9_compare_126 : decode cX9_compare 126 = .ok (.iconst 1, 1) := by decide +kernel
theorem dX9_compare_127 : decode cX9_compare 127 = .ok (.goto 4, 3) := by decide +kernel
theorem dX9_compare_130 : decode cX9_compare 130 = .ok (.iconst 0, 1) := by decide +kernel
theorem dX9_compare_131 : decode cX9_compare 131 = .ok (.if_icmp .ne 8, 3) := by decide +kernel
theorem dX9_compare_134 : decode cX9_compare 134 = .ok (.iload 6, 2) := by decide +kernel
theorem dX9_compare_136 : decode cX9_compare 136 = .ok (.goto 6, 3) := by decide +kernel
theorem dX9_compare_139 : decode cX9_compare 139 = .ok (.iload 6, 2) := by decide +kernel
theorem dX9_compare_141 : decode cX9_compare 141 = .ok (.ineg, 1) := by decide +kernel
theorem dX9_compare_142 : decode cX9_compare 142 = .ok (.ireturn, 1) := by decide +kernel
def e_X9_compare (a1 : Int32) (a2 : Int32) (a3 : Int32) (σ : ES) : Option (Int32 × ES) := (e_X9_fractionFault σ a1 a2 a3).bind (fun r1 => if r1 = (-1 : Int32) then (if mib a1 4 = true then (if mib a2 40 = true then (if mib (a3 + (1 : Int32)) 40 = true then ((e_X9_productFits (eL σ ((61 + 2 * a1.toNatClampNeg) + 1) a2.toNatClampNeg) (eL σ ((61 + 2 * a1.toNatClampNeg) + 1) (a3 + (1 : Int32)).toNatClampNeg)).bind (fun r6 => if r6 = 0 then ((e_X9_finding (8 : Int32) σ).bind (fun r8 => some (r8.1, r8.2))) else (if mib a3 40 = true then (if mib (a2 + (1 : Int32)) 40 = true then ((e_X9_productFits (eL σ ((61 + 2 * a1.toNatClampNeg) + 1) a3.toNatClampNeg) (eL σ ((61 + 2 * a1.toNatClampNeg) + 1) (a2 + (1 : Int32)).toNatClampNeg)).bind (fun r12 => if r12 = 0 then ((e_X9_finding (8 : Int32) σ).bind (fun r16 => some (r16.1, r16.2))) else ((e_J13_compare_74951 ((eL σ ((61 + 2 * a1.toNatClampNeg) + 1) a2.toNatClampNeg) * (eL σ ((61 + 2 * a1.toNatClampNeg) + 1) (a3 + (1 : Int32)).toNatClampNeg)) ((eL σ ((61 + 2 * a1.toNatClampNeg) + 1) a3.toNatClampNeg) * (eL σ ((61 + 2 * a1.toNatClampNeg) + 1) (a2 + (1 : Int32)).toNatClampNeg))).bind (fun r14 => if (0 : Int64) ≤ (eL σ ((61 + 2 * a1.toNatClampNeg) + 1) (a2 + (1 : Int32)).toNatClampNeg) then (if (0 : Int64) ≤ (eL σ ((61 + 2 * a1.toNatClampNeg) + 1) (a3 + (1 : Int32)).toNatClampNeg) then (some (r14, σ)) else (some ((-r14), σ))) else (if (0 : Int64) ≤ (eL σ ((61 + 2 * a1.toNatClampNeg) + 1) (a3 + (1 : Int32)).toNatClampNeg) then (some ((-r14), σ)) else (some (r14, σ))))))) else none) else none))) else none) else none) else none) else ((e_X9_finding r1 σ).bind (fun r18 => some (r18.1, r18.2))))
set_option maxRecDepth 100000 in
set_option maxHeartbeats 4000000 in
theorem k_X9_compare {l : Launch} {σ : ES} {a1 : Int32} {a2 : Int32} {a3 : Int32} {out : (Int32 × ES)} (h : e_X9_compare a1 a2 a3 σ = some out) : MK l yX9_compare cX9_compare 7 (some .int) 4 [.ref 0, .int a1, .int a2, .int a3] (mkS σ) (some (.int out.1)) (mkS out.2) := by
  unfold e_X9_compare at h
  refine mw_entry (own := RX9) (ini := false) (L := [(0, .ref 0), (1, .int a1), (2, .int a2), (3, .int a3)]) (by decide +kernel) rfl (fun h => nomatch h) rfl (Nat.le_of_ble_eq_true rfl) (Nat.le_of_ble_eq_true rfl) (fun E => ?_)
  refine mw_aload_n dX9_compare_0 0 rfl ?_
  refine mw_iload_n dX9_compare_1 1 rfl ?_
  refine mw_iload_n dX9_compare_2 2 rfl ?_
  refine mw_iload_n dX9_compare_3 3 rfl ?_
  obtain ⟨r1, e2, h⟩ := mbd h
  refine mv_callV_i (As := [.int a1, .int a2, .int a3]) (ci := 8) lkV_RX9_291_yX9_fractionFault dX9_compare_4 (k_X9_fractionFault e2) rfl rfl rfl rfl (Nat.le_of_ble_eq_true rfl) (by decide) (by decide) ?_
  refine mw_istore (L' := [(4, .int r1), (0, .ref 0), (1, .int a1), (2, .int a2), (3, .int a3)]) dX9_compare_7 (by decide) rfl ?_
  refine mw_iload dX9_compare_9 0 rfl ?_
  refine mw_iconst (v := -1) dX9_compare_11 (by decide) ?_
  refine mw_icmp_eq (tgt := 22) dX9_compare_12 (by decide) (fun hc => ?_) (fun hc => ?_)
  · have h := mit hc h
    refine mw_aload_n dX9_compare_22 1 rfl ?_
    refine ev_getR (q := 59) fd_RX9_66_8 dX9_compare_23 rfl rfl rfl ?_
    refine mw_iload_n dX9_compare_26 2 rfl ?_
    obtain ⟨m3, h⟩ := mif h
    refine ev_aald dX9_compare_27 m3 ?_
    refine ev_getR fd_RX9_295_4 dX9_compare_28 (msh_ob (esh2 m3)) rfl (msh_r (esh2 m3)) ?_
    refine mw_astore (L' := [(5, .ref ((61 + 2 * a1.toNatClampNeg) + 1)), (4, .int r1), (0, .ref 0), (1, .int a1), (2, .int a2), (3, .int a3)]) dX9_compare_31 (by decide) rfl ?_
    refine mw_aload dX9_compare_33 0 rfl ?_
    refine mw_iload_n dX9_compare_35 4 rfl ?_
    obtain ⟨m4, h⟩ := mif h
    refine ev_lald dX9_compare_36 (msh_n1 (esh2 m3)) (msh_n2 (esh2 m3)) m4 ?_
    refine mw_aload dX9_compare_37 0 rfl ?_
    refine mw_iload_n dX9_compare_39 5 rfl ?_
    refine mw_iconst (v := 1) dX9_compare_40 (by decide) ?_
    refine mw_iadd dX9_compare_41 ?_
    obtain ⟨m5, h⟩ := mif h
    refine ev_lald dX9_compare_42 (msh_n1 (esh2 m3)) (msh_n2 (esh2 m3)) m5 ?_
    obtain ⟨r6, e7, h⟩ := mbd h
    refine mv_callS_i (As := [.long (eL σ ((61 + 2 * a1.toNatClampNeg) + 1) a2.toNatClampNeg), .long (eL σ ((61 + 2 * a1.toNatClampNeg) + 1) (a3 + (1 : Int32)).toNatClampNeg)]) lkS_RX9_199_yX9_productFits dX9_compare_43 (k_X9_productFits e7) rfl rfl (Nat.le_of_ble_eq_true rfl) (by decide) (by decide) ?_
    refine mw_if_eq (tgt := 65) dX9_compare_46 (by decide) (fun hc => ?_) (fun hc => ?_)
    · have h := mit hc h
      refine mw_aload_n dX9_compare_65 2 rfl ?_
      refine mw_bipush (v := 8) dX9_compare_66 (by decide) ?_
      obtain ⟨r8, e9, h⟩ := mbd h
      refine mv_callV_i (As := [.int (8 : Int32)]) (ci := 8) lkV_RX9_79_yX9_finding dX9_compare_68 (k_X9_finding e9) rfl rfl rfl rfl (Nat.le_of_ble_eq_true rfl) (by decide) (by decide) ?_
      exact mw_iret dX9_compare_71 rfl (ers_im h) rfl rfl
    · have h := mie hc h
      refine mw_aload dX9_compare_49 0 rfl ?_
      refine mw_iload_n dX9_compare_51 5 rfl ?_
      obtain ⟨m10, h⟩ := mif h
      refine ev_lald dX9_compare_52 (msh_n1 (esh2 m3)) (msh_n2 (esh2 m3)) m10 ?_
      refine mw_aload dX9_compare_53 0 rfl ?_
      refine mw_iload_n dX9_compare_55 4 rfl ?_
      refine mw_iconst (v := 1) dX9_compare_56 (by decide) ?_
      refine mw_iadd dX9_compare_57 ?_
      obtain ⟨m11, h⟩ := mif h
      refine ev_lald dX9_compare_58 (msh_n1 (esh2 m3)) (msh_n2 (esh2 m3)) m11 ?_
      obtain ⟨r12, e13, h⟩ := mbd h
      refine mv_callS_i (As := [.long (eL σ ((61 + 2 * a1.toNatClampNeg) + 1) a3.toNatClampNeg), .long (eL σ ((61 + 2 * a1.toNatClampNeg) + 1) (a2 + (1 : Int32)).toNatClampNeg)]) lkS_RX9_199_yX9_productFits dX9_compare_59 (k_X9_productFits e13) rfl rfl (Nat.le_of_ble_eq_true rfl) (by decide) (by decide) ?_
      refine mw_if_ne (tgt := 72) dX9_compare_62 (by decide) (fun hc => ?_) (fun hc => ?_)
      · have h := mie hc h
        refine mw_aload dX9_compare_72 0 rfl ?_
        refine mw_iload_n dX9_compare_74 4 rfl ?_
        refine ev_lald dX9_compare_75 (msh_n1 (esh2 m3)) (msh_n2 (esh2 m3)) m4 ?_
        refine mw_aload dX9_compare_76 0 rfl ?_
        refine mw_iload_n dX9_compare_78 5 rfl ?_
        refine mw_iconst (v := 1) dX9_compare_79 (by decide) ?_
        refine mw_iadd dX9_compare_80 ?_
        refine ev_lald dX9_compare_81 (msh_n1 (esh2 m3)) (msh_n2 (esh2 m3)) m5 ?_
        refine mw_lmul dX9_compare_82 ?_
        refine mw_aload dX9_compare_83 0 rfl ?_
        refine mw_iload_n dX9_compare_85 5 rfl ?_
        refine ev_lald dX9_compare_86 (msh_n1 (esh2 m3)) (msh_n2 (esh2 m3)) m10 ?_
        refine mw_aload dX9_compare_87 0 rfl ?_
        refine mw_iload_n dX9_compare_89 4 rfl ?_
        refine mw_iconst (v := 1) dX9_compare_90 (by decide) ?_
        refine mw_iadd dX9_compare_91 ?_
        refine ev_lald dX9_compare_92 (msh_n1 (esh2 m3)) (msh_n2 (esh2 m3)) m11 ?_
        refine mw_lmul dX9_compare_93 ?_
        obtain ⟨r14, e15, h⟩ := mbd h
        refine mv_callS_i (As := [.long ((eL σ ((61 + 2 * a1.toNatClampNeg) + 1) a2.toNatClampNeg) * (eL σ ((61 + 2 * a1.toNatClampNeg) + 1) (a3 + (1 : Int32)).toNatClampNeg)), .long ((eL σ ((61 + 2 * a1.toNatClampNeg) + 1) a3.toNatClampNeg) * (eL σ ((61 + 2 * a1.toNatClampNeg) + 1) (a2 + (1 : Int32)).toNatClampNeg))]) lkS_RX9_298_yJ13_compare_74951 dX9_compare_94 (k_J13_compare_74951 e15) rfl rfl (Nat.le_of_ble_eq_true rfl) (by decide) (by decide) ?_
        refine mw_istore (L' := [(6, .int r14), (5, .ref ((61 + 2 * a1.toNatClampNeg) + 1)), (4, .int r1), (0, .ref 0), (1, .int a1), (2, .int a2), (3, .int a3)]) dX9_compare_97 (by decide) rfl ?_
        refine mw_aload dX9_compare_99 1 rfl ?_
        refine mw_iload_n dX9_compare_101 5 rfl ?_
        refine mw_iconst (v := 1) dX9_compare_102 (by decide) ?_
        refine mw_iadd dX9_compare_103 ?_
        refine ev_lald dX9_compare_104 (msh_n1 (esh2 m3)) (msh_n2 (esh2 m3)) m11 ?_
        refine mw_lconst (v := 0) dX9_compare_105 (by decide) ?_
        refine mw_lc_ge (tgt := 114) dX9_compare_106 dX9_compare_107 (by decide) (fun hc => ?_) (fun hc => ?_)
        · have h := mit hc h
          refine mw_iconst (v := 0) dX9_compare_114 (by decide) ?_
          refine mw_aload dX9_compare_115 1 rfl ?_
          refine mw_iload_n dX9_compare_117 6 rfl ?_
          refine mw_iconst (v := 1) dX9_compare_118 (by decide) ?_
          refine mw_iadd dX9_compare_119 ?_
          refine ev_lald dX9_compare_120 (msh_n1 (esh2 m3)) (msh_n2 (esh2 m3)) m5 ?_
          refine mw_lconst (v := 0) dX9_compare_121 (by decide) ?_
          refine mw_lc_ge (tgt := 130) dX9_compare_122 dX9_compare_123 (by decide) (fun hc => ?_) (fun hc => ?_)
          · have h := mit hc h
            refine mw_iconst (v := 0) dX9_compare_130 (by decide) ?_
            refine mw_icmp_ne (tgt := 139) dX9_compare_131 (by decide) (fun hc => absurd (by decide) hc) (fun hc => ?_)
            refine mw_iload dX9_compare_134 0 rfl ?_
            refine mw_goto (tgt := 142) dX9_compare_136 (by decide) ?_
            exact mw_iret dX9_compare_142 rfl (ers_im h) rfl rfl
          · have h := mie hc h
            refine mw_iconst (v := 1) dX9_compare_126 (by decide) ?_
            refine mw_goto (tgt := 131) dX9_compare_127 (by decide) ?_
            refine mw_icmp_ne (tgt := 139) dX9_compare_131 (by decide) (fun hc => ?_) (fun hc => absurd hc (by decide))
            refine mw_iload dX9_compare_139 0 rfl ?_
            refine mw_ineg dX9_compare_141 ?_
            exact mw_iret dX9_compare_142 rfl (ers_im h) rfl rfl
        · have h := mie hc h
          refine mw_iconst (v := 1) dX9_compare_110 (by decide) ?_
          refine mw_goto (tgt := 115) dX9_compare_111 (by decide) ?_
          refine mw_aload dX9_compare_115 1 rfl ?_
          refine mw_iload_n dX9_compare_117 6 rfl ?_
          refine mw_iconst (v := 1) dX9_compare_118 (by decide) ?_
          refine mw_iadd dX9_compare_119 ?_
          refine ev_lald dX9_compare_120 (msh_n1 (esh2 m3)) (msh_n2 (esh2 m3)) m5 ?_
          refine mw_lconst (v := 0) dX9_compare_121 (by decide) ?_
          refine mw_lc_ge (tgt := 130) dX9_compare_122 dX9_compare_123 (by decide) (fun hc => ?_) (fun hc => ?_)
          · have h := mit hc h
            refine mw_iconst (v := 0) dX9_compare_130 (by decide) ?_
            refine mw_icmp_ne (tgt := 139) dX9_compare_131 (by decide) (fun hc => ?_) (fun hc => absurd hc (by decide))
            refine mw_iload dX9_compare_139 0 rfl ?_
            refine mw_ineg dX9_compare_141 ?_
            exact mw_iret dX9_compare_142 rfl (ers_im h) rfl rfl
          · have h := mie hc h
            refine mw_iconst (v := 1) dX9_compare_126 (by decide) ?_
            refine mw_goto (tgt := 131) dX9_compare_127 (by decide) ?_
            refine mw_icmp_ne (tgt := 139) dX9_compare_131 (by decide) (fun hc => absurd (by decide) hc) (fun hc => ?_)
            refine mw_iload dX9_compare_134 0 rfl ?_
            refine mw_goto (tgt := 142) dX9_compare_136 (by decide) ?_
            exact mw_iret dX9_compare_142 rfl (ers_im h) rfl rfl
      · have h := mit hc h
        refine mw_aload_n dX9_compare_65 2 rfl ?_
        refine mw_bipush (v := 8) dX9_compare_66 (by decide) ?_
        obtain ⟨r16, e17, h⟩ := mbd h
        refine mv_callV_i (As := [.int (8 : Int32)]) (ci := 8) lkV_RX9_79_yX9_finding dX9_compare_68 (k_X9_finding e17) rfl rfl rfl rfl (Nat.le_of_ble_eq_true rfl) (by decide) (by decide) ?_
        exact mw_iret dX9_compare_71 rfl (ers_im h) rfl rfl
  · have h := mie hc h
    refine mw_aload_n dX9_compare_15 1 rfl ?_
    refine mw_iload dX9_compare_16 0 rfl ?_
    obtain ⟨r18, e19, h⟩ := mbd h
    refine mv_callV_i (As := [.int r1]) (ci := 8) lkV_RX9_79_yX9_finding dX9_compare_18 (k_X9_finding e19) rfl rfl rfl rfl (Nat.le_of_ble_eq_true rfl) (by decide) (by decide) ?_
    exact mw_iret dX9_compare_21 rfl (ers_im h) rfl rfl

theorem dX5_put_0 : decode cX5_put 0 = .ok (.aload_n 0, 1) := by decide +kernel
theorem dX5_put_1 : decode cX5_put 1 = .ok (.getfield 15, 3) := by decide +kernel
theorem dX5_put_4 : decode cX5_put 4 = .ok (.bipush 16, 2) := by decide +kernel
theorem dX5_put_6 : decode cX5_put 6 = .ok (.if_icmp .ne 16, 3) := by decide +kernel
theorem dX5_put_9 : decode cX5_put 9 = .ok (.aload_n 0, 1) := by decide +kernel
theorem dX5_put_10 : decode cX5_put 10 = .ok (.getfield 9, 3) := by decide +kernel
theorem dX5_put_13 : decode cX5_put 13 = .ok (.iload_n 1, 1) := by decide +kernel
theorem dX5_put_14 : decode cX5_put 14 = .ok (.lload_n 2, 1) := by decide +kernel
theorem dX5_put_15 : decode cX5_put 15 = .ok (.l2i, 1) := by decide +kernel
theorem dX5_put_16 : decode cX5_put 16 = .ok (.i2s, 1) := by decide +kernel
theorem dX5_put_17 : decode cX5_put 17 = .ok (.i2l, 1) := by decide +kernel
theorem dX5_put_18 : decode cX5_put 18 = .ok (.lastore, 1) := by decide +kernel
theorem dX5_put_19 : decode cX5_put 19 = .ok (.goto 31, 3) := by decide +kernel
theorem dX5_put_22 : decode cX5_put 22 = .ok (.aload_n 0, 1) := by decide +kernel
theorem dX5_put_23 : decode cX5_put 23 = .ok (.getfield 15, 3) := by decide +kernel
theorem dX5_put_26 : decode cX5_put 26 = .ok (.bipush 32, 2) := by decide +kernel
theorem dX5_put_28 : decode cX5_put 28 = .ok (.if_icmp .ne 15, 3) := by decide +kernel
theorem dX5_put_31 : decode cX5_put 31 = .ok (.aload_n 0, 1) := by decide +kernel
theorem dX5_put_32 : decode cX5_put 32 = .ok (.getfield 9, 3) := by decide +kernel
theorem dX5_put_35 : decode cX5_put 35 = .ok (.iload_n 1, 1) := by decide +kernel
theorem dX5_put_36 : decode cX5_put 36 = .ok (.lload_n 2, 1) := by decide +kernel
theorem dX5_put_37 : decode cX5_put 37 = .ok (.l2i, 1) := by decide +kernel
theorem dX5_put_38 : decode cX5_put 38 = .ok (.i2l, 1) := by decide +kernel
theorem dX5_put_39 : decode cX5_put 39 = .ok (.lastore, 1) := by decide +kernel
theorem dX5_put_40 : decode cX5_put 40 = .ok (.goto 10, 3) := by decide +kernel
theorem dX5_put_43 : decode cX5_put 43 = .ok (.aload_n 0, 1) := by decide +kernel
theorem dX5_put_44 : decode cX5_put 44 = .ok (.getfield 9, 3) := by decide +kernel
theorem dX5_put_47 : decode cX5_put 47 = .ok (.iload_n 1, 1) := by decide +kernel
theorem dX5_put_48 : decode cX5_put 48 = .ok (.lload_n 2, 1) := by decide +kernel
theorem dX5_put_49 : decode cX5_put 49 = .ok (.lastore, 1) := by decide +kernel
theorem dX5_put_50 : decode cX5_put 50 = .ok (.return_, 1) := by decide +kernel
def e_X5_put (a0 : Nat) (a1 : Int32) (a2 : Int64) (σ : ES) : Option ES := if msh a0 = true then (if (eI σ a0 0) = (16 : Int32) then (if mib a1 40 = true then (some (uL σ (a0 + 1) a1.toNatClampNeg a2.toInt32.toInt16.toInt32.toInt64)) else none) else (if (eI σ a0 0) = (32 : Int32) then (if mib a1 40 = true then (some (uL σ (a0 + 1) a1.toNatClampNeg a2.toInt32.toInt64)) else none) else (if mib a1 40 = true then (some (uL σ (a0 + 1) a1.toNatClampNeg a2)) else none))) else none
set_option maxRecDepth 100000 in
set_option maxHeartbeats 4000000 in
theorem k_X5_put {l : Launch} {σ : ES} {a0 : Nat} {a1 : Int32} {a2 : Int64} {out : ES} (h : e_X5_put a0 a1 a2 σ = some out) : MK l yX5_put cX5_put 4 none 1 [.ref a0, .int a1, .long a2] (mkS σ) none (mkS out) := by
  unfold e_X5_put at h
  refine mw_entry (own := RX5) (ini := false) (L := [(0, .ref a0), (1, .int a1), (2, .long a2)]) (by decide +kernel) rfl (fun h => nomatch h) rfl (Nat.le_of_ble_eq_true rfl) (Nat.le_of_ble_eq_true rfl) (fun E => ?_)
  refine mw_aload_n dX5_put_0 0 rfl ?_
  obtain ⟨m1, h⟩ := mif h
  refine ev_getI fd_RX5_15_4 dX5_put_1 (msh_ob m1) rfl ?_
  refine mw_bipush (v := 16) dX5_put_4 (by decide) ?_
  refine mw_icmp_ne (tgt := 22) dX5_put_6 (by decide) (fun hc => ?_) (fun hc => ?_)
  · have h := mie hc h
    refine mw_aload_n dX5_put_22 0 rfl ?_
    refine ev_getI fd_RX5_15_4 dX5_put_23 (msh_ob m1) rfl ?_
    refine mw_bipush (v := 32) dX5_put_26 (by decide) ?_
    refine mw_icmp_ne (tgt := 43) dX5_put_28 (by decide) (fun hc => ?_) (fun hc => ?_)
    · have h := mie hc h
      refine mw_aload_n dX5_put_43 0 rfl ?_
      refine ev_getR fd_RX5_9_4 dX5_put_44 (msh_ob m1) rfl (msh_r m1) ?_
      refine mw_iload_n dX5_put_47 1 rfl ?_
      refine mw_lload_n dX5_put_48 2 rfl ?_
      obtain ⟨m2, h⟩ := mif h
      refine ev_last dX5_put_49 (msh_n1 m1) (msh_n2 m1) m2 ?_
      exact mw_vret dX5_put_50 rfl (ers_vm h) rfl rfl
    · have h := mit hc h
      refine mw_aload_n dX5_put_31 0 rfl ?_
      refine ev_getR fd_RX5_9_4 dX5_put_32 (msh_ob m1) rfl (msh_r m1) ?_
      refine mw_iload_n dX5_put_35 1 rfl ?_
      refine mw_lload_n dX5_put_36 2 rfl ?_
      refine mw_l2i dX5_put_37 ?_
      refine mw_i2l dX5_put_38 ?_
      obtain ⟨m3, h⟩ := mif h
      refine ev_last dX5_put_39 (msh_n1 m1) (msh_n2 m1) m3 ?_
      refine mw_goto (tgt := 50) dX5_put_40 (by decide) ?_
      exact mw_vret dX5_put_50 rfl (ers_vm h) rfl rfl
  · have h := mit hc h
    refine mw_aload_n dX5_put_9 0 rfl ?_
    refine ev_getR fd_RX5_9_4 dX5_put_10 (msh_ob m1) rfl (msh_r m1) ?_
    refine mw_iload_n dX5_put_13 1 rfl ?_
    refine mw_lload_n dX5_put_14 2 rfl ?_
    refine mw_l2i dX5_put_15 ?_
    refine mw_i2s dX5_put_16 ?_
    refine mw_i2l dX5_put_17 ?_
    obtain ⟨m4, h⟩ := mif h
    refine ev_last dX5_put_18 (msh_n1 m1) (msh_n2 m1) m4 ?_
    refine mw_goto (tgt := 50) dX5_put_19 (by decide) ?_
    exact mw_vret dX5_put_50 rfl (ers_vm h) rfl rfl

theorem dX9_reduce_0 : decode cX9_reduce 0 = .ok (.aload_n 0, 1) := by decide +kernel
theorem dX9_reduce_1 : decode cX9_reduce 1 = .ok (.iload_n 1, 1) := by decide +kernel
theorem dX9_reduce_2 : decode cX9_reduce 2 = .ok (.iload_n 2, 1) := by decide +kernel
theorem dX9_reduce_3 : decode cX9_reduce 3 = .ok (.iload_n 2, 1) := by decide +kernel
theorem dX9_reduce_4 : decode cX9_reduce 4 = .ok (.invokevirtual 291, 3) := by decide +kernel
theorem dX9_reduce_7 : decode cX9_reduce 7 = .ok (.istore_n 3, 1) := by decide +kernel
theorem dX9_reduce_8 : decode cX9_reduce 8 = .ok (.iload_n 3, 1) := by decide +kernel
theorem dX9_reduce_9 : decode cX9_reduce 9 = .ok (.iconst (-1), 1) := by decide +kernel
theorem dX9_reduce_10 : decode cX9_reduce 10 = .ok (.if_icmp .eq 9, 3) := by decide +kernel
theorem dX9_reduce_13 : decode cX9_reduce 13 = .ok (.aload_n 0, 1) := by decide +kernel
theorem dX9_reduce_14 : decode cX9_reduce 14 = .ok (.iload_n 3, 1) := by decide +kernel
theorem dX9_reduce_15 : decode cX9_reduce 15 = .ok (.invokevirtual 164, 3) := by decide +kernel
theorem dX9_reduce_18 : decode cX9_reduce 18 = .ok (.lreturn, 1) := by decide +kernel
theorem dX9_reduce_19 : decode cX9_reduce 19 = .ok (.aload_n 0, 1) := by decide +kernel
theorem dX9_reduce_20 : decode cX9_reduce 20 = .ok (.getfield 66, 3) := by decide +kernel
theorem dX9_reduce_23 : decode cX9_reduce 23 = .ok (.iload_n 1, 1) := by decide +kernel
theorem dX9_reduce_24 : decode cX9_reduce 24 = .ok (.aaload, 1) := by decide +kernel
theorem dX9_reduce_25 : decode cX9_reduce 25 = .ok (.astore 4, 2) := by decide +kernel
theorem dX9_reduce_27 : decode cX9_reduce 27 = .ok (.aload 4, 2) := by decide +kernel
theorem dX9_reduce_29 : decode cX9_reduce 29 = .ok (.getfield 295, 3) := by decide +kernel
theorem dX9_reduce_32 : decode cX9_reduce 32 = .ok (.iload_n 2, 1) := by decide +kernel
theorem dX9_reduce_33 : decode cX9_reduce 33 = .ok (.laload, 1) := by decide +kernel
theorem dX9_reduce_34 : decode cX9_reduce 34 = .ok (.aload 4, 2) := by decide +kernel
theorem dX9_reduce_36 : decode cX9_reduce 36 = .ok (.getfield 295, 3) := by decide +kernel
theorem dX9_reduce_39 : decode cX9_reduce 39 = .ok (.iload_n 2, 1) := by decide +kernel
theorem dX9_reduce_40 : decode cX9_reduce 40 = .ok (.iconst 1, 1) := by decide +kernel
theorem dX9_reduce_41 : decode cX9_reduce 41 = .ok (.iadd, 1) := by decide +kernel
theorem dX9_reduce_42 : decode cX9_reduce 42 = .ok (.laload, 1) := by decide +kernel
theorem dX9_reduce_43 : decode cX9_reduce 43 = .ok (.invokestatic 304, 3) := by decide +kernel
theorem dX9_reduce_46 : decode cX9_reduce 46 = .ok (.lstore 5, 2) := by decide +kernel
theorem dX9_reduce_48 : decode cX9_reduce 48 = .ok (.lload 5, 2) := by decide +kernel
theorem dX9_reduce_50 : decode cX9_reduce 50 = .ok (.ldc2_w 307, 3) := by decide +kernel
theorem dX9_reduce_53 : decode cX9_reduce 53 = .ok (.lcmp, 1) := by decide +kernel
theorem dX9_reduce_54 : decode cX9_reduce 54 = .ok (.ifCond .eq 10, 3) := by decide +kernel
theorem dX9_reduce_57 : decode cX9_reduce 57 = .ok (.lload 5, 2) := by decide +kernel
theorem dX9_reduce_59 : decode cX9_reduce 59 = .ok (.lconst 0, 1) := by decide +kernel
theorem dX9_reduce_60 : decode cX9_reduce 60 = .ok (.lcmp, 1) := by decide +kernel
theorem dX9_reduce_61 : decode cX9_reduce 61 = .ok (.ifCond .ne 10, 3) := by decide +kernel
theorem dX9_reduce_64 : decode cX9_reduce 64 = .ok (.aload_n 0, 1) := by decide +kernel
theorem dX9_reduce_65 : decode cX9_reduce 65 = .ok (.bipush 8, 2) := by decide +kernel
theorem dX9_reduce_67 : decode cX9_reduce 67 = .ok (.invokevirtual 164, 3) := by decide +kernel
theorem dX9_reduce_70 : decode cX9_reduce 70 = .ok (.lreturn, 1) := by decide +kernel
theorem dX9_reduce_71 : decode cX9_reduce 71 = .ok (.aload 4, 2) := by decide +kernel
theorem dX9_reduce_73 : decode cX9_reduce 73 = .ok (.getfield 295, 3) := by decide +kernel
theorem dX9_reduce_76 : decode cX9_reduce 76 = .ok (.iload_n 2, 1) := by decide +kernel
theorem dX9_reduce_77 : decode cX9_reduce 77 = .ok (.laload, 1) := by decide +kernel
theorem dX9_reduce_78 : decode cX9_reduce 78 = .ok (.lload 5, 2) := by decide +kernel
theorem dX9_reduce_80 : decode cX9_reduce 80 = .ok (.lneg, 1) := by decide +kernel
theorem dX9_reduce_81 : decode cX9_reduce 81 = .ok (.ldiv, 1) := by decide +kernel
theorem dX9_reduce_82 : decode cX9_reduce 82 = .ok (.lstore 7, 2) := by decide +kernel
theorem dX9_reduce_84 : decode cX9_reduce 84 = .ok (.aload 4, 2) := by decide +kernel
theorem dX9_reduce_86 : decode cX9_reduce 86 = .ok (.getfield 295, 3) := by decide +kernel
theorem dX9_reduce_89 : decode cX9_reduce 89 = .ok (.iload_n 2, 1) := by decide +kernel
theorem dX9_reduce_90 : decode cX9_reduce 90 = .ok (.iconst 1, 1) := by decide +kernel
theorem dX9_reduce_91 : decode cX9_reduce 91 = .ok (.iadd, 1) := by decide +kernel
theorem dX9_reduce_92 : decode cX9_reduce 92 = .ok (.laload, 1) := by decide +kernel
theorem dX9_reduce_93 : decode cX9_reduce 93 = .ok (.lload 5, 2) := by decide +kernel
theorem dX9_reduce_95 : decode cX9_reduce 95 = .ok (.lneg, 1) := by decide +kernel
theorem dX9_reduce_96 : decode cX9_reduce 96 = .ok (.ldiv, 1) := by decide +kernel
theorem dX9_reduce_97 : decode cX9_reduce 97 = .ok (.lstore 9, 2) := by decide +kernel
theorem dX9_reduce_99 : decode cX9_reduce 99 = .ok (.lload 9, 2) := by decide +kernel
theorem dX9_reduce_101 : decode cX9_reduce 101 = .ok (.lconst 0, 1) := by decide +kernel
theorem dX9_reduce_102 : decode cX9_reduce 102 = .ok (.lcmp, 1) := by decide +kernel
theorem dX9_reduce_103 : decode cX9_reduce 103 = .ok (.ifCond .ge 38, 3) := by decide +kernel
theorem dX9_reduce_106 : decode cX9_reduce 106 = .ok (.lload 7, 2) := by decide +kernel
theorem dX9_reduce_108 : decode cX9_reduce 108 = .ok (.ldc2_w 307, 3) := by decide +kernel
theorem dX9_reduce_111 : decode cX9_reduce 111 = .ok (.lcmp, 1) := by decide +kernel
theorem dX9_reduce_112 : decode cX9_reduce 112 = .ok (.ifCond .eq 12, 3) := by decide +kernel
theorem dX9_reduce_115 : decode cX9_reduce 115 = .ok (.lload 9, 2) := by decide +kernel
theorem dX9_reduce_117 : decode cX9_reduce 117 = .ok (.ldc2_w 307, 3) := by decide +kernel
theorem dX9_reduce_120 : decode cX9_reduce 120 = .ok (.lcmp, 1) := by decide +kernel
theorem dX9_reduce_121 : decode cX9_reduce 121 = .ok (.ifCond .ne 10, 3) := by decide +kernel
theorem dX9_reduce_124 : decode cX9_reduce 124 = .ok (.aload_n 0, 1) := by decide +kernel
theorem dX9_reduce_125 : decode cX9_reduce 125 = .ok (.bipush 8, 2) := by decide +kernel
theorem dX9_reduce_127 : decode cX9_reduce 127 = .ok (.invokevirtual 164, 3) := by decide +kernel
theorem dX9_reduce_130 : decode cX9_reduce 130 = .ok (.lreturn, 1) := by decide +kernel
theorem dX9_reduce_131 : decode cX9_reduce 131 = .ok (.lload 7, 2) := by decide +kernel
theorem dX9_reduce_133 : decode cX9_reduce 133 = .ok (.lneg, 1) := by decide +kernel
theorem dX9_reduce_134 : decode cX9_reduce 134 = .ok (.lstore 7, 2) := by decide +kernel
theorem dX9_reduce_136 : decode cX9_reduce 136 = .ok (.lload 9, 2) := by decide +kernel
theorem dX9_reduce_138 : decode cX9_reduce 138 = .ok (.lneg, 1) := by decide +kernel
theorem dX9_reduce_139 : decode cX9_reduce 139 = .ok (.lstore 9, 2) := by decide +kernel
theorem dX9_reduce_141 : decode cX9_reduce 141 = .ok (.aload 4, 2) := by decide +kernel
theorem dX9_reduce_143 : decode cX9_reduce 143 = .ok (.iload_n 2, 1) := by decide +kernel
theorem dX9_reduce_144 : decode cX9_reduce 144 = .ok (.lload 7, 2) := by decide +kernel
theorem dX9_reduce_146 : decode cX9_reduce 146 = .ok (.invokevirtual 309, 3) := by decide +kernel
theorem dX9_reduce_149 : decode cX9_reduce 149 = .ok (.aload 4, 2) := by decide +kernel
theorem dX9_reduce_151 : decode cX9_reduce 151 = .ok (.iload_n 2, 1) := by decide +kernel
theorem dX9_reduce_152 : decode cX9_reduce 152 = .ok (.iconst 1, 1) := by decide +kernel
theorem dX9_reduce_153 : decode cX9_reduce 153 = .ok (.iadd, 1) := by decide +kernel
theorem dX9_reduce_154 : decode cX9_reduce 154 = .ok (.lload 9, 2) := by decide +kernel
theorem dX9_reduce_156 : decode cX9_reduce 156 = .ok (.invokevirtual 309, 3) := by decide +kernel
theorem dX9_reduce_159 : decode cX9_reduce 159 = .ok (.lload 5, 2) := by decide +kernel
theorem dX9_reduce_161 : decode cX9_reduce 161 = .ok (.lneg, 1) := by decide +kernel
theorem dX9_reduce_162 : decode cX9_reduce 162 = .ok (.lreturn, 1) := by decide +kernel
def e_X9_reduce_J141 (a1 : Int32) (a2 : Int32) (x4 : Nat) (x5 : Int64) (x7 : Int64) (x9 : Int64) (σ : ES) : Option (Int64 × ES) := (e_X5_put x4 a2 x7 σ).bind (fun r1 => if msh x4 = true then ((e_X5_put x4 (a2 + (1 : Int32)) x9 r1).bind (fun r4 => some ((-x5), r4))) else none)
set_option maxRecDepth 100000 in
set_option maxHeartbeats 4000000 in
theorem p_X9_reduce_J141 {l : Launch} {E : MX} {out : (Int64 × ES)} {a1 : Int32} {a2 : Int32}  {x4 : Nat} {x5 : Int64} {x7 : Int64} {x9 : Int64} {σ : ES} (h : e_X9_reduce_J141 a1 a2 x4 x5 x7 x9 σ = some out) : MV l E cX9_reduce RX9 11 (some .long) 4 (82, (some (.long out.1)), mkS out.2) (mkS σ) 141 [(0, .ref 0), (1, .int a1), (2, .int a2), (4, .ref x4), (5, .long x5), (7, .long x7), (9, .long x9)] [] := by
  unfold e_X9_reduce_J141 at h
  refine mw_aload dX9_reduce_141 3 rfl ?_
  refine mw_iload_n dX9_reduce_143 2 rfl ?_
  refine mw_lload dX9_reduce_144 5 rfl ?_
  obtain ⟨r1, e2, h⟩ := mbd h
  obtain ⟨m3, h⟩ := mif h
  refine mv_callV_v (As := [.int a2, .long x7]) (ci := 4) lkV_RX9_309_yX5_put dX9_reduce_146 (k_X5_put e2) rfl (msh_ob m3) rfl rfl (Nat.le_of_ble_eq_true rfl) (by decide) (by decide) ?_
  refine mw_aload dX9_reduce_149 3 rfl ?_
  refine mw_iload_n dX9_reduce_151 2 rfl ?_
  refine mw_iconst (v := 1) dX9_reduce_152 (by decide) ?_
  refine mw_iadd dX9_reduce_153 ?_
  refine mw_lload dX9_reduce_154 6 rfl ?_
  obtain ⟨r4, e5, h⟩ := mbd h
  refine mv_callV_v (As := [.int (a2 + (1 : Int32)), .long x9]) (ci := 4) lkV_RX9_309_yX5_put dX9_reduce_156 (k_X5_put e5) rfl (msh_ob m3) rfl rfl (Nat.le_of_ble_eq_true rfl) (by decide) (by decide) ?_
  refine mw_lload dX9_reduce_159 4 rfl ?_
  refine mw_lneg dX9_reduce_161 ?_
  exact mw_lret dX9_reduce_162 rfl (ers_lm h) rfl rfl
def e_X9_reduce (a1 : Int32) (a2 : Int32) (σ : ES) : Option (Int64 × ES) := (e_X9_fractionFault σ a1 a2 a2).bind (fun r1 => if r1 = (-1 : Int32) then (if mib a1 4 = true then (if mib a2 40 = true then (if mib (a2 + (1 : Int32)) 40 = true then ((e_X9_sharedBelowZero (eL σ ((61 + 2 * a1.toNatClampNeg) + 1) a2.toNatClampNeg) (eL σ ((61 + 2 * a1.toNatClampNeg) + 1) (a2 + (1 : Int32)).toNatClampNeg)).bind (fun r6 => if r6 = (-9223372036854775808 : Int64) then ((e_X9_longFinding (8 : Int32) σ).bind (fun r8 => some (r8.1, r8.2))) else (if r6 = (0 : Int64) then ((e_X9_longFinding (8 : Int32) σ).bind (fun r16 => some (r16.1, r16.2))) else (if (-r6) = 0 then none else (if (-r6) = 0 then none else (if (0 : Int64) ≤ ((eL σ ((61 + 2 * a1.toNatClampNeg) + 1) (a2 + (1 : Int32)).toNatClampNeg) / (-r6)) then (e_X9_reduce_J141 a1 a2 (61 + 2 * a1.toNatClampNeg) r6 ((eL σ ((61 + 2 * a1.toNatClampNeg) + 1) a2.toNatClampNeg) / (-r6)) ((eL σ ((61 + 2 * a1.toNatClampNeg) + 1) (a2 + (1 : Int32)).toNatClampNeg) / (-r6)) σ) else (if ((eL σ ((61 + 2 * a1.toNatClampNeg) + 1) a2.toNatClampNeg) / (-r6)) = (-9223372036854775808 : Int64) then ((e_X9_longFinding (8 : Int32) σ).bind (fun r12 => some (r12.1, r12.2))) else (if ((eL σ ((61 + 2 * a1.toNatClampNeg) + 1) (a2 + (1 : Int32)).toNatClampNeg) / (-r6)) = (-9223372036854775808 : Int64) then ((e_X9_longFinding (8 : Int32) σ).bind (fun r14 => some (r14.1, r14.2))) else (e_X9_reduce_J141 a1 a2 (61 + 2 * a1.toNatClampNeg) r6 (-((eL σ ((61 + 2 * a1.toNatClampNeg) + 1) a2.toNatClampNeg) / (-r6))) (-((eL σ ((61 + 2 * a1.toNatClampNeg) + 1) (a2 + (1 : Int32)).toNatClampNeg) / (-r6))) σ))))))))) else none) else none) else none) else ((e_X9_longFinding r1 σ).bind (fun r18 => some (r18.1, r18.2))))
set_option maxRecDepth 100000 in
set_option maxHeartbeats 4000000 in
theorem k_X9_reduce {l : Launch} {σ : ES} {a1 : Int32} {a2 : Int32} {out : (Int64 × ES)} (h : e_X9_reduce a1 a2 σ = some out) : MK l yX9_reduce cX9_reduce 11 (some .long) 4 [.ref 0, .int a1, .int a2] (mkS σ) (some (.long out.1)) (mkS out.2) := by
  unfold e_X9_reduce at h
  refine mw_entry (own := RX9) (ini := false) (L := [(0, .ref 0), (1, .int a1), (2, .int a2)]) (by decide +kernel) rfl (fun h => nomatch h) rfl (Nat.le_of_ble_eq_true rfl) (Nat.le_of_ble_eq_true rfl) (fun E => ?_)
  refine mw_aload_n dX9_reduce_0 0 rfl ?_
  refine mw_iload_n dX9_reduce_1 1 rfl ?_
  refine mw_iload_n dX9_reduce_2 2 rfl ?_
  refine mw_iload_n dX9_reduce_3 2 rfl ?_
  obtain ⟨r1, e2, h⟩ := mbd h
  refine mv_callV_i (As := [.int a1, .int a2, .int a2]) (ci := 8) lkV_RX9_291_yX9_fractionFault dX9_reduce_4 (k_X9_fractionFault e2) rfl rfl rfl rfl (Nat.le_of_ble_eq_true rfl) (by decide) (by decide) ?_
  refine mw_istore_n (L' := [(3, .int r1), (0, .ref 0), (1, .int a1), (2, .int a2)]) dX9_reduce_7 rfl (by decide) rfl ?_
  refine mw_iload_n dX9_reduce_8 0 rfl ?_
  refine mw_iconst (v := -1) dX9_reduce_9 (by decide) ?_
  refine mw_icmp_eq (tgt := 19) dX9_reduce_10 (by decide) (fun hc => ?_) (fun hc => ?_)
  · have h := mit hc h
    refine mw_aload_n dX9_reduce_19 1 rfl ?_
    refine ev_getR (q := 59) fd_RX9_66_8 dX9_reduce_20 rfl rfl rfl ?_
    refine mw_iload_n dX9_reduce_23 2 rfl ?_
    obtain ⟨m3, h⟩ := mif h
    refine ev_aald dX9_reduce_24 m3 ?_
    refine mw_astore (L' := [(4, .ref (61 + 2 * a1.toNatClampNeg)), (3, .int r1), (0, .ref 0), (1, .int a1), (2, .int a2)]) dX9_reduce_25 (by decide) rfl ?_
    refine mw_aload dX9_reduce_27 0 rfl ?_
    refine ev_getR fd_RX9_295_4 dX9_reduce_29 (msh_ob (esh2 m3)) rfl (msh_r (esh2 m3)) ?_
    refine mw_iload_n dX9_reduce_32 4 rfl ?_
    obtain ⟨m4, h⟩ := mif h
    refine ev_lald dX9_reduce_33 (msh_n1 (esh2 m3)) (msh_n2 (esh2 m3)) m4 ?_
    refine mw_aload dX9_reduce_34 0 rfl ?_
    refine ev_getR fd_RX9_295_4 dX9_reduce_36 (msh_ob (esh2 m3)) rfl (msh_r (esh2 m3)) ?_
    refine mw_iload_n dX9_reduce_39 4 rfl ?_
    refine mw_iconst (v := 1) dX9_reduce_40 (by decide) ?_
    refine mw_iadd dX9_reduce_41 ?_
    obtain ⟨m5, h⟩ := mif h
    refine ev_lald dX9_reduce_42 (msh_n1 (esh2 m3)) (msh_n2 (esh2 m3)) m5 ?_
    obtain ⟨r6, e7, h⟩ := mbd h
    refine mv_callS_l (As := [.long (eL σ ((61 + 2 * a1.toNatClampNeg) + 1) a2.toNatClampNeg), .long (eL σ ((61 + 2 * a1.toNatClampNeg) + 1) (a2 + (1 : Int32)).toNatClampNeg)]) lkS_RX9_304_yX9_sharedBelowZero dX9_reduce_43 (k_X9_sharedBelowZero e7) rfl rfl (Nat.le_of_ble_eq_true rfl) (by decide) (by decide) ?_
    refine mw_lstore (L' := [(5, .long r6), (4, .ref (61 + 2 * a1.toNatClampNeg)), (3, .int r1), (0, .ref 0), (1, .int a1), (2, .int a2)]) dX9_reduce_46 (by decide) rfl ?_
    refine mw_lload dX9_reduce_48 0 rfl ?_
    refine mw_ldc2 dX9_reduce_50 wt_170 ?_
    refine mw_lc_eq (tgt := 64) dX9_reduce_53 dX9_reduce_54 (by decide) (fun hc => ?_) (fun hc => ?_)
    · have h := mit hc h
      refine mw_aload_n dX9_reduce_64 3 rfl ?_
      refine mw_bipush (v := 8) dX9_reduce_65 (by decide) ?_
      obtain ⟨r8, e9, h⟩ := mbd h
      refine mv_callV_l (As := [.int (8 : Int32)]) (ci := 8) lkV_RX9_164_yX9_longFinding dX9_reduce_67 (k_X9_longFinding e9) rfl rfl rfl rfl (Nat.le_of_ble_eq_true rfl) (by decide) (by decide) ?_
      exact mw_lret dX9_reduce_70 rfl (ers_lm h) rfl rfl
    · have h := mie hc h
      refine mw_lload dX9_reduce_57 0 rfl ?_
      refine mw_lconst (v := 0) dX9_reduce_59 (by decide) ?_
      refine mw_lc_ne (tgt := 71) dX9_reduce_60 dX9_reduce_61 (by decide) (fun hc => ?_) (fun hc => ?_)
      · have h := mie hc h
        refine mw_aload dX9_reduce_71 1 rfl ?_
        refine ev_getR fd_RX9_295_4 dX9_reduce_73 (msh_ob (esh2 m3)) rfl (msh_r (esh2 m3)) ?_
        refine mw_iload_n dX9_reduce_76 5 rfl ?_
        refine ev_lald dX9_reduce_77 (msh_n1 (esh2 m3)) (msh_n2 (esh2 m3)) m4 ?_
        refine mw_lload dX9_reduce_78 0 rfl ?_
        refine mw_lneg dX9_reduce_80 ?_
        obtain ⟨m10, h⟩ := mnf h
        refine mw_ldiv dX9_reduce_81 m10 ?_
        refine mw_lstore (L' := [(7, .long ((eL σ ((61 + 2 * a1.toNatClampNeg) + 1) a2.toNatClampNeg) / (-r6))), (5, .long r6), (4, .ref (61 + 2 * a1.toNatClampNeg)), (3, .int r1), (0, .ref 0), (1, .int a1), (2, .int a2)]) dX9_reduce_82 (by decide) rfl ?_
        refine mw_aload dX9_reduce_84 2 rfl ?_
        refine ev_getR fd_RX9_295_4 dX9_reduce_86 (msh_ob (esh2 m3)) rfl (msh_r (esh2 m3)) ?_
        refine mw_iload_n dX9_reduce_89 6 rfl ?_
        refine mw_iconst (v := 1) dX9_reduce_90 (by decide) ?_
        refine mw_iadd dX9_reduce_91 ?_
        refine ev_lald dX9_reduce_92 (msh_n1 (esh2 m3)) (msh_n2 (esh2 m3)) m5 ?_
        refine mw_lload dX9_reduce_93 1 rfl ?_
        refine mw_lneg dX9_reduce_95 ?_
        obtain ⟨m11, h⟩ := mnf h
        refine mw_ldiv dX9_reduce_96 m11 ?_
        refine mw_lstore (L' := [(9, .long ((eL σ ((61 + 2 * a1.toNatClampNeg) + 1) (a2 + (1 : Int32)).toNatClampNeg) / (-r6))), (7, .long ((eL σ ((61 + 2 * a1.toNatClampNeg) + 1) a2.toNatClampNeg) / (-r6))), (5, .long r6), (4, .ref (61 + 2 * a1.toNatClampNeg)), (3, .int r1), (0, .ref 0), (1, .int a1), (2, .int a2)]) dX9_reduce_97 (by decide) rfl ?_
        refine mw_lload dX9_reduce_99 0 rfl ?_
        refine mw_lconst (v := 0) dX9_reduce_101 (by decide) ?_
        refine mw_lc_ge (tgt := 141) dX9_reduce_102 dX9_reduce_103 (by decide) (fun hc => ?_) (fun hc => ?_)
        · have h := mit hc h
          exact mw_sub (L' := [(0, .ref 0), (1, .int a1), (2, .int a2), (4, .ref (61 + 2 * a1.toNatClampNeg)), (5, .long r6), (7, .long ((eL σ ((61 + 2 * a1.toNatClampNeg) + 1) a2.toNatClampNeg) / (-r6))), (9, .long ((eL σ ((61 + 2 * a1.toNatClampNeg) + 1) (a2 + (1 : Int32)).toNatClampNeg) / (-r6)))]) [5, 6, 7, 3, 2, 1, 0] rfl (p_X9_reduce_J141  h)
        · have h := mie hc h
          refine mw_lload dX9_reduce_106 1 rfl ?_
          refine mw_ldc2 dX9_reduce_108 wt_170 ?_
          refine mw_lc_eq (tgt := 124) dX9_reduce_111 dX9_reduce_112 (by decide) (fun hc => ?_) (fun hc => ?_)
          · have h := mit hc h
            refine mw_aload_n dX9_reduce_124 5 rfl ?_
            refine mw_bipush (v := 8) dX9_reduce_125 (by decide) ?_
            obtain ⟨r12, e13, h⟩ := mbd h
            refine mv_callV_l (As := [.int (8 : Int32)]) (ci := 8) lkV_RX9_164_yX9_longFinding dX9_reduce_127 (k_X9_longFinding e13) rfl rfl rfl rfl (Nat.le_of_ble_eq_true rfl) (by decide) (by decide) ?_
            exact mw_lret dX9_reduce_130 rfl (ers_lm h) rfl rfl
          · have h := mie hc h
            refine mw_lload dX9_reduce_115 0 rfl ?_
            refine mw_ldc2 dX9_reduce_117 wt_170 ?_
            refine mw_lc_ne (tgt := 131) dX9_reduce_120 dX9_reduce_121 (by decide) (fun hc => ?_) (fun hc => ?_)
            · have h := mie hc h
              refine mw_lload dX9_reduce_131 1 rfl ?_
              refine mw_lneg dX9_reduce_133 ?_
              refine mw_lstore (L' := [(7, .long (-((eL σ ((61 + 2 * a1.toNatClampNeg) + 1) a2.toNatClampNeg) / (-r6)))), (9, .long ((eL σ ((61 + 2 * a1.toNatClampNeg) + 1) (a2 + (1 : Int32)).toNatClampNeg) / (-r6))), (5, .long r6), (4, .ref (61 + 2 * a1.toNatClampNeg)), (3, .int r1), (0, .ref 0), (1, .int a1), (2, .int a2)]) dX9_reduce_134 (by decide) rfl ?_
              refine mw_lload dX9_reduce_136 1 rfl ?_
              refine mw_lneg dX9_reduce_138 ?_
              refine mw_lstore (L' := [(9, .long (-((eL σ ((61 + 2 * a1.toNatClampNeg) + 1) (a2 + (1 : Int32)).toNatClampNeg) / (-r6)))), (7, .long (-((eL σ ((61 + 2 * a1.toNatClampNeg) + 1) a2.toNatClampNeg) / (-r6)))), (5, .long r6), (4, .ref (61 + 2 * a1.toNatClampNeg)), (3, .int r1), (0, .ref 0), (1, .int a1), (2, .int a2)]) dX9_reduce_139 (by decide) rfl ?_
              exact mw_sub (L' := [(0, .ref 0), (1, .int a1), (2, .int a2), (4, .ref (61 + 2 * a1.toNatClampNeg)), (5, .long r6), (7, .long (-((eL σ ((61 + 2 * a1.toNatClampNeg) + 1) a2.toNatClampNeg) / (-r6)))), (9, .long (-((eL σ ((61 + 2 * a1.toNatClampNeg) + 1) (a2 + (1 : Int32)).toNatClampNeg) / (-r6))))]) [5, 6, 7, 3, 2, 1, 0] rfl (p_X9_reduce_J141  h)
            · have h := mit hc h
              refine mw_aload_n dX9_reduce_124 5 rfl ?_
              refine mw_bipush (v := 8) dX9_reduce_125 (by decide) ?_
              obtain ⟨r14, e15, h⟩ := mbd h
              refine mv_callV_l (As := [.int (8 : Int32)]) (ci := 8) lkV_RX9_164_yX9_longFinding dX9_reduce_127 (k_X9_longFinding e15) rfl rfl rfl rfl (Nat.le_of_ble_eq_true rfl) (by decide) (by decide) ?_
              exact mw_lret dX9_reduce_130 rfl (ers_lm h) rfl rfl
      · have h := mit hc h
        refine mw_aload_n dX9_reduce_64 3 rfl ?_
        refine mw_bipush (v := 8) dX9_reduce_65 (by decide) ?_
        obtain ⟨r16, e17, h⟩ := mbd h
        refine mv_callV_l (As := [.int (8 : Int32)]) (ci := 8) lkV_RX9_164_yX9_longFinding dX9_reduce_67 (k_X9_longFinding e17) rfl rfl rfl rfl (Nat.le_of_ble_eq_true rfl) (by decide) (by decide) ?_
        exact mw_lret dX9_reduce_70 rfl (ers_lm h) rfl rfl
  · have h := mie hc h
    refine mw_aload_n dX9_reduce_13 1 rfl ?_
    refine mw_iload_n dX9_reduce_14 0 rfl ?_
    obtain ⟨r18, e19, h⟩ := mbd h
    refine mv_callV_l (As := [.int r1]) (ci := 8) lkV_RX9_164_yX9_longFinding dX9_reduce_15 (k_X9_longFinding e19) rfl rfl rfl rfl (Nat.le_of_ble_eq_true rfl) (by decide) (by decide) ?_
    exact mw_lret dX9_reduce_18 rfl (ers_lm h) rfl rfl

theorem dX9_sumFits_0 : decode cX9_sumFits 0 = .ok (.lload_n 0, 1) := by decide +kernel
theorem dX9_sumFits_1 : decode cX9_sumFits 1 = .ok (.lload_n 2, 1) := by decide +kernel
theorem dX9_sumFits_2 : decode cX9_sumFits 2 = .ok (.ladd, 1) := by decide +kernel
theorem dX9_sumFits_3 : decode cX9_sumFits 3 = .ok (.lstore 4, 2) := by decide +kernel
theorem dX9_sumFits_5 : decode cX9_sumFits 5 = .ok (.lload_n 0, 1) := by decide +kernel
theorem dX9_sumFits_6 : decode cX9_sumFits 6 = .ok (.lload 4, 2) := by decide +kernel
theorem dX9_sumFits_8 : decode cX9_sumFits 8 = .ok (.lxor, 1) := by decide +kernel
theorem dX9_sumFits_9 : decode cX9_sumFits 9 = .ok (.lload_n 2, 1) := by decide +kernel
theorem dX9_sumFits_10 : decode cX9_sumFits 10 = .ok (.lload 4, 2) := by decide +kernel
theorem dX9_sumFits_12 : decode cX9_sumFits 12 = .ok (.lxor, 1) := by decide +kernel
theorem dX9_sumFits_13 : decode cX9_sumFits 13 = .ok (.land, 1) := by decide +kernel
theorem dX9_sumFits_14 : decode cX9_sumFits 14 = .ok (.lconst 0, 1) := by decide +kernel
theorem dX9_sumFits_15 : decode cX9_sumFits 15 = .ok (.lcmp, 1) := by decide +kernel
theorem dX9_sumFits_16 : decode cX9_sumFits 16 = .ok (.ifCond .lt 7, 3) := by decide +kernel
theorem dX9_sumFits_19 : decode cX9_sumFits 19 = .ok (.iconst 1, 1) := by decide +kernel
theorem dX9_sumFits_20 : decode cX9_sumFits 20 = .ok (.goto 4, 3) := by decide +kernel
theorem dX9_sumFits_23 : decode cX9_sumFits 23 = .ok (.iconst 0, 1) := by decide +kernel
theorem dX9_sumFits_24 : decode cX9_sumFits 24 = .ok (.ireturn, 1) := by decide +kernel
def e_X9_sumFits (a0 : Int64) (a2 : Int64) : Option Int32 := if ((a0 ^^^ (a0 + a2)) &&& (a2 ^^^ (a0 + a2))) < (0 : Int64) then (some (0 : Int32)) else (some (1 : Int32))
set_option maxRecDepth 100000 in
set_option maxHeartbeats 4000000 in
theorem k_X9_sumFits {l : Launch} {σ : ES} {a0 : Int64} {a2 : Int64} {out : Int32} (h : e_X9_sumFits a0 a2 = some out) : MK l yX9_sumFits cX9_sumFits 6 (some .boolean) 1 [.long a0, .long a2] (mkS σ) (some (.int out)) (mkS σ) := by
  unfold e_X9_sumFits at h
  refine mw_entry (own := RX9) (ini := false) (L := [(0, .long a0), (2, .long a2)]) (by decide +kernel) rfl (fun h => nomatch h) rfl (Nat.le_of_ble_eq_true rfl) (Nat.le_of_ble_eq_true rfl) (fun E => ?_)
  refine mw_lload_n dX9_sumFits_0 0 rfl ?_
  refine mw_lload_n dX9_sumFits_1 1 rfl ?_
  refine mw_ladd dX9_sumFits_2 ?_
  refine mw_lstore (L' := [(4, .long (a0 + a2)), (0, .long a0), (2, .long a2)]) dX9_sumFits_3 (by decide) rfl ?_
  refine mw_lload_n dX9_sumFits_5 1 rfl ?_
  refine mw_lload dX9_sumFits_6 0 rfl ?_
  refine mw_lxor dX9_sumFits_8 ?_
  refine mw_lload_n dX9_sumFits_9 2 rfl ?_
  refine mw_lload dX9_sumFits_10 0 rfl ?_
  refine mw_lxor dX9_sumFits_12 ?_
  refine mw_land dX9_sumFits_13 ?_
  refine mw_lconst (v := 0) dX9_sumFits_14 (by decide) ?_
  refine mw_lc_lt (tgt := 23) dX9_sumFits_15 dX9_sumFits_16 (by decide) (fun hc => ?_) (fun hc => ?_)
  · have h := mit hc h
    refine mw_iconst (v := 0) dX9_sumFits_23 (by decide) ?_
    exact mw_zret dX9_sumFits_24 rfl (by decide) (ers_i h) rfl rfl
  · have h := mie hc h
    refine mw_iconst (v := 1) dX9_sumFits_19 (by decide) ?_
    refine mw_goto (tgt := 24) dX9_sumFits_20 (by decide) ?_
    exact mw_zret dX9_sumFits_24 rfl (by decide) (ers_i h) rfl rfl

theorem dX9_add_0 : decode cX9_add 0 = .ok (.aload_n 0, 1) := by decide +kernel
theorem dX9_add_1 : decode cX9_add 1 = .ok (.iload_n 1, 1) := by decide +kernel
theorem dX9_add_2 : decode cX9_add 2 = .ok (.iload_n 2, 1) := by decide +kernel
theorem dX9_add_3 : decode cX9_add 3 = .ok (.iload_n 3, 1) := by decide +kernel
theorem dX9_add_4 : decode cX9_add 4 = .ok (.invokevirtual 291, 3) := by decide +kernel
theorem dX9_add_7 : decode cX9_add 7 = .ok (.istore 4, 2) := by decide +kernel
theorem dX9_add_9 : decode cX9_add 9 = .ok (.iload 4, 2) := by decide +kernel
theorem dX9_add_11 : decode cX9_add 11 = .ok (.iconst (-1), 1) := by decide +kernel
theorem dX9_add_12 : decode cX9_add 12 = .ok (.if_icmp .eq 10, 3) := by decide +kernel
theorem dX9_add_15 : decode cX9_add 15 = .ok (.aload_n 0, 1) := by decide +kernel
theorem dX9_add_16 : decode cX9_add 16 = .ok (.iload 4, 2) := by decide +kernel
theorem dX9_add_18 : decode cX9_add 18 = .ok (.invokevirtual 79, 3) := by decide +kernel
theorem dX9_add_21 : decode cX9_add 21 = .ok (.ireturn, 1) := by decide +kernel
theorem dX9_add_22 : decode cX9_add 22 = .ok (.aload_n 0, 1) := by decide +kernel
theorem dX9_add_23 : decode cX9_add 23 = .ok (.getfield 66, 3) := by decide +kernel
theorem dX9_add_26 : decode cX9_add 26 = .ok (.iload_n 1, 1) := by decide +kernel
theorem dX9_add_27 : decode cX9_add 27 = .ok (.aaload, 1) := by decide +kernel
theorem dX9_add_28 : decode cX9_add 28 = .ok (.astore 5, 2) := by decide +kernel
theorem dX9_add_30 : decode cX9_add 30 = .ok (.aload 5, 2) := by decide +kernel
theorem dX9_add_32 : decode cX9_add 32 = .ok (.getfield 295, 3) := by decide +kernel
theorem dX9_add_35 : decode cX9_add 35 = .ok (.iload_n 2, 1) := by decide +kernel
theorem dX9_add_36 : decode cX9_add 36 = .ok (.laload, 1) := by decide +kernel
theorem dX9_add_37 : decode cX9_add 37 = .ok (.lstore 6, 2) := by decide +kernel
theorem dX9_add_39 : decode cX9_add 39 = .ok (.aload 5, 2) := by decide +kernel
theorem dX9_add_41 : decode cX9_add 41 = .ok (.getfield 295, 3) := by decide +kernel
theorem dX9_add_44 : decode cX9_add 44 = .ok (.iload_n 2, 1) := by decide +kernel
theorem dX9_add_45 : decode cX9_add 45 = .ok (.iconst 1, 1) := by decide +kernel
theorem dX9_add_46 : decode cX9_add 46 = .ok (.iadd, 1) := by decide +kernel
theorem dX9_add_47 : decode cX9_add 47 = .ok (.laload, 1) := by decide +kernel
theorem dX9_add_48 : decode cX9_add 48 = .ok (.lstore 8, 2) := by decide +kernel
theorem dX9_add_50 : decode cX9_add 50 = .ok (.aload 5, 2) := by decide +kernel
theorem dX9_add_52 : decode cX9_add 52 = .ok (.getfield 295, 3) := by decide +kernel
theorem dX9_add_55 : decode cX9_add 55 = .ok (.iload_n 3, 1) := by decide +kernel
theorem dX9_add_56 : decode cX9_add 56 = .ok (.laload, 1) := by decide +kernel
theorem dX9_add_57 : decode cX9_add 57 = .ok (.lstore 10, 2) := by decide +kernel
theorem dX9_add_59 : decode cX9_add 59 = .ok (.aload 5, 2) := by decide +kernel
theorem dX9_add_61 : decode cX9_add 61 = .ok (.getfield 295, 3) := by decide +kernel
theorem dX9_add_64 : decode cX9_add 64 = .ok (.iload_n 3, 1) := by decide +kernel
theorem dX9_add_65 : decode cX9_add 65 = .ok (.iconst 1, 1) := by decide +kernel
theorem dX9_add_66 : decode cX9_add 66 = .ok (.iadd, 1) := by decide +kernel
theorem dX9_add_67 : decode cX9_add 67 = .ok (.laload, 1) := by decide +kernel
theorem dX9_add_68 : decode cX9_add 68 = .ok (.lstore 12, 2) := by decide +kernel
theorem dX9_add_70 : decode cX9_add 70 = .ok (.lload 6, 2) := by decide +kernel
theorem dX9_add_72 : decode cX9_add 72 = .ok (.lload 12, 2) := by decide +kernel
theorem dX9_add_74 : decode cX9_add 74 = .ok (.invokestatic 199, 3) := by decide +kernel
theorem dX9_add_77 : decode cX9_add 77 = .ok (.ifCond .eq 23, 3) := by decide +kernel
theorem dX9_add_80 : decode cX9_add 80 = .ok (.lload 10, 2) := by decide +kernel
theorem dX9_add_82 : decode cX9_add 82 = .ok (.lload 8, 2) := by decide +kernel
theorem dX9_add_84 : decode cX9_add 84 = .ok (.invokestatic 199, 3) := by decide +kernel
theorem dX9_add_87 : decode cX9_add 87 = .ok (.ifCond .eq 13, 3) := by decide +kernel
theorem dX9_add_90 : decode cX9_add 90 = .ok (.lload 8, 2) := by decide +kernel
theorem dX9_add_92 : decode cX9_add 92 = .ok (.lload 12, 2) := by decide +kernel
theorem dX9_add_94 : decode cX9_add 94 = .ok (.invokestatic 199, 3) := by decide +kernel
theorem dX9_add_97 : decode cX9_add 97 = .ok (.ifCond .ne 10, 3) := by decide +kernel
theorem dX9_add_100 : decode cX9_add 100 = .ok (.aload_n 0, 1) := by decide +kernel
theorem dX9_add_101 : decode cX9_add 101 = .ok (.bipush 8, 2) := by decide +kernel
theorem dX9_add_103 : decode cX9_add 103 = .ok (.invokevirtual 79, 3) := by decide +kernel
theorem dX9_add_106 : decode cX9_add 106 = .ok (.ireturn, 1) := by decide +kernel
theorem dX9_add_107 : decode cX9_add 107 = .ok (.lload 6, 2) := by decide +kernel
theorem dX9_add_109 : decode cX9_add 109 = .ok (.lload 12, 2) := by decide +kernel
theorem dX9_add_111 : decode cX9_add 111 = .ok (.lmul, 1) := by decide +kernel
theorem dX9_add_112 : decode cX9_add 112 = .ok (.lload 10, 2) := by decide +kernel
theorem dX9_add_114 : decode cX9_add 114 = .ok (.lload 8, 2) := by decide +kernel
theorem dX9_add_116 : decode cX9_add 116 = .ok (.lmul, 1) := by decide +kernel
theorem dX9_add_117 : decode cX9_add 117 = .ok (.invokestatic 312, 3) := by decide +kernel
theorem dX9_add_120 : decode cX9_add 120 = .ok (.ifCond .ne 10, 3) := by decide +kernel
theorem dX9_add_123 : decode cX9_add 123 = .ok (.aload_n 0, 1) := by decide +kernel
theorem dX9_add_124 : decode cX9_add 124 = .ok (.bipush 8, 2) := by decide +kernel
theorem dX9_add_126 : decode cX9_add 126 = .ok (.invokevirtual 79, 3) := by decide +kernel
theorem dX9_add_129 : decode cX9_add 129 = .ok (.ireturn, 1) := by decide +kernel
theorem dX9_add_130 : decode cX9_add 130 = .ok (.aload 5, 2) := by decide +kernel
theorem dX9_add_132 : decode cX9_add 132 = .ok (.iload_n 2, 1) := by decide +kernel
theorem dX9_add_133 : decode cX9_add 133 = .ok (.lload 6, 2) := by decide +kernel
theorem dX9_add_135 : decode cX9_add 135 = .ok (.lload 12, 2) := by decide +kernel
theorem dX9_add_137 : decode cX9_add 137 = .ok (.lmul, 1) := by decide +kernel
theorem dX9_add_138 : decode cX9_add 138 = .ok (.lload 10, 2) := by decide +kernel
theorem dX9_add_140 : decode cX9_add 140 = .ok (.lload 8, 2) := by decide +kernel
theorem dX9_add_142 : decode cX9_add 142 = .ok (.lmul, 1) := by decide +kernel
theorem dX9_add_143 : decode cX9_add 143 = .ok (.ladd, 1) := by decide +kernel
theorem dX9_add_144 : decode cX9_add 144 = .ok (.invokevirtual 309, 3) := by decide +kernel
theorem dX9_add_147 : decode cX9_add 147 = .ok (.aload 5, 2) := by decide +kernel
theorem dX9_add_149 : decode cX9_add 149 = .ok (.iload_n 2, 1) := by decide +kernel
theorem dX9_add_150 : decode cX9_add 150 = .ok (.iconst 1, 1) := by decide +kernel
theorem dX9_add_151 : decode cX9_add 151 = .ok (.iadd, 1) := by decide +kernel
theorem dX9_add_152 : decode cX9_add 152 = .ok (.lload 8, 2) := by decide +kernel
theorem dX9_add_154 : decode cX9_add 154 = .ok (.lload 12, 2) := by decide +kernel
theorem dX9_add_156 : decode cX9_add 156 = .ok (.lmul, 1) := by decide +kernel
theorem dX9_add_157 : decode cX9_add 157 = .ok (.invokevirtual 309, 3) := by decide +kernel
theorem dX9_add_160 : decode cX9_add 160 = .ok (.iconst 1, 1) := by decide +kernel
theorem dX9_add_161 : decode cX9_add 161 = .ok (.ireturn, 1) := by decide +kernel
def e_X9_add (a1 : Int32) (a2 : Int32) (a3 : Int32) (σ : ES) : Option (Int32 × ES) := (e_X9_fractionFault σ a1 a2 a3).bind (fun r1 => if r1 = (-1 : Int32) then (if mib a1 4 = true then (if mib a2 40 = true then (if mib (a2 + (1 : Int32)) 40 = true then (if mib a3 40 = true then (if mib (a3 + (1 : Int32)) 40 = true then ((e_X9_productFits (eL σ ((61 + 2 * a1.toNatClampNeg) + 1) a2.toNatClampNeg) (eL σ ((61 + 2 * a1.toNatClampNeg) + 1) (a3 + (1 : Int32)).toNatClampNeg)).bind (fun r8 => if r8 = 0 then ((e_X9_finding (8 : Int32) σ).bind (fun r10 => some (r10.1, r10.2))) else ((e_X9_productFits (eL σ ((61 + 2 * a1.toNatClampNeg) + 1) a3.toNatClampNeg) (eL σ ((61 + 2 * a1.toNatClampNeg) + 1) (a2 + (1 : Int32)).toNatClampNeg)).bind (fun r12 => if r12 = 0 then ((e_X9_finding (8 : Int32) σ).bind (fun r14 => some (r14.1, r14.2))) else ((e_X9_productFits (eL σ ((61 + 2 * a1.toNatClampNeg) + 1) (a2 + (1 : Int32)).toNatClampNeg) (eL σ ((61 + 2 * a1.toNatClampNeg) + 1) (a3 + (1 : Int32)).toNatClampNeg)).bind (fun r16 => if r16 = 0 then ((e_X9_finding (8 : Int32) σ).bind (fun r26 => some (r26.1, r26.2))) else ((e_X9_sumFits ((eL σ ((61 + 2 * a1.toNatClampNeg) + 1) a2.toNatClampNeg) * (eL σ ((61 + 2 * a1.toNatClampNeg) + 1) (a3 + (1 : Int32)).toNatClampNeg)) ((eL σ ((61 + 2 * a1.toNatClampNeg) + 1) a3.toNatClampNeg) * (eL σ ((61 + 2 * a1.toNatClampNeg) + 1) (a2 + (1 : Int32)).toNatClampNeg))).bind (fun r18 => if r18 = 0 then ((e_X9_finding (8 : Int32) σ).bind (fun r24 => some (r24.1, r24.2))) else ((e_X5_put (61 + 2 * a1.toNatClampNeg) a2 (((eL σ ((61 + 2 * a1.toNatClampNeg) + 1) a2.toNatClampNeg) * (eL σ ((61 + 2 * a1.toNatClampNeg) + 1) (a3 + (1 : Int32)).toNatClampNeg)) + ((eL σ ((61 + 2 * a1.toNatClampNeg) + 1) a3.toNatClampNeg) * (eL σ ((61 + 2 * a1.toNatClampNeg) + 1) (a2 + (1 : Int32)).toNatClampNeg))) σ).bind (fun r20 => (e_X5_put (61 + 2 * a1.toNatClampNeg) (a2 + (1 : Int32)) ((eL σ ((61 + 2 * a1.toNatClampNeg) + 1) (a2 + (1 : Int32)).toNatClampNeg) * (eL σ ((61 + 2 * a1.toNatClampNeg) + 1) (a3 + (1 : Int32)).toNatClampNeg)) r20).bind (fun r22 => some ((1 : Int32), r22)))))))))))) else none) else none) else none) else none) else none) else ((e_X9_finding r1 σ).bind (fun r28 => some (r28.1, r28.2))))
set_option maxRecDepth 100000 in
set_option maxHeartbeats 4000000 in
theorem k_X9_add {l : Launch} {σ : ES} {a1 : Int32} {a2 : Int32} {a3 : Int32} {out : (Int32 × ES)} (h : e_X9_add a1 a2 a3 σ = some out) : MK l yX9_add cX9_add 14 (some .int) 4 [.ref 0, .int a1, .int a2, .int a3] (mkS σ) (some (.int out.1)) (mkS out.2) := by
  unfold e_X9_add at h
  refine mw_entry (own := RX9) (ini := false) (L := [(0, .ref 0), (1, .int a1), (2, .int a2), (3, .int a3)]) (by decide +kernel) rfl (fun h => nomatch h) rfl (Nat.le_of_ble_eq_true rfl) (Nat.le_of_ble_eq_true rfl) (fun E => ?_)
  refine mw_aload_n dX9_add_0 0 rfl ?_
  refine mw_iload_n dX9_add_1 1 rfl ?_
  refine mw_iload_n dX9_add_2 2 rfl ?_
  refine mw_iload_n dX9_add_3 3 rfl ?_
  obtain ⟨r1, e2, h⟩ := mbd h
  refine mv_callV_i (As := [.int a1, .int a2, .int a3]) (ci := 8) lkV_RX9_291_yX9_fractionFault dX9_add_4 (k_X9_fractionFault e2) rfl rfl rfl rfl (Nat.le_of_ble_eq_true rfl) (by decide) (by decide) ?_
  refine mw_istore (L' := [(4, .int r1), (0, .ref 0), (1, .int a1), (2, .int a2), (3, .int a3)]) dX9_add_7 (by decide) rfl ?_
  refine mw_iload dX9_add_9 0 rfl ?_
  refine mw_iconst (v := -1) dX9_add_11 (by decide) ?_
  refine mw_icmp_eq (tgt := 22) dX9_add_12 (by decide) (fun hc => ?_) (fun hc => ?_)
  · have h := mit hc h
    refine mw_aload_n dX9_add_22 1 rfl ?_
    refine ev_getR (q := 59) fd_RX9_66_8 dX9_add_23 rfl rfl rfl ?_
    refine mw_iload_n dX9_add_26 2 rfl ?_
    obtain ⟨m3, h⟩ := mif h
    refine ev_aald dX9_add_27 m3 ?_
    refine mw_astore (L' := [(5, .ref (61 + 2 * a1.toNatClampNeg)), (4, .int r1), (0, .ref 0), (1, .int a1), (2, .int a2), (3, .int a3)]) dX9_add_28 (by decide) rfl ?_
    refine mw_aload dX9_add_30 0 rfl ?_
    refine ev_getR fd_RX9_295_4 dX9_add_32 (msh_ob (esh2 m3)) rfl (msh_r (esh2 m3)) ?_
    refine mw_iload_n dX9_add_35 4 rfl ?_
    obtain ⟨m4, h⟩ := mif h
    refine ev_lald dX9_add_36 (msh_n1 (esh2 m3)) (msh_n2 (esh2 m3)) m4 ?_
    refine mw_lstore (L' := [(6, .long (eL σ ((61 + 2 * a1.toNatClampNeg) + 1) a2.toNatClampNeg)), (5, .ref (61 + 2 * a1.toNatClampNeg)), (4, .int r1), (0, .ref 0), (1, .int a1), (2, .int a2), (3, .int a3)]) dX9_add_37 (by decide) rfl ?_
    refine mw_aload dX9_add_39 1 rfl ?_
    refine ev_getR fd_RX9_295_4 dX9_add_41 (msh_ob (esh2 m3)) rfl (msh_r (esh2 m3)) ?_
    refine mw_iload_n dX9_add_44 5 rfl ?_
    refine mw_iconst (v := 1) dX9_add_45 (by decide) ?_
    refine mw_iadd dX9_add_46 ?_
    obtain ⟨m5, h⟩ := mif h
    refine ev_lald dX9_add_47 (msh_n1 (esh2 m3)) (msh_n2 (esh2 m3)) m5 ?_
    refine mw_lstore (L' := [(8, .long (eL σ ((61 + 2 * a1.toNatClampNeg) + 1) (a2 + (1 : Int32)).toNatClampNeg)), (6, .long (eL σ ((61 + 2 * a1.toNatClampNeg) + 1) a2.toNatClampNeg)), (5, .ref (61 + 2 * a1.toNatClampNeg)), (4, .int r1), (0, .ref 0), (1, .int a1), (2, .int a2), (3, .int a3)]) dX9_add_48 (by decide) rfl ?_
    refine mw_aload dX9_add_50 2 rfl ?_
    refine ev_getR fd_RX9_295_4 dX9_add_52 (msh_ob (esh2 m3)) rfl (msh_r (esh2 m3)) ?_
    refine mw_iload_n dX9_add_55 7 rfl ?_
    obtain ⟨m6, h⟩ := mif h
    refine ev_lald dX9_add_56 (msh_n1 (esh2 m3)) (msh_n2 (esh2 m3)) m6 ?_
    refine mw_lstore (L' := [(10, .long (eL σ ((61 + 2 * a1.toNatClampNeg) + 1) a3.toNatClampNeg)), (8, .long (eL σ ((61 + 2 * a1.toNatClampNeg) + 1) (a2 + (1 : Int32)).toNatClampNeg)), (6, .long (eL σ ((61 + 2 * a1.toNatClampNeg) + 1) a2.toNatClampNeg)), (5, .ref (61 + 2 * a1.toNatClampNeg)), (4, .int r1), (0, .ref 0), (1, .int a1), (2, .int a2), (3, .int a3)]) dX9_add_57 (by decide) rfl ?_
    refine mw_aload dX9_add_59 3 rfl ?_
    refine ev_getR fd_RX9_295_4 dX9_add_61 (msh_ob (esh2 m3)) rfl (msh_r (esh2 m3)) ?_
    refine mw_iload_n dX9_add_64 8 rfl ?_
    refine mw_iconst (v := 1) dX9_add_65 (by decide) ?_
    refine mw_iadd dX9_add_66 ?_
    obtain ⟨m7, h⟩ := mif h
    refine ev_lald dX9_add_67 (msh_n1 (esh2 m3)) (msh_n2 (esh2 m3)) m7 ?_
    refine mw_lstore (L' := [(12, .long (eL σ ((61 + 2 * a1.toNatClampNeg) + 1) (a3 + (1 : Int32)).toNatClampNeg)), (10, .long (eL σ ((61 + 2 * a1.toNatClampNeg) + 1) a3.toNatClampNeg)), (8, .long (eL σ ((61 + 2 * a1.toNatClampNeg) + 1) (a2 + (1 : Int32)).toNatClampNeg)), (6, .long (eL σ ((61 + 2 * a1.toNatClampNeg) + 1) a2.toNatClampNeg)), (5, .ref (61 + 2 * a1.toNatClampNeg)), (4, .int r1), (0, .ref 0), (1, .int a1), (2, .int a2), (3, .int a3)]) dX9_add_68 (by decide) rfl ?_
    refine mw_lload dX9_add_70 3 rfl ?_
    refine mw_lload dX9_add_72 0 rfl ?_
    obtain ⟨r8, e9, h⟩ := mbd h
    refine mv_callS_i (As := [.long (eL σ ((61 + 2 * a1.toNatClampNeg) + 1) a2.toNatClampNeg), .long (eL σ ((61 + 2 * a1.toNatClampNeg) + 1) (a3 + (1 : Int32)).toNatClampNeg)]) lkS_RX9_199_yX9_productFits dX9_add_74 (k_X9_productFits e9) rfl rfl (Nat.le_of_ble_eq_true rfl) (by decide) (by decide) ?_
    refine mw_if_eq (tgt := 100) dX9_add_77 (by decide) (fun hc => ?_) (fun hc => ?_)
    · have h := mit hc h
      refine mw_aload_n dX9_add_100 6 rfl ?_
      refine mw_bipush (v := 8) dX9_add_101 (by decide) ?_
      obtain ⟨r10, e11, h⟩ := mbd h
      refine mv_callV_i (As := [.int (8 : Int32)]) (ci := 8) lkV_RX9_79_yX9_finding dX9_add_103 (k_X9_finding e11) rfl rfl rfl rfl (Nat.le_of_ble_eq_true rfl) (by decide) (by decide) ?_
      exact mw_iret dX9_add_106 rfl (ers_im h) rfl rfl
    · have h := mie hc h
      refine mw_lload dX9_add_80 1 rfl ?_
      refine mw_lload dX9_add_82 2 rfl ?_
      obtain ⟨r12, e13, h⟩ := mbd h
      refine mv_callS_i (As := [.long (eL σ ((61 + 2 * a1.toNatClampNeg) + 1) a3.toNatClampNeg), .long (eL σ ((61 + 2 * a1.toNatClampNeg) + 1) (a2 + (1 : Int32)).toNatClampNeg)]) lkS_RX9_199_yX9_productFits dX9_add_84 (k_X9_productFits e13) rfl rfl (Nat.le_of_ble_eq_true rfl) (by decide) (by decide) ?_
      refine mw_if_eq (tgt := 100) dX9_add_87 (by decide) (fun hc => ?_) (fun hc => ?_)
      · have h := mit hc h
        refine mw_aload_n dX9_add_100 6 rfl ?_
        refine mw_bipush (v := 8) dX9_add_101 (by decide) ?_
        obtain ⟨r14, e15, h⟩ := mbd h
        refine mv_callV_i (As := [.int (8 : Int32)]) (ci := 8) lkV_RX9_79_yX9_finding dX9_add_103 (k_X9_finding e15) rfl rfl rfl rfl (Nat.le_of_ble_eq_true rfl) (by decide) (by decide) ?_
        exact mw_iret dX9_add_106 rfl (ers_im h) rfl rfl
      · have h := mie hc h
        refine mw_lload dX9_add_90 2 rfl ?_
        refine mw_lload dX9_add_92 0 rfl ?_
        obtain ⟨r16, e17, h⟩ := mbd h
        refine mv_callS_i (As := [.long (eL σ ((61 + 2 * a1.toNatClampNeg) + 1) (a2 + (1 : Int32)).toNatClampNeg), .long (eL σ ((61 + 2 * a1.toNatClampNeg) + 1) (a3 + (1 : Int32)).toNatClampNeg)]) lkS_RX9_199_yX9_productFits dX9_add_94 (k_X9_productFits e17) rfl rfl (Nat.le_of_ble_eq_true rfl) (by decide) (by decide) ?_
        refine mw_if_ne (tgt := 107) dX9_add_97 (by decide) (fun hc => ?_) (fun hc => ?_)
        · have h := mie hc h
          refine mw_lload dX9_add_107 3 rfl ?_
          refine mw_lload dX9_add_109 0 rfl ?_
          refine mw_lmul dX9_add_111 ?_
          refine mw_lload dX9_add_112 1 rfl ?_
          refine mw_lload dX9_add_114 2 rfl ?_
          refine mw_lmul dX9_add_116 ?_
          obtain ⟨r18, e19, h⟩ := mbd h
          refine mv_callS_i (As := [.long ((eL σ ((61 + 2 * a1.toNatClampNeg) + 1) a2.toNatClampNeg) * (eL σ ((61 + 2 * a1.toNatClampNeg) + 1) (a3 + (1 : Int32)).toNatClampNeg)), .long ((eL σ ((61 + 2 * a1.toNatClampNeg) + 1) a3.toNatClampNeg) * (eL σ ((61 + 2 * a1.toNatClampNeg) + 1) (a2 + (1 : Int32)).toNatClampNeg))]) lkS_RX9_312_yX9_sumFits dX9_add_117 (k_X9_sumFits e19) rfl rfl (Nat.le_of_ble_eq_true rfl) (by decide) (by decide) ?_
          refine mw_if_ne (tgt := 130) dX9_add_120 (by decide) (fun hc => ?_) (fun hc => ?_)
          · have h := mie hc h
            refine mw_aload dX9_add_130 4 rfl ?_
            refine mw_iload_n dX9_add_132 8 rfl ?_
            refine mw_lload dX9_add_133 3 rfl ?_
            refine mw_lload dX9_add_135 0 rfl ?_
            refine mw_lmul dX9_add_137 ?_
            refine mw_lload dX9_add_138 1 rfl ?_
            refine mw_lload dX9_add_140 2 rfl ?_
            refine mw_lmul dX9_add_142 ?_
            refine mw_ladd dX9_add_143 ?_
            obtain ⟨r20, e21, h⟩ := mbd h
            refine mv_callV_v (As := [.int a2, .long (((eL σ ((61 + 2 * a1.toNatClampNeg) + 1) a2.toNatClampNeg) * (eL σ ((61 + 2 * a1.toNatClampNeg) + 1) (a3 + (1 : Int32)).toNatClampNeg)) + ((eL σ ((61 + 2 * a1.toNatClampNeg) + 1) a3.toNatClampNeg) * (eL σ ((61 + 2 * a1.toNatClampNeg) + 1) (a2 + (1 : Int32)).toNatClampNeg)))]) (ci := 4) lkV_RX9_309_yX5_put dX9_add_144 (k_X5_put e21) rfl (msh_ob (esh2 m3)) rfl rfl (Nat.le_of_ble_eq_true rfl) (by decide) (by decide) ?_
            refine mw_aload dX9_add_147 4 rfl ?_
            refine mw_iload_n dX9_add_149 8 rfl ?_
            refine mw_iconst (v := 1) dX9_add_150 (by decide) ?_
            refine mw_iadd dX9_add_151 ?_
            refine mw_lload dX9_add_152 2 rfl ?_
            refine mw_lload dX9_add_154 0 rfl ?_
            refine mw_lmul dX9_add_156 ?_
            obtain ⟨r22, e23, h⟩ := mbd h
            refine mv_callV_v (As := [.int (a2 + (1 : Int32)), .long ((eL σ ((61 + 2 * a1.toNatClampNeg) + 1) (a2 + (1 : Int32)).toNatClampNeg) * (eL σ ((61 + 2 * a1.toNatClampNeg) + 1) (a3 + (1 : Int32)).toNatClampNeg))]) (ci := 4) lkV_RX9_309_yX5_put dX9_add_157 (k_X5_put e23) rfl (msh_ob (esh2 m3)) rfl rfl (Nat.le_of_ble_eq_true rfl) (by decide) (by decide) ?_
            refine mw_iconst (v := 1) dX9_add_160 (by decide) ?_
            exact mw_iret dX9_add_161 rfl (ers_im h) rfl rfl
          · have h := mit hc h
            refine mw_aload_n dX9_add_123 6 rfl ?_
            refine mw_bipush (v := 8) dX9_add_124 (by decide) ?_
            obtain ⟨r24, e25, h⟩ := mbd h
            refine mv_callV_i (As := [.int (8 : Int32)]) (ci := 8) lkV_RX9_79_yX9_finding dX9_add_126 (k_X9_finding e25) rfl rfl rfl rfl (Nat.le_of_ble_eq_true rfl) (by decide) (by decide) ?_
            exact mw_iret dX9_add_129 rfl (ers_im h) rfl rfl
        · have h := mit hc h
          refine mw_aload_n dX9_add_100 6 rfl ?_
          refine mw_bipush (v := 8) dX9_add_101 (by decide) ?_
          obtain ⟨r26, e27, h⟩ := mbd h
          refine mv_callV_i (As := [.int (8 : Int32)]) (ci := 8) lkV_RX9_79_yX9_finding dX9_add_103 (k_X9_finding e27) rfl rfl rfl rfl (Nat.le_of_ble_eq_true rfl) (by decide) (by decide) ?_
          exact mw_iret dX9_add_106 rfl (ers_im h) rfl rfl
  · have h := mie hc h
    refine mw_aload_n dX9_add_15 1 rfl ?_
    refine mw_iload dX9_add_16 0 rfl ?_
    obtain ⟨r28, e29, h⟩ := mbd h
    refine mv_callV_i (As := [.int r1]) (ci := 8) lkV_RX9_79_yX9_finding dX9_add_18 (k_X9_finding e29) rfl rfl rfl rfl (Nat.le_of_ble_eq_true rfl) (by decide) (by decide) ?_
    exact mw_iret dX9_add_21 rfl (ers_im h) rfl rfl

theorem dX6_append_0 : decode cX6_append 0 = .ok (.aload_n 0, 1) := by decide +kernel
theorem dX6_append_1 : decode cX6_append 1 = .ok (.getfield 15, 3) := by decide +kernel
theorem dX6_append_4 : decode cX6_append 4 = .ok (.bipush 120, 2) := by decide +kernel
theorem dX6_append_6 : decode cX6_append 6 = .ok (.if_icmp .ge 23, 3) := by decide +kernel
theorem dX6_append_9 : decode cX6_append 9 = .ok (.aload_n 0, 1) := by decide +kernel
theorem dX6_append_10 : decode cX6_append 10 = .ok (.getfield 9, 3) := by decide +kernel
theorem dX6_append_13 : decode cX6_append 13 = .ok (.aload_n 0, 1) := by decide +kernel
theorem dX6_append_14 : decode cX6_append 14 = .ok (.getfield 15, 3) := by decide +kernel
theorem dX6_append_17 : decode cX6_append 17 = .ok (.iload_n 1, 1) := by decide +kernel
theorem dX6_append_18 : decode cX6_append 18 = .ok (.iastore, 1) := by decide +kernel
theorem dX6_append_19 : decode cX6_append 19 = .ok (.aload_n 0, 1) := by decide +kernel
theorem dX6_append_20 : decode cX6_append 20 = .ok (.dup, 1) := by decide +kernel
theorem dX6_append_21 : decode cX6_append 21 = .ok (.getfield 15, 3) := by decide +kernel
theorem dX6_append_24 : decode cX6_append 24 = .ok (.iconst 1, 1) := by decide +kernel
theorem dX6_append_25 : decode cX6_append 25 = .ok (.iadd, 1) := by decide +kernel
theorem dX6_append_26 : decode cX6_append 26 = .ok (.putfield 15, 3) := by decide +kernel
theorem dX6_append_29 : decode cX6_append 29 = .ok (.return_, 1) := by decide +kernel
def e_X6_append (a1 : Int32) (σ : ES) : Option ES := if (120 : Int32) ≤ (eI σ 57 0) then (some σ) else (if mib (eI σ 57 0) 120 = true then (some (uI (uI σ 58 (eI σ 57 0).toNatClampNeg a1) 57 0 ((eI (uI σ 58 (eI σ 57 0).toNatClampNeg a1) 57 0) + (1 : Int32)))) else none)
set_option maxRecDepth 100000 in
set_option maxHeartbeats 4000000 in
theorem k_X6_append {l : Launch} {σ : ES} {a1 : Int32} {out : ES} (h : e_X6_append a1 σ = some out) : MK l yX6_append cX6_append 2 none 1 [.ref 57, .int a1] (mkS σ) none (mkS out) := by
  unfold e_X6_append at h
  refine mw_entry (own := RX6) (ini := false) (L := [(0, .ref 57), (1, .int a1)]) (by decide +kernel) rfl (fun h => nomatch h) rfl (Nat.le_of_ble_eq_true rfl) (Nat.le_of_ble_eq_true rfl) (fun E => ?_)
  refine mw_aload_n dX6_append_0 0 rfl ?_
  refine ev_getI fd_RX6_15_5 dX6_append_1 rfl rfl ?_
  refine mw_bipush (v := 120) dX6_append_4 (by decide) ?_
  refine mw_icmp_ge (tgt := 29) dX6_append_6 (by decide) (fun hc => ?_) (fun hc => ?_)
  · have h := mit hc h
    exact mw_vret dX6_append_29 rfl (ers_vm h) rfl rfl
  · have h := mie hc h
    refine mw_aload_n dX6_append_9 0 rfl ?_
    refine ev_getR (q := 58) fd_RX6_9_5 dX6_append_10 rfl rfl rfl ?_
    refine mw_aload_n dX6_append_13 0 rfl ?_
    refine ev_getI fd_RX6_15_5 dX6_append_14 rfl rfl ?_
    refine mw_iload_n dX6_append_17 1 rfl ?_
    obtain ⟨m1, h⟩ := mif h
    refine ev_iast dX6_append_18 (by decide) rfl m1 ?_
    refine mw_aload_n dX6_append_19 0 rfl ?_
    refine mw_dup dX6_append_20 rfl ?_
    refine ev_getI fd_RX6_15_5 dX6_append_21 rfl rfl ?_
    refine mw_iconst (v := 1) dX6_append_24 (by decide) ?_
    refine mw_iadd dX6_append_25 ?_
    refine ev_putI fw_RX6_15_5 dX6_append_26 rfl rfl ?_
    exact mw_vret dX6_append_29 rfl (ers_vm h) rfl rfl

theorem dX9_feed_0 : decode cX9_feed 0 = .ok (.iload_n 2, 1) := by decide +kernel
theorem dX9_feed_1 : decode cX9_feed 1 = .ok (.iconst 1, 1) := by decide +kernel
theorem dX9_feed_2 : decode cX9_feed 2 = .ok (.iconst 4, 1) := by decide +kernel
theorem dX9_feed_3 : decode cX9_feed 3 = .ok (.invokestatic 75, 3) := by decide +kernel
theorem dX9_feed_6 : decode cX9_feed 6 = .ok (.ifCond .ne 9, 3) := by decide +kernel
theorem dX9_feed_9 : decode cX9_feed 9 = .ok (.aload_n 0, 1) := by decide +kernel
theorem dX9_feed_10 : decode cX9_feed 10 = .ok (.iconst 0, 1) := by decide +kernel
theorem dX9_feed_11 : decode cX9_feed 11 = .ok (.invokevirtual 79, 3) := by decide +kernel
theorem dX9_feed_14 : decode cX9_feed 14 = .ok (.ireturn, 1) := by decide +kernel
theorem dX9_feed_15 : decode cX9_feed 15 = .ok (.aload_n 0, 1) := by decide +kernel
theorem dX9_feed_16 : decode cX9_feed 16 = .ok (.getfield 60, 3) := by decide +kernel
theorem dX9_feed_19 : decode cX9_feed 19 = .ok (.getfield 321, 3) := by decide +kernel
theorem dX9_feed_22 : decode cX9_feed 22 = .ok (.iload_n 2, 1) := by decide +kernel
theorem dX9_feed_23 : decode cX9_feed 23 = .ok (.iadd, 1) := by decide +kernel
theorem dX9_feed_24 : decode cX9_feed 24 = .ok (.bipush 120, 2) := by decide +kernel
theorem dX9_feed_26 : decode cX9_feed 26 = .ok (.if_icmp .le 9, 3) := by decide +kernel
theorem dX9_feed_29 : decode cX9_feed 29 = .ok (.aload_n 0, 1) := by decide +kernel
theorem dX9_feed_30 : decode cX9_feed 30 = .ok (.iconst 1, 1) := by decide +kernel
theorem dX9_feed_31 : decode cX9_feed 31 = .ok (.invokevirtual 79, 3) := by decide +kernel
theorem dX9_feed_34 : decode cX9_feed 34 = .ok (.ireturn, 1) := by decide +kernel
theorem dX9_feed_35 : decode cX9_feed 35 = .ok (.iload_n 2, 1) := by decide +kernel
theorem dX9_feed_36 : decode cX9_feed 36 = .ok (.iconst 1, 1) := by decide +kernel
theorem dX9_feed_37 : decode cX9_feed 37 = .ok (.isub, 1) := by decide +kernel
theorem dX9_feed_38 : decode cX9_feed 38 = .ok (.istore_n 3, 1) := by decide +kernel
theorem dX9_feed_39 : decode cX9_feed 39 = .ok (.iload_n 3, 1) := by decide +kernel
theorem dX9_feed_40 : decode cX9_feed 40 = .ok (.ifCond .lt 26, 3) := by decide +kernel
theorem dX9_feed_43 : decode cX9_feed 43 = .ok (.aload_n 0, 1) := by decide +kernel
theorem dX9_feed_44 : decode cX9_feed 44 = .ok (.getfield 60, 3) := by decide +kernel
theorem dX9_feed_47 : decode cX9_feed 47 = .ok (.iload_n 1, 1) := by decide +kernel
theorem dX9_feed_48 : decode cX9_feed 48 = .ok (.bipush 8, 2) := by decide +kernel
theorem dX9_feed_50 : decode cX9_feed 50 = .ok (.iload_n 3, 1) := by decide +kernel
theorem dX9_feed_51 : decode cX9_feed 51 = .ok (.imul, 1) := by decide +kernel
theorem dX9_feed_52 : decode cX9_feed 52 = .ok (.ishr, 1) := by decide +kernel
theorem dX9_feed_53 : decode cX9_feed 53 = .ok (.sipush 255, 3) := by decide +kernel
theorem dX9_feed_56 : decode cX9_feed 56 = .ok (.iand, 1) := by decide +kernel
theorem dX9_feed_57 : decode cX9_feed 57 = .ok (.invokevirtual 324, 3) := by decide +kernel
theorem dX9_feed_60 : decode cX9_feed 60 = .ok (.iinc 3 (-1), 3) := by decide +kernel
theorem dX9_feed_63 : decode cX9_feed 63 = .ok (.goto (-24), 3) := by decide +kernel
theorem dX9_feed_66 : decode cX9_feed 66 = .ok (.aload_n 0, 1) := by decide +kernel
theorem dX9_feed_67 : decode cX9_feed 67 = .ok (.getfield 60, 3) := by decide +kernel
theorem dX9_feed_70 : decode cX9_feed 70 = .ok (.getfield 321, 3) := by decide +kernel
theorem dX9_feed_73 : decode cX9_feed 73 = .ok (.ireturn, 1) := by decide +kernel
def e_X9_feed_L39 (a1 : Int32) (a2 : Int32) : Nat → Int32 → ES → Option (Int32 × ES)
  | 0, _, _ => none
  | n + 1, x3, σ => if x3 < 0 then (some ((eI σ 57 0), σ)) else ((e_X6_append ((a1 >>> (((8 : Int32) * x3) &&& 31)) &&& (255 : Int32)) σ).bind (fun r1 => e_X9_feed_L39 a1 a2 n (x3 + (-1)) r1))
set_option maxRecDepth 100000 in
set_option maxHeartbeats 4000000 in
theorem p_X9_feed_L39 {l : Launch} {E : MX} {out : (Int32 × ES)} {a1 : Int32} {a2 : Int32}  : ∀ (n : Nat) (x3 : Int32) (σ : ES), e_X9_feed_L39 a1 a2 n x3 σ = some out → MV l E cX9_feed RX9 4 (some .int) 2 (82, (some (.int out.1)), mkS out.2) (mkS σ) 39 [(0, .ref 0), (1, .int a1), (2, .int a2), (3, .int x3)] [] := by
  intro n
  induction n with
  | zero =>
    intro x3 σ h
    exact nomatch h
  | succ n ih =>
    intro x3 σ h
    rw [e_X9_feed_L39] at h
    refine mw_iload_n dX9_feed_39 3 rfl ?_
    refine mw_if_lt (tgt := 66) dX9_feed_40 (by decide) (fun hc => ?_) (fun hc => ?_)
    · have h := mit hc h
      refine mw_aload_n dX9_feed_66 0 rfl ?_
      refine ev_getR (q := 57) fd_RX9_60_8 dX9_feed_67 rfl rfl rfl ?_
      refine ev_getI fd_RX9_321_5 dX9_feed_70 rfl rfl ?_
      exact mw_iret dX9_feed_73 rfl (ers_im h) rfl rfl
    · have h := mie hc h
      refine mw_aload_n dX9_feed_43 0 rfl ?_
      refine ev_getR (q := 57) fd_RX9_60_8 dX9_feed_44 rfl rfl rfl ?_
      refine mw_iload_n dX9_feed_47 1 rfl ?_
      refine mw_bipush (v := 8) dX9_feed_48 (by decide) ?_
      refine mw_iload_n dX9_feed_50 3 rfl ?_
      refine mw_imul dX9_feed_51 ?_
      refine mw_ishr dX9_feed_52 ?_
      refine mw_sipush (v := 255) dX9_feed_53 (by decide) ?_
      refine mw_iand dX9_feed_56 ?_
      obtain ⟨r1, e2, h⟩ := mbd h
      refine mv_callV_v (As := [.int ((a1 >>> (((8 : Int32) * x3) &&& 31)) &&& (255 : Int32))]) (ci := 5) lkV_RX9_324_yX6_append dX9_feed_57 (k_X6_append e2) rfl rfl rfl rfl (Nat.le_of_ble_eq_true rfl) (by decide) (by decide) ?_
      refine mw_iinc (v := (x3 + (-1))) (L' := [(3, .int (x3 + (-1))), (0, .ref 0), (1, .int a1), (2, .int a2)]) dX9_feed_60 3 rfl rfl (by decide) rfl ?_
      refine mw_goto (tgt := 39) dX9_feed_63 (by decide) ?_
      exact mw_sub (L' := [(0, .ref 0), (1, .int a1), (2, .int a2), (3, .int (x3 + (-1)))]) [1, 2, 3, 0] rfl (ih _ _ h)
def e_X9_feed (a1 : Int32) (a2 : Int32) (σ : ES) : Option (Int32 × ES) := (e_X9_within a2 (1 : Int32) (4 : Int32)).bind (fun r1 => if r1 = 0 then ((e_X9_finding (0 : Int32) σ).bind (fun r5 => some (r5.1, r5.2))) else (if ((eI σ 57 0) + a2) ≤ (120 : Int32) then (e_X9_feed_L39 a1 a2 mN (a2 - (1 : Int32)) σ) else ((e_X9_finding (1 : Int32) σ).bind (fun r3 => some (r3.1, r3.2)))))
set_option maxRecDepth 100000 in
set_option maxHeartbeats 4000000 in
theorem k_X9_feed {l : Launch} {σ : ES} {a1 : Int32} {a2 : Int32} {out : (Int32 × ES)} (h : e_X9_feed a1 a2 σ = some out) : MK l yX9_feed cX9_feed 4 (some .int) 2 [.ref 0, .int a1, .int a2] (mkS σ) (some (.int out.1)) (mkS out.2) := by
  unfold e_X9_feed at h
  refine mw_entry (own := RX9) (ini := false) (L := [(0, .ref 0), (1, .int a1), (2, .int a2)]) (by decide +kernel) rfl (fun h => nomatch h) rfl (Nat.le_of_ble_eq_true rfl) (Nat.le_of_ble_eq_true rfl) (fun E => ?_)
  refine mw_iload_n dX9_feed_0 2 rfl ?_
  refine mw_iconst (v := 1) dX9_feed_1 (by decide) ?_
  refine mw_iconst (v := 4) dX9_feed_2 (by decide) ?_
  obtain ⟨r1, e2, h⟩ := mbd h
  refine mv_callS_i (As := [.int a2, .int (1 : Int32), .int (4 : Int32)]) lkS_RX9_75_yX9_within dX9_feed_3 (k_X9_within e2) rfl rfl (Nat.le_of_ble_eq_true rfl) (by decide) (by decide) ?_
  refine mw_if_ne (tgt := 15) dX9_feed_6 (by decide) (fun hc => ?_) (fun hc => ?_)
  · have h := mie hc h
    refine mw_aload_n dX9_feed_15 0 rfl ?_
    refine ev_getR (q := 57) fd_RX9_60_8 dX9_feed_16 rfl rfl rfl ?_
    refine ev_getI fd_RX9_321_5 dX9_feed_19 rfl rfl ?_
    refine mw_iload_n dX9_feed_22 2 rfl ?_
    refine mw_iadd dX9_feed_23 ?_
    refine mw_bipush (v := 120) dX9_feed_24 (by decide) ?_
    refine mw_icmp_le (tgt := 35) dX9_feed_26 (by decide) (fun hc => ?_) (fun hc => ?_)
    · have h := mit hc h
      refine mw_iload_n dX9_feed_35 2 rfl ?_
      refine mw_iconst (v := 1) dX9_feed_36 (by decide) ?_
      refine mw_isub dX9_feed_37 ?_
      refine mw_istore_n (L' := [(3, .int (a2 - (1 : Int32))), (0, .ref 0), (1, .int a1), (2, .int a2)]) dX9_feed_38 rfl (by decide) rfl ?_
      exact mw_sub (L' := [(0, .ref 0), (1, .int a1), (2, .int a2), (3, .int (a2 - (1 : Int32)))]) [1, 2, 3, 0] rfl (p_X9_feed_L39  mN _ _ h)
    · have h := mie hc h
      refine mw_aload_n dX9_feed_29 0 rfl ?_
      refine mw_iconst (v := 1) dX9_feed_30 (by decide) ?_
      obtain ⟨r3, e4, h⟩ := mbd h
      refine mv_callV_i (As := [.int (1 : Int32)]) (ci := 8) lkV_RX9_79_yX9_finding dX9_feed_31 (k_X9_finding e4) rfl rfl rfl rfl (Nat.le_of_ble_eq_true rfl) (by decide) (by decide) ?_
      exact mw_iret dX9_feed_34 rfl (ers_im h) rfl rfl
  · have h := mit hc h
    refine mw_aload_n dX9_feed_9 0 rfl ?_
    refine mw_iconst (v := 0) dX9_feed_10 (by decide) ?_
    obtain ⟨r5, e6, h⟩ := mbd h
    refine mv_callV_i (As := [.int (0 : Int32)]) (ci := 8) lkV_RX9_79_yX9_finding dX9_feed_11 (k_X9_finding e6) rfl rfl rfl rfl (Nat.le_of_ble_eq_true rfl) (by decide) (by decide) ?_
    exact mw_iret dX9_feed_14 rfl (ers_im h) rfl rfl

theorem dX9_wipe_0 : decode cX9_wipe 0 = .ok (.aload_n 0, 1) := by decide +kernel
theorem dX9_wipe_1 : decode cX9_wipe 1 = .ok (.getfield 60, 3) := by decide +kernel
theorem dX9_wipe_4 : decode cX9_wipe 4 = .ok (.getfield 321, 3) := by decide +kernel
theorem dX9_wipe_7 : decode cX9_wipe 7 = .ok (.istore_n 1, 1) := by decide +kernel
theorem dX9_wipe_8 : decode cX9_wipe 8 = .ok (.aload_n 0, 1) := by decide +kernel
theorem dX9_wipe_9 : decode cX9_wipe 9 = .ok (.getfield 60, 3) := by decide +kernel
theorem dX9_wipe_12 : decode cX9_wipe 12 = .ok (.iconst 0, 1) := by decide +kernel
theorem dX9_wipe_13 : decode cX9_wipe 13 = .ok (.putfield 321, 3) := by decide +kernel
theorem dX9_wipe_16 : decode cX9_wipe 16 = .ok (.iload_n 1, 1) := by decide +kernel
theorem dX9_wipe_17 : decode cX9_wipe 17 = .ok (.ireturn, 1) := by decide +kernel
def e_X9_wipe (σ : ES) : Option (Int32 × ES) := some ((eI σ 57 0), (uI σ 57 0 (0 : Int32)))
set_option maxRecDepth 100000 in
set_option maxHeartbeats 4000000 in
theorem k_X9_wipe {l : Launch} {σ : ES}  {out : (Int32 × ES)} (h : e_X9_wipe σ = some out) : MK l yX9_wipe cX9_wipe 2 (some .int) 1 [.ref 0] (mkS σ) (some (.int out.1)) (mkS out.2) := by
  unfold e_X9_wipe at h
  refine mw_entry (own := RX9) (ini := false) (L := [(0, .ref 0)]) (by decide +kernel) rfl (fun h => nomatch h) rfl (Nat.le_of_ble_eq_true rfl) (Nat.le_of_ble_eq_true rfl) (fun E => ?_)
  refine mw_aload_n dX9_wipe_0 0 rfl ?_
  refine ev_getR (q := 57) fd_RX9_60_8 dX9_wipe_1 rfl rfl rfl ?_
  refine ev_getI fd_RX9_321_5 dX9_wipe_4 rfl rfl ?_
  refine mw_istore_n (L' := [(1, .int (eI σ 57 0)), (0, .ref 0)]) dX9_wipe_7 rfl (by decide) rfl ?_
  refine mw_aload_n dX9_wipe_8 1 rfl ?_
  refine ev_getR (q := 57) fd_RX9_60_8 dX9_wipe_9 rfl rfl rfl ?_
  refine mw_iconst (v := 0) dX9_wipe_12 (by decide) ?_
  refine ev_putI fw_RX9_321_5 dX9_wipe_13 rfl rfl ?_
  refine mw_iload_n dX9_wipe_16 0 rfl ?_
  exact mw_iret dX9_wipe_17 rfl (ers_im h) rfl rfl

theorem dJ0_coder_7d493_0 : decode cJ0_coder_7d493 0 = .ok (.getstatic 38, 3) := by decide +kernel
theorem dJ0_coder_7d493_3 : decode cJ0_coder_7d493 3 = .ok (.ifCond .eq 10, 3) := by decide +kernel
theorem dJ0_coder_7d493_6 : decode cJ0_coder_7d493 6 = .ok (.aload_n 0, 1) := by decide +kernel
theorem dJ0_coder_7d493_7 : decode cJ0_coder_7d493 7 = .ok (.getfield 15, 3) := by decide +kernel
theorem dJ0_coder_7d493_10 : decode cJ0_coder_7d493 10 = .ok (.goto 4, 3) := by decide +kernel
theorem dJ0_coder_7d493_13 : decode cJ0_coder_7d493 13 = .ok (.iconst 1, 1) := by decide +kernel
theorem dJ0_coder_7d493_14 : decode cJ0_coder_7d493 14 = .ok (.ireturn, 1) := by decide +kernel
def e_J0_coder_7d493 (σ : ES) (a0 : Nat) : Option Int32 := if mst a0 = true then (if vp_nar .byte (0 : Int32) = (0 : Int32) then (some (0 : Int32)) else none) else none
set_option maxRecDepth 100000 in
set_option maxHeartbeats 4000000 in
theorem k_J0_coder_7d493 {l : Launch} {σ : ES} {a0 : Nat} {out : Int32} (h : e_J0_coder_7d493 σ a0 = some out) : MK l yJ0_coder_7d493 cJ0_coder_7d493 1 (some .byte) 1 [.ref a0] (mkS σ) (some (.int out)) (mkS σ) := by
  unfold e_J0_coder_7d493 at h
  refine mw_entry (own := RJ0) (ini := false) (L := [(0, .ref a0)]) (by decide +kernel) rfl (fun h => nomatch h) rfl (Nat.le_of_ble_eq_true rfl) (Nat.le_of_ble_eq_true rfl) (fun E => ?_)
  refine mv_cmpS wt_471 dJ0_coder_7d493_0 ?_
  refine mw_if_eq (tgt := 13) dJ0_coder_7d493_3 (by decide) (fun hc => absurd hc (by decide)) (fun hc => ?_)
  refine mw_aload_n dJ0_coder_7d493_6 0 rfl ?_
  obtain ⟨m1, h⟩ := mif h
  refine mv_scod wt_472 dJ0_coder_7d493_7 m1 ?_
  refine mw_goto (tgt := 14) dJ0_coder_7d493_10 (by decide) ?_
  obtain ⟨m2, h⟩ := mif h
  exact mw_cret dJ0_coder_7d493_14 rfl (mnar_ty (by first | exact Or.inl rfl | exact Or.inr rfl) m2) (ers_i h) rfl rfl

theorem dJ0_length_8abf5_0 : decode cJ0_length_8abf5 0 = .ok (.aload_n 0, 1) := by decide +kernel
theorem dJ0_length_8abf5_1 : decode cJ0_length_8abf5 1 = .ok (.getfield 9, 3) := by decide +kernel
theorem dJ0_length_8abf5_4 : decode cJ0_length_8abf5 4 = .ok (.arraylength, 1) := by decide +kernel
theorem dJ0_length_8abf5_5 : decode cJ0_length_8abf5 5 = .ok (.aload_n 0, 1) := by decide +kernel
theorem dJ0_length_8abf5_6 : decode cJ0_length_8abf5 6 = .ok (.invokevirtual 335, 3) := by decide +kernel
theorem dJ0_length_8abf5_9 : decode cJ0_length_8abf5 9 = .ok (.ishr, 1) := by decide +kernel
theorem dJ0_length_8abf5_10 : decode cJ0_length_8abf5 10 = .ok (.ireturn, 1) := by decide +kernel
def e_J0_length_8abf5 (σ : ES) (a0 : Nat) : Option Int32 := if mst a0 = true then (if msv (a0 + 100) = true then ((e_J0_coder_7d493 σ a0).bind (fun r3 => some ((Int32.ofNat (mbytes ((a0 + 100) - 1100)).length) >>> (r3 &&& 31)))) else none) else none
set_option maxRecDepth 100000 in
set_option maxHeartbeats 4000000 in
theorem k_J0_length_8abf5 {l : Launch} {σ : ES} {a0 : Nat} {out : Int32} (h : e_J0_length_8abf5 σ a0 = some out) : MK l yJ0_length_8abf5 cJ0_length_8abf5 1 (some .int) 2 [.ref a0] (mkS σ) (some (.int out)) (mkS σ) := by
  unfold e_J0_length_8abf5 at h
  refine mw_entry (own := RJ0) (ini := false) (L := [(0, .ref a0)]) (by decide +kernel) rfl (fun h => nomatch h) rfl (Nat.le_of_ble_eq_true rfl) (Nat.le_of_ble_eq_true rfl) (fun E => ?_)
  refine mw_aload_n dJ0_length_8abf5_0 0 rfl ?_
  obtain ⟨m1, h⟩ := mif h
  refine mv_sval wt_466 dJ0_length_8abf5_1 m1 ?_
  obtain ⟨m2, h⟩ := mif h
  refine mv_alenS dJ0_length_8abf5_4 m2 ?_
  refine mw_aload_n dJ0_length_8abf5_5 0 rfl ?_
  obtain ⟨r3, e4, h⟩ := mbd h
  refine mv_callVS_i (As := []) lkV_RJ0_335_yJ0_coder_7d493 dJ0_length_8abf5_6 (k_J0_coder_7d493 e4) rfl m1 rfl (Nat.le_of_ble_eq_true rfl) (by decide) (by decide) ?_
  refine mw_ishr dJ0_length_8abf5_9 ?_
  exact mw_iret dJ0_length_8abf5_10 rfl (ers_i h) rfl rfl

theorem dJ0_isLatin1_aae02_0 : decode cJ0_isLatin1_aae02 0 = .ok (.getstatic 38, 3) := by decide +kernel
theorem dJ0_isLatin1_aae02_3 : decode cJ0_isLatin1_aae02 3 = .ok (.ifCond .eq 14, 3) := by decide +kernel
theorem dJ0_isLatin1_aae02_6 : decode cJ0_isLatin1_aae02 6 = .ok (.aload_n 0, 1) := by decide +kernel
theorem dJ0_isLatin1_aae02_7 : decode cJ0_isLatin1_aae02 7 = .ok (.getfield 15, 3) := by decide +kernel
theorem dJ0_isLatin1_aae02_10 : decode cJ0_isLatin1_aae02 10 = .ok (.ifCond .ne 7, 3) := by decide +kernel
theorem dJ0_isLatin1_aae02_13 : decode cJ0_isLatin1_aae02 13 = .ok (.iconst 1, 1) := by decide +kernel
theorem dJ0_isLatin1_aae02_14 : decode cJ0_isLatin1_aae02 14 = .ok (.goto 4, 3) := by decide +kernel
theorem dJ0_isLatin1_aae02_17 : decode cJ0_isLatin1_aae02 17 = .ok (.iconst 0, 1) := by decide +kernel
theorem dJ0_isLatin1_aae02_18 : decode cJ0_isLatin1_aae02 18 = .ok (.ireturn, 1) := by decide +kernel
def e_J0_isLatin1_aae02 (σ : ES) (a0 : Nat) : Option Int32 := if mst a0 = true then (some (1 : Int32)) else none
set_option maxRecDepth 100000 in
set_option maxHeartbeats 4000000 in
theorem k_J0_isLatin1_aae02 {l : Launch} {σ : ES} {a0 : Nat} {out : Int32} (h : e_J0_isLatin1_aae02 σ a0 = some out) : MK l yJ0_isLatin1_aae02 cJ0_isLatin1_aae02 1 (some .boolean) 1 [.ref a0] (mkS σ) (some (.int out)) (mkS σ) := by
  unfold e_J0_isLatin1_aae02 at h
  refine mw_entry (own := RJ0) (ini := false) (L := [(0, .ref a0)]) (by decide +kernel) rfl (fun h => nomatch h) rfl (Nat.le_of_ble_eq_true rfl) (Nat.le_of_ble_eq_true rfl) (fun E => ?_)
  refine mv_cmpS wt_471 dJ0_isLatin1_aae02_0 ?_
  refine mw_if_eq (tgt := 17) dJ0_isLatin1_aae02_3 (by decide) (fun hc => absurd hc (by decide)) (fun hc => ?_)
  refine mw_aload_n dJ0_isLatin1_aae02_6 0 rfl ?_
  obtain ⟨m1, h⟩ := mif h
  refine mv_scod wt_472 dJ0_isLatin1_aae02_7 m1 ?_
  refine mw_if_ne (tgt := 17) dJ0_isLatin1_aae02_10 (by decide) (fun hc => absurd (by decide) hc) (fun hc => ?_)
  refine mw_iconst (v := 1) dJ0_isLatin1_aae02_13 (by decide) ?_
  refine mw_goto (tgt := 18) dJ0_isLatin1_aae02_14 (by decide) ?_
  exact mw_zret dJ0_isLatin1_aae02_18 rfl (by decide) (ers_i h) rfl rfl

theorem dJ3_checkIndex_8e157_0 : decode cJ3_checkIndex_8e157 0 = .ok (.iload_n 0, 1) := by decide +kernel
theorem dJ3_checkIndex_8e157_1 : decode cJ3_checkIndex_8e157 1 = .ok (.ifCond .lt 8, 3) := by decide +kernel
theorem dJ3_checkIndex_8e157_4 : decode cJ3_checkIndex_8e157 4 = .ok (.iload_n 0, 1) := by decide +kernel
theorem dJ3_checkIndex_8e157_5 : decode cJ3_checkIndex_8e157 5 = .ok (.iload_n 1, 1) := by decide +kernel
theorem dJ3_checkIndex_8e157_6 : decode cJ3_checkIndex_8e157 6 = .ok (.if_icmp .lt 10, 3) := by decide +kernel
theorem dJ3_checkIndex_8e157_9 : decode cJ3_checkIndex_8e157 9 = .ok (.aload_n 2, 1) := by decide +kernel
theorem dJ3_checkIndex_8e157_10 : decode cJ3_checkIndex_8e157 10 = .ok (.iload_n 0, 1) := by decide +kernel
theorem dJ3_checkIndex_8e157_11 : decode cJ3_checkIndex_8e157 11 = .ok (.iload_n 1, 1) := by decide +kernel
theorem dJ3_checkIndex_8e157_12 : decode cJ3_checkIndex_8e157 12 = .ok (.invokestatic 95, 3) := by decide +kernel
theorem dJ3_checkIndex_8e157_15 : decode cJ3_checkIndex_8e157 15 = .ok (.athrow, 1) := by decide +kernel
theorem dJ3_checkIndex_8e157_16 : decode cJ3_checkIndex_8e157 16 = .ok (.iload_n 0, 1) := by decide +kernel
theorem dJ3_checkIndex_8e157_17 : decode cJ3_checkIndex_8e157 17 = .ok (.ireturn, 1) := by decide +kernel
def e_J3_checkIndex_8e157 (a0 : Int32) (a1 : Int32) : Option Int32 := if a0 < 0 then (none) else (if a0 < a1 then (some a0) else (none))
set_option maxRecDepth 100000 in
set_option maxHeartbeats 4000000 in
theorem k_J3_checkIndex_8e157_n {l : Launch} {σ : ES} {a0 : Int32} {a1 : Int32} {out : Int32} (h : e_J3_checkIndex_8e157 a0 a1 = some out) : MK l yJ3_checkIndex_8e157 cJ3_checkIndex_8e157 3 (some .int) 1 [.int a0, .int a1, .null] (mkS σ) (some (.int out)) (mkS σ) := by
  unfold e_J3_checkIndex_8e157 at h
  refine mw_entry (own := RJ3) (ini := false) (L := [(0, .int a0), (1, .int a1), (2, .null)]) (by decide +kernel) rfl (fun h => nomatch h) rfl (Nat.le_of_ble_eq_true rfl) (Nat.le_of_ble_eq_true rfl) (fun E => ?_)
  refine mw_iload_n dJ3_checkIndex_8e157_0 0 rfl ?_
  refine mw_if_lt (tgt := 9) dJ3_checkIndex_8e157_1 (by decide) (fun hc => ?_) (fun hc => ?_)
  · have h := mit hc h
    exact nomatch h
  · have h := mie hc h
    refine mw_iload_n dJ3_checkIndex_8e157_4 0 rfl ?_
    refine mw_iload_n dJ3_checkIndex_8e157_5 1 rfl ?_
    refine mw_icmp_lt (tgt := 16) dJ3_checkIndex_8e157_6 (by decide) (fun hc => ?_) (fun hc => ?_)
    · have h := mit hc h
      refine mw_iload_n dJ3_checkIndex_8e157_16 0 rfl ?_
      exact mw_iret dJ3_checkIndex_8e157_17 rfl (ers_i h) rfl rfl
    · have h := mie hc h
      exact nomatch h

set_option maxRecDepth 100000 in
set_option maxHeartbeats 4000000 in
theorem k_J3_checkIndex_8e157_r {l : Launch} {σ : ES} {a0 : Int32} {a1 : Int32} {out : Int32} (h : e_J3_checkIndex_8e157 a0 a1 = some out) : MK l yJ3_checkIndex_8e157 cJ3_checkIndex_8e157 3 (some .int) 1 [.int a0, .int a1, (.ref 2001)] (mkS σ) (some (.int out)) (mkS σ) := by
  unfold e_J3_checkIndex_8e157 at h
  refine mw_entry (own := RJ3) (ini := false) (L := [(0, .int a0), (1, .int a1), (2, (.ref 2001))]) (by decide +kernel) rfl (fun h => nomatch h) rfl (Nat.le_of_ble_eq_true rfl) (Nat.le_of_ble_eq_true rfl) (fun E => ?_)
  refine mw_iload_n dJ3_checkIndex_8e157_0 0 rfl ?_
  refine mw_if_lt (tgt := 9) dJ3_checkIndex_8e157_1 (by decide) (fun hc => ?_) (fun hc => ?_)
  · have h := mit hc h
    exact nomatch h
  · have h := mie hc h
    refine mw_iload_n dJ3_checkIndex_8e157_4 0 rfl ?_
    refine mw_iload_n dJ3_checkIndex_8e157_5 1 rfl ?_
    refine mw_icmp_lt (tgt := 16) dJ3_checkIndex_8e157_6 (by decide) (fun hc => ?_) (fun hc => ?_)
    · have h := mit hc h
      refine mw_iload_n dJ3_checkIndex_8e157_16 0 rfl ?_
      exact mw_iret dJ3_checkIndex_8e157_17 rfl (ers_i h) rfl rfl
    · have h := mie hc h
      exact nomatch h

theorem dJ0_checkIndex_df160_0 : decode cJ0_checkIndex_df160 0 = .ok (.iload_n 0, 1) := by decide +kernel
theorem dJ0_checkIndex_df160_1 : decode cJ0_checkIndex_df160 1 = .ok (.iload_n 1, 1) := by decide +kernel
theorem dJ0_checkIndex_df160_2 : decode cJ0_checkIndex_df160 2 = .ok (.getstatic 1053, 3) := by decide +kernel
theorem dJ0_checkIndex_df160_5 : decode cJ0_checkIndex_df160 5 = .ok (.invokestatic 1059, 3) := by decide +kernel
theorem dJ0_checkIndex_df160_8 : decode cJ0_checkIndex_df160 8 = .ok (.pop, 1) := by decide +kernel
theorem dJ0_checkIndex_df160_9 : decode cJ0_checkIndex_df160 9 = .ok (.return_, 1) := by decide +kernel
def e_J0_checkIndex_df160 (a0 : Int32) (a1 : Int32) : Option Unit := (e_J3_checkIndex_8e157 a0 a1).bind (fun r1 => some ())
set_option maxRecDepth 100000 in
set_option maxHeartbeats 4000000 in
theorem k_J0_checkIndex_df160 {l : Launch} {σ : ES} {a0 : Int32} {a1 : Int32} {out : Unit} (h : e_J0_checkIndex_df160 a0 a1 = some out) : MK l yJ0_checkIndex_df160 cJ0_checkIndex_df160 2 none 2 [.int a0, .int a1] (mkS σ) none (mkS σ) := by
  unfold e_J0_checkIndex_df160 at h
  refine mw_entry (own := RJ0) (ini := false) (L := [(0, .int a0), (1, .int a1)]) (by decide +kernel) rfl (fun h => nomatch h) rfl (Nat.le_of_ble_eq_true rfl) (Nat.le_of_ble_eq_true rfl) (fun E => ?_)
  refine mw_iload_n dJ0_checkIndex_df160_0 0 rfl ?_
  refine mw_iload_n dJ0_checkIndex_df160_1 1 rfl ?_
  refine mv_sioobe wt_489 dJ0_checkIndex_df160_2 ?_ ?_
  · obtain ⟨r1, e2, h⟩ := mbd h
    refine mv_callS_i (As := [.int a0, .int a1, .null]) lkS_RJ0_1059_yJ3_checkIndex_8e157 dJ0_checkIndex_df160_5 (k_J3_checkIndex_8e157_n e2) rfl rfl (Nat.le_of_ble_eq_true rfl) (by decide) (by decide) ?_
    refine mw_pop dJ0_checkIndex_df160_8 rfl ?_
    exact mw_vret dJ0_checkIndex_df160_9 rfl rfl rfl rfl
  · obtain ⟨r1, e2, h⟩ := mbd h
    refine mv_callS_i (As := [.int a0, .int a1, (.ref 2001)]) lkS_RJ0_1059_yJ3_checkIndex_8e157 dJ0_checkIndex_df160_5 (k_J3_checkIndex_8e157_r e2) rfl rfl (Nat.le_of_ble_eq_true rfl) (by decide) (by decide) ?_
    refine mw_pop dJ0_checkIndex_df160_8 rfl ?_
    exact mw_vret dJ0_checkIndex_df160_9 rfl rfl rfl rfl

theorem dJ1_charAt_3b067_0 : decode cJ1_charAt_3b067 0 = .ok (.iload_n 1, 1) := by decide +kernel
theorem dJ1_charAt_3b067_1 : decode cJ1_charAt_3b067 1 = .ok (.aload_n 0, 1) := by decide +kernel
theorem dJ1_charAt_3b067_2 : decode cJ1_charAt_3b067 2 = .ok (.arraylength, 1) := by decide +kernel
theorem dJ1_charAt_3b067_3 : decode cJ1_charAt_3b067 3 = .ok (.invokestatic 9, 3) := by decide +kernel
theorem dJ1_charAt_3b067_6 : decode cJ1_charAt_3b067 6 = .ok (.aload_n 0, 1) := by decide +kernel
theorem dJ1_charAt_3b067_7 : decode cJ1_charAt_3b067 7 = .ok (.iload_n 1, 1) := by decide +kernel
theorem dJ1_charAt_3b067_8 : decode cJ1_charAt_3b067 8 = .ok (.baload, 1) := by decide +kernel
theorem dJ1_charAt_3b067_9 : decode cJ1_charAt_3b067 9 = .ok (.sipush 255, 3) := by decide +kernel
theorem dJ1_charAt_3b067_12 : decode cJ1_charAt_3b067 12 = .ok (.iand, 1) := by decide +kernel
theorem dJ1_charAt_3b067_13 : decode cJ1_charAt_3b067 13 = .ok (.i2c, 1) := by decide +kernel
theorem dJ1_charAt_3b067_14 : decode cJ1_charAt_3b067 14 = .ok (.ireturn, 1) := by decide +kernel
def e_J1_charAt_3b067 (σ : ES) (a0 : Nat) (a1 : Int32) : Option Int32 := if msv a0 = true then ((e_J0_checkIndex_df160 a1 (Int32.ofNat (mbytes (a0 - 1100)).length)).bind (fun r2 => if mib a1 (mbytes (a0 - 1100)).length = true then (if vp_nar .char (((((mbytes (a0 - 1100)).getD a1.toNatClampNeg 0) &&& (255 : Int32)).toUInt32 % 65536).toInt32) = (((((mbytes (a0 - 1100)).getD a1.toNatClampNeg 0) &&& (255 : Int32)).toUInt32 % 65536).toInt32) then (some (((((mbytes (a0 - 1100)).getD a1.toNatClampNeg 0) &&& (255 : Int32)).toUInt32 % 65536).toInt32)) else none) else none)) else none
set_option maxRecDepth 100000 in
set_option maxHeartbeats 4000000 in
theorem k_J1_charAt_3b067 {l : Launch} {σ : ES} {a0 : Nat} {a1 : Int32} {out : Int32} (h : e_J1_charAt_3b067 σ a0 a1 = some out) : MK l yJ1_charAt_3b067 cJ1_charAt_3b067 2 (some .char) 3 [.ref a0, .int a1] (mkS σ) (some (.int out)) (mkS σ) := by
  unfold e_J1_charAt_3b067 at h
  refine mw_entry (own := RJ1) (ini := false) (L := [(0, .ref a0), (1, .int a1)]) (by decide +kernel) rfl (fun h => nomatch h) rfl (Nat.le_of_ble_eq_true rfl) (Nat.le_of_ble_eq_true rfl) (fun E => ?_)
  refine mw_iload_n dJ1_charAt_3b067_0 1 rfl ?_
  refine mw_aload_n dJ1_charAt_3b067_1 0 rfl ?_
  obtain ⟨m1, h⟩ := mif h
  refine mv_alenS dJ1_charAt_3b067_2 m1 ?_
  obtain ⟨r2, e3, h⟩ := mbd h
  refine mv_callS_v (As := [.int a1, .int (Int32.ofNat (mbytes (a0 - 1100)).length)]) lkS_RJ1_9_yJ0_checkIndex_df160 dJ1_charAt_3b067_3 (k_J0_checkIndex_df160 e3) rfl rfl (Nat.le_of_ble_eq_true rfl) (by decide) (by decide) ?_
  refine mw_aload_n dJ1_charAt_3b067_6 0 rfl ?_
  refine mw_iload_n dJ1_charAt_3b067_7 1 rfl ?_
  obtain ⟨m4, h⟩ := mif h
  refine mv_baldS dJ1_charAt_3b067_8 m1 m4 ?_
  refine mw_sipush (v := 255) dJ1_charAt_3b067_9 (by decide) ?_
  refine mw_iand dJ1_charAt_3b067_12 ?_
  refine mw_i2c dJ1_charAt_3b067_13 ?_
  obtain ⟨m5, h⟩ := mif h
  exact mw_cret dJ1_charAt_3b067_14 rfl (mnar_ty (by first | exact Or.inl rfl | exact Or.inr rfl) m5) (ers_i h) rfl rfl

theorem dJ0_charAt_5068e_0 : decode cJ0_charAt_5068e 0 = .ok (.aload_n 0, 1) := by decide +kernel
theorem dJ0_charAt_5068e_1 : decode cJ0_charAt_5068e 1 = .ok (.invokevirtual 492, 3) := by decide +kernel
theorem dJ0_charAt_5068e_4 : decode cJ0_charAt_5068e 4 = .ok (.ifCond .eq 12, 3) := by decide +kernel
theorem dJ0_charAt_5068e_7 : decode cJ0_charAt_5068e 7 = .ok (.aload_n 0, 1) := by decide +kernel
theorem dJ0_charAt_5068e_8 : decode cJ0_charAt_5068e 8 = .ok (.getfield 9, 3) := by decide +kernel
theorem dJ0_charAt_5068e_11 : decode cJ0_charAt_5068e 11 = .ok (.iload_n 1, 1) := by decide +kernel
theorem dJ0_charAt_5068e_12 : decode cJ0_charAt_5068e 12 = .ok (.invokestatic 495, 3) := by decide +kernel
theorem dJ0_charAt_5068e_15 : decode cJ0_charAt_5068e 15 = .ok (.ireturn, 1) := by decide +kernel
theorem dJ0_charAt_5068e_16 : decode cJ0_charAt_5068e 16 = .ok (.aload_n 0, 1) := by decide +kernel
theorem dJ0_charAt_5068e_17 : decode cJ0_charAt_5068e 17 = .ok (.getfield 9, 3) := by decide +kernel
theorem dJ0_charAt_5068e_20 : decode cJ0_charAt_5068e 20 = .ok (.iload_n 1, 1) := by decide +kernel
theorem dJ0_charAt_5068e_21 : decode cJ0_charAt_5068e 21 = .ok (.invokestatic 498, 3) := by decide +kernel
theorem dJ0_charAt_5068e_24 : decode cJ0_charAt_5068e 24 = .ok (.ireturn, 1) := by decide +kernel
def e_J0_charAt_5068e (σ : ES) (a0 : Nat) (a1 : Int32) : Option Int32 := (e_J0_isLatin1_aae02 σ a0).bind (fun r1 => if mst a0 = true then (if r1 = 0 then (none) else ((e_J1_charAt_3b067 σ (a0 + 100) a1).bind (fun r4 => if vp_nar .char r4 = r4 then (some r4) else none))) else none)
set_option maxRecDepth 100000 in
set_option maxHeartbeats 4000000 in
theorem k_J0_charAt_5068e {l : Launch} {σ : ES} {a0 : Nat} {a1 : Int32} {out : Int32} (h : e_J0_charAt_5068e σ a0 a1 = some out) : MK l yJ0_charAt_5068e cJ0_charAt_5068e 2 (some .char) 4 [.ref a0, .int a1] (mkS σ) (some (.int out)) (mkS σ) := by
  unfold e_J0_charAt_5068e at h
  refine mw_entry (own := RJ0) (ini := false) (L := [(0, .ref a0), (1, .int a1)]) (by decide +kernel) rfl (fun h => nomatch h) rfl (Nat.le_of_ble_eq_true rfl) (Nat.le_of_ble_eq_true rfl) (fun E => ?_)
  refine mw_aload_n dJ0_charAt_5068e_0 0 rfl ?_
  obtain ⟨r1, e2, h⟩ := mbd h
  obtain ⟨m3, h⟩ := mif h
  refine mv_callVS_i (As := []) lkV_RJ0_492_yJ0_isLatin1_aae02 dJ0_charAt_5068e_1 (k_J0_isLatin1_aae02 e2) rfl m3 rfl (Nat.le_of_ble_eq_true rfl) (by decide) (by decide) ?_
  refine mw_if_eq (tgt := 16) dJ0_charAt_5068e_4 (by decide) (fun hc => ?_) (fun hc => ?_)
  · have h := mit hc h
    refine mw_aload_n dJ0_charAt_5068e_16 0 rfl ?_
    refine mv_sval wt_466 dJ0_charAt_5068e_17 m3 ?_
    refine mw_iload_n dJ0_charAt_5068e_20 1 rfl ?_
    exact nomatch h
  · have h := mie hc h
    refine mw_aload_n dJ0_charAt_5068e_7 0 rfl ?_
    refine mv_sval wt_466 dJ0_charAt_5068e_8 m3 ?_
    refine mw_iload_n dJ0_charAt_5068e_11 1 rfl ?_
    obtain ⟨r4, e5, h⟩ := mbd h
    refine mv_callS_i (As := [.ref (a0 + 100), .int a1]) lkS_RJ0_495_yJ1_charAt_3b067 dJ0_charAt_5068e_12 (k_J1_charAt_3b067 e5) rfl rfl (Nat.le_of_ble_eq_true rfl) (by decide) (by decide) ?_
    obtain ⟨m6, h⟩ := mif h
    exact mw_cret dJ0_charAt_5068e_15 rfl (mnar_ty (by first | exact Or.inl rfl | exact Or.inr rfl) m6) (ers_i h) rfl rfl

theorem dX6_isWord_0 : decode cX6_isWord 0 = .ok (.aload_n 0, 1) := by decide +kernel
theorem dX6_isWord_1 : decode cX6_isWord 1 = .ok (.getfield 36, 3) := by decide +kernel
theorem dX6_isWord_4 : decode cX6_isWord 4 = .ok (.iconst 1, 1) := by decide +kernel
theorem dX6_isWord_5 : decode cX6_isWord 5 = .ok (.if_icmp .ne 19, 3) := by decide +kernel
theorem dX6_isWord_8 : decode cX6_isWord 8 = .ok (.aload_n 0, 1) := by decide +kernel
theorem dX6_isWord_9 : decode cX6_isWord 9 = .ok (.getfield 23, 3) := by decide +kernel
theorem dX6_isWord_12 : decode cX6_isWord 12 = .ok (.aload_n 0, 1) := by decide +kernel
theorem dX6_isWord_13 : decode cX6_isWord 13 = .ok (.getfield 33, 3) := by decide +kernel
theorem dX6_isWord_16 : decode cX6_isWord 16 = .ok (.isub, 1) := by decide +kernel
theorem dX6_isWord_17 : decode cX6_isWord 17 = .ok (.aload_n 1, 1) := by decide +kernel
theorem dX6_isWord_18 : decode cX6_isWord 18 = .ok (.invokevirtual 127, 3) := by decide +kernel
theorem dX6_isWord_21 : decode cX6_isWord 21 = .ok (.if_icmp .eq 5, 3) := by decide +kernel
theorem dX6_isWord_24 : decode cX6_isWord 24 = .ok (.iconst 0, 1) := by decide +kernel
theorem dX6_isWord_25 : decode cX6_isWord 25 = .ok (.ireturn, 1) := by decide +kernel
theorem dX6_isWord_26 : decode cX6_isWord 26 = .ok (.iconst 0, 1) := by decide +kernel
theorem dX6_isWord_27 : decode cX6_isWord 27 = .ok (.istore_n 2, 1) := by decide +kernel
theorem dX6_isWord_28 : decode cX6_isWord 28 = .ok (.iload_n 2, 1) := by decide +kernel
theorem dX6_isWord_29 : decode cX6_isWord 29 = .ok (.aload_n 1, 1) := by decide +kernel
theorem dX6_isWord_30 : decode cX6_isWord 30 = .ok (.invokevirtual 127, 3) := by decide +kernel
theorem dX6_isWord_33 : decode cX6_isWord 33 = .ok (.if_icmp .ge 30, 3) := by decide +kernel
theorem dX6_isWord_36 : decode cX6_isWord 36 = .ok (.aload_n 0, 1) := by decide +kernel
theorem dX6_isWord_37 : decode cX6_isWord 37 = .ok (.getfield 9, 3) := by decide +kernel
theorem dX6_isWord_40 : decode cX6_isWord 40 = .ok (.aload_n 0, 1) := by decide +kernel
theorem dX6_isWord_41 : decode cX6_isWord 41 = .ok (.getfield 33, 3) := by decide +kernel
theorem dX6_isWord_44 : decode cX6_isWord 44 = .ok (.iload_n 2, 1) := by decide +kernel
theorem dX6_isWord_45 : decode cX6_isWord 45 = .ok (.iadd, 1) := by decide +kernel
theorem dX6_isWord_46 : decode cX6_isWord 46 = .ok (.iaload, 1) := by decide +kernel
theorem dX6_isWord_47 : decode cX6_isWord 47 = .ok (.aload_n 1, 1) := by decide +kernel
theorem dX6_isWord_48 : decode cX6_isWord 48 = .ok (.iload_n 2, 1) := by decide +kernel
theorem dX6_isWord_49 : decode cX6_isWord 49 = .ok (.invokevirtual 131, 3) := by decide +kernel
theorem dX6_isWord_52 : decode cX6_isWord 52 = .ok (.if_icmp .eq 5, 3) := by decide +kernel
theorem dX6_isWord_55 : decode cX6_isWord 55 = .ok (.iconst 0, 1) := by decide +kernel
theorem dX6_isWord_56 : decode cX6_isWord 56 = .ok (.ireturn, 1) := by decide +kernel
theorem dX6_isWord_57 : decode cX6_isWord 57 = .ok (.iinc 2 1, 3) := by decide +kernel
theorem dX6_isWord_60 : decode cX6_isWord 60 = .ok (.goto (-32), 3) := by decide +kernel
theorem dX6_isWord_63 : decode cX6_isWord 63 = .ok (.iconst 1, 1) := by decide +kernel
theorem dX6_isWord_64 : decode cX6_isWord 64 = .ok (.ireturn, 1) := by decide +kernel
def e_X6_isWord_L28 (σ : ES) (a1 : Nat) : Nat → Int32 → Option Int32
  | 0, _ => none
  | n + 1, x2 => (e_J0_length_8abf5 σ a1).bind (fun r1 => if mst a1 = true then (if r1 ≤ x2 then (some (1 : Int32)) else (if mib ((eI σ 57 4) + x2) 120 = true then ((e_J0_charAt_5068e σ a1 x2).bind (fun r5 => if (eI σ 58 ((eI σ 57 4) + x2).toNatClampNeg) = r5 then (e_X6_isWord_L28 σ a1 n (x2 + 1)) else (some (0 : Int32)))) else none)) else none)
set_option maxRecDepth 100000 in
set_option maxHeartbeats 4000000 in
theorem p_X6_isWord_L28 {l : Launch} {E : MX} {out : Int32} {σ : ES} {a1 : Nat}  : ∀ (n : Nat) (x2 : Int32), e_X6_isWord_L28 σ a1 n x2 = some out → MV l E cX6_isWord RX6 3 (some .boolean) 5 (82, (some (.int out)), mkS σ) (mkS σ) 28 [(0, .ref 57), (1, .ref a1), (2, .int x2)] [] := by
  intro n
  induction n with
  | zero =>
    intro x2 h
    exact nomatch h
  | succ n ih =>
    intro x2 h
    rw [e_X6_isWord_L28] at h
    refine mw_iload_n dX6_isWord_28 2 rfl ?_
    refine mw_aload_n dX6_isWord_29 1 rfl ?_
    obtain ⟨r1, e2, h⟩ := mbd h
    obtain ⟨m3, h⟩ := mif h
    refine mv_callVS_i (As := []) lkV_RX6_127_yJ0_length_8abf5 dX6_isWord_30 (k_J0_length_8abf5 e2) rfl m3 rfl (Nat.le_of_ble_eq_true rfl) (by decide) (by decide) ?_
    refine mw_icmp_ge (tgt := 63) dX6_isWord_33 (by decide) (fun hc => ?_) (fun hc => ?_)
    · have h := mit hc h
      refine mw_iconst (v := 1) dX6_isWord_63 (by decide) ?_
      exact mw_zret dX6_isWord_64 rfl (by decide) (ers_i h) rfl rfl
    · have h := mie hc h
      refine mw_aload_n dX6_isWord_36 0 rfl ?_
      refine ev_getR (q := 58) fd_RX6_9_5 dX6_isWord_37 rfl rfl rfl ?_
      refine mw_aload_n dX6_isWord_40 0 rfl ?_
      refine ev_getI fd_RX6_33_5 dX6_isWord_41 rfl rfl ?_
      refine mw_iload_n dX6_isWord_44 2 rfl ?_
      refine mw_iadd dX6_isWord_45 ?_
      obtain ⟨m4, h⟩ := mif h
      refine ev_iald dX6_isWord_46 (by decide) rfl m4 ?_
      refine mw_aload_n dX6_isWord_47 1 rfl ?_
      refine mw_iload_n dX6_isWord_48 2 rfl ?_
      obtain ⟨r5, e6, h⟩ := mbd h
      refine mv_callVS_i (As := [.int x2]) lkV_RX6_131_yJ0_charAt_5068e dX6_isWord_49 (k_J0_charAt_5068e e6) rfl m3 rfl (Nat.le_of_ble_eq_true rfl) (by decide) (by decide) ?_
      refine mw_icmp_eq (tgt := 57) dX6_isWord_52 (by decide) (fun hc => ?_) (fun hc => ?_)
      · have h := mit hc h
        refine mw_iinc (v := (x2 + 1)) (L' := [(2, .int (x2 + 1)), (0, .ref 57), (1, .ref a1)]) dX6_isWord_57 2 rfl rfl (by decide) rfl ?_
        refine mw_goto (tgt := 28) dX6_isWord_60 (by decide) ?_
        exact mw_sub (L' := [(0, .ref 57), (1, .ref a1), (2, .int (x2 + 1))]) [1, 2, 0] rfl (ih _ h)
      · have h := mie hc h
        refine mw_iconst (v := 0) dX6_isWord_55 (by decide) ?_
        exact mw_zret dX6_isWord_56 rfl (by decide) (ers_i h) rfl rfl
def e_X6_isWord (σ : ES) (a1 : Nat) : Option Int32 := if (eI σ 57 3) = (1 : Int32) then ((e_J0_length_8abf5 σ a1).bind (fun r1 => if mst a1 = true then (if ((eI σ 57 5) - (eI σ 57 4)) = r1 then (e_X6_isWord_L28 σ a1 mN (0 : Int32)) else (some (0 : Int32))) else none)) else (some (0 : Int32))
set_option maxRecDepth 100000 in
set_option maxHeartbeats 4000000 in
theorem k_X6_isWord {l : Launch} {σ : ES} {a1 : Nat} {out : Int32} (h : e_X6_isWord σ a1 = some out) : MK l yX6_isWord cX6_isWord 3 (some .boolean) 5 [.ref 57, .ref a1] (mkS σ) (some (.int out)) (mkS σ) := by
  unfold e_X6_isWord at h
  refine mw_entry (own := RX6) (ini := false) (L := [(0, .ref 57), (1, .ref a1)]) (by decide +kernel) rfl (fun h => nomatch h) rfl (Nat.le_of_ble_eq_true rfl) (Nat.le_of_ble_eq_true rfl) (fun E => ?_)
  refine mw_aload_n dX6_isWord_0 0 rfl ?_
  refine ev_getI fd_RX6_36_5 dX6_isWord_1 rfl rfl ?_
  refine mw_iconst (v := 1) dX6_isWord_4 (by decide) ?_
  refine mw_icmp_ne (tgt := 24) dX6_isWord_5 (by decide) (fun hc => ?_) (fun hc => ?_)
  · have h := mie hc h
    refine mw_iconst (v := 0) dX6_isWord_24 (by decide) ?_
    exact mw_zret dX6_isWord_25 rfl (by decide) (ers_i h) rfl rfl
  · have h := mit hc h
    refine mw_aload_n dX6_isWord_8 0 rfl ?_
    refine ev_getI fd_RX6_23_5 dX6_isWord_9 rfl rfl ?_
    refine mw_aload_n dX6_isWord_12 0 rfl ?_
    refine ev_getI fd_RX6_33_5 dX6_isWord_13 rfl rfl ?_
    refine mw_isub dX6_isWord_16 ?_
    refine mw_aload_n dX6_isWord_17 1 rfl ?_
    obtain ⟨r1, e2, h⟩ := mbd h
    obtain ⟨m3, h⟩ := mif h
    refine mv_callVS_i (As := []) lkV_RX6_127_yJ0_length_8abf5 dX6_isWord_18 (k_J0_length_8abf5 e2) rfl m3 rfl (Nat.le_of_ble_eq_true rfl) (by decide) (by decide) ?_
    refine mw_icmp_eq (tgt := 26) dX6_isWord_21 (by decide) (fun hc => ?_) (fun hc => ?_)
    · have h := mit hc h
      refine mw_iconst (v := 0) dX6_isWord_26 (by decide) ?_
      refine mw_istore_n (L' := [(2, .int (0 : Int32)), (0, .ref 57), (1, .ref a1)]) dX6_isWord_27 rfl (by decide) rfl ?_
      exact mw_sub (L' := [(0, .ref 57), (1, .ref a1), (2, .int (0 : Int32))]) [1, 2, 0] rfl (p_X6_isWord_L28  mN _ h)
    · have h := mie hc h
      refine mw_iconst (v := 0) dX6_isWord_24 (by decide) ?_
      exact mw_zret dX6_isWord_25 rfl (by decide) (ers_i h) rfl rfl

theorem dX6_kindTold_0 : decode cX6_kindTold 0 = .ok (.aload_n 0, 1) := by decide +kernel
theorem dX6_kindTold_1 : decode cX6_kindTold 1 = .ok (.ldc 111, 2) := by decide +kernel
theorem dX6_kindTold_3 : decode cX6_kindTold 3 = .ok (.invokevirtual 41, 3) := by decide +kernel
theorem dX6_kindTold_6 : decode cX6_kindTold 6 = .ok (.ifCond .eq 5, 3) := by decide +kernel
theorem dX6_kindTold_9 : decode cX6_kindTold 9 = .ok (.iconst 0, 1) := by decide +kernel
theorem dX6_kindTold_10 : decode cX6_kindTold 10 = .ok (.ireturn, 1) := by decide +kernel
theorem dX6_kindTold_11 : decode cX6_kindTold 11 = .ok (.aload_n 0, 1) := by decide +kernel
theorem dX6_kindTold_12 : decode cX6_kindTold 12 = .ok (.ldc 113, 2) := by decide +kernel
theorem dX6_kindTold_14 : decode cX6_kindTold 14 = .ok (.invokevirtual 41, 3) := by decide +kernel
theorem dX6_kindTold_17 : decode cX6_kindTold 17 = .ok (.ifCond .eq 5, 3) := by decide +kernel
theorem dX6_kindTold_20 : decode cX6_kindTold 20 = .ok (.iconst 1, 1) := by decide +kernel
theorem dX6_kindTold_21 : decode cX6_kindTold 21 = .ok (.ireturn, 1) := by decide +kernel
theorem dX6_kindTold_22 : decode cX6_kindTold 22 = .ok (.aload_n 0, 1) := by decide +kernel
theorem dX6_kindTold_23 : decode cX6_kindTold 23 = .ok (.ldc 115, 2) := by decide +kernel
theorem dX6_kindTold_25 : decode cX6_kindTold 25 = .ok (.invokevirtual 41, 3) := by decide +kernel
theorem dX6_kindTold_28 : decode cX6_kindTold 28 = .ok (.ifCond .eq 5, 3) := by decide +kernel
theorem dX6_kindTold_31 : decode cX6_kindTold 31 = .ok (.iconst 2, 1) := by decide +kernel
theorem dX6_kindTold_32 : decode cX6_kindTold 32 = .ok (.ireturn, 1) := by decide +kernel
theorem dX6_kindTold_33 : decode cX6_kindTold 33 = .ok (.aload_n 0, 1) := by decide +kernel
theorem dX6_kindTold_34 : decode cX6_kindTold 34 = .ok (.ldc 117, 2) := by decide +kernel
theorem dX6_kindTold_36 : decode cX6_kindTold 36 = .ok (.invokevirtual 41, 3) := by decide +kernel
theorem dX6_kindTold_39 : decode cX6_kindTold 39 = .ok (.ifCond .eq 5, 3) := by decide +kernel
theorem dX6_kindTold_42 : decode cX6_kindTold 42 = .ok (.iconst 3, 1) := by decide +kernel
theorem dX6_kindTold_43 : decode cX6_kindTold 43 = .ok (.ireturn, 1) := by decide +kernel
theorem dX6_kindTold_44 : decode cX6_kindTold 44 = .ok (.aload_n 0, 1) := by decide +kernel
theorem dX6_kindTold_45 : decode cX6_kindTold 45 = .ok (.ldc 119, 2) := by decide +kernel
theorem dX6_kindTold_47 : decode cX6_kindTold 47 = .ok (.invokevirtual 41, 3) := by decide +kernel
theorem dX6_kindTold_50 : decode cX6_kindTold 50 = .ok (.ifCond .eq 5, 3) := by decide +kernel
theorem dX6_kindTold_53 : decode cX6_kindTold 53 = .ok (.iconst 4, 1) := by decide +kernel
theorem dX6_kindTold_54 : decode cX6_kindTold 54 = .ok (.ireturn, 1) := by decide +kernel
theorem dX6_kindTold_55 : decode cX6_kindTold 55 = .ok (.aload_n 0, 1) := by decide +kernel
theorem dX6_kindTold_56 : decode cX6_kindTold 56 = .ok (.ldc 121, 2) := by decide +kernel
theorem dX6_kindTold_58 : decode cX6_kindTold 58 = .ok (.invokevirtual 41, 3) := by decide +kernel
theorem dX6_kindTold_61 : decode cX6_kindTold 61 = .ok (.ifCond .eq 7, 3) := by decide +kernel
theorem dX6_kindTold_64 : decode cX6_kindTold 64 = .ok (.iconst 5, 1) := by decide +kernel
theorem dX6_kindTold_65 : decode cX6_kindTold 65 = .ok (.goto 4, 3) := by decide +kernel
theorem dX6_kindTold_68 : decode cX6_kindTold 68 = .ok (.iconst (-1), 1) := by decide +kernel
theorem dX6_kindTold_69 : decode cX6_kindTold 69 = .ok (.ireturn, 1) := by decide +kernel
def e_X6_kindTold (σ : ES) : Option Int32 := (e_X6_isWord σ (1000 + 3)).bind (fun r1 => if r1 = 0 then ((e_X6_isWord σ (1000 + 4)).bind (fun r3 => if r3 = 0 then ((e_X6_isWord σ (1000 + 5)).bind (fun r5 => if r5 = 0 then ((e_X6_isWord σ (1000 + 6)).bind (fun r7 => if r7 = 0 then ((e_X6_isWord σ (1000 + 7)).bind (fun r9 => if r9 = 0 then ((e_X6_isWord σ (1000 + 8)).bind (fun r11 => if r11 = 0 then (some (-1 : Int32)) else (some (5 : Int32)))) else (some (4 : Int32)))) else (some (3 : Int32)))) else (some (2 : Int32)))) else (some (1 : Int32)))) else (some (0 : Int32)))
set_option maxRecDepth 100000 in
set_option maxHeartbeats 4000000 in
theorem k_X6_kindTold {l : Launch} {σ : ES}  {out : Int32} (h : e_X6_kindTold σ = some out) : MK l yX6_kindTold cX6_kindTold 1 (some .int) 6 [.ref 57] (mkS σ) (some (.int out)) (mkS σ) := by
  unfold e_X6_kindTold at h
  refine mw_entry (own := RX6) (ini := false) (L := [(0, .ref 57)]) (by decide +kernel) rfl (fun h => nomatch h) rfl (Nat.le_of_ble_eq_true rfl) (Nat.le_of_ble_eq_true rfl) (fun E => ?_)
  refine mw_aload_n dX6_kindTold_0 0 rfl ?_
  refine mv_ldcS 3 (by decide) rfl rfl dX6_kindTold_1 ?_
  obtain ⟨r1, e2, h⟩ := mbd h
  refine mv_callV_i (As := [.ref (1000 + 3)]) (ci := 5) lkV_RX6_41_yX6_isWord dX6_kindTold_3 (k_X6_isWord e2) rfl rfl rfl rfl (Nat.le_of_ble_eq_true rfl) (by decide) (by decide) ?_
  refine mw_if_eq (tgt := 11) dX6_kindTold_6 (by decide) (fun hc => ?_) (fun hc => ?_)
  · have h := mit hc h
    refine mw_aload_n dX6_kindTold_11 0 rfl ?_
    refine mv_ldcS 4 (by decide) rfl rfl dX6_kindTold_12 ?_
    obtain ⟨r3, e4, h⟩ := mbd h
    refine mv_callV_i (As := [.ref (1000 + 4)]) (ci := 5) lkV_RX6_41_yX6_isWord dX6_kindTold_14 (k_X6_isWord e4) rfl rfl rfl rfl (Nat.le_of_ble_eq_true rfl) (by decide) (by decide) ?_
    refine mw_if_eq (tgt := 22) dX6_kindTold_17 (by decide) (fun hc => ?_) (fun hc => ?_)
    · have h := mit hc h
      refine mw_aload_n dX6_kindTold_22 0 rfl ?_
      refine mv_ldcS 5 (by decide) rfl rfl dX6_kindTold_23 ?_
      obtain ⟨r5, e6, h⟩ := mbd h
      refine mv_callV_i (As := [.ref (1000 + 5)]) (ci := 5) lkV_RX6_41_yX6_isWord dX6_kindTold_25 (k_X6_isWord e6) rfl rfl rfl rfl (Nat.le_of_ble_eq_true rfl) (by decide) (by decide) ?_
      refine mw_if_eq (tgt := 33) dX6_kindTold_28 (by decide) (fun hc => ?_) (fun hc => ?_)
      · have h := mit hc h
        refine mw_aload_n dX6_kindTold_33 0 rfl ?_
        refine mv_ldcS 6 (by decide) rfl rfl dX6_kindTold_34 ?_
        obtain ⟨r7, e8, h⟩ := mbd h
        refine mv_callV_i (As := [.ref (1000 + 6)]) (ci := 5) lkV_RX6_41_yX6_isWord dX6_kindTold_36 (k_X6_isWord e8) rfl rfl rfl rfl (Nat.le_of_ble_eq_true rfl) (by decide) (by decide) ?_
        refine mw_if_eq (tgt := 44) dX6_kindTold_39 (by decide) (fun hc => ?_) (fun hc => ?_)
        · have h := mit hc h
          refine mw_aload_n dX6_kindTold_44 0 rfl ?_
          refine mv_ldcS 7 (by decide) rfl rfl dX6_kindTold_45 ?_
          obtain ⟨r9, e10, h⟩ := mbd h
          refine mv_callV_i (As := [.ref (1000 + 7)]) (ci := 5) lkV_RX6_41_yX6_isWord dX6_kindTold_47 (k_X6_isWord e10) rfl rfl rfl rfl (Nat.le_of_ble_eq_true rfl) (by decide) (by decide) ?_
          refine mw_if_eq (tgt := 55) dX6_kindTold_50 (by decide) (fun hc => ?_) (fun hc => ?_)
          · have h := mit hc h
            refine mw_aload_n dX6_kindTold_55 0 rfl ?_
            refine mv_ldcS 8 (by decide) rfl rfl dX6_kindTold_56 ?_
            obtain ⟨r11, e12, h⟩ := mbd h
            refine mv_callV_i (As := [.ref (1000 + 8)]) (ci := 5) lkV_RX6_41_yX6_isWord dX6_kindTold_58 (k_X6_isWord e12) rfl rfl rfl rfl (Nat.le_of_ble_eq_true rfl) (by decide) (by decide) ?_
            refine mw_if_eq (tgt := 68) dX6_kindTold_61 (by decide) (fun hc => ?_) (fun hc => ?_)
            · have h := mit hc h
              refine mw_iconst (v := -1) dX6_kindTold_68 (by decide) ?_
              exact mw_iret dX6_kindTold_69 rfl (ers_i h) rfl rfl
            · have h := mie hc h
              refine mw_iconst (v := 5) dX6_kindTold_64 (by decide) ?_
              refine mw_goto (tgt := 69) dX6_kindTold_65 (by decide) ?_
              exact mw_iret dX6_kindTold_69 rfl (ers_i h) rfl rfl
          · have h := mie hc h
            refine mw_iconst (v := 4) dX6_kindTold_53 (by decide) ?_
            exact mw_iret dX6_kindTold_54 rfl (ers_i h) rfl rfl
        · have h := mie hc h
          refine mw_iconst (v := 3) dX6_kindTold_42 (by decide) ?_
          exact mw_iret dX6_kindTold_43 rfl (ers_i h) rfl rfl
      · have h := mie hc h
        refine mw_iconst (v := 2) dX6_kindTold_31 (by decide) ?_
        exact mw_iret dX6_kindTold_32 rfl (ers_i h) rfl rfl
    · have h := mie hc h
      refine mw_iconst (v := 1) dX6_kindTold_20 (by decide) ?_
      exact mw_iret dX6_kindTold_21 rfl (ers_i h) rfl rfl
  · have h := mie hc h
    refine mw_iconst (v := 0) dX6_kindTold_9 (by decide) ?_
    exact mw_iret dX6_kindTold_10 rfl (ers_i h) rfl rfl

theorem dX6_isLetter_0 : decode cX6_isLetter 0 = .ok (.iload_n 0, 1) := by decide +kernel
theorem dX6_isLetter_1 : decode cX6_isLetter 1 = .ok (.bipush 97, 2) := by decide +kernel
theorem dX6_isLetter_3 : decode cX6_isLetter 3 = .ok (.if_icmp .lt 13, 3) := by decide +kernel
theorem dX6_isLetter_6 : decode cX6_isLetter 6 = .ok (.iload_n 0, 1) := by decide +kernel
theorem dX6_isLetter_7 : decode cX6_isLetter 7 = .ok (.bipush 122, 2) := by decide +kernel
theorem dX6_isLetter_9 : decode cX6_isLetter 9 = .ok (.if_icmp .gt 7, 3) := by decide +kernel
theorem dX6_isLetter_12 : decode cX6_isLetter 12 = .ok (.iconst 1, 1) := by decide +kernel
theorem dX6_isLetter_13 : decode cX6_isLetter 13 = .ok (.goto 4, 3) := by decide +kernel
theorem dX6_isLetter_16 : decode cX6_isLetter 16 = .ok (.iconst 0, 1) := by decide +kernel
theorem dX6_isLetter_17 : decode cX6_isLetter 17 = .ok (.ireturn, 1) := by decide +kernel
def e_X6_isLetter (a0 : Int32) : Option Int32 := if a0 < (97 : Int32) then (some (0 : Int32)) else (if (122 : Int32) < a0 then (some (0 : Int32)) else (some (1 : Int32)))
set_option maxRecDepth 100000 in
set_option maxHeartbeats 4000000 in
theorem k_X6_isLetter {l : Launch} {σ : ES} {a0 : Int32} {out : Int32} (h : e_X6_isLetter a0 = some out) : MK l yX6_isLetter cX6_isLetter 1 (some .boolean) 1 [.int a0] (mkS σ) (some (.int out)) (mkS σ) := by
  unfold e_X6_isLetter at h
  refine mw_entry (own := RX6) (ini := false) (L := [(0, .int a0)]) (by decide +kernel) rfl (fun h => nomatch h) rfl (Nat.le_of_ble_eq_true rfl) (Nat.le_of_ble_eq_true rfl) (fun E => ?_)
  refine mw_iload_n dX6_isLetter_0 0 rfl ?_
  refine mw_bipush (v := 97) dX6_isLetter_1 (by decide) ?_
  refine mw_icmp_lt (tgt := 16) dX6_isLetter_3 (by decide) (fun hc => ?_) (fun hc => ?_)
  · have h := mit hc h
    refine mw_iconst (v := 0) dX6_isLetter_16 (by decide) ?_
    exact mw_zret dX6_isLetter_17 rfl (by decide) (ers_i h) rfl rfl
  · have h := mie hc h
    refine mw_iload_n dX6_isLetter_6 0 rfl ?_
    refine mw_bipush (v := 122) dX6_isLetter_7 (by decide) ?_
    refine mw_icmp_gt (tgt := 16) dX6_isLetter_9 (by decide) (fun hc => ?_) (fun hc => ?_)
    · have h := mit hc h
      refine mw_iconst (v := 0) dX6_isLetter_16 (by decide) ?_
      exact mw_zret dX6_isLetter_17 rfl (by decide) (ers_i h) rfl rfl
    · have h := mie hc h
      refine mw_iconst (v := 1) dX6_isLetter_12 (by decide) ?_
      refine mw_goto (tgt := 17) dX6_isLetter_13 (by decide) ?_
      exact mw_zret dX6_isLetter_17 rfl (by decide) (ers_i h) rfl rfl

theorem dX6_isDigit_0 : decode cX6_isDigit 0 = .ok (.iload_n 0, 1) := by decide +kernel
theorem dX6_isDigit_1 : decode cX6_isDigit 1 = .ok (.bipush 48, 2) := by decide +kernel
theorem dX6_isDigit_3 : decode cX6_isDigit 3 = .ok (.if_icmp .lt 13, 3) := by decide +kernel
theorem dX6_isDigit_6 : decode cX6_isDigit 6 = .ok (.iload_n 0, 1) := by decide +kernel
theorem dX6_isDigit_7 : decode cX6_isDigit 7 = .ok (.bipush 57, 2) := by decide +kernel
theorem dX6_isDigit_9 : decode cX6_isDigit 9 = .ok (.if_icmp .gt 7, 3) := by decide +kernel
theorem dX6_isDigit_12 : decode cX6_isDigit 12 = .ok (.iconst 1, 1) := by decide +kernel
theorem dX6_isDigit_13 : decode cX6_isDigit 13 = .ok (.goto 4, 3) := by decide +kernel
theorem dX6_isDigit_16 : decode cX6_isDigit 16 = .ok (.iconst 0, 1) := by decide +kernel
theorem dX6_isDigit_17 : decode cX6_isDigit 17 = .ok (.ireturn, 1) := by decide +kernel
def e_X6_isDigit (a0 : Int32) : Option Int32 := if a0 < (48 : Int32) then (some (0 : Int32)) else (if (57 : Int32) < a0 then (some (0 : Int32)) else (some (1 : Int32)))
set_option maxRecDepth 100000 in
set_option maxHeartbeats 4000000 in
theorem k_X6_isDigit {l : Launch} {σ : ES} {a0 : Int32} {out : Int32} (h : e_X6_isDigit a0 = some out) : MK l yX6_isDigit cX6_isDigit 1 (some .boolean) 1 [.int a0] (mkS σ) (some (.int out)) (mkS σ) := by
  unfold e_X6_isDigit at h
  refine mw_entry (own := RX6) (ini := false) (L := [(0, .int a0)]) (by decide +kernel) rfl (fun h => nomatch h) rfl (Nat.le_of_ble_eq_true rfl) (Nat.le_of_ble_eq_true rfl) (fun E => ?_)
  refine mw_iload_n dX6_isDigit_0 0 rfl ?_
  refine mw_bipush (v := 48) dX6_isDigit_1 (by decide) ?_
  refine mw_icmp_lt (tgt := 16) dX6_isDigit_3 (by decide) (fun hc => ?_) (fun hc => ?_)
  · have h := mit hc h
    refine mw_iconst (v := 0) dX6_isDigit_16 (by decide) ?_
    exact mw_zret dX6_isDigit_17 rfl (by decide) (ers_i h) rfl rfl
  · have h := mie hc h
    refine mw_iload_n dX6_isDigit_6 0 rfl ?_
    refine mw_bipush (v := 57) dX6_isDigit_7 (by decide) ?_
    refine mw_icmp_gt (tgt := 16) dX6_isDigit_9 (by decide) (fun hc => ?_) (fun hc => ?_)
    · have h := mit hc h
      refine mw_iconst (v := 0) dX6_isDigit_16 (by decide) ?_
      exact mw_zret dX6_isDigit_17 rfl (by decide) (ers_i h) rfl rfl
    · have h := mie hc h
      refine mw_iconst (v := 1) dX6_isDigit_12 (by decide) ?_
      refine mw_goto (tgt := 17) dX6_isDigit_13 (by decide) ?_
      exact mw_zret dX6_isDigit_17 rfl (by decide) (ers_i h) rfl rfl
