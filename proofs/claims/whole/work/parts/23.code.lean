/-! ===== methods as functions, and that the machine does so (written by gen/all.py) ===== -/
theorem dX7_heaviestJoining_0 : decode cX7_heaviestJoining 0 = .ok (.iconst (-1), 1) := by decide +kernel
theorem dX7_heaviestJoining_1 : decode cX7_heaviestJoining 1 = .ok (.istore_n 1, 1) := by decide +kernel
theorem dX7_heaviestJoining_2 : decode cX7_heaviestJoining 2 = .ok (.iconst 0, 1) := by decide +kernel
theorem dX7_heaviestJoining_3 : decode cX7_heaviestJoining 3 = .ok (.istore_n 2, 1) := by decide +kernel
theorem dX7_heaviestJoining_4 : decode cX7_heaviestJoining 4 = .ok (.iload_n 2, 1) := by decide +kernel
theorem dX7_heaviestJoining_5 : decode cX7_heaviestJoining 5 = .ok (.aload_n 0, 1) := by decide +kernel
theorem dX7_heaviestJoining_6 : decode cX7_heaviestJoining 6 = .ok (.getfield 54, 3) := by decide +kernel
theorem dX7_heaviestJoining_9 : decode cX7_heaviestJoining 9 = .ok (.if_icmp .ge 82, 3) := by decide +kernel
theorem dX7_heaviestJoining_12 : decode cX7_heaviestJoining 12 = .ok (.aload_n 0, 1) := by decide +kernel
theorem dX7_heaviestJoining_13 : decode cX7_heaviestJoining 13 = .ok (.getfield 18, 3) := by decide +kernel
theorem dX7_heaviestJoining_16 : decode cX7_heaviestJoining 16 = .ok (.getfield 57, 3) := by decide +kernel
theorem dX7_heaviestJoining_19 : decode cX7_heaviestJoining 19 = .ok (.iload_n 2, 1) := by decide +kernel
theorem dX7_heaviestJoining_20 : decode cX7_heaviestJoining 20 = .ok (.iaload, 1) := by decide +kernel
theorem dX7_heaviestJoining_21 : decode cX7_heaviestJoining 21 = .ok (.ifCond .ne 35, 3) := by decide +kernel
theorem dX7_heaviestJoining_24 : decode cX7_heaviestJoining 24 = .ok (.aload_n 0, 1) := by decide +kernel
theorem dX7_heaviestJoining_25 : decode cX7_heaviestJoining 25 = .ok (.getfield 12, 3) := by decide +kernel
theorem dX7_heaviestJoining_28 : decode cX7_heaviestJoining 28 = .ok (.aload_n 0, 1) := by decide +kernel
theorem dX7_heaviestJoining_29 : decode cX7_heaviestJoining 29 = .ok (.getfield 18, 3) := by decide +kernel
theorem dX7_heaviestJoining_32 : decode cX7_heaviestJoining 32 = .ok (.getfield 43, 3) := by decide +kernel
theorem dX7_heaviestJoining_35 : decode cX7_heaviestJoining 35 = .ok (.iload_n 2, 1) := by decide +kernel
theorem dX7_heaviestJoining_36 : decode cX7_heaviestJoining 36 = .ok (.iaload, 1) := by decide +kernel
theorem dX7_heaviestJoining_37 : decode cX7_heaviestJoining 37 = .ok (.aload_n 0, 1) := by decide +kernel
theorem dX7_heaviestJoining_38 : decode cX7_heaviestJoining 38 = .ok (.getfield 18, 3) := by decide +kernel
theorem dX7_heaviestJoining_41 : decode cX7_heaviestJoining 41 = .ok (.getfield 47, 3) := by decide +kernel
theorem dX7_heaviestJoining_44 : decode cX7_heaviestJoining 44 = .ok (.iload_n 2, 1) := by decide +kernel
theorem dX7_heaviestJoining_45 : decode cX7_heaviestJoining 45 = .ok (.iaload, 1) := by decide +kernel
theorem dX7_heaviestJoining_46 : decode cX7_heaviestJoining 46 = .ok (.invokevirtual 60, 3) := by decide +kernel
theorem dX7_heaviestJoining_49 : decode cX7_heaviestJoining 49 = .ok (.ifCond .eq 7, 3) := by decide +kernel
theorem dX7_heaviestJoining_52 : decode cX7_heaviestJoining 52 = .ok (.iconst 1, 1) := by decide +kernel
theorem dX7_heaviestJoining_53 : decode cX7_heaviestJoining 53 = .ok (.goto 4, 3) := by decide +kernel
theorem dX7_heaviestJoining_56 : decode cX7_heaviestJoining 56 = .ok (.iconst 0, 1) := by decide +kernel
theorem dX7_heaviestJoining_57 : decode cX7_heaviestJoining 57 = .ok (.istore_n 3, 1) := by decide +kernel
theorem dX7_heaviestJoining_58 : decode cX7_heaviestJoining 58 = .ok (.iload_n 3, 1) := by decide +kernel
theorem dX7_heaviestJoining_59 : decode cX7_heaviestJoining 59 = .ok (.ifCond .eq 26, 3) := by decide +kernel
theorem dX7_heaviestJoining_62 : decode cX7_heaviestJoining 62 = .ok (.iload_n 1, 1) := by decide +kernel
theorem dX7_heaviestJoining_63 : decode cX7_heaviestJoining 63 = .ok (.iconst (-1), 1) := by decide +kernel
theorem dX7_heaviestJoining_64 : decode cX7_heaviestJoining 64 = .ok (.if_icmp .eq 19, 3) := by decide +kernel
theorem dX7_heaviestJoining_67 : decode cX7_heaviestJoining 67 = .ok (.aload_n 0, 1) := by decide +kernel
theorem dX7_heaviestJoining_68 : decode cX7_heaviestJoining 68 = .ok (.getfield 64, 3) := by decide +kernel
theorem dX7_heaviestJoining_71 : decode cX7_heaviestJoining 71 = .ok (.iload_n 2, 1) := by decide +kernel
theorem dX7_heaviestJoining_72 : decode cX7_heaviestJoining 72 = .ok (.laload, 1) := by decide +kernel
theorem dX7_heaviestJoining_73 : decode cX7_heaviestJoining 73 = .ok (.aload_n 0, 1) := by decide +kernel
theorem dX7_heaviestJoining_74 : decode cX7_heaviestJoining 74 = .ok (.getfield 64, 3) := by decide +kernel
theorem dX7_heaviestJoining_77 : decode cX7_heaviestJoining 77 = .ok (.iload_n 1, 1) := by decide +kernel
theorem dX7_heaviestJoining_78 : decode cX7_heaviestJoining 78 = .ok (.laload, 1) := by decide +kernel
theorem dX7_heaviestJoining_79 : decode cX7_heaviestJoining 79 = .ok (.lcmp, 1) := by decide +kernel
theorem dX7_heaviestJoining_80 : decode cX7_heaviestJoining 80 = .ok (.ifCond .le 5, 3) := by decide +kernel
theorem dX7_heaviestJoining_83 : decode cX7_heaviestJoining 83 = .ok (.iload_n 2, 1) := by decide +kernel
theorem dX7_heaviestJoining_84 : decode cX7_heaviestJoining 84 = .ok (.istore_n 1, 1) := by decide +kernel
theorem dX7_heaviestJoining_85 : decode cX7_heaviestJoining 85 = .ok (.iinc 2 1, 3) := by decide +kernel
theorem dX7_heaviestJoining_88 : decode cX7_heaviestJoining 88 = .ok (.goto (-84), 3) := by decide +kernel
theorem dX7_heaviestJoining_91 : decode cX7_heaviestJoining 91 = .ok (.iload_n 1, 1) := by decide +kernel
theorem dX7_heaviestJoining_92 : decode cX7_heaviestJoining 92 = .ok (.ireturn, 1) := by decide +kernel
def e_X7_heaviestJoining_J57 (σ : ES) (k4 : Int32 → Int32 → Option Int32) (x1 : Int32) (x2 : Int32) (s0 : Int32) : Option Int32 := if s0 = 0 then (k4 x1 (x2 + 1)) else (if x1 = (-1 : Int32) then (k4 x2 (x2 + 1)) else (if mib x2 14 = true then (if mib x1 14 = true then (if (eL σ 42 x2.toNatClampNeg) ≤ (eL σ 42 x1.toNatClampNeg) then (k4 x1 (x2 + 1)) else (k4 x2 (x2 + 1))) else none) else none))
set_option maxRecDepth 100000 in
set_option maxHeartbeats 4000000 in
theorem p_X7_heaviestJoining_J57 {l : Launch} {E : MX} {out : Int32} {σ : ES} {k4 : Int32 → Int32 → Option Int32} (hk4 : ∀ (z0 : Int32) (z1 : Int32), k4 z0 z1 = some out → MV l E cX7_heaviestJoining RX7 4 (some .int) 2 (82, (some (.int out)), mkS σ) (mkS σ) 4 [(0, .ref 39), (1, .int z0), (2, .int z1)] []) {x1 : Int32} {x2 : Int32} {s0 : Int32} (h : e_X7_heaviestJoining_J57 σ k4 x1 x2 s0 = some out) : MV l E cX7_heaviestJoining RX7 4 (some .int) 2 (82, (some (.int out)), mkS σ) (mkS σ) 57 [(0, .ref 39), (1, .int x1), (2, .int x2)] [.int s0] := by
  unfold e_X7_heaviestJoining_J57 at h
  refine mw_istore_n (L' := [(3, .int s0), (0, .ref 39), (1, .int x1), (2, .int x2)]) dX7_heaviestJoining_57 rfl (by decide) rfl ?_
  refine mw_iload_n dX7_heaviestJoining_58 0 rfl ?_
  refine mw_if_eq (tgt := 85) dX7_heaviestJoining_59 (by decide) (fun hc => ?_) (fun hc => ?_)
  · have h := mit hc h
    refine mw_iinc (v := (x2 + 1)) (L' := [(2, .int (x2 + 1)), (3, .int s0), (0, .ref 39), (1, .int x1)]) dX7_heaviestJoining_85 3 rfl rfl (by decide) rfl ?_
    refine mw_goto (tgt := 4) dX7_heaviestJoining_88 (by decide) ?_
    exact mw_sub (L' := [(0, .ref 39), (1, .int x1), (2, .int (x2 + 1))]) [2, 3, 0] rfl (hk4 _ _ h)
  · have h := mie hc h
    refine mw_iload_n dX7_heaviestJoining_62 2 rfl ?_
    refine mw_iconst (v := -1) dX7_heaviestJoining_63 (by decide) ?_
    refine mw_icmp_eq (tgt := 83) dX7_heaviestJoining_64 (by decide) (fun hc => ?_) (fun hc => ?_)
    · have h := mit hc h
      refine mw_iload_n dX7_heaviestJoining_83 3 rfl ?_
      refine mw_istore_n (L' := [(1, .int x2), (3, .int s0), (0, .ref 39), (2, .int x2)]) dX7_heaviestJoining_84 rfl (by decide) rfl ?_
      refine mw_iinc (v := (x2 + 1)) (L' := [(2, .int (x2 + 1)), (1, .int x2), (3, .int s0), (0, .ref 39)]) dX7_heaviestJoining_85 3 rfl rfl (by decide) rfl ?_
      refine mw_goto (tgt := 4) dX7_heaviestJoining_88 (by decide) ?_
      exact mw_sub (L' := [(0, .ref 39), (1, .int x2), (2, .int (x2 + 1))]) [3, 1, 0] rfl (hk4 _ _ h)
    · have h := mie hc h
      refine mw_aload_n dX7_heaviestJoining_67 1 rfl ?_
      refine ev_getR (q := 42) fd_RX7_64_6 dX7_heaviestJoining_68 rfl rfl rfl ?_
      refine mw_iload_n dX7_heaviestJoining_71 3 rfl ?_
      obtain ⟨m1, h⟩ := mif h
      refine ev_lald dX7_heaviestJoining_72 (by decide) rfl m1 ?_
      refine mw_aload_n dX7_heaviestJoining_73 1 rfl ?_
      refine ev_getR (q := 42) fd_RX7_64_6 dX7_heaviestJoining_74 rfl rfl rfl ?_
      refine mw_iload_n dX7_heaviestJoining_77 2 rfl ?_
      obtain ⟨m2, h⟩ := mif h
      refine ev_lald dX7_heaviestJoining_78 (by decide) rfl m2 ?_
      refine mw_lc_le (tgt := 85) dX7_heaviestJoining_79 dX7_heaviestJoining_80 (by decide) (fun hc => ?_) (fun hc => ?_)
      · have h := mit hc h
        refine mw_iinc (v := (x2 + 1)) (L' := [(2, .int (x2 + 1)), (3, .int s0), (0, .ref 39), (1, .int x1)]) dX7_heaviestJoining_85 3 rfl rfl (by decide) rfl ?_
        refine mw_goto (tgt := 4) dX7_heaviestJoining_88 (by decide) ?_
        exact mw_sub (L' := [(0, .ref 39), (1, .int x1), (2, .int (x2 + 1))]) [2, 3, 0] rfl (hk4 _ _ h)
      · have h := mie hc h
        refine mw_iload_n dX7_heaviestJoining_83 3 rfl ?_
        refine mw_istore_n (L' := [(1, .int x2), (3, .int s0), (0, .ref 39), (2, .int x2)]) dX7_heaviestJoining_84 rfl (by decide) rfl ?_
        refine mw_iinc (v := (x2 + 1)) (L' := [(2, .int (x2 + 1)), (1, .int x2), (3, .int s0), (0, .ref 39)]) dX7_heaviestJoining_85 3 rfl rfl (by decide) rfl ?_
        refine mw_goto (tgt := 4) dX7_heaviestJoining_88 (by decide) ?_
        exact mw_sub (L' := [(0, .ref 39), (1, .int x2), (2, .int (x2 + 1))]) [3, 1, 0] rfl (hk4 _ _ h)
def e_X7_heaviestJoining_J56 (σ : ES) (k4 : Int32 → Int32 → Option Int32) (x1 : Int32) (x2 : Int32) : Option Int32 := e_X7_heaviestJoining_J57 σ k4 x1 x2 (0 : Int32)
set_option maxRecDepth 100000 in
set_option maxHeartbeats 4000000 in
theorem p_X7_heaviestJoining_J56 {l : Launch} {E : MX} {out : Int32} {σ : ES} {k4 : Int32 → Int32 → Option Int32} (hk4 : ∀ (z0 : Int32) (z1 : Int32), k4 z0 z1 = some out → MV l E cX7_heaviestJoining RX7 4 (some .int) 2 (82, (some (.int out)), mkS σ) (mkS σ) 4 [(0, .ref 39), (1, .int z0), (2, .int z1)] []) {x1 : Int32} {x2 : Int32} (h : e_X7_heaviestJoining_J56 σ k4 x1 x2 = some out) : MV l E cX7_heaviestJoining RX7 4 (some .int) 2 (82, (some (.int out)), mkS σ) (mkS σ) 56 [(0, .ref 39), (1, .int x1), (2, .int x2)] [] := by
  unfold e_X7_heaviestJoining_J56 at h
  refine mw_iconst (v := 0) dX7_heaviestJoining_56 (by decide) ?_
  exact mw_sub (L' := [(0, .ref 39), (1, .int x1), (2, .int x2)]) [0, 1, 2] rfl (p_X7_heaviestJoining_J57 hk4 h)
def e_X7_heaviestJoining_L4 (σ : ES) : Nat → Int32 → Int32 → Option Int32
  | 0, _, _ => none
  | n + 1, x1, x2 => if (eI σ 39 4) ≤ x2 then (some x1) else (if eT σ 0 = some 1 then (if mib x2 14 = true then (if (eI σ 7 x2.toNatClampNeg) = 0 then ((e_X2_apart_43 σ (eI σ 3 x2.toNatClampNeg) (eI σ 4 x2.toNatClampNeg)).bind (fun r3 => if r3 = 0 then (e_X7_heaviestJoining_J56 σ (e_X7_heaviestJoining_L4 σ n) x1 x2) else (e_X7_heaviestJoining_J57 σ (e_X7_heaviestJoining_L4 σ n) x1 x2 (1 : Int32)))) else (e_X7_heaviestJoining_J56 σ (e_X7_heaviestJoining_L4 σ n) x1 x2)) else none) else none)
set_option maxRecDepth 100000 in
set_option maxHeartbeats 4000000 in
theorem p_X7_heaviestJoining_L4 {l : Launch} {E : MX} {out : Int32} {σ : ES}  : ∀ (n : Nat) (x1 : Int32) (x2 : Int32), e_X7_heaviestJoining_L4 σ n x1 x2 = some out → MV l E cX7_heaviestJoining RX7 4 (some .int) 2 (82, (some (.int out)), mkS σ) (mkS σ) 4 [(0, .ref 39), (1, .int x1), (2, .int x2)] [] := by
  intro n
  induction n with
  | zero =>
    intro x1 x2 h
    exact nomatch h
  | succ n ih =>
    intro x1 x2 h
    rw [e_X7_heaviestJoining_L4] at h
    refine mw_iload_n dX7_heaviestJoining_4 2 rfl ?_
    refine mw_aload_n dX7_heaviestJoining_5 0 rfl ?_
    refine ev_getI fd_RX7_54_6 dX7_heaviestJoining_6 rfl rfl ?_
    refine mw_icmp_ge (tgt := 91) dX7_heaviestJoining_9 (by decide) (fun hc => ?_) (fun hc => ?_)
    · have h := mit hc h
      refine mw_iload_n dX7_heaviestJoining_91 1 rfl ?_
      exact mw_iret dX7_heaviestJoining_92 rfl (ers_i h) rfl rfl
    · have h := mie hc h
      refine mw_aload_n dX7_heaviestJoining_12 0 rfl ?_
      obtain ⟨m1, h⟩ := mif h
      refine ev_getR fd_RX7_18_6 dX7_heaviestJoining_13 rfl rfl m1 ?_
      refine ev_getR (q := 7) fd_RX7_57_0 dX7_heaviestJoining_16 rfl rfl rfl ?_
      refine mw_iload_n dX7_heaviestJoining_19 2 rfl ?_
      obtain ⟨m2, h⟩ := mif h
      refine ev_iald dX7_heaviestJoining_20 (by decide) rfl m2 ?_
      refine mw_if_ne (tgt := 56) dX7_heaviestJoining_21 (by decide) (fun hc => ?_) (fun hc => ?_)
      · have h := mie hc h
        exact mw_sub (L' := [(0, .ref 39), (1, .int x1), (2, .int x2)]) [0, 1, 2] rfl (p_X7_heaviestJoining_J56 ih h)
      · have h := mit hc h
        refine mw_aload_n dX7_heaviestJoining_24 0 rfl ?_
        refine ev_getR (q := 43) fd_RX7_12_6 dX7_heaviestJoining_25 rfl rfl rfl ?_
        refine mw_aload_n dX7_heaviestJoining_28 0 rfl ?_
        refine ev_getR fd_RX7_18_6 dX7_heaviestJoining_29 rfl rfl m1 ?_
        refine ev_getR (q := 3) fd_RX7_43_0 dX7_heaviestJoining_32 rfl rfl rfl ?_
        refine mw_iload_n dX7_heaviestJoining_35 2 rfl ?_
        refine ev_iald dX7_heaviestJoining_36 (by decide) rfl m2 ?_
        refine mw_aload_n dX7_heaviestJoining_37 0 rfl ?_
        refine ev_getR fd_RX7_18_6 dX7_heaviestJoining_38 rfl rfl m1 ?_
        refine ev_getR (q := 4) fd_RX7_47_0 dX7_heaviestJoining_41 rfl rfl rfl ?_
        refine mw_iload_n dX7_heaviestJoining_44 2 rfl ?_
        refine ev_iald dX7_heaviestJoining_45 (by decide) rfl m2 ?_
        obtain ⟨r3, e4, h⟩ := mbd h
        refine mv_callV_i (As := [.int (eI σ 3 x2.toNatClampNeg), .int (eI σ 4 x2.toNatClampNeg)]) (ci := 1) lkV_RX7_60_yX2_apart dX7_heaviestJoining_46 (k_X2_apart_43 e4) rfl rfl rfl rfl (Nat.le_of_ble_eq_true rfl) (by decide) (by decide) ?_
        refine mw_if_eq (tgt := 56) dX7_heaviestJoining_49 (by decide) (fun hc => ?_) (fun hc => ?_)
        · have h := mit hc h
          exact mw_sub (L' := [(0, .ref 39), (1, .int x1), (2, .int x2)]) [0, 1, 2] rfl (p_X7_heaviestJoining_J56 ih h)
        · have h := mie hc h
          refine mw_iconst (v := 1) dX7_heaviestJoining_52 (by decide) ?_
          refine mw_goto (tgt := 57) dX7_heaviestJoining_53 (by decide) ?_
          exact mw_sub (L' := [(0, .ref 39), (1, .int x1), (2, .int x2)]) [0, 1, 2] rfl (p_X7_heaviestJoining_J57 ih h)
def e_X7_heaviestJoining (σ : ES) : Option Int32 := e_X7_heaviestJoining_L4 σ mN (-1 : Int32) (0 : Int32)
set_option maxRecDepth 100000 in
set_option maxHeartbeats 4000000 in
theorem k_X7_heaviestJoining {l : Launch} {σ : ES}  {out : Int32} (h : e_X7_heaviestJoining σ = some out) : MK l yX7_heaviestJoining cX7_heaviestJoining 4 (some .int) 2 [.ref 39] (mkS σ) (some (.int out)) (mkS σ) := by
  unfold e_X7_heaviestJoining at h
  refine mw_entry (own := RX7) (ini := false) (L := [(0, .ref 39)]) (by decide +kernel) rfl (fun h => nomatch h) rfl (Nat.le_of_ble_eq_true rfl) (Nat.le_of_ble_eq_true rfl) (fun E => ?_)
  refine mw_iconst (v := -1) dX7_heaviestJoining_0 (by decide) ?_
  refine mw_istore_n (L' := [(1, .int (-1 : Int32)), (0, .ref 39)]) dX7_heaviestJoining_1 rfl (by decide) rfl ?_
  refine mw_iconst (v := 0) dX7_heaviestJoining_2 (by decide) ?_
  refine mw_istore_n (L' := [(2, .int (0 : Int32)), (1, .int (-1 : Int32)), (0, .ref 39)]) dX7_heaviestJoining_3 rfl (by decide) rfl ?_
  exact mw_sub (L' := [(0, .ref 39), (1, .int (-1 : Int32)), (2, .int (0 : Int32))]) [2, 1, 0] rfl (p_X7_heaviestJoining_L4  mN _ _ h)

theorem dX2_join_0 : decode cX2_join 0 = .ok (.aload_n 0, 1) := by decide +kernel
theorem dX2_join_1 : decode cX2_join 1 = .ok (.getfield 9, 3) := by decide +kernel
theorem dX2_join_4 : decode cX2_join 4 = .ok (.iload_n 1, 1) := by decide +kernel
theorem dX2_join_5 : decode cX2_join 5 = .ok (.iaload, 1) := by decide +kernel
theorem dX2_join_6 : decode cX2_join 6 = .ok (.istore_n 3, 1) := by decide +kernel
theorem dX2_join_7 : decode cX2_join 7 = .ok (.aload_n 0, 1) := by decide +kernel
theorem dX2_join_8 : decode cX2_join 8 = .ok (.getfield 9, 3) := by decide +kernel
theorem dX2_join_11 : decode cX2_join 11 = .ok (.iload_n 2, 1) := by decide +kernel
theorem dX2_join_12 : decode cX2_join 12 = .ok (.iaload, 1) := by decide +kernel
theorem dX2_join_13 : decode cX2_join 13 = .ok (.istore 4, 2) := by decide +kernel
theorem dX2_join_15 : decode cX2_join 15 = .ok (.iconst 0, 1) := by decide +kernel
theorem dX2_join_16 : decode cX2_join 16 = .ok (.istore 5, 2) := by decide +kernel
theorem dX2_join_18 : decode cX2_join 18 = .ok (.iload 5, 2) := by decide +kernel
theorem dX2_join_20 : decode cX2_join 20 = .ok (.bipush 6, 2) := by decide +kernel
theorem dX2_join_22 : decode cX2_join 22 = .ok (.if_icmp .ge 29, 3) := by decide +kernel
theorem dX2_join_25 : decode cX2_join 25 = .ok (.aload_n 0, 1) := by decide +kernel
theorem dX2_join_26 : decode cX2_join 26 = .ok (.getfield 9, 3) := by decide +kernel
theorem dX2_join_29 : decode cX2_join 29 = .ok (.iload 5, 2) := by decide +kernel
theorem dX2_join_31 : decode cX2_join 31 = .ok (.iaload, 1) := by decide +kernel
theorem dX2_join_32 : decode cX2_join 32 = .ok (.iload_n 3, 1) := by decide +kernel
theorem dX2_join_33 : decode cX2_join 33 = .ok (.if_icmp .ne 12, 3) := by decide +kernel
theorem dX2_join_36 : decode cX2_join 36 = .ok (.aload_n 0, 1) := by decide +kernel
theorem dX2_join_37 : decode cX2_join 37 = .ok (.getfield 9, 3) := by decide +kernel
theorem dX2_join_40 : decode cX2_join 40 = .ok (.iload 5, 2) := by decide +kernel
theorem dX2_join_42 : decode cX2_join 42 = .ok (.iload 4, 2) := by decide +kernel
theorem dX2_join_44 : decode cX2_join 44 = .ok (.iastore, 1) := by decide +kernel
theorem dX2_join_45 : decode cX2_join 45 = .ok (.iinc 5 1, 3) := by decide +kernel
theorem dX2_join_48 : decode cX2_join 48 = .ok (.goto (-30), 3) := by decide +kernel
theorem dX2_join_51 : decode cX2_join 51 = .ok (.return_, 1) := by decide +kernel
def e_X2_join_43_L18 (a1 : Int32) (a2 : Int32) : Nat → Int32 → Int32 → Int32 → ES → Option ES
  | 0, _, _, _, _ => none
  | n + 1, x3, x4, x5, σ => if (6 : Int32) ≤ x5 then (some σ) else (if mib x5 6 = true then (if (eI σ 44 x5.toNatClampNeg) = x3 then (e_X2_join_43_L18 a1 a2 n x3 x4 (x5 + 1) (uI σ 44 x5.toNatClampNeg x4)) else (e_X2_join_43_L18 a1 a2 n x3 x4 (x5 + 1) σ)) else none)
set_option maxRecDepth 100000 in
set_option maxHeartbeats 4000000 in
theorem p_X2_join_43_L18 {l : Launch} {E : MX} {out : ES} {a1 : Int32} {a2 : Int32}  : ∀ (n : Nat) (x3 : Int32) (x4 : Int32) (x5 : Int32) (σ : ES), e_X2_join_43_L18 a1 a2 n x3 x4 x5 σ = some out → MV l E cX2_join RX2 6 none 1 (82, none, mkS out) (mkS σ) 18 [(0, .ref 43), (1, .int a1), (2, .int a2), (3, .int x3), (4, .int x4), (5, .int x5)] [] := by
  intro n
  induction n with
  | zero =>
    intro x3 x4 x5 σ h
    exact nomatch h
  | succ n ih =>
    intro x3 x4 x5 σ h
    rw [e_X2_join_43_L18] at h
    refine mw_iload dX2_join_18 5 rfl ?_
    refine mw_bipush (v := 6) dX2_join_20 (by decide) ?_
    refine mw_icmp_ge (tgt := 51) dX2_join_22 (by decide) (fun hc => ?_) (fun hc => ?_)
    · have h := mit hc h
      exact mw_vret dX2_join_51 rfl (ers_vm h) rfl rfl
    · have h := mie hc h
      refine mw_aload_n dX2_join_25 0 rfl ?_
      refine ev_getR (q := 44) fd_RX2_9_1 dX2_join_26 rfl rfl rfl ?_
      refine mw_iload dX2_join_29 5 rfl ?_
      obtain ⟨m1, h⟩ := mif h
      refine ev_iald dX2_join_31 (by decide) rfl m1 ?_
      refine mw_iload_n dX2_join_32 3 rfl ?_
      refine mw_icmp_ne (tgt := 45) dX2_join_33 (by decide) (fun hc => ?_) (fun hc => ?_)
      · have h := mie hc h
        refine mw_iinc (v := (x5 + 1)) (L' := [(5, .int (x5 + 1)), (0, .ref 43), (1, .int a1), (2, .int a2), (3, .int x3), (4, .int x4)]) dX2_join_45 5 rfl rfl (by decide) rfl ?_
        refine mw_goto (tgt := 18) dX2_join_48 (by decide) ?_
        exact mw_sub (L' := [(0, .ref 43), (1, .int a1), (2, .int a2), (3, .int x3), (4, .int x4), (5, .int (x5 + 1))]) [1, 2, 3, 4, 5, 0] rfl (ih _ _ _ _ h)
      · have h := mit hc h
        refine mw_aload_n dX2_join_36 0 rfl ?_
        refine ev_getR (q := 44) fd_RX2_9_1 dX2_join_37 rfl rfl rfl ?_
        refine mw_iload dX2_join_40 5 rfl ?_
        refine mw_iload dX2_join_42 4 rfl ?_
        refine ev_iast dX2_join_44 (by decide) rfl m1 ?_
        refine mw_iinc (v := (x5 + 1)) (L' := [(5, .int (x5 + 1)), (0, .ref 43), (1, .int a1), (2, .int a2), (3, .int x3), (4, .int x4)]) dX2_join_45 5 rfl rfl (by decide) rfl ?_
        refine mw_goto (tgt := 18) dX2_join_48 (by decide) ?_
        exact mw_sub (L' := [(0, .ref 43), (1, .int a1), (2, .int a2), (3, .int x3), (4, .int x4), (5, .int (x5 + 1))]) [1, 2, 3, 4, 5, 0] rfl (ih _ _ _ _ h)
def e_X2_join_43 (a1 : Int32) (a2 : Int32) (σ : ES) : Option ES := if mib a1 6 = true then (if mib a2 6 = true then (e_X2_join_43_L18 a1 a2 mN (eI σ 44 a1.toNatClampNeg) (eI σ 44 a2.toNatClampNeg) (0 : Int32) σ) else none) else none
set_option maxRecDepth 100000 in
set_option maxHeartbeats 4000000 in
theorem k_X2_join_43 {l : Launch} {σ : ES} {a1 : Int32} {a2 : Int32} {out : ES} (h : e_X2_join_43 a1 a2 σ = some out) : MK l yX2_join cX2_join 6 none 1 [.ref 43, .int a1, .int a2] (mkS σ) none (mkS out) := by
  unfold e_X2_join_43 at h
  refine mw_entry (own := RX2) (ini := false) (L := [(0, .ref 43), (1, .int a1), (2, .int a2)]) (by decide +kernel) rfl (fun h => nomatch h) rfl (Nat.le_of_ble_eq_true rfl) (Nat.le_of_ble_eq_true rfl) (fun E => ?_)
  refine mw_aload_n dX2_join_0 0 rfl ?_
  refine ev_getR (q := 44) fd_RX2_9_1 dX2_join_1 rfl rfl rfl ?_
  refine mw_iload_n dX2_join_4 1 rfl ?_
  obtain ⟨m1, h⟩ := mif h
  refine ev_iald dX2_join_5 (by decide) rfl m1 ?_
  refine mw_istore_n (L' := [(3, .int (eI σ 44 a1.toNatClampNeg)), (0, .ref 43), (1, .int a1), (2, .int a2)]) dX2_join_6 rfl (by decide) rfl ?_
  refine mw_aload_n dX2_join_7 1 rfl ?_
  refine ev_getR (q := 44) fd_RX2_9_1 dX2_join_8 rfl rfl rfl ?_
  refine mw_iload_n dX2_join_11 3 rfl ?_
  obtain ⟨m2, h⟩ := mif h
  refine ev_iald dX2_join_12 (by decide) rfl m2 ?_
  refine mw_istore (L' := [(4, .int (eI σ 44 a2.toNatClampNeg)), (3, .int (eI σ 44 a1.toNatClampNeg)), (0, .ref 43), (1, .int a1), (2, .int a2)]) dX2_join_13 (by decide) rfl ?_
  refine mw_iconst (v := 0) dX2_join_15 (by decide) ?_
  refine mw_istore (L' := [(5, .int (0 : Int32)), (4, .int (eI σ 44 a2.toNatClampNeg)), (3, .int (eI σ 44 a1.toNatClampNeg)), (0, .ref 43), (1, .int a1), (2, .int a2)]) dX2_join_16 (by decide) rfl ?_
  exact mw_sub (L' := [(0, .ref 43), (1, .int a1), (2, .int a2), (3, .int (eI σ 44 a1.toNatClampNeg)), (4, .int (eI σ 44 a2.toNatClampNeg)), (5, .int (0 : Int32))]) [3, 4, 5, 2, 1, 0] rfl (p_X2_join_43_L18  mN _ _ _ _ h)

theorem dX2_part_0 : decode cX2_part 0 = .ok (.iconst 0, 1) := by decide +kernel
theorem dX2_part_1 : decode cX2_part 1 = .ok (.istore_n 1, 1) := by decide +kernel
theorem dX2_part_2 : decode cX2_part 2 = .ok (.iload_n 1, 1) := by decide +kernel
theorem dX2_part_3 : decode cX2_part 3 = .ok (.bipush 6, 2) := by decide +kernel
theorem dX2_part_5 : decode cX2_part 5 = .ok (.if_icmp .ge 16, 3) := by decide +kernel
theorem dX2_part_8 : decode cX2_part 8 = .ok (.aload_n 0, 1) := by decide +kernel
theorem dX2_part_9 : decode cX2_part 9 = .ok (.getfield 9, 3) := by decide +kernel
theorem dX2_part_12 : decode cX2_part 12 = .ok (.iload_n 1, 1) := by decide +kernel
theorem dX2_part_13 : decode cX2_part 13 = .ok (.iload_n 1, 1) := by decide +kernel
theorem dX2_part_14 : decode cX2_part 14 = .ok (.iastore, 1) := by decide +kernel
theorem dX2_part_15 : decode cX2_part 15 = .ok (.iinc 1 1, 3) := by decide +kernel
theorem dX2_part_18 : decode cX2_part 18 = .ok (.goto (-16), 3) := by decide +kernel
theorem dX2_part_21 : decode cX2_part 21 = .ok (.return_, 1) := by decide +kernel
def e_X2_part_43_L2  : Nat → Int32 → ES → Option ES
  | 0, _, _ => none
  | n + 1, x1, σ => if (6 : Int32) ≤ x1 then (some σ) else (if mib x1 6 = true then (e_X2_part_43_L2 n (x1 + 1) (uI σ 44 x1.toNatClampNeg x1)) else none)
set_option maxRecDepth 100000 in
set_option maxHeartbeats 4000000 in
theorem p_X2_part_43_L2 {l : Launch} {E : MX} {out : ES}   : ∀ (n : Nat) (x1 : Int32) (σ : ES), e_X2_part_43_L2 n x1 σ = some out → MV l E cX2_part RX2 2 none 1 (82, none, mkS out) (mkS σ) 2 [(0, .ref 43), (1, .int x1)] [] := by
  intro n
  induction n with
  | zero =>
    intro x1 σ h
    exact nomatch h
  | succ n ih =>
    intro x1 σ h
    rw [e_X2_part_43_L2] at h
    refine mw_iload_n dX2_part_2 1 rfl ?_
    refine mw_bipush (v := 6) dX2_part_3 (by decide) ?_
    refine mw_icmp_ge (tgt := 21) dX2_part_5 (by decide) (fun hc => ?_) (fun hc => ?_)
    · have h := mit hc h
      exact mw_vret dX2_part_21 rfl (ers_vm h) rfl rfl
    · have h := mie hc h
      refine mw_aload_n dX2_part_8 0 rfl ?_
      refine ev_getR (q := 44) fd_RX2_9_1 dX2_part_9 rfl rfl rfl ?_
      refine mw_iload_n dX2_part_12 1 rfl ?_
      refine mw_iload_n dX2_part_13 1 rfl ?_
      obtain ⟨m1, h⟩ := mif h
      refine ev_iast dX2_part_14 (by decide) rfl m1 ?_
      refine mw_iinc (v := (x1 + 1)) (L' := [(1, .int (x1 + 1)), (0, .ref 43)]) dX2_part_15 1 rfl rfl (by decide) rfl ?_
      refine mw_goto (tgt := 2) dX2_part_18 (by decide) ?_
      exact mw_sub (L' := [(0, .ref 43), (1, .int (x1 + 1))]) [1, 0] rfl (ih _ _ h)
def e_X2_part_43 (σ : ES) : Option ES := e_X2_part_43_L2 mN (0 : Int32) σ
set_option maxRecDepth 100000 in
set_option maxHeartbeats 4000000 in
theorem k_X2_part_43 {l : Launch} {σ : ES}  {out : ES} (h : e_X2_part_43 σ = some out) : MK l yX2_part cX2_part 2 none 1 [.ref 43] (mkS σ) none (mkS out) := by
  unfold e_X2_part_43 at h
  refine mw_entry (own := RX2) (ini := false) (L := [(0, .ref 43)]) (by decide +kernel) rfl (fun h => nomatch h) rfl (Nat.le_of_ble_eq_true rfl) (Nat.le_of_ble_eq_true rfl) (fun E => ?_)
  refine mw_iconst (v := 0) dX2_part_0 (by decide) ?_
  refine mw_istore_n (L' := [(1, .int (0 : Int32)), (0, .ref 43)]) dX2_part_1 rfl (by decide) rfl ?_
  exact mw_sub (L' := [(0, .ref 43), (1, .int (0 : Int32))]) [1, 0] rfl (p_X2_part_43_L2  mN _ _ h)

theorem dX7_pick_0 : decode cX7_pick 0 = .ok (.iconst 0, 1) := by decide +kernel
theorem dX7_pick_1 : decode cX7_pick 1 = .ok (.istore_n 1, 1) := by decide +kernel
theorem dX7_pick_2 : decode cX7_pick 2 = .ok (.aload_n 0, 1) := by decide +kernel
theorem dX7_pick_3 : decode cX7_pick 3 = .ok (.getfield 12, 3) := by decide +kernel
theorem dX7_pick_6 : decode cX7_pick 6 = .ok (.invokevirtual 30, 3) := by decide +kernel
theorem dX7_pick_9 : decode cX7_pick 9 = .ok (.iconst 1, 1) := by decide +kernel
theorem dX7_pick_10 : decode cX7_pick 10 = .ok (.istore_n 2, 1) := by decide +kernel
theorem dX7_pick_11 : decode cX7_pick 11 = .ok (.iload_n 2, 1) := by decide +kernel
theorem dX7_pick_12 : decode cX7_pick 12 = .ok (.aload_n 0, 1) := by decide +kernel
theorem dX7_pick_13 : decode cX7_pick 13 = .ok (.getfield 18, 3) := by decide +kernel
theorem dX7_pick_16 : decode cX7_pick 16 = .ok (.getfield 33, 3) := by decide +kernel
theorem dX7_pick_19 : decode cX7_pick 19 = .ok (.if_icmp .ge 52, 3) := by decide +kernel
theorem dX7_pick_22 : decode cX7_pick 22 = .ok (.aload_n 0, 1) := by decide +kernel
theorem dX7_pick_23 : decode cX7_pick 23 = .ok (.invokevirtual 39, 3) := by decide +kernel
theorem dX7_pick_26 : decode cX7_pick 26 = .ok (.istore_n 3, 1) := by decide +kernel
theorem dX7_pick_27 : decode cX7_pick 27 = .ok (.iload_n 3, 1) := by decide +kernel
theorem dX7_pick_28 : decode cX7_pick 28 = .ok (.iconst (-1), 1) := by decide +kernel
theorem dX7_pick_29 : decode cX7_pick 29 = .ok (.if_icmp .ne 5, 3) := by decide +kernel
theorem dX7_pick_32 : decode cX7_pick 32 = .ok (.iconst 0, 1) := by decide +kernel
theorem dX7_pick_33 : decode cX7_pick 33 = .ok (.ireturn, 1) := by decide +kernel
theorem dX7_pick_34 : decode cX7_pick 34 = .ok (.aload_n 0, 1) := by decide +kernel
theorem dX7_pick_35 : decode cX7_pick 35 = .ok (.getfield 12, 3) := by decide +kernel
theorem dX7_pick_38 : decode cX7_pick 38 = .ok (.aload_n 0, 1) := by decide +kernel
theorem dX7_pick_39 : decode cX7_pick 39 = .ok (.getfield 18, 3) := by decide +kernel
theorem dX7_pick_42 : decode cX7_pick 42 = .ok (.getfield 43, 3) := by decide +kernel
theorem dX7_pick_45 : decode cX7_pick 45 = .ok (.iload_n 3, 1) := by decide +kernel
theorem dX7_pick_46 : decode cX7_pick 46 = .ok (.iaload, 1) := by decide +kernel
theorem dX7_pick_47 : decode cX7_pick 47 = .ok (.aload_n 0, 1) := by decide +kernel
theorem dX7_pick_48 : decode cX7_pick 48 = .ok (.getfield 18, 3) := by decide +kernel
theorem dX7_pick_51 : decode cX7_pick 51 = .ok (.getfield 47, 3) := by decide +kernel
theorem dX7_pick_54 : decode cX7_pick 54 = .ok (.iload_n 3, 1) := by decide +kernel
theorem dX7_pick_55 : decode cX7_pick 55 = .ok (.iaload, 1) := by decide +kernel
theorem dX7_pick_56 : decode cX7_pick 56 = .ok (.invokevirtual 50, 3) := by decide +kernel
theorem dX7_pick_59 : decode cX7_pick 59 = .ok (.iload_n 1, 1) := by decide +kernel
theorem dX7_pick_60 : decode cX7_pick 60 = .ok (.iconst 1, 1) := by decide +kernel
theorem dX7_pick_61 : decode cX7_pick 61 = .ok (.iload_n 3, 1) := by decide +kernel
theorem dX7_pick_62 : decode cX7_pick 62 = .ok (.ishl, 1) := by decide +kernel
theorem dX7_pick_63 : decode cX7_pick 63 = .ok (.ior, 1) := by decide +kernel
theorem dX7_pick_64 : decode cX7_pick 64 = .ok (.istore_n 1, 1) := by decide +kernel
theorem dX7_pick_65 : decode cX7_pick 65 = .ok (.iinc 2 1, 3) := by decide +kernel
theorem dX7_pick_68 : decode cX7_pick 68 = .ok (.goto (-57), 3) := by decide +kernel
theorem dX7_pick_71 : decode cX7_pick 71 = .ok (.iload_n 1, 1) := by decide +kernel
theorem dX7_pick_72 : decode cX7_pick 72 = .ok (.ireturn, 1) := by decide +kernel
def e_X7_pick_L11  : Nat → Int32 → Int32 → ES → Option (Int32 × ES)
  | 0, _, _, _ => none
  | n + 1, x1, x2, σ => if eT σ 0 = some 1 then (if (eI σ 1 0) ≤ x2 then (some (x1, σ)) else ((e_X7_heaviestJoining σ).bind (fun r2 => if r2 = (-1 : Int32) then (some ((0 : Int32), σ)) else (if mib r2 14 = true then ((e_X2_join_43 (eI σ 3 r2.toNatClampNeg) (eI σ 4 r2.toNatClampNeg) σ).bind (fun r5 => e_X7_pick_L11 n (x1 ||| ((1 : Int32) <<< (r2 &&& 31))) (x2 + 1) r5)) else none)))) else none
set_option maxRecDepth 100000 in
set_option maxHeartbeats 4000000 in
theorem p_X7_pick_L11 {l : Launch} {E : MX} {out : (Int32 × ES)}   : ∀ (n : Nat) (x1 : Int32) (x2 : Int32) (σ : ES), e_X7_pick_L11 n x1 x2 σ = some out → MV l E cX7_pick RX7 4 (some .int) 3 (82, (some (.int out.1)), mkS out.2) (mkS σ) 11 [(0, .ref 39), (1, .int x1), (2, .int x2)] [] := by
  intro n
  induction n with
  | zero =>
    intro x1 x2 σ h
    exact nomatch h
  | succ n ih =>
    intro x1 x2 σ h
    rw [e_X7_pick_L11] at h
    refine mw_iload_n dX7_pick_11 2 rfl ?_
    refine mw_aload_n dX7_pick_12 0 rfl ?_
    obtain ⟨m1, h⟩ := mif h
    refine ev_getR fd_RX7_18_6 dX7_pick_13 rfl rfl m1 ?_
    refine ev_getI fd_RX7_33_0 dX7_pick_16 rfl rfl ?_
    refine mw_icmp_ge (tgt := 71) dX7_pick_19 (by decide) (fun hc => ?_) (fun hc => ?_)
    · have h := mit hc h
      refine mw_iload_n dX7_pick_71 1 rfl ?_
      exact mw_iret dX7_pick_72 rfl (ers_im h) rfl rfl
    · have h := mie hc h
      refine mw_aload_n dX7_pick_22 0 rfl ?_
      obtain ⟨r2, e3, h⟩ := mbd h
      refine mv_callV_i (As := []) (ci := 6) lkV_RX7_39_yX7_heaviestJoining dX7_pick_23 (k_X7_heaviestJoining e3) rfl rfl rfl rfl (Nat.le_of_ble_eq_true rfl) (by decide) (by decide) ?_
      refine mw_istore_n (L' := [(3, .int r2), (0, .ref 39), (1, .int x1), (2, .int x2)]) dX7_pick_26 rfl (by decide) rfl ?_
      refine mw_iload_n dX7_pick_27 0 rfl ?_
      refine mw_iconst (v := -1) dX7_pick_28 (by decide) ?_
      refine mw_icmp_ne (tgt := 34) dX7_pick_29 (by decide) (fun hc => ?_) (fun hc => ?_)
      · have h := mie hc h
        refine mw_aload_n dX7_pick_34 1 rfl ?_
        refine ev_getR (q := 43) fd_RX7_12_6 dX7_pick_35 rfl rfl rfl ?_
        refine mw_aload_n dX7_pick_38 1 rfl ?_
        refine ev_getR fd_RX7_18_6 dX7_pick_39 rfl rfl m1 ?_
        refine ev_getR (q := 3) fd_RX7_43_0 dX7_pick_42 rfl rfl rfl ?_
        refine mw_iload_n dX7_pick_45 0 rfl ?_
        obtain ⟨m4, h⟩ := mif h
        refine ev_iald dX7_pick_46 (by decide) rfl m4 ?_
        refine mw_aload_n dX7_pick_47 1 rfl ?_
        refine ev_getR fd_RX7_18_6 dX7_pick_48 rfl rfl m1 ?_
        refine ev_getR (q := 4) fd_RX7_47_0 dX7_pick_51 rfl rfl rfl ?_
        refine mw_iload_n dX7_pick_54 0 rfl ?_
        refine ev_iald dX7_pick_55 (by decide) rfl m4 ?_
        obtain ⟨r5, e6, h⟩ := mbd h
        refine mv_callV_v (As := [.int (eI σ 3 r2.toNatClampNeg), .int (eI σ 4 r2.toNatClampNeg)]) (ci := 1) lkV_RX7_50_yX2_join dX7_pick_56 (k_X2_join_43 e6) rfl rfl rfl rfl (Nat.le_of_ble_eq_true rfl) (by decide) (by decide) ?_
        refine mw_iload_n dX7_pick_59 2 rfl ?_
        refine mw_iconst (v := 1) dX7_pick_60 (by decide) ?_
        refine mw_iload_n dX7_pick_61 0 rfl ?_
        refine mw_ishl dX7_pick_62 ?_
        refine mw_ior dX7_pick_63 ?_
        refine mw_istore_n (L' := [(1, .int (x1 ||| ((1 : Int32) <<< (r2 &&& 31)))), (3, .int r2), (0, .ref 39), (2, .int x2)]) dX7_pick_64 rfl (by decide) rfl ?_
        refine mw_iinc (v := (x2 + 1)) (L' := [(2, .int (x2 + 1)), (1, .int (x1 ||| ((1 : Int32) <<< (r2 &&& 31)))), (3, .int r2), (0, .ref 39)]) dX7_pick_65 3 rfl rfl (by decide) rfl ?_
        refine mw_goto (tgt := 11) dX7_pick_68 (by decide) ?_
        exact mw_sub (L' := [(0, .ref 39), (1, .int (x1 ||| ((1 : Int32) <<< (r2 &&& 31)))), (2, .int (x2 + 1))]) [3, 1, 0] rfl (ih _ _ _ h)
      · have h := mit hc h
        refine mw_iconst (v := 0) dX7_pick_32 (by decide) ?_
        exact mw_iret dX7_pick_33 rfl (ers_im h) rfl rfl
def e_X7_pick (σ : ES) : Option (Int32 × ES) := (e_X2_part_43 σ).bind (fun r1 => e_X7_pick_L11 mN (0 : Int32) (1 : Int32) r1)
set_option maxRecDepth 100000 in
set_option maxHeartbeats 4000000 in
theorem k_X7_pick {l : Launch} {σ : ES}  {out : (Int32 × ES)} (h : e_X7_pick σ = some out) : MK l yX7_pick cX7_pick 4 (some .int) 3 [.ref 39] (mkS σ) (some (.int out.1)) (mkS out.2) := by
  unfold e_X7_pick at h
  refine mw_entry (own := RX7) (ini := false) (L := [(0, .ref 39)]) (by decide +kernel) rfl (fun h => nomatch h) rfl (Nat.le_of_ble_eq_true rfl) (Nat.le_of_ble_eq_true rfl) (fun E => ?_)
  refine mw_iconst (v := 0) dX7_pick_0 (by decide) ?_
  refine mw_istore_n (L' := [(1, .int (0 : Int32)), (0, .ref 39)]) dX7_pick_1 rfl (by decide) rfl ?_
  refine mw_aload_n dX7_pick_2 1 rfl ?_
  refine ev_getR (q := 43) fd_RX7_12_6 dX7_pick_3 rfl rfl rfl ?_
  obtain ⟨r1, e2, h⟩ := mbd h
  refine mv_callV_v (As := []) (ci := 1) lkV_RX7_30_yX2_part dX7_pick_6 (k_X2_part_43 e2) rfl rfl rfl rfl (Nat.le_of_ble_eq_true rfl) (by decide) (by decide) ?_
  refine mw_iconst (v := 1) dX7_pick_9 (by decide) ?_
  refine mw_istore_n (L' := [(2, .int (1 : Int32)), (1, .int (0 : Int32)), (0, .ref 39)]) dX7_pick_10 rfl (by decide) rfl ?_
  exact mw_sub (L' := [(0, .ref 39), (1, .int (0 : Int32)), (2, .int (1 : Int32))]) [2, 1, 0] rfl (p_X7_pick_L11  mN _ _ _ h)

theorem dX0_runs_0 : decode cX0_runs 0 = .ok (.aload_n 0, 1) := by decide +kernel
theorem dX0_runs_1 : decode cX0_runs 1 = .ok (.lconst 0, 1) := by decide +kernel
theorem dX0_runs_2 : decode cX0_runs 2 = .ok (.lconst 0, 1) := by decide +kernel
theorem dX0_runs_3 : decode cX0_runs 3 = .ok (.invokevirtual 37, 3) := by decide +kernel
theorem dX0_runs_6 : decode cX0_runs 6 = .ok (.aload_n 0, 1) := by decide +kernel
theorem dX0_runs_7 : decode cX0_runs 7 = .ok (.invokevirtual 41, 3) := by decide +kernel
theorem dX0_runs_10 : decode cX0_runs 10 = .ok (.istore_n 1, 1) := by decide +kernel
theorem dX0_runs_11 : decode cX0_runs 11 = .ok (.iload_n 1, 1) := by decide +kernel
theorem dX0_runs_12 : decode cX0_runs 12 = .ok (.ifCond .ne 5, 3) := by decide +kernel
theorem dX0_runs_15 : decode cX0_runs 15 = .ok (.iconst 0, 1) := by decide +kernel
theorem dX0_runs_16 : decode cX0_runs 16 = .ok (.ireturn, 1) := by decide +kernel
theorem dX0_runs_17 : decode cX0_runs 17 = .ok (.iconst 1, 1) := by decide +kernel
theorem dX0_runs_18 : decode cX0_runs 18 = .ok (.istore_n 2, 1) := by decide +kernel
theorem dX0_runs_19 : decode cX0_runs 19 = .ok (.iload_n 2, 1) := by decide +kernel
theorem dX0_runs_20 : decode cX0_runs 20 = .ok (.sipush 16384, 3) := by decide +kernel
theorem dX0_runs_23 : decode cX0_runs 23 = .ok (.if_icmp .gt 131, 3) := by decide +kernel
theorem dX0_runs_26 : decode cX0_runs 26 = .ok (.aload_n 0, 1) := by decide +kernel
theorem dX0_runs_27 : decode cX0_runs 27 = .ok (.iload_n 2, 1) := by decide +kernel
theorem dX0_runs_28 : decode cX0_runs 28 = .ok (.putfield 45, 3) := by decide +kernel
theorem dX0_runs_31 : decode cX0_runs 31 = .ok (.aload_n 0, 1) := by decide +kernel
theorem dX0_runs_32 : decode cX0_runs 32 = .ok (.aload_n 0, 1) := by decide +kernel
theorem dX0_runs_33 : decode cX0_runs 33 = .ok (.getfield 48, 3) := by decide +kernel
theorem dX0_runs_36 : decode cX0_runs 36 = .ok (.aload_n 0, 1) := by decide +kernel
theorem dX0_runs_37 : decode cX0_runs 37 = .ok (.aload_n 0, 1) := by decide +kernel
theorem dX0_runs_38 : decode cX0_runs 38 = .ok (.getfield 9, 3) := by decide +kernel
theorem dX0_runs_41 : decode cX0_runs 41 = .ok (.iload_n 1, 1) := by decide +kernel
theorem dX0_runs_42 : decode cX0_runs 42 = .ok (.invokevirtual 52, 3) := by decide +kernel
theorem dX0_runs_45 : decode cX0_runs 45 = .ok (.ladd, 1) := by decide +kernel
theorem dX0_runs_46 : decode cX0_runs 46 = .ok (.putfield 56, 3) := by decide +kernel
theorem dX0_runs_49 : decode cX0_runs 49 = .ok (.aload_n 0, 1) := by decide +kernel
theorem dX0_runs_50 : decode cX0_runs 50 = .ok (.aload_n 0, 1) := by decide +kernel
theorem dX0_runs_51 : decode cX0_runs 51 = .ok (.getfield 59, 3) := by decide +kernel
theorem dX0_runs_54 : decode cX0_runs 54 = .ok (.aload_n 0, 1) := by decide +kernel
theorem dX0_runs_55 : decode cX0_runs 55 = .ok (.aload_n 0, 1) := by decide +kernel
theorem dX0_runs_56 : decode cX0_runs 56 = .ok (.getfield 15, 3) := by decide +kernel
theorem dX0_runs_59 : decode cX0_runs 59 = .ok (.iload_n 1, 1) := by decide +kernel
theorem dX0_runs_60 : decode cX0_runs 60 = .ok (.invokevirtual 52, 3) := by decide +kernel
theorem dX0_runs_63 : decode cX0_runs 63 = .ok (.ladd, 1) := by decide +kernel
theorem dX0_runs_64 : decode cX0_runs 64 = .ok (.putfield 62, 3) := by decide +kernel
theorem dX0_runs_67 : decode cX0_runs 67 = .ok (.aload_n 0, 1) := by decide +kernel
theorem dX0_runs_68 : decode cX0_runs 68 = .ok (.aload_n 0, 1) := by decide +kernel
theorem dX0_runs_69 : decode cX0_runs 69 = .ok (.getfield 56, 3) := by decide +kernel
theorem dX0_runs_72 : decode cX0_runs 72 = .ok (.aload_n 0, 1) := by decide +kernel
theorem dX0_runs_73 : decode cX0_runs 73 = .ok (.getfield 62, 3) := by decide +kernel
theorem dX0_runs_76 : decode cX0_runs 76 = .ok (.invokevirtual 37, 3) := by decide +kernel
theorem dX0_runs_79 : decode cX0_runs 79 = .ok (.aload_n 0, 1) := by decide +kernel
theorem dX0_runs_80 : decode cX0_runs 80 = .ok (.aload_n 0, 1) := by decide +kernel
theorem dX0_runs_81 : decode cX0_runs 81 = .ok (.invokevirtual 41, 3) := by decide +kernel
theorem dX0_runs_84 : decode cX0_runs 84 = .ok (.putfield 65, 3) := by decide +kernel
theorem dX0_runs_87 : decode cX0_runs 87 = .ok (.aload_n 0, 1) := by decide +kernel
theorem dX0_runs_88 : decode cX0_runs 88 = .ok (.getfield 48, 3) := by decide +kernel
theorem dX0_runs_91 : decode cX0_runs 91 = .ok (.aload_n 0, 1) := by decide +kernel
theorem dX0_runs_92 : decode cX0_runs 92 = .ok (.aload_n 0, 1) := by decide +kernel
theorem dX0_runs_93 : decode cX0_runs 93 = .ok (.getfield 9, 3) := by decide +kernel
theorem dX0_runs_96 : decode cX0_runs 96 = .ok (.aload_n 0, 1) := by decide +kernel
theorem dX0_runs_97 : decode cX0_runs 97 = .ok (.getfield 65, 3) := by decide +kernel
theorem dX0_runs_100 : decode cX0_runs 100 = .ok (.invokevirtual 52, 3) := by decide +kernel
theorem dX0_runs_103 : decode cX0_runs 103 = .ok (.ladd, 1) := by decide +kernel
theorem dX0_runs_104 : decode cX0_runs 104 = .ok (.lstore_n 3, 1) := by decide +kernel
theorem dX0_runs_105 : decode cX0_runs 105 = .ok (.aload_n 0, 1) := by decide +kernel
theorem dX0_runs_106 : decode cX0_runs 106 = .ok (.getfield 59, 3) := by decide +kernel
theorem dX0_runs_109 : decode cX0_runs 109 = .ok (.aload_n 0, 1) := by decide +kernel
theorem dX0_runs_110 : decode cX0_runs 110 = .ok (.aload_n 0, 1) := by decide +kernel
theorem dX0_runs_111 : decode cX0_runs 111 = .ok (.getfield 15, 3) := by decide +kernel
theorem dX0_runs_114 : decode cX0_runs 114 = .ok (.aload_n 0, 1) := by decide +kernel
theorem dX0_runs_115 : decode cX0_runs 115 = .ok (.getfield 65, 3) := by decide +kernel
theorem dX0_runs_118 : decode cX0_runs 118 = .ok (.invokevirtual 52, 3) := by decide +kernel
theorem dX0_runs_121 : decode cX0_runs 121 = .ok (.ladd, 1) := by decide +kernel
theorem dX0_runs_122 : decode cX0_runs 122 = .ok (.lstore 5, 2) := by decide +kernel
theorem dX0_runs_124 : decode cX0_runs 124 = .ok (.lload_n 3, 1) := by decide +kernel
theorem dX0_runs_125 : decode cX0_runs 125 = .ok (.aload_n 0, 1) := by decide +kernel
theorem dX0_runs_126 : decode cX0_runs 126 = .ok (.getfield 62, 3) := by decide +kernel
theorem dX0_runs_129 : decode cX0_runs 129 = .ok (.lmul, 1) := by decide +kernel
theorem dX0_runs_130 : decode cX0_runs 130 = .ok (.aload_n 0, 1) := by decide +kernel
theorem dX0_runs_131 : decode cX0_runs 131 = .ok (.getfield 56, 3) := by decide +kernel
theorem dX0_runs_134 : decode cX0_runs 134 = .ok (.lload 5, 2) := by decide +kernel
theorem dX0_runs_136 : decode cX0_runs 136 = .ok (.lmul, 1) := by decide +kernel
theorem dX0_runs_137 : decode cX0_runs 137 = .ok (.lcmp, 1) := by decide +kernel
theorem dX0_runs_138 : decode cX0_runs 138 = .ok (.ifCond .gt 5, 3) := by decide +kernel
theorem dX0_runs_141 : decode cX0_runs 141 = .ok (.iconst 1, 1) := by decide +kernel
theorem dX0_runs_142 : decode cX0_runs 142 = .ok (.ireturn, 1) := by decide +kernel
theorem dX0_runs_143 : decode cX0_runs 143 = .ok (.aload_n 0, 1) := by decide +kernel
theorem dX0_runs_144 : decode cX0_runs 144 = .ok (.getfield 65, 3) := by decide +kernel
theorem dX0_runs_147 : decode cX0_runs 147 = .ok (.istore_n 1, 1) := by decide +kernel
theorem dX0_runs_148 : decode cX0_runs 148 = .ok (.iinc 2 1, 3) := by decide +kernel
theorem dX0_runs_151 : decode cX0_runs 151 = .ok (.goto (-132), 3) := by decide +kernel
theorem dX0_runs_154 : decode cX0_runs 154 = .ok (.iconst 1, 1) := by decide +kernel
theorem dX0_runs_155 : decode cX0_runs 155 = .ok (.ireturn, 1) := by decide +kernel
def e_X0_runs_39_L19  : Nat → Int32 → Int32 → ES → Option (Int32 × ES)
  | 0, _, _, _ => none
  | n + 1, x1, x2, σ => if (16384 : Int32) < x2 then (some ((1 : Int32), σ)) else ((e_X0_together_39_40 (uI σ 39 1 x2) x1).bind (fun r1 => (e_X0_together_39_41 (uL (uI σ 39 1 x2) 39 2 ((eL (uI σ 39 1 x2) 39 5) + r1)) x1).bind (fun r3 => (e_X0_weigh_39 (eL (uL (uL (uI σ 39 1 x2) 39 2 ((eL (uI σ 39 1 x2) 39 5) + r1)) 39 3 ((eL (uL (uI σ 39 1 x2) 39 2 ((eL (uI σ 39 1 x2) 39 5) + r1)) 39 6) + r3)) 39 2) (eL (uL (uL (uI σ 39 1 x2) 39 2 ((eL (uI σ 39 1 x2) 39 5) + r1)) 39 3 ((eL (uL (uI σ 39 1 x2) 39 2 ((eL (uI σ 39 1 x2) 39 5) + r1)) 39 6) + r3)) 39 3) (uL (uL (uI σ 39 1 x2) 39 2 ((eL (uI σ 39 1 x2) 39 5) + r1)) 39 3 ((eL (uL (uI σ 39 1 x2) 39 2 ((eL (uI σ 39 1 x2) 39 5) + r1)) 39 6) + r3))).bind (fun r5 => (e_X7_pick r5).bind (fun r7 => (e_X0_together_39_40 (uI r7.2 39 0 r7.1) (eI (uI r7.2 39 0 r7.1) 39 0)).bind (fun r9 => (e_X0_together_39_41 (uI r7.2 39 0 r7.1) (eI (uI r7.2 39 0 r7.1) 39 0)).bind (fun r11 => if ((eL (uI r7.2 39 0 r7.1) 39 2) * ((eL (uI r7.2 39 0 r7.1) 39 6) + r11)) < (((eL (uI r7.2 39 0 r7.1) 39 5) + r9) * (eL (uI r7.2 39 0 r7.1) 39 3)) then (e_X0_runs_39_L19 n (eI (uI r7.2 39 0 r7.1) 39 0) (x2 + 1) (uI r7.2 39 0 r7.1)) else (some ((1 : Int32), (uI r7.2 39 0 r7.1))))))))))
set_option maxRecDepth 100000 in
set_option maxHeartbeats 4000000 in
theorem p_X0_runs_39_L19 {l : Launch} {E : MX} {out : (Int32 × ES)}   : ∀ (n : Nat) (x1 : Int32) (x2 : Int32) (σ : ES), e_X0_runs_39_L19 n x1 x2 σ = some out → MV l E cX0_runs RX0 7 (some .boolean) 4 (82, (some (.int out.1)), mkS out.2) (mkS σ) 19 [(0, .ref 39), (1, .int x1), (2, .int x2)] [] := by
  intro n
  induction n with
  | zero =>
    intro x1 x2 σ h
    exact nomatch h
  | succ n ih =>
    intro x1 x2 σ h
    rw [e_X0_runs_39_L19] at h
    refine mw_iload_n dX0_runs_19 2 rfl ?_
    refine mw_sipush (v := 16384) dX0_runs_20 (by decide) ?_
    refine mw_icmp_gt (tgt := 154) dX0_runs_23 (by decide) (fun hc => ?_) (fun hc => ?_)
    · have h := mit hc h
      refine mw_iconst (v := 1) dX0_runs_154 (by decide) ?_
      exact mw_zret dX0_runs_155 rfl (by decide) (ers_im h) rfl rfl
    · have h := mie hc h
      refine mw_aload_n dX0_runs_26 0 rfl ?_
      refine mw_iload_n dX0_runs_27 2 rfl ?_
      refine ev_putI fw_RX0_45_6 dX0_runs_28 rfl rfl ?_
      refine mw_aload_n dX0_runs_31 0 rfl ?_
      refine mw_aload_n dX0_runs_32 0 rfl ?_
      refine ev_getL fd_RX0_48_6 dX0_runs_33 rfl rfl ?_
      refine mw_aload_n dX0_runs_36 0 rfl ?_
      refine mw_aload_n dX0_runs_37 0 rfl ?_
      refine ev_getR (q := 40) fd_RX0_9_6 dX0_runs_38 rfl rfl rfl ?_
      refine mw_iload_n dX0_runs_41 1 rfl ?_
      obtain ⟨r1, e2, h⟩ := mbd h
      refine mv_callU_l (As := [.ref 40, .int x1]) (ci := 6) lkU_RX0_52_6_yX0_together rfl dX0_runs_42 (k_X0_together_39_40 e2) rfl rfl rfl rfl (Nat.le_of_ble_eq_true rfl) (by decide) (by decide) ?_
      refine mw_ladd dX0_runs_45 ?_
      refine ev_putL fw_RX0_56_6 dX0_runs_46 rfl rfl ?_
      refine mw_aload_n dX0_runs_49 0 rfl ?_
      refine mw_aload_n dX0_runs_50 0 rfl ?_
      refine ev_getL fd_RX0_59_6 dX0_runs_51 rfl rfl ?_
      refine mw_aload_n dX0_runs_54 0 rfl ?_
      refine mw_aload_n dX0_runs_55 0 rfl ?_
      refine ev_getR (q := 41) fd_RX0_15_6 dX0_runs_56 rfl rfl rfl ?_
      refine mw_iload_n dX0_runs_59 1 rfl ?_
      obtain ⟨r3, e4, h⟩ := mbd h
      refine mv_callU_l (As := [.ref 41, .int x1]) (ci := 6) lkU_RX0_52_6_yX0_together rfl dX0_runs_60 (k_X0_together_39_41 e4) rfl rfl rfl rfl (Nat.le_of_ble_eq_true rfl) (by decide) (by decide) ?_
      refine mw_ladd dX0_runs_63 ?_
      refine ev_putL fw_RX0_62_6 dX0_runs_64 rfl rfl ?_
      refine mw_aload_n dX0_runs_67 0 rfl ?_
      refine mw_aload_n dX0_runs_68 0 rfl ?_
      refine ev_getL fd_RX0_56_6 dX0_runs_69 rfl rfl ?_
      refine mw_aload_n dX0_runs_72 0 rfl ?_
      refine ev_getL fd_RX0_62_6 dX0_runs_73 rfl rfl ?_
      obtain ⟨r5, e6, h⟩ := mbd h
      refine mv_callU_v (As := [.long (eL (uL (uL (uI σ 39 1 x2) 39 2 ((eL (uI σ 39 1 x2) 39 5) + r1)) 39 3 ((eL (uL (uI σ 39 1 x2) 39 2 ((eL (uI σ 39 1 x2) 39 5) + r1)) 39 6) + r3)) 39 2), .long (eL (uL (uL (uI σ 39 1 x2) 39 2 ((eL (uI σ 39 1 x2) 39 5) + r1)) 39 3 ((eL (uL (uI σ 39 1 x2) 39 2 ((eL (uI σ 39 1 x2) 39 5) + r1)) 39 6) + r3)) 39 3)]) (ci := 6) lkU_RX0_37_6_yX0_weigh rfl dX0_runs_76 (k_X0_weigh_39 e6) rfl rfl rfl rfl (Nat.le_of_ble_eq_true rfl) (by decide) (by decide) ?_
      refine mw_aload_n dX0_runs_79 0 rfl ?_
      refine mw_aload_n dX0_runs_80 0 rfl ?_
      obtain ⟨r7, e8, h⟩ := mbd h
      refine mv_callA_i (As := []) (ci := 6) lkU_RX0_41_6_yX7_pick dX0_runs_81 (k_X7_pick e8) rfl rfl rfl rfl (Nat.le_of_ble_eq_true rfl) (by decide) (by decide) ?_
      refine ev_putI fw_RX0_65_6 dX0_runs_84 rfl rfl ?_
      refine mw_aload_n dX0_runs_87 0 rfl ?_
      refine ev_getL fd_RX0_48_6 dX0_runs_88 rfl rfl ?_
      refine mw_aload_n dX0_runs_91 0 rfl ?_
      refine mw_aload_n dX0_runs_92 0 rfl ?_
      refine ev_getR (q := 40) fd_RX0_9_6 dX0_runs_93 rfl rfl rfl ?_
      refine mw_aload_n dX0_runs_96 0 rfl ?_
      refine ev_getI fd_RX0_65_6 dX0_runs_97 rfl rfl ?_
      obtain ⟨r9, e10, h⟩ := mbd h
      refine mv_callU_l (As := [.ref 40, .int (eI (uI r7.2 39 0 r7.1) 39 0)]) (ci := 6) lkU_RX0_52_6_yX0_together rfl dX0_runs_100 (k_X0_together_39_40 e10) rfl rfl rfl rfl (Nat.le_of_ble_eq_true rfl) (by decide) (by decide) ?_
      refine mw_ladd dX0_runs_103 ?_
      refine mw_lstore_n (L' := [(3, .long ((eL (uI r7.2 39 0 r7.1) 39 5) + r9)), (0, .ref 39), (1, .int x1), (2, .int x2)]) dX0_runs_104 rfl (by decide) rfl ?_
      refine mw_aload_n dX0_runs_105 1 rfl ?_
      refine ev_getL fd_RX0_59_6 dX0_runs_106 rfl rfl ?_
      refine mw_aload_n dX0_runs_109 1 rfl ?_
      refine mw_aload_n dX0_runs_110 1 rfl ?_
      refine ev_getR (q := 41) fd_RX0_15_6 dX0_runs_111 rfl rfl rfl ?_
      refine mw_aload_n dX0_runs_114 1 rfl ?_
      refine ev_getI fd_RX0_65_6 dX0_runs_115 rfl rfl ?_
      obtain ⟨r11, e12, h⟩ := mbd h
      refine mv_callU_l (As := [.ref 41, .int (eI (uI r7.2 39 0 r7.1) 39 0)]) (ci := 6) lkU_RX0_52_6_yX0_together rfl dX0_runs_118 (k_X0_together_39_41 e12) rfl rfl rfl rfl (Nat.le_of_ble_eq_true rfl) (by decide) (by decide) ?_
      refine mw_ladd dX0_runs_121 ?_
      refine mw_lstore (L' := [(5, .long ((eL (uI r7.2 39 0 r7.1) 39 6) + r11)), (3, .long ((eL (uI r7.2 39 0 r7.1) 39 5) + r9)), (0, .ref 39), (1, .int x1), (2, .int x2)]) dX0_runs_122 (by decide) rfl ?_
      refine mw_lload_n dX0_runs_124 1 rfl ?_
      refine mw_aload_n dX0_runs_125 2 rfl ?_
      refine ev_getL fd_RX0_62_6 dX0_runs_126 rfl rfl ?_
      refine mw_lmul dX0_runs_129 ?_
      refine mw_aload_n dX0_runs_130 2 rfl ?_
      refine ev_getL fd_RX0_56_6 dX0_runs_131 rfl rfl ?_
      refine mw_lload dX0_runs_134 0 rfl ?_
      refine mw_lmul dX0_runs_136 ?_
      refine mw_lc_gt (tgt := 143) dX0_runs_137 dX0_runs_138 (by decide) (fun hc => ?_) (fun hc => ?_)
      · have h := mit hc h
        refine mw_aload_n dX0_runs_143 2 rfl ?_
        refine ev_getI fd_RX0_65_6 dX0_runs_144 rfl rfl ?_
        refine mw_istore_n (L' := [(1, .int (eI (uI r7.2 39 0 r7.1) 39 0)), (5, .long ((eL (uI r7.2 39 0 r7.1) 39 6) + r11)), (3, .long ((eL (uI r7.2 39 0 r7.1) 39 5) + r9)), (0, .ref 39), (2, .int x2)]) dX0_runs_147 rfl (by decide) rfl ?_
        refine mw_iinc (v := (x2 + 1)) (L' := [(2, .int (x2 + 1)), (1, .int (eI (uI r7.2 39 0 r7.1) 39 0)), (5, .long ((eL (uI r7.2 39 0 r7.1) 39 6) + r11)), (3, .long ((eL (uI r7.2 39 0 r7.1) 39 5) + r9)), (0, .ref 39)]) dX0_runs_148 4 rfl rfl (by decide) rfl ?_
        refine mw_goto (tgt := 19) dX0_runs_151 (by decide) ?_
        exact mw_sub (L' := [(0, .ref 39), (1, .int (eI (uI r7.2 39 0 r7.1) 39 0)), (2, .int (x2 + 1))]) [4, 1, 0] rfl (ih _ _ _ h)
      · have h := mie hc h
        refine mw_iconst (v := 1) dX0_runs_141 (by decide) ?_
        exact mw_zret dX0_runs_142 rfl (by decide) (ers_im h) rfl rfl
def e_X0_runs_39 (σ : ES) : Option (Int32 × ES) := (e_X0_weigh_39 (0 : Int64) (0 : Int64) σ).bind (fun r1 => (e_X7_pick r1).bind (fun r3 => if r3.1 = 0 then (some ((0 : Int32), r3.2)) else (e_X0_runs_39_L19 mN r3.1 (1 : Int32) r3.2)))
set_option maxRecDepth 100000 in
set_option maxHeartbeats 4000000 in
theorem k_X0_runs_39 {l : Launch} {σ : ES}  {out : (Int32 × ES)} (h : e_X0_runs_39 σ = some out) : MK l yX0_runs cX0_runs 7 (some .boolean) 4 [.ref 39] (mkS σ) (some (.int out.1)) (mkS out.2) := by
  unfold e_X0_runs_39 at h
  refine mw_entry (own := RX0) (ini := false) (L := [(0, .ref 39)]) (by decide +kernel) rfl (fun h => nomatch h) rfl (Nat.le_of_ble_eq_true rfl) (Nat.le_of_ble_eq_true rfl) (fun E => ?_)
  refine mw_aload_n dX0_runs_0 0 rfl ?_
  refine mw_lconst (v := 0) dX0_runs_1 (by decide) ?_
  refine mw_lconst (v := 0) dX0_runs_2 (by decide) ?_
  obtain ⟨r1, e2, h⟩ := mbd h
  refine mv_callU_v (As := [.long (0 : Int64), .long (0 : Int64)]) (ci := 6) lkU_RX0_37_6_yX0_weigh rfl dX0_runs_3 (k_X0_weigh_39 e2) rfl rfl rfl rfl (Nat.le_of_ble_eq_true rfl) (by decide) (by decide) ?_
  refine mw_aload_n dX0_runs_6 0 rfl ?_
  obtain ⟨r3, e4, h⟩ := mbd h
  refine mv_callA_i (As := []) (ci := 6) lkU_RX0_41_6_yX7_pick dX0_runs_7 (k_X7_pick e4) rfl rfl rfl rfl (Nat.le_of_ble_eq_true rfl) (by decide) (by decide) ?_
  refine mw_istore_n (L' := [(1, .int r3.1), (0, .ref 39)]) dX0_runs_10 rfl (by decide) rfl ?_
  refine mw_iload_n dX0_runs_11 0 rfl ?_
  refine mw_if_ne (tgt := 17) dX0_runs_12 (by decide) (fun hc => ?_) (fun hc => ?_)
  · have h := mie hc h
    refine mw_iconst (v := 1) dX0_runs_17 (by decide) ?_
    refine mw_istore_n (L' := [(2, .int (1 : Int32)), (1, .int r3.1), (0, .ref 39)]) dX0_runs_18 rfl (by decide) rfl ?_
    exact mw_sub (L' := [(0, .ref 39), (1, .int r3.1), (2, .int (1 : Int32))]) [2, 1, 0] rfl (p_X0_runs_39_L19  mN _ _ _ h)
  · have h := mit hc h
    refine mw_iconst (v := 0) dX0_runs_15 (by decide) ?_
    exact mw_zret dX0_runs_16 rfl (by decide) (ers_im h) rfl rfl

theorem dX7_climbs_0 : decode cX7_climbs 0 = .ok (.aload_n 0, 1) := by decide +kernel
theorem dX7_climbs_1 : decode cX7_climbs 1 = .ok (.aload_n 1, 1) := by decide +kernel
theorem dX7_climbs_2 : decode cX7_climbs 2 = .ok (.putfield 18, 3) := by decide +kernel
theorem dX7_climbs_5 : decode cX7_climbs 5 = .ok (.aload_n 0, 1) := by decide +kernel
theorem dX7_climbs_6 : decode cX7_climbs 6 = .ok (.aload_n 1, 1) := by decide +kernel
theorem dX7_climbs_7 : decode cX7_climbs 7 = .ok (.invokevirtual 22, 3) := by decide +kernel
theorem dX7_climbs_10 : decode cX7_climbs 10 = .ok (.aload_n 0, 1) := by decide +kernel
theorem dX7_climbs_11 : decode cX7_climbs 11 = .ok (.invokevirtual 26, 3) := by decide +kernel
theorem dX7_climbs_14 : decode cX7_climbs 14 = .ok (.ireturn, 1) := by decide +kernel
def e_X7_climbs_1 (σ : ES) : Option (Int32 × ES) := (e_X0_takeWays_39_1 (uT σ 0 (some 1))).bind (fun r1 => (e_X0_runs_39 r1).bind (fun r3 => if r3.1 = 0 ∨ r3.1 = 1 then (some (r3.1, r3.2)) else none))
set_option maxRecDepth 100000 in
set_option maxHeartbeats 4000000 in
theorem k_X7_climbs_1 {l : Launch} {σ : ES}  {out : (Int32 × ES)} (h : e_X7_climbs_1 σ = some out) : MK l yX7_climbs cX7_climbs 2 (some .boolean) 7 [.ref 39, .ref 1] (mkS σ) (some (.int out.1)) (mkS out.2) := by
  unfold e_X7_climbs_1 at h
  refine mw_entry (own := RX7) (ini := false) (L := [(0, .ref 39), (1, .ref 1)]) (by decide +kernel) rfl (fun h => nomatch h) rfl (Nat.le_of_ble_eq_true rfl) (Nat.le_of_ble_eq_true rfl) (fun E => ?_)
  refine mw_aload_n dX7_climbs_0 0 rfl ?_
  refine mw_aload_n dX7_climbs_1 1 rfl ?_
  refine ev_putT0 fw_RX7_18_6 dX7_climbs_2 ?_
  refine mw_aload_n dX7_climbs_5 0 rfl ?_
  refine mw_aload_n dX7_climbs_6 1 rfl ?_
  obtain ⟨r1, e2, h⟩ := mbd h
  refine mv_callU_v (As := [.ref 1]) (ci := 6) lkU_RX7_22_6_yX0_takeWays rfl dX7_climbs_7 (k_X0_takeWays_39_1 e2) rfl rfl rfl rfl (Nat.le_of_ble_eq_true rfl) (by decide) (by decide) ?_
  refine mw_aload_n dX7_climbs_10 0 rfl ?_
  obtain ⟨r3, e4, h⟩ := mbd h
  refine mv_callU_i (As := []) (ci := 6) lkU_RX7_26_6_yX0_runs rfl dX7_climbs_11 (k_X0_runs_39 e4) rfl rfl rfl rfl (Nat.le_of_ble_eq_true rfl) (by decide) (by decide) ?_
  obtain ⟨m5, h⟩ := mif h
  exact mw_zret dX7_climbs_14 rfl m5 (ers_im h) rfl rfl

theorem dX9_told_0 : decode cX9_told 0 = .ok (.iload_n 2, 1) := by decide +kernel
theorem dX9_told_1 : decode cX9_told 1 = .ok (.ifCond .ne 9, 3) := by decide +kernel
theorem dX9_told_4 : decode cX9_told 4 = .ok (.aload_n 0, 1) := by decide +kernel
theorem dX9_told_5 : decode cX9_told 5 = .ok (.iconst 3, 1) := by decide +kernel
theorem dX9_told_6 : decode cX9_told 6 = .ok (.invokevirtual 164, 3) := by decide +kernel
theorem dX9_told_9 : decode cX9_told 9 = .ok (.lreturn, 1) := by decide +kernel
theorem dX9_told_10 : decode cX9_told 10 = .ok (.iload_n 3, 1) := by decide +kernel
theorem dX9_told_11 : decode cX9_told 11 = .ok (.lookupswitch 37 #[(2, 25), (3, 31)], 25) := by decide +kernel
theorem dX9_told_36 : decode cX9_told 36 = .ok (.aload_n 1, 1) := by decide +kernel
theorem dX9_told_37 : decode cX9_told 37 = .ok (.getfield 255, 3) := by decide +kernel
theorem dX9_told_40 : decode cX9_told 40 = .ok (.i2l, 1) := by decide +kernel
theorem dX9_told_41 : decode cX9_told 41 = .ok (.lreturn, 1) := by decide +kernel
theorem dX9_told_42 : decode cX9_told 42 = .ok (.aload_n 1, 1) := by decide +kernel
theorem dX9_told_43 : decode cX9_told 43 = .ok (.getfield 259, 3) := by decide +kernel
theorem dX9_told_46 : decode cX9_told 46 = .ok (.i2l, 1) := by decide +kernel
theorem dX9_told_47 : decode cX9_told 47 = .ok (.lreturn, 1) := by decide +kernel
theorem dX9_told_48 : decode cX9_told 48 = .ok (.aload_n 1, 1) := by decide +kernel
theorem dX9_told_49 : decode cX9_told 49 = .ok (.getfield 262, 3) := by decide +kernel
theorem dX9_told_52 : decode cX9_told 52 = .ok (.aload_n 1, 1) := by decide +kernel
theorem dX9_told_53 : decode cX9_told 53 = .ok (.getfield 265, 3) := by decide +kernel
theorem dX9_told_56 : decode cX9_told 56 = .ok (.iload_n 3, 1) := by decide +kernel
theorem dX9_told_57 : decode cX9_told 57 = .ok (.invokestatic 179, 3) := by decide +kernel
theorem dX9_told_60 : decode cX9_told 60 = .ok (.lreturn, 1) := by decide +kernel
def e_X9_told_39 (a2 : Int32) (a3 : Int32) (σ : ES) : Option (Int64 × ES) := if a2 = 0 then ((e_X9_longFinding (3 : Int32) σ).bind (fun r3 => some (r3.1, r3.2))) else (if a3 = 2 then (some ((eI σ 39 0).toInt64, σ)) else (if a3 = 3 then (some ((eI σ 39 1).toInt64, σ)) else ((e_X9_lowest (eL σ 39 2) (eL σ 39 3) a3).bind (fun r1 => some (r1, σ)))))
set_option maxRecDepth 100000 in
set_option maxHeartbeats 4000000 in
theorem k_X9_told_39 {l : Launch} {σ : ES} {a2 : Int32} {a3 : Int32} {out : (Int64 × ES)} (h : e_X9_told_39 a2 a3 σ = some out) : MK l yX9_told cX9_told 4 (some .long) 3 [.ref 0, .ref 39, .int a2, .int a3] (mkS σ) (some (.long out.1)) (mkS out.2) := by
  unfold e_X9_told_39 at h
  refine mw_entry (own := RX9) (ini := false) (L := [(0, .ref 0), (1, .ref 39), (2, .int a2), (3, .int a3)]) (by decide +kernel) rfl (fun h => nomatch h) rfl (Nat.le_of_ble_eq_true rfl) (Nat.le_of_ble_eq_true rfl) (fun E => ?_)
  refine mw_iload_n dX9_told_0 2 rfl ?_
  refine mw_if_ne (tgt := 10) dX9_told_1 (by decide) (fun hc => ?_) (fun hc => ?_)
  · have h := mie hc h
    refine mw_iload_n dX9_told_10 3 rfl ?_
    by_cases hs2 : a3 = 2
    · have h := mit hs2 h
      refine mv_look (tgt := 36) (off := 25) dX9_told_11 rfl (by rw [hs2] <;> rfl) (by decide) ?_
      refine mw_aload_n dX9_told_36 1 rfl ?_
      refine ev_getI fd_RX9_255_6 dX9_told_37 rfl rfl ?_
      refine mw_i2l dX9_told_40 ?_
      exact mw_lret dX9_told_41 rfl (ers_lm h) rfl rfl
    have h := mie hs2 h
    by_cases hs3 : a3 = 3
    · have h := mit hs3 h
      refine mv_look (tgt := 42) (off := 31) dX9_told_11 rfl (by rw [hs3] <;> rfl) (by decide) ?_
      refine mw_aload_n dX9_told_42 1 rfl ?_
      refine ev_getI fd_RX9_259_6 dX9_told_43 rfl rfl ?_
      refine mw_i2l dX9_told_46 ?_
      exact mw_lret dX9_told_47 rfl (ers_lm h) rfl rfl
    have h := mie hs3 h
    refine mv_look (tgt := 48) (off := 37) dX9_told_11 rfl (mlook2 (mne32 hs2) (mne32 hs3)) (by decide) ?_
    refine mw_aload_n dX9_told_48 1 rfl ?_
    refine ev_getL fd_RX9_262_6 dX9_told_49 rfl rfl ?_
    refine mw_aload_n dX9_told_52 1 rfl ?_
    refine ev_getL fd_RX9_265_6 dX9_told_53 rfl rfl ?_
    refine mw_iload_n dX9_told_56 3 rfl ?_
    obtain ⟨r1, e2, h⟩ := mbd h
    refine mv_callS_l (As := [.long (eL σ 39 2), .long (eL σ 39 3), .int a3]) lkS_RX9_179_yX9_lowest dX9_told_57 (k_X9_lowest e2) rfl rfl (Nat.le_of_ble_eq_true rfl) (by decide) (by decide) ?_
    exact mw_lret dX9_told_60 rfl (ers_lm h) rfl rfl
  · have h := mit hc h
    refine mw_aload_n dX9_told_4 0 rfl ?_
    refine mw_iconst (v := 3) dX9_told_5 (by decide) ?_
    obtain ⟨r3, e4, h⟩ := mbd h
    refine mv_callV_l (As := [.int (3 : Int32)]) (ci := 8) lkV_RX9_164_yX9_longFinding dX9_told_6 (k_X9_longFinding e4) rfl rfl rfl rfl (Nat.le_of_ble_eq_true rfl) (by decide) (by decide) ?_
    exact mw_lret dX9_told_9 rfl (ers_lm h) rfl rfl

theorem dX9_tree_0 : decode cX9_tree 0 = .ok (.iload_n 1, 1) := by decide +kernel
theorem dX9_tree_1 : decode cX9_tree 1 = .ok (.iconst 0, 1) := by decide +kernel
theorem dX9_tree_2 : decode cX9_tree 2 = .ok (.iconst 3, 1) := by decide +kernel
theorem dX9_tree_3 : decode cX9_tree 3 = .ok (.invokestatic 75, 3) := by decide +kernel
theorem dX9_tree_6 : decode cX9_tree 6 = .ok (.ifCond .ne 9, 3) := by decide +kernel
theorem dX9_tree_9 : decode cX9_tree 9 = .ok (.aload_n 0, 1) := by decide +kernel
theorem dX9_tree_10 : decode cX9_tree 10 = .ok (.iconst 0, 1) := by decide +kernel
theorem dX9_tree_11 : decode cX9_tree 11 = .ok (.invokevirtual 164, 3) := by decide +kernel
theorem dX9_tree_14 : decode cX9_tree 14 = .ok (.lreturn, 1) := by decide +kernel
theorem dX9_tree_15 : decode cX9_tree 15 = .ok (.aload_n 0, 1) := by decide +kernel
theorem dX9_tree_16 : decode cX9_tree 16 = .ok (.aload_n 0, 1) := by decide +kernel
theorem dX9_tree_17 : decode cX9_tree 17 = .ok (.getfield 32, 3) := by decide +kernel
theorem dX9_tree_20 : decode cX9_tree 20 = .ok (.aload_n 0, 1) := by decide +kernel
theorem dX9_tree_21 : decode cX9_tree 21 = .ok (.getfield 32, 3) := by decide +kernel
theorem dX9_tree_24 : decode cX9_tree 24 = .ok (.aload_n 0, 1) := by decide +kernel
theorem dX9_tree_25 : decode cX9_tree 25 = .ok (.getfield 12, 3) := by decide +kernel
theorem dX9_tree_28 : decode cX9_tree 28 = .ok (.invokevirtual 242, 3) := by decide +kernel
theorem dX9_tree_31 : decode cX9_tree 31 = .ok (.iload_n 1, 1) := by decide +kernel
theorem dX9_tree_32 : decode cX9_tree 32 = .ok (.invokevirtual 245, 3) := by decide +kernel
theorem dX9_tree_35 : decode cX9_tree 35 = .ok (.lreturn, 1) := by decide +kernel
def e_X9_tree (a1 : Int32) (σ : ES) : Option (Int64 × ES) := (e_X9_within a1 (0 : Int32) (3 : Int32)).bind (fun r1 => if r1 = 0 then ((e_X9_longFinding (0 : Int32) σ).bind (fun r7 => some (r7.1, r7.2))) else ((e_X7_climbs_1 σ).bind (fun r3 => (e_X9_told_39 r3.1 a1 r3.2).bind (fun r5 => some (r5.1, r5.2)))))
set_option maxRecDepth 100000 in
set_option maxHeartbeats 4000000 in
theorem k_X9_tree {l : Launch} {σ : ES} {a1 : Int32} {out : (Int64 × ES)} (h : e_X9_tree a1 σ = some out) : MK l yX9_tree cX9_tree 2 (some .long) 8 [.ref 0, .int a1] (mkS σ) (some (.long out.1)) (mkS out.2) := by
  unfold e_X9_tree at h
  refine mw_entry (own := RX9) (ini := false) (L := [(0, .ref 0), (1, .int a1)]) (by decide +kernel) rfl (fun h => nomatch h) rfl (Nat.le_of_ble_eq_true rfl) (Nat.le_of_ble_eq_true rfl) (fun E => ?_)
  refine mw_iload_n dX9_tree_0 1 rfl ?_
  refine mw_iconst (v := 0) dX9_tree_1 (by decide) ?_
  refine mw_iconst (v := 3) dX9_tree_2 (by decide) ?_
  obtain ⟨r1, e2, h⟩ := mbd h
  refine mv_callS_i (As := [.int a1, .int (0 : Int32), .int (3 : Int32)]) lkS_RX9_75_yX9_within dX9_tree_3 (k_X9_within e2) rfl rfl (Nat.le_of_ble_eq_true rfl) (by decide) (by decide) ?_
  refine mw_if_ne (tgt := 15) dX9_tree_6 (by decide) (fun hc => ?_) (fun hc => ?_)
  · have h := mie hc h
    refine mw_aload_n dX9_tree_15 0 rfl ?_
    refine mw_aload_n dX9_tree_16 0 rfl ?_
    refine ev_getR (q := 39) fd_RX9_32_8 dX9_tree_17 rfl rfl rfl ?_
    refine mw_aload_n dX9_tree_20 0 rfl ?_
    refine ev_getR (q := 39) fd_RX9_32_8 dX9_tree_21 rfl rfl rfl ?_
    refine mw_aload_n dX9_tree_24 0 rfl ?_
    refine ev_getR (q := 1) fd_RX9_12_8 dX9_tree_25 rfl rfl rfl ?_
    obtain ⟨r3, e4, h⟩ := mbd h
    refine mv_callV_i (As := [.ref 1]) (ci := 6) lkV_RX9_242_yX7_climbs dX9_tree_28 (k_X7_climbs_1 e4) rfl rfl rfl rfl (Nat.le_of_ble_eq_true rfl) (by decide) (by decide) ?_
    refine mw_iload_n dX9_tree_31 1 rfl ?_
    obtain ⟨r5, e6, h⟩ := mbd h
    refine mv_callV_l (As := [.ref 39, .int r3.1, .int a1]) (ci := 8) lkV_RX9_245_yX9_told dX9_tree_32 (k_X9_told_39 e6) rfl rfl rfl rfl (Nat.le_of_ble_eq_true rfl) (by decide) (by decide) ?_
    exact mw_lret dX9_tree_35 rfl (ers_lm h) rfl rfl
  · have h := mit hc h
    refine mw_aload_n dX9_tree_9 0 rfl ?_
    refine mw_iconst (v := 0) dX9_tree_10 (by decide) ?_
    obtain ⟨r7, e8, h⟩ := mbd h
    refine mv_callV_l (As := [.int (0 : Int32)]) (ci := 8) lkV_RX9_164_yX9_longFinding dX9_tree_11 (k_X9_longFinding e8) rfl rfl rfl rfl (Nat.le_of_ble_eq_true rfl) (by decide) (by decide) ?_
    exact mw_lret dX9_tree_14 rfl (ers_lm h) rfl rfl

def e_X0_takeWays_45_1_L10  : Nat → Int32 → ES → Option ES
  | 0, _, _ => none
  | n + 1, x2, σ => if (eI σ 45 4) ≤ x2 then (some σ) else ((e_X1_bringsOf_1 σ x2).bind (fun r1 => if mib x2 14 = true then ((e_X1_lastsOf_1 (uL σ 46 x2.toNatClampNeg r1.toInt64) x2).bind (fun r4 => e_X0_takeWays_45_1_L10 n (x2 + 1) (uL (uL σ 46 x2.toNatClampNeg r1.toInt64) 47 x2.toNatClampNeg r4.toInt64))) else none))
set_option maxRecDepth 100000 in
set_option maxHeartbeats 4000000 in
theorem p_X0_takeWays_45_1_L10 {l : Launch} {E : MX} {out : ES}   : ∀ (n : Nat) (x2 : Int32) (σ : ES), e_X0_takeWays_45_1_L10 n x2 σ = some out → MV l E cX0_takeWays RX0 3 none 6 (82, none, mkS out) (mkS σ) 10 [(0, .ref 45), (1, .ref 1), (2, .int x2)] [] := by
  intro n
  induction n with
  | zero =>
    intro x2 σ h
    exact nomatch h
  | succ n ih =>
    intro x2 σ h
    rw [e_X0_takeWays_45_1_L10] at h
    refine mw_iload_n dX0_takeWays_10 2 rfl ?_
    refine mw_aload_n dX0_takeWays_11 0 rfl ?_
    refine ev_getI fd_RX0_27_7 dX0_takeWays_12 rfl rfl ?_
    refine mw_icmp_ge (tgt := 48) dX0_takeWays_15 (by decide) (fun hc => ?_) (fun hc => ?_)
    · have h := mit hc h
      exact mw_vret dX0_takeWays_48 rfl (ers_vm h) rfl rfl
    · have h := mie hc h
      refine mw_aload_n dX0_takeWays_18 0 rfl ?_
      refine ev_getR (q := 46) fd_RX0_9_7 dX0_takeWays_19 rfl rfl rfl ?_
      refine mw_iload_n dX0_takeWays_22 2 rfl ?_
      refine mw_aload_n dX0_takeWays_23 1 rfl ?_
      refine mw_iload_n dX0_takeWays_24 2 rfl ?_
      obtain ⟨r1, e2, h⟩ := mbd h
      refine mv_callV_i (As := [.int x2]) (ci := 0) lkV_RX0_30_yX1_bringsOf dX0_takeWays_25 (k_X1_bringsOf_1 e2) rfl rfl rfl rfl (Nat.le_of_ble_eq_true rfl) (by decide) (by decide) ?_
      refine mw_i2l dX0_takeWays_28 ?_
      obtain ⟨m3, h⟩ := mif h
      refine ev_last dX0_takeWays_29 (by decide) rfl m3 ?_
      refine mw_aload_n dX0_takeWays_30 0 rfl ?_
      refine ev_getR (q := 47) fd_RX0_15_7 dX0_takeWays_31 rfl rfl rfl ?_
      refine mw_iload_n dX0_takeWays_34 2 rfl ?_
      refine mw_aload_n dX0_takeWays_35 1 rfl ?_
      refine mw_iload_n dX0_takeWays_36 2 rfl ?_
      obtain ⟨r4, e5, h⟩ := mbd h
      refine mv_callV_i (As := [.int x2]) (ci := 0) lkV_RX0_34_yX1_lastsOf dX0_takeWays_37 (k_X1_lastsOf_1 e5) rfl rfl rfl rfl (Nat.le_of_ble_eq_true rfl) (by decide) (by decide) ?_
      refine mw_i2l dX0_takeWays_40 ?_
      refine ev_last dX0_takeWays_41 (by decide) rfl m3 ?_
      refine mw_iinc (v := (x2 + 1)) (L' := [(2, .int (x2 + 1)), (0, .ref 45), (1, .ref 1)]) dX0_takeWays_42 2 rfl rfl (by decide) rfl ?_
      refine mw_goto (tgt := 10) dX0_takeWays_45 (by decide) ?_
      exact mw_sub (L' := [(0, .ref 45), (1, .ref 1), (2, .int (x2 + 1))]) [1, 2, 0] rfl (ih _ _ h)
def e_X0_takeWays_45_1 (σ : ES) : Option ES := e_X0_takeWays_45_1_L10 mN (0 : Int32) (uI σ 45 4 (eI σ 1 2))
set_option maxRecDepth 100000 in
set_option maxHeartbeats 4000000 in
theorem k_X0_takeWays_45_1 {l : Launch} {σ : ES}  {out : ES} (h : e_X0_takeWays_45_1 σ = some out) : MK l yX0_takeWays cX0_takeWays 3 none 6 [.ref 45, .ref 1] (mkS σ) none (mkS out) := by
  unfold e_X0_takeWays_45_1 at h
  refine mw_entry (own := RX0) (ini := false) (L := [(0, .ref 45), (1, .ref 1)]) (by decide +kernel) rfl (fun h => nomatch h) rfl (Nat.le_of_ble_eq_true rfl) (Nat.le_of_ble_eq_true rfl) (fun E => ?_)
  refine mw_aload_n dX0_takeWays_0 0 rfl ?_
  refine mw_aload_n dX0_takeWays_1 1 rfl ?_
  refine ev_getI fd_RX0_21_0 dX0_takeWays_2 rfl rfl ?_
  refine ev_putI fw_RX0_27_7 dX0_takeWays_5 rfl rfl ?_
  refine mw_iconst (v := 0) dX0_takeWays_8 (by decide) ?_
  refine mw_istore_n (L' := [(2, .int (0 : Int32)), (0, .ref 45), (1, .ref 1)]) dX0_takeWays_9 rfl (by decide) rfl ?_
  exact mw_sub (L' := [(0, .ref 45), (1, .ref 1), (2, .int (0 : Int32))]) [1, 2, 0] rfl (p_X0_takeWays_45_1_L10  mN _ _ h)

def e_X0_together_45_46_L5 (σ : ES) (a2 : Int32) : Nat → Int64 → Int32 → Option Int64
  | 0, _, _ => none
  | n + 1, x3, x5 => if (eI σ 45 4) ≤ x5 then (some x3) else (if (a2 &&& ((1 : Int32) <<< (x5 &&& 31))) = 0 then (e_X0_together_45_46_L5 σ a2 n x3 (x5 + 1)) else (if mib x5 14 = true then (e_X0_together_45_46_L5 σ a2 n (x3 + (eL σ 46 x5.toNatClampNeg)) (x5 + 1)) else none))
set_option maxRecDepth 100000 in
set_option maxHeartbeats 4000000 in
theorem p_X0_together_45_46_L5 {l : Launch} {E : MX} {out : Int64} {σ : ES} {a2 : Int32}  : ∀ (n : Nat) (x3 : Int64) (x5 : Int32), e_X0_together_45_46_L5 σ a2 n x3 x5 = some out → MV l E cX0_together RX0 6 (some .long) 1 (82, (some (.long out)), mkS σ) (mkS σ) 5 [(0, .ref 45), (1, .ref 46), (2, .int a2), (3, .long x3), (5, .int x5)] [] := by
  intro n
  induction n with
  | zero =>
    intro x3 x5 h
    exact nomatch h
  | succ n ih =>
    intro x3 x5 h
    rw [e_X0_together_45_46_L5] at h
    refine mw_iload dX0_together_5 4 rfl ?_
    refine mw_aload_n dX0_together_7 0 rfl ?_
    refine ev_getI fd_RX0_27_7 dX0_together_8 rfl rfl ?_
    refine mw_icmp_ge (tgt := 36) dX0_together_11 (by decide) (fun hc => ?_) (fun hc => ?_)
    · have h := mit hc h
      refine mw_lload_n dX0_together_36 3 rfl ?_
      exact mw_lret dX0_together_37 rfl (ers_l h) rfl rfl
    · have h := mie hc h
      refine mw_iload_n dX0_together_14 2 rfl ?_
      refine mw_iconst (v := 1) dX0_together_15 (by decide) ?_
      refine mw_iload dX0_together_16 4 rfl ?_
      refine mw_ishl dX0_together_18 ?_
      refine mw_iand dX0_together_19 ?_
      refine mw_if_eq (tgt := 30) dX0_together_20 (by decide) (fun hc => ?_) (fun hc => ?_)
      · have h := mit hc h
        refine mw_iinc (v := (x5 + 1)) (L' := [(5, .int (x5 + 1)), (0, .ref 45), (1, .ref 46), (2, .int a2), (3, .long x3)]) dX0_together_30 4 rfl rfl (by decide) rfl ?_
        refine mw_goto (tgt := 5) dX0_together_33 (by decide) ?_
        exact mw_sub (L' := [(0, .ref 45), (1, .ref 46), (2, .int a2), (3, .long x3), (5, .int (x5 + 1))]) [1, 2, 3, 4, 0] rfl (ih _ _ h)
      · have h := mie hc h
        refine mw_lload_n dX0_together_23 3 rfl ?_
        refine mw_aload_n dX0_together_24 1 rfl ?_
        refine mw_iload dX0_together_25 4 rfl ?_
        obtain ⟨m1, h⟩ := mif h
        refine ev_lald dX0_together_27 (by decide) rfl m1 ?_
        refine mw_ladd dX0_together_28 ?_
        refine mw_lstore_n (L' := [(3, .long (x3 + (eL σ 46 x5.toNatClampNeg))), (0, .ref 45), (1, .ref 46), (2, .int a2), (5, .int x5)]) dX0_together_29 rfl (by decide) rfl ?_
        refine mw_iinc (v := (x5 + 1)) (L' := [(5, .int (x5 + 1)), (3, .long (x3 + (eL σ 46 x5.toNatClampNeg))), (0, .ref 45), (1, .ref 46), (2, .int a2)]) dX0_together_30 4 rfl rfl (by decide) rfl ?_
        refine mw_goto (tgt := 5) dX0_together_33 (by decide) ?_
        exact mw_sub (L' := [(0, .ref 45), (1, .ref 46), (2, .int a2), (3, .long (x3 + (eL σ 46 x5.toNatClampNeg))), (5, .int (x5 + 1))]) [2, 3, 4, 1, 0] rfl (ih _ _ h)
def e_X0_together_45_46 (σ : ES) (a2 : Int32) : Option Int64 := e_X0_together_45_46_L5 σ a2 mN (0 : Int64) (0 : Int32)
set_option maxRecDepth 100000 in
set_option maxHeartbeats 4000000 in
theorem k_X0_together_45_46 {l : Launch} {σ : ES} {a2 : Int32} {out : Int64} (h : e_X0_together_45_46 σ a2 = some out) : MK l yX0_together cX0_together 6 (some .long) 1 [.ref 45, .ref 46, .int a2] (mkS σ) (some (.long out)) (mkS σ) := by
  unfold e_X0_together_45_46 at h
  refine mw_entry (own := RX0) (ini := false) (L := [(0, .ref 45), (1, .ref 46), (2, .int a2)]) (by decide +kernel) rfl (fun h => nomatch h) rfl (Nat.le_of_ble_eq_true rfl) (Nat.le_of_ble_eq_true rfl) (fun E => ?_)
  refine mw_lconst (v := 0) dX0_together_0 (by decide) ?_
  refine mw_lstore_n (L' := [(3, .long (0 : Int64)), (0, .ref 45), (1, .ref 46), (2, .int a2)]) dX0_together_1 rfl (by decide) rfl ?_
  refine mw_iconst (v := 0) dX0_together_2 (by decide) ?_
  refine mw_istore (L' := [(5, .int (0 : Int32)), (3, .long (0 : Int64)), (0, .ref 45), (1, .ref 46), (2, .int a2)]) dX0_together_3 (by decide) rfl ?_
  exact mw_sub (L' := [(0, .ref 45), (1, .ref 46), (2, .int a2), (3, .long (0 : Int64)), (5, .int (0 : Int32))]) [2, 3, 4, 1, 0] rfl (p_X0_together_45_46_L5  mN _ _ h)

def e_X0_together_45_47_L5 (σ : ES) (a2 : Int32) : Nat → Int64 → Int32 → Option Int64
  | 0, _, _ => none
  | n + 1, x3, x5 => if (eI σ 45 4) ≤ x5 then (some x3) else (if (a2 &&& ((1 : Int32) <<< (x5 &&& 31))) = 0 then (e_X0_together_45_47_L5 σ a2 n x3 (x5 + 1)) else (if mib x5 14 = true then (e_X0_together_45_47_L5 σ a2 n (x3 + (eL σ 47 x5.toNatClampNeg)) (x5 + 1)) else none))
set_option maxRecDepth 100000 in
set_option maxHeartbeats 4000000 in
theorem p_X0_together_45_47_L5 {l : Launch} {E : MX} {out : Int64} {σ : ES} {a2 : Int32}  : ∀ (n : Nat) (x3 : Int64) (x5 : Int32), e_X0_together_45_47_L5 σ a2 n x3 x5 = some out → MV l E cX0_together RX0 6 (some .long) 1 (82, (some (.long out)), mkS σ) (mkS σ) 5 [(0, .ref 45), (1, .ref 47), (2, .int a2), (3, .long x3), (5, .int x5)] [] := by
  intro n
  induction n with
  | zero =>
    intro x3 x5 h
    exact nomatch h
  | succ n ih =>
    intro x3 x5 h
    rw [e_X0_together_45_47_L5] at h
    refine mw_iload dX0_together_5 4 rfl ?_
    refine mw_aload_n dX0_together_7 0 rfl ?_
    refine ev_getI fd_RX0_27_7 dX0_together_8 rfl rfl ?_
    refine mw_icmp_ge (tgt := 36) dX0_together_11 (by decide) (fun hc => ?_) (fun hc => ?_)
    · have h := mit hc h
      refine mw_lload_n dX0_together_36 3 rfl ?_
      exact mw_lret dX0_together_37 rfl (ers_l h) rfl rfl
    · have h := mie hc h
      refine mw_iload_n dX0_together_14 2 rfl ?_
      refine mw_iconst (v := 1) dX0_together_15 (by decide) ?_
      refine mw_iload dX0_together_16 4 rfl ?_
      refine mw_ishl dX0_together_18 ?_
      refine mw_iand dX0_together_19 ?_
      refine mw_if_eq (tgt := 30) dX0_together_20 (by decide) (fun hc => ?_) (fun hc => ?_)
      · have h := mit hc h
        refine mw_iinc (v := (x5 + 1)) (L' := [(5, .int (x5 + 1)), (0, .ref 45), (1, .ref 47), (2, .int a2), (3, .long x3)]) dX0_together_30 4 rfl rfl (by decide) rfl ?_
        refine mw_goto (tgt := 5) dX0_together_33 (by decide) ?_
        exact mw_sub (L' := [(0, .ref 45), (1, .ref 47), (2, .int a2), (3, .long x3), (5, .int (x5 + 1))]) [1, 2, 3, 4, 0] rfl (ih _ _ h)
      · have h := mie hc h
        refine mw_lload_n dX0_together_23 3 rfl ?_
        refine mw_aload_n dX0_together_24 1 rfl ?_
        refine mw_iload dX0_together_25 4 rfl ?_
        obtain ⟨m1, h⟩ := mif h
        refine ev_lald dX0_together_27 (by decide) rfl m1 ?_
        refine mw_ladd dX0_together_28 ?_
        refine mw_lstore_n (L' := [(3, .long (x3 + (eL σ 47 x5.toNatClampNeg))), (0, .ref 45), (1, .ref 47), (2, .int a2), (5, .int x5)]) dX0_together_29 rfl (by decide) rfl ?_
        refine mw_iinc (v := (x5 + 1)) (L' := [(5, .int (x5 + 1)), (3, .long (x3 + (eL σ 47 x5.toNatClampNeg))), (0, .ref 45), (1, .ref 47), (2, .int a2)]) dX0_together_30 4 rfl rfl (by decide) rfl ?_
        refine mw_goto (tgt := 5) dX0_together_33 (by decide) ?_
        exact mw_sub (L' := [(0, .ref 45), (1, .ref 47), (2, .int a2), (3, .long (x3 + (eL σ 47 x5.toNatClampNeg))), (5, .int (x5 + 1))]) [2, 3, 4, 1, 0] rfl (ih _ _ h)
def e_X0_together_45_47 (σ : ES) (a2 : Int32) : Option Int64 := e_X0_together_45_47_L5 σ a2 mN (0 : Int64) (0 : Int32)
set_option maxRecDepth 100000 in
set_option maxHeartbeats 4000000 in
theorem k_X0_together_45_47 {l : Launch} {σ : ES} {a2 : Int32} {out : Int64} (h : e_X0_together_45_47 σ a2 = some out) : MK l yX0_together cX0_together 6 (some .long) 1 [.ref 45, .ref 47, .int a2] (mkS σ) (some (.long out)) (mkS σ) := by
  unfold e_X0_together_45_47 at h
  refine mw_entry (own := RX0) (ini := false) (L := [(0, .ref 45), (1, .ref 47), (2, .int a2)]) (by decide +kernel) rfl (fun h => nomatch h) rfl (Nat.le_of_ble_eq_true rfl) (Nat.le_of_ble_eq_true rfl) (fun E => ?_)
  refine mw_lconst (v := 0) dX0_together_0 (by decide) ?_
  refine mw_lstore_n (L' := [(3, .long (0 : Int64)), (0, .ref 45), (1, .ref 47), (2, .int a2)]) dX0_together_1 rfl (by decide) rfl ?_
  refine mw_iconst (v := 0) dX0_together_2 (by decide) ?_
  refine mw_istore (L' := [(5, .int (0 : Int32)), (3, .long (0 : Int64)), (0, .ref 45), (1, .ref 47), (2, .int a2)]) dX0_together_3 (by decide) rfl ?_
  exact mw_sub (L' := [(0, .ref 45), (1, .ref 47), (2, .int a2), (3, .long (0 : Int64)), (5, .int (0 : Int32))]) [2, 3, 4, 1, 0] rfl (p_X0_together_45_47_L5  mN _ _ h)

def e_X0_weigh_45_L3 (a1 : Int64) (a3 : Int64) : Nat → Int32 → ES → Option ES
  | 0, _, _ => none
  | n + 1, x5, σ => if (eI σ 45 4) ≤ x5 then (some σ) else (if mib x5 14 = true then (e_X0_weigh_45_L3 a1 a3 n (x5 + 1) (uL σ 48 x5.toNatClampNeg ((a3 * (eL σ 46 x5.toNatClampNeg)) - (a1 * (eL σ 47 x5.toNatClampNeg))))) else none)
set_option maxRecDepth 100000 in
set_option maxHeartbeats 4000000 in
theorem p_X0_weigh_45_L3 {l : Launch} {E : MX} {out : ES} {a1 : Int64} {a3 : Int64}  : ∀ (n : Nat) (x5 : Int32) (σ : ES), e_X0_weigh_45_L3 a1 a3 n x5 σ = some out → MV l E cX0_weigh RX0 6 none 1 (82, none, mkS out) (mkS σ) 3 [(0, .ref 45), (1, .long a1), (3, .long a3), (5, .int x5)] [] := by
  intro n
  induction n with
  | zero =>
    intro x5 σ h
    exact nomatch h
  | succ n ih =>
    intro x5 σ h
    rw [e_X0_weigh_45_L3] at h
    refine mw_iload dX0_weigh_3 3 rfl ?_
    refine mw_aload_n dX0_weigh_5 0 rfl ?_
    refine ev_getI fd_RX0_27_7 dX0_weigh_6 rfl rfl ?_
    refine mw_icmp_ge (tgt := 44) dX0_weigh_9 (by decide) (fun hc => ?_) (fun hc => ?_)
    · have h := mit hc h
      exact mw_vret dX0_weigh_44 rfl (ers_vm h) rfl rfl
    · have h := mie hc h
      refine mw_aload_n dX0_weigh_12 0 rfl ?_
      refine ev_getR (q := 48) fd_RX0_18_7 dX0_weigh_13 rfl rfl rfl ?_
      refine mw_iload dX0_weigh_16 3 rfl ?_
      refine mw_lload_n dX0_weigh_18 2 rfl ?_
      refine mw_aload_n dX0_weigh_19 0 rfl ?_
      refine ev_getR (q := 46) fd_RX0_9_7 dX0_weigh_20 rfl rfl rfl ?_
      refine mw_iload dX0_weigh_23 3 rfl ?_
      obtain ⟨m1, h⟩ := mif h
      refine ev_lald dX0_weigh_25 (by decide) rfl m1 ?_
      refine mw_lmul dX0_weigh_26 ?_
      refine mw_lload_n dX0_weigh_27 1 rfl ?_
      refine mw_aload_n dX0_weigh_28 0 rfl ?_
      refine ev_getR (q := 47) fd_RX0_15_7 dX0_weigh_29 rfl rfl rfl ?_
      refine mw_iload dX0_weigh_32 3 rfl ?_
      refine ev_lald dX0_weigh_34 (by decide) rfl m1 ?_
      refine mw_lmul dX0_weigh_35 ?_
      refine mw_lsub dX0_weigh_36 ?_
      refine ev_last dX0_weigh_37 (by decide) rfl m1 ?_
      refine mw_iinc (v := (x5 + 1)) (L' := [(5, .int (x5 + 1)), (0, .ref 45), (1, .long a1), (3, .long a3)]) dX0_weigh_38 3 rfl rfl (by decide) rfl ?_
      refine mw_goto (tgt := 3) dX0_weigh_41 (by decide) ?_
      exact mw_sub (L' := [(0, .ref 45), (1, .long a1), (3, .long a3), (5, .int (x5 + 1))]) [1, 2, 3, 0] rfl (ih _ _ h)
def e_X0_weigh_45 (a1 : Int64) (a3 : Int64) (σ : ES) : Option ES := e_X0_weigh_45_L3 a1 a3 mN (0 : Int32) σ
set_option maxRecDepth 100000 in
set_option maxHeartbeats 4000000 in
theorem k_X0_weigh_45 {l : Launch} {σ : ES} {a1 : Int64} {a3 : Int64} {out : ES} (h : e_X0_weigh_45 a1 a3 σ = some out) : MK l yX0_weigh cX0_weigh 6 none 1 [.ref 45, .long a1, .long a3] (mkS σ) none (mkS out) := by
  unfold e_X0_weigh_45 at h
  refine mw_entry (own := RX0) (ini := false) (L := [(0, .ref 45), (1, .long a1), (3, .long a3)]) (by decide +kernel) rfl (fun h => nomatch h) rfl (Nat.le_of_ble_eq_true rfl) (Nat.le_of_ble_eq_true rfl) (fun E => ?_)
  refine mw_iconst (v := 0) dX0_weigh_0 (by decide) ?_
  refine mw_istore (L' := [(5, .int (0 : Int32)), (0, .ref 45), (1, .long a1), (3, .long a3)]) dX0_weigh_1 (by decide) rfl ?_
  exact mw_sub (L' := [(0, .ref 45), (1, .long a1), (3, .long a3), (5, .int (0 : Int32))]) [1, 2, 3, 0] rfl (p_X0_weigh_45_L3  mN _ _ h)

theorem dX8_leave_0 : decode cX8_leave 0 = .ok (.iconst 0, 1) := by decide +kernel
theorem dX8_leave_1 : decode cX8_leave 1 = .ok (.istore_n 2, 1) := by decide +kernel
theorem dX8_leave_2 : decode cX8_leave 2 = .ok (.iload_n 2, 1) := by decide +kernel
theorem dX8_leave_3 : decode cX8_leave 3 = .ok (.aload_n 0, 1) := by decide +kernel
theorem dX8_leave_4 : decode cX8_leave 4 = .ok (.getfield 42, 3) := by decide +kernel
theorem dX8_leave_7 : decode cX8_leave 7 = .ok (.if_icmp .ge 148, 3) := by decide +kernel
theorem dX8_leave_10 : decode cX8_leave 10 = .ok (.aload_n 0, 1) := by decide +kernel
theorem dX8_leave_11 : decode cX8_leave 11 = .ok (.getfield 19, 3) := by decide +kernel
theorem dX8_leave_14 : decode cX8_leave 14 = .ok (.getfield 45, 3) := by decide +kernel
theorem dX8_leave_17 : decode cX8_leave 17 = .ok (.iload_n 2, 1) := by decide +kernel
theorem dX8_leave_18 : decode cX8_leave 18 = .ok (.iaload, 1) := by decide +kernel
theorem dX8_leave_19 : decode cX8_leave 19 = .ok (.istore_n 3, 1) := by decide +kernel
theorem dX8_leave_20 : decode cX8_leave 20 = .ok (.aload_n 0, 1) := by decide +kernel
theorem dX8_leave_21 : decode cX8_leave 21 = .ok (.getfield 19, 3) := by decide +kernel
theorem dX8_leave_24 : decode cX8_leave 24 = .ok (.getfield 50, 3) := by decide +kernel
theorem dX8_leave_27 : decode cX8_leave 27 = .ok (.iload_n 2, 1) := by decide +kernel
theorem dX8_leave_28 : decode cX8_leave 28 = .ok (.iaload, 1) := by decide +kernel
theorem dX8_leave_29 : decode cX8_leave 29 = .ok (.ifCond .ne 120, 3) := by decide +kernel
theorem dX8_leave_32 : decode cX8_leave 32 = .ok (.aload_n 0, 1) := by decide +kernel
theorem dX8_leave_33 : decode cX8_leave 33 = .ok (.getfield 19, 3) := by decide +kernel
theorem dX8_leave_36 : decode cX8_leave 36 = .ok (.getfield 53, 3) := by decide +kernel
theorem dX8_leave_39 : decode cX8_leave 39 = .ok (.iload_n 2, 1) := by decide +kernel
theorem dX8_leave_40 : decode cX8_leave 40 = .ok (.iaload, 1) := by decide +kernel
theorem dX8_leave_41 : decode cX8_leave 41 = .ok (.iload_n 1, 1) := by decide +kernel
theorem dX8_leave_42 : decode cX8_leave 42 = .ok (.if_icmp .ne 107, 3) := by decide +kernel
theorem dX8_leave_45 : decode cX8_leave 45 = .ok (.iload_n 3, 1) := by decide +kernel
theorem dX8_leave_46 : decode cX8_leave 46 = .ok (.iload_n 1, 1) := by decide +kernel
theorem dX8_leave_47 : decode cX8_leave 47 = .ok (.if_icmp .le 102, 3) := by decide +kernel
theorem dX8_leave_50 : decode cX8_leave 50 = .ok (.aload_n 0, 1) := by decide +kernel
theorem dX8_leave_51 : decode cX8_leave 51 = .ok (.getfield 9, 3) := by decide +kernel
theorem dX8_leave_54 : decode cX8_leave 54 = .ok (.iload_n 1, 1) := by decide +kernel
theorem dX8_leave_55 : decode cX8_leave 55 = .ok (.laload, 1) := by decide +kernel
theorem dX8_leave_56 : decode cX8_leave 56 = .ok (.aload_n 0, 1) := by decide +kernel
theorem dX8_leave_57 : decode cX8_leave 57 = .ok (.getfield 56, 3) := by decide +kernel
theorem dX8_leave_60 : decode cX8_leave 60 = .ok (.iload_n 2, 1) := by decide +kernel
theorem dX8_leave_61 : decode cX8_leave 61 = .ok (.laload, 1) := by decide +kernel
theorem dX8_leave_62 : decode cX8_leave 62 = .ok (.ladd, 1) := by decide +kernel
theorem dX8_leave_63 : decode cX8_leave 63 = .ok (.lstore 4, 2) := by decide +kernel
theorem dX8_leave_65 : decode cX8_leave 65 = .ok (.aload_n 0, 1) := by decide +kernel
theorem dX8_leave_66 : decode cX8_leave 66 = .ok (.getfield 15, 3) := by decide +kernel
theorem dX8_leave_69 : decode cX8_leave 69 = .ok (.iload_n 1, 1) := by decide +kernel
theorem dX8_leave_70 : decode cX8_leave 70 = .ok (.iaload, 1) := by decide +kernel
theorem dX8_leave_71 : decode cX8_leave 71 = .ok (.iconst 1, 1) := by decide +kernel
theorem dX8_leave_72 : decode cX8_leave 72 = .ok (.iload_n 2, 1) := by decide +kernel
theorem dX8_leave_73 : decode cX8_leave 73 = .ok (.ishl, 1) := by decide +kernel
theorem dX8_leave_74 : decode cX8_leave 74 = .ok (.ior, 1) := by decide +kernel
theorem dX8_leave_75 : decode cX8_leave 75 = .ok (.istore 6, 2) := by decide +kernel
theorem dX8_leave_77 : decode cX8_leave 77 = .ok (.lload 4, 2) := by decide +kernel
theorem dX8_leave_79 : decode cX8_leave 79 = .ok (.aload_n 0, 1) := by decide +kernel
theorem dX8_leave_80 : decode cX8_leave 80 = .ok (.getfield 9, 3) := by decide +kernel
theorem dX8_leave_83 : decode cX8_leave 83 = .ok (.iload_n 3, 1) := by decide +kernel
theorem dX8_leave_84 : decode cX8_leave 84 = .ok (.laload, 1) := by decide +kernel
theorem dX8_leave_85 : decode cX8_leave 85 = .ok (.lcmp, 1) := by decide +kernel
theorem dX8_leave_86 : decode cX8_leave 86 = .ok (.ifCond .ne 18, 3) := by decide +kernel
theorem dX8_leave_89 : decode cX8_leave 89 = .ok (.iload 6, 2) := by decide +kernel
theorem dX8_leave_91 : decode cX8_leave 91 = .ok (.aload_n 0, 1) := by decide +kernel
theorem dX8_leave_92 : decode cX8_leave 92 = .ok (.getfield 15, 3) := by decide +kernel
theorem dX8_leave_95 : decode cX8_leave 95 = .ok (.iload_n 3, 1) := by decide +kernel
theorem dX8_leave_96 : decode cX8_leave 96 = .ok (.iaload, 1) := by decide +kernel
theorem dX8_leave_97 : decode cX8_leave 97 = .ok (.if_icmp .ge 7, 3) := by decide +kernel
theorem dX8_leave_100 : decode cX8_leave 100 = .ok (.iconst 1, 1) := by decide +kernel
theorem dX8_leave_101 : decode cX8_leave 101 = .ok (.goto 4, 3) := by decide +kernel
theorem dX8_leave_104 : decode cX8_leave 104 = .ok (.iconst 0, 1) := by decide +kernel
theorem dX8_leave_105 : decode cX8_leave 105 = .ok (.istore 7, 2) := by decide +kernel
theorem dX8_leave_107 : decode cX8_leave 107 = .ok (.aload_n 0, 1) := by decide +kernel
theorem dX8_leave_108 : decode cX8_leave 108 = .ok (.getfield 15, 3) := by decide +kernel
theorem dX8_leave_111 : decode cX8_leave 111 = .ok (.iload_n 3, 1) := by decide +kernel
theorem dX8_leave_112 : decode cX8_leave 112 = .ok (.iaload, 1) := by decide +kernel
theorem dX8_leave_113 : decode cX8_leave 113 = .ok (.ifCond .eq 20, 3) := by decide +kernel
theorem dX8_leave_116 : decode cX8_leave 116 = .ok (.lload 4, 2) := by decide +kernel
theorem dX8_leave_118 : decode cX8_leave 118 = .ok (.aload_n 0, 1) := by decide +kernel
theorem dX8_leave_119 : decode cX8_leave 119 = .ok (.getfield 9, 3) := by decide +kernel
theorem dX8_leave_122 : decode cX8_leave 122 = .ok (.iload_n 3, 1) := by decide +kernel
theorem dX8_leave_123 : decode cX8_leave 123 = .ok (.laload, 1) := by decide +kernel
theorem dX8_leave_124 : decode cX8_leave 124 = .ok (.lcmp, 1) := by decide +kernel
theorem dX8_leave_125 : decode cX8_leave 125 = .ok (.ifCond .gt 8, 3) := by decide +kernel
theorem dX8_leave_128 : decode cX8_leave 128 = .ok (.iload 7, 2) := by decide +kernel
theorem dX8_leave_130 : decode cX8_leave 130 = .ok (.ifCond .eq 19, 3) := by decide +kernel
theorem dX8_leave_133 : decode cX8_leave 133 = .ok (.aload_n 0, 1) := by decide +kernel
theorem dX8_leave_134 : decode cX8_leave 134 = .ok (.getfield 9, 3) := by decide +kernel
theorem dX8_leave_137 : decode cX8_leave 137 = .ok (.iload_n 3, 1) := by decide +kernel
theorem dX8_leave_138 : decode cX8_leave 138 = .ok (.lload 4, 2) := by decide +kernel
theorem dX8_leave_140 : decode cX8_leave 140 = .ok (.lastore, 1) := by decide +kernel
theorem dX8_leave_141 : decode cX8_leave 141 = .ok (.aload_n 0, 1) := by decide +kernel
theorem dX8_leave_142 : decode cX8_leave 142 = .ok (.getfield 15, 3) := by decide +kernel
theorem dX8_leave_145 : decode cX8_leave 145 = .ok (.iload_n 3, 1) := by decide +kernel
theorem dX8_leave_146 : decode cX8_leave 146 = .ok (.iload 6, 2) := by decide +kernel
theorem dX8_leave_148 : decode cX8_leave 148 = .ok (.iastore, 1) := by decide +kernel
theorem dX8_leave_149 : decode cX8_leave 149 = .ok (.iinc 2 1, 3) := by decide +kernel
theorem dX8_leave_152 : decode cX8_leave 152 = .ok (.goto (-150), 3) := by decide +kernel
theorem dX8_leave_155 : decode cX8_leave 155 = .ok (.return_, 1) := by decide +kernel
def e_X8_leave_J133 (a1 : Int32) (k2 : Int32 → ES → Option ES) (x2 : Int32) (x3 : Int32) (x4 : Int64) (x6 : Int32) (σ : ES) : Option ES := if mib x3 6 = true then (k2 (x2 + 1) (uI (uL σ 49 x3.toNatClampNeg x4) 50 x3.toNatClampNeg x6)) else none
set_option maxRecDepth 100000 in
set_option maxHeartbeats 4000000 in
theorem p_X8_leave_J133 {l : Launch} {E : MX} {out : ES} {a1 : Int32} {k2 : Int32 → ES → Option ES} (hk2 : ∀ (z0 : Int32) (τ : ES), k2 z0 τ = some out → MV l E cX8_leave RX8 8 none 1 (82, none, mkS out) (mkS τ) 2 [(0, .ref 45), (1, .int a1), (2, .int z0)] []) {x2 : Int32} {x3 : Int32} {x4 : Int64} {x6 : Int32} {σ : ES} (h : e_X8_leave_J133 a1 k2 x2 x3 x4 x6 σ = some out) : MV l E cX8_leave RX8 8 none 1 (82, none, mkS out) (mkS σ) 133 [(0, .ref 45), (1, .int a1), (2, .int x2), (3, .int x3), (4, .long x4), (6, .int x6)] [] := by
  unfold e_X8_leave_J133 at h
  refine mw_aload_n dX8_leave_133 0 rfl ?_
  refine ev_getR (q := 49) fd_RX8_9_7 dX8_leave_134 rfl rfl rfl ?_
  refine mw_iload_n dX8_leave_137 3 rfl ?_
  refine mw_lload dX8_leave_138 4 rfl ?_
  obtain ⟨m1, h⟩ := mif h
  refine ev_last dX8_leave_140 (by decide) rfl m1 ?_
  refine mw_aload_n dX8_leave_141 0 rfl ?_
  refine ev_getR (q := 50) fd_RX8_15_7 dX8_leave_142 rfl rfl rfl ?_
  refine mw_iload_n dX8_leave_145 3 rfl ?_
  refine mw_iload dX8_leave_146 5 rfl ?_
  refine ev_iast dX8_leave_148 (by decide) rfl m1 ?_
  refine mw_iinc (v := (x2 + 1)) (L' := [(2, .int (x2 + 1)), (0, .ref 45), (1, .int a1), (3, .int x3), (4, .long x4), (6, .int x6)]) dX8_leave_149 2 rfl rfl (by decide) rfl ?_
  refine mw_goto (tgt := 2) dX8_leave_152 (by decide) ?_
  exact mw_sub (L' := [(0, .ref 45), (1, .int a1), (2, .int (x2 + 1))]) [1, 2, 0] rfl (hk2 _ _ h)
def e_X8_leave_J105 (a1 : Int32) (k2 : Int32 → ES → Option ES) (x2 : Int32) (x3 : Int32) (x4 : Int64) (x6 : Int32) (s0 : Int32) (σ : ES) : Option ES := if mib x3 6 = true then (if (eI σ 50 x3.toNatClampNeg) = 0 then (e_X8_leave_J133 a1 k2 x2 x3 x4 x6 σ) else (if (eL σ 49 x3.toNatClampNeg) < x4 then (e_X8_leave_J133 a1 k2 x2 x3 x4 x6 σ) else (if s0 = 0 then (k2 (x2 + 1) σ) else (e_X8_leave_J133 a1 k2 x2 x3 x4 x6 σ)))) else none
set_option maxRecDepth 100000 in
set_option maxHeartbeats 4000000 in
theorem p_X8_leave_J105 {l : Launch} {E : MX} {out : ES} {a1 : Int32} {k2 : Int32 → ES → Option ES} (hk2 : ∀ (z0 : Int32) (τ : ES), k2 z0 τ = some out → MV l E cX8_leave RX8 8 none 1 (82, none, mkS out) (mkS τ) 2 [(0, .ref 45), (1, .int a1), (2, .int z0)] []) {x2 : Int32} {x3 : Int32} {x4 : Int64} {x6 : Int32} {s0 : Int32} {σ : ES} (h : e_X8_leave_J105 a1 k2 x2 x3 x4 x6 s0 σ = some out) : MV l E cX8_leave RX8 8 none 1 (82, none, mkS out) (mkS σ) 105 [(0, .ref 45), (1, .int a1), (2, .int x2), (3, .int x3), (4, .long x4), (6, .int x6)] [.int s0] := by
  unfold e_X8_leave_J105 at h
  refine mw_istore (L' := [(7, .int s0), (0, .ref 45), (1, .int a1), (2, .int x2), (3, .int x3), (4, .long x4), (6, .int x6)]) dX8_leave_105 (by decide) rfl ?_
  refine mw_aload_n dX8_leave_107 1 rfl ?_
  refine ev_getR (q := 50) fd_RX8_15_7 dX8_leave_108 rfl rfl rfl ?_
  refine mw_iload_n dX8_leave_111 4 rfl ?_
  obtain ⟨m1, h⟩ := mif h
  refine ev_iald dX8_leave_112 (by decide) rfl m1 ?_
  refine mw_if_eq (tgt := 133) dX8_leave_113 (by decide) (fun hc => ?_) (fun hc => ?_)
  · have h := mit hc h
    exact mw_sub (L' := [(0, .ref 45), (1, .int a1), (2, .int x2), (3, .int x3), (4, .long x4), (6, .int x6)]) [1, 2, 3, 4, 5, 6] rfl (p_X8_leave_J133 hk2 h)
  · have h := mie hc h
    refine mw_lload dX8_leave_116 5 rfl ?_
    refine mw_aload_n dX8_leave_118 1 rfl ?_
    refine ev_getR (q := 49) fd_RX8_9_7 dX8_leave_119 rfl rfl rfl ?_
    refine mw_iload_n dX8_leave_122 4 rfl ?_
    refine ev_lald dX8_leave_123 (by decide) rfl m1 ?_
    refine mw_lc_gt (tgt := 133) dX8_leave_124 dX8_leave_125 (by decide) (fun hc => ?_) (fun hc => ?_)
    · have h := mit hc h
      exact mw_sub (L' := [(0, .ref 45), (1, .int a1), (2, .int x2), (3, .int x3), (4, .long x4), (6, .int x6)]) [1, 2, 3, 4, 5, 6] rfl (p_X8_leave_J133 hk2 h)
    · have h := mie hc h
      refine mw_iload dX8_leave_128 0 rfl ?_
      refine mw_if_eq (tgt := 149) dX8_leave_130 (by decide) (fun hc => ?_) (fun hc => ?_)
      · have h := mit hc h
        refine mw_iinc (v := (x2 + 1)) (L' := [(2, .int (x2 + 1)), (7, .int s0), (0, .ref 45), (1, .int a1), (3, .int x3), (4, .long x4), (6, .int x6)]) dX8_leave_149 3 rfl rfl (by decide) rfl ?_
        refine mw_goto (tgt := 2) dX8_leave_152 (by decide) ?_
        exact mw_sub (L' := [(0, .ref 45), (1, .int a1), (2, .int (x2 + 1))]) [2, 3, 0] rfl (hk2 _ _ h)
      · have h := mie hc h
        exact mw_sub (L' := [(0, .ref 45), (1, .int a1), (2, .int x2), (3, .int x3), (4, .long x4), (6, .int x6)]) [1, 2, 3, 4, 5, 6] rfl (p_X8_leave_J133 hk2 h)
def e_X8_leave_J104 (a1 : Int32) (k2 : Int32 → ES → Option ES) (x2 : Int32) (x3 : Int32) (x4 : Int64) (x6 : Int32) (σ : ES) : Option ES := e_X8_leave_J105 a1 k2 x2 x3 x4 x6 (0 : Int32) σ
set_option maxRecDepth 100000 in
set_option maxHeartbeats 4000000 in
theorem p_X8_leave_J104 {l : Launch} {E : MX} {out : ES} {a1 : Int32} {k2 : Int32 → ES → Option ES} (hk2 : ∀ (z0 : Int32) (τ : ES), k2 z0 τ = some out → MV l E cX8_leave RX8 8 none 1 (82, none, mkS out) (mkS τ) 2 [(0, .ref 45), (1, .int a1), (2, .int z0)] []) {x2 : Int32} {x3 : Int32} {x4 : Int64} {x6 : Int32} {σ : ES} (h : e_X8_leave_J104 a1 k2 x2 x3 x4 x6 σ = some out) : MV l E cX8_leave RX8 8 none 1 (82, none, mkS out) (mkS σ) 104 [(0, .ref 45), (1, .int a1), (2, .int x2), (3, .int x3), (4, .long x4), (6, .int x6)] [] := by
  unfold e_X8_leave_J104 at h
  refine mw_iconst (v := 0) dX8_leave_104 (by decide) ?_
  exact mw_sub (L' := [(0, .ref 45), (1, .int a1), (2, .int x2), (3, .int x3), (4, .long x4), (6, .int x6)]) [0, 1, 2, 3, 4, 5] rfl (p_X8_leave_J105 hk2 h)
def e_X8_leave_L2 (a1 : Int32) : Nat → Int32 → ES → Option ES
  | 0, _, _ => none
  | n + 1, x2, σ => if (eI σ 45 4) ≤ x2 then (some σ) else (if eT σ 1 = some 1 then (if mib x2 14 = true then (if (eI σ 7 x2.toNatClampNeg) = 0 then (if (eI σ 3 x2.toNatClampNeg) = a1 then (if (eI σ 4 x2.toNatClampNeg) ≤ a1 then (e_X8_leave_L2 a1 n (x2 + 1) σ) else (if mib a1 6 = true then (if mib (eI σ 4 x2.toNatClampNeg) 6 = true then (if ((eL σ 49 a1.toNatClampNeg) + (eL σ 48 x2.toNatClampNeg)) = (eL σ 49 (eI σ 4 x2.toNatClampNeg).toNatClampNeg) then (if (eI σ 50 (eI σ 4 x2.toNatClampNeg).toNatClampNeg) ≤ ((eI σ 50 a1.toNatClampNeg) ||| ((1 : Int32) <<< (x2 &&& 31))) then (e_X8_leave_J104 a1 (e_X8_leave_L2 a1 n) x2 (eI σ 4 x2.toNatClampNeg) ((eL σ 49 a1.toNatClampNeg) + (eL σ 48 x2.toNatClampNeg)) ((eI σ 50 a1.toNatClampNeg) ||| ((1 : Int32) <<< (x2 &&& 31))) σ) else (e_X8_leave_J105 a1 (e_X8_leave_L2 a1 n) x2 (eI σ 4 x2.toNatClampNeg) ((eL σ 49 a1.toNatClampNeg) + (eL σ 48 x2.toNatClampNeg)) ((eI σ 50 a1.toNatClampNeg) ||| ((1 : Int32) <<< (x2 &&& 31))) (1 : Int32) σ)) else (e_X8_leave_J104 a1 (e_X8_leave_L2 a1 n) x2 (eI σ 4 x2.toNatClampNeg) ((eL σ 49 a1.toNatClampNeg) + (eL σ 48 x2.toNatClampNeg)) ((eI σ 50 a1.toNatClampNeg) ||| ((1 : Int32) <<< (x2 &&& 31))) σ)) else none) else none)) else (e_X8_leave_L2 a1 n (x2 + 1) σ)) else (e_X8_leave_L2 a1 n (x2 + 1) σ)) else none) else none)
set_option maxRecDepth 100000 in
set_option maxHeartbeats 4000000 in
theorem p_X8_leave_L2 {l : Launch} {E : MX} {out : ES} {a1 : Int32}  : ∀ (n : Nat) (x2 : Int32) (σ : ES), e_X8_leave_L2 a1 n x2 σ = some out → MV l E cX8_leave RX8 8 none 1 (82, none, mkS out) (mkS σ) 2 [(0, .ref 45), (1, .int a1), (2, .int x2)] [] := by
  intro n
  induction n with
  | zero =>
    intro x2 σ h
    exact nomatch h
  | succ n ih =>
    intro x2 σ h
    rw [e_X8_leave_L2] at h
    refine mw_iload_n dX8_leave_2 2 rfl ?_
    refine mw_aload_n dX8_leave_3 0 rfl ?_
    refine ev_getI fd_RX8_42_7 dX8_leave_4 rfl rfl ?_
    refine mw_icmp_ge (tgt := 155) dX8_leave_7 (by decide) (fun hc => ?_) (fun hc => ?_)
    · have h := mit hc h
      exact mw_vret dX8_leave_155 rfl (ers_vm h) rfl rfl
    · have h := mie hc h
      refine mw_aload_n dX8_leave_10 0 rfl ?_
      obtain ⟨m1, h⟩ := mif h
      refine ev_getR fd_RX8_19_7 dX8_leave_11 rfl rfl m1 ?_
      refine ev_getR (q := 4) fd_RX8_45_0 dX8_leave_14 rfl rfl rfl ?_
      refine mw_iload_n dX8_leave_17 2 rfl ?_
      obtain ⟨m2, h⟩ := mif h
      refine ev_iald dX8_leave_18 (by decide) rfl m2 ?_
      refine mw_istore_n (L' := [(3, .int (eI σ 4 x2.toNatClampNeg)), (0, .ref 45), (1, .int a1), (2, .int x2)]) dX8_leave_19 rfl (by decide) rfl ?_
      refine mw_aload_n dX8_leave_20 1 rfl ?_
      refine ev_getR fd_RX8_19_7 dX8_leave_21 rfl rfl m1 ?_
      refine ev_getR (q := 7) fd_RX8_50_0 dX8_leave_24 rfl rfl rfl ?_
      refine mw_iload_n dX8_leave_27 3 rfl ?_
      refine ev_iald dX8_leave_28 (by decide) rfl m2 ?_
      refine mw_if_ne (tgt := 149) dX8_leave_29 (by decide) (fun hc => ?_) (fun hc => ?_)
      · have h := mie hc h
        refine mw_iinc (v := (x2 + 1)) (L' := [(2, .int (x2 + 1)), (3, .int (eI σ 4 x2.toNatClampNeg)), (0, .ref 45), (1, .int a1)]) dX8_leave_149 3 rfl rfl (by decide) rfl ?_
        refine mw_goto (tgt := 2) dX8_leave_152 (by decide) ?_
        exact mw_sub (L' := [(0, .ref 45), (1, .int a1), (2, .int (x2 + 1))]) [2, 3, 0] rfl (ih _ _ h)
      · have h := mit hc h
        refine mw_aload_n dX8_leave_32 1 rfl ?_
        refine ev_getR fd_RX8_19_7 dX8_leave_33 rfl rfl m1 ?_
        refine ev_getR (q := 3) fd_RX8_53_0 dX8_leave_36 rfl rfl rfl ?_
        refine mw_iload_n dX8_leave_39 3 rfl ?_
        refine ev_iald dX8_leave_40 (by decide) rfl m2 ?_
        refine mw_iload_n dX8_leave_41 2 rfl ?_
        refine mw_icmp_ne (tgt := 149) dX8_leave_42 (by decide) (fun hc => ?_) (fun hc => ?_)
        · have h := mie hc h
          refine mw_iinc (v := (x2 + 1)) (L' := [(2, .int (x2 + 1)), (3, .int (eI σ 4 x2.toNatClampNeg)), (0, .ref 45), (1, .int a1)]) dX8_leave_149 3 rfl rfl (by decide) rfl ?_
          refine mw_goto (tgt := 2) dX8_leave_152 (by decide) ?_
          exact mw_sub (L' := [(0, .ref 45), (1, .int a1), (2, .int (x2 + 1))]) [2, 3, 0] rfl (ih _ _ h)
        · have h := mit hc h
          refine mw_iload_n dX8_leave_45 0 rfl ?_
          refine mw_iload_n dX8_leave_46 2 rfl ?_
          refine mw_icmp_le (tgt := 149) dX8_leave_47 (by decide) (fun hc => ?_) (fun hc => ?_)
          · have h := mit hc h
            refine mw_iinc (v := (x2 + 1)) (L' := [(2, .int (x2 + 1)), (3, .int (eI σ 4 x2.toNatClampNeg)), (0, .ref 45), (1, .int a1)]) dX8_leave_149 3 rfl rfl (by decide) rfl ?_
            refine mw_goto (tgt := 2) dX8_leave_152 (by decide) ?_
            exact mw_sub (L' := [(0, .ref 45), (1, .int a1), (2, .int (x2 + 1))]) [2, 3, 0] rfl (ih _ _ h)
          · have h := mie hc h
            refine mw_aload_n dX8_leave_50 1 rfl ?_
            refine ev_getR (q := 49) fd_RX8_9_7 dX8_leave_51 rfl rfl rfl ?_
            refine mw_iload_n dX8_leave_54 2 rfl ?_
            obtain ⟨m3, h⟩ := mif h
            refine ev_lald dX8_leave_55 (by decide) rfl m3 ?_
            refine mw_aload_n dX8_leave_56 1 rfl ?_
            refine ev_getR (q := 48) fd_RX8_56_7 dX8_leave_57 rfl rfl rfl ?_
            refine mw_iload_n dX8_leave_60 3 rfl ?_
            refine ev_lald dX8_leave_61 (by decide) rfl m2 ?_
            refine mw_ladd dX8_leave_62 ?_
            refine mw_lstore (L' := [(4, .long ((eL σ 49 a1.toNatClampNeg) + (eL σ 48 x2.toNatClampNeg))), (3, .int (eI σ 4 x2.toNatClampNeg)), (0, .ref 45), (1, .int a1), (2, .int x2)]) dX8_leave_63 (by decide) rfl ?_
            refine mw_aload_n dX8_leave_65 2 rfl ?_
            refine ev_getR (q := 50) fd_RX8_15_7 dX8_leave_66 rfl rfl rfl ?_
            refine mw_iload_n dX8_leave_69 3 rfl ?_
            refine ev_iald dX8_leave_70 (by decide) rfl m3 ?_
            refine mw_iconst (v := 1) dX8_leave_71 (by decide) ?_
            refine mw_iload_n dX8_leave_72 4 rfl ?_
            refine mw_ishl dX8_leave_73 ?_
            refine mw_ior dX8_leave_74 ?_
            refine mw_istore (L' := [(6, .int ((eI σ 50 a1.toNatClampNeg) ||| ((1 : Int32) <<< (x2 &&& 31)))), (4, .long ((eL σ 49 a1.toNatClampNeg) + (eL σ 48 x2.toNatClampNeg))), (3, .int (eI σ 4 x2.toNatClampNeg)), (0, .ref 45), (1, .int a1), (2, .int x2)]) dX8_leave_75 (by decide) rfl ?_
            refine mw_lload dX8_leave_77 1 rfl ?_
            refine mw_aload_n dX8_leave_79 3 rfl ?_
            refine ev_getR (q := 49) fd_RX8_9_7 dX8_leave_80 rfl rfl rfl ?_
            refine mw_iload_n dX8_leave_83 2 rfl ?_
            obtain ⟨m4, h⟩ := mif h
            refine ev_lald dX8_leave_84 (by decide) rfl m4 ?_
            refine mw_lc_ne (tgt := 104) dX8_leave_85 dX8_leave_86 (by decide) (fun hc => ?_) (fun hc => ?_)
            · have h := mie hc h
              exact mw_sub (L' := [(0, .ref 45), (1, .int a1), (2, .int x2), (3, .int (eI σ 4 x2.toNatClampNeg)), (4, .long ((eL σ 49 a1.toNatClampNeg) + (eL σ 48 x2.toNatClampNeg))), (6, .int ((eI σ 50 a1.toNatClampNeg) ||| ((1 : Int32) <<< (x2 &&& 31))))]) [3, 4, 5, 2, 1, 0] rfl (p_X8_leave_J104 ih h)
            · have h := mit hc h
              refine mw_iload dX8_leave_89 0 rfl ?_
              refine mw_aload_n dX8_leave_91 3 rfl ?_
              refine ev_getR (q := 50) fd_RX8_15_7 dX8_leave_92 rfl rfl rfl ?_
              refine mw_iload_n dX8_leave_95 2 rfl ?_
              refine ev_iald dX8_leave_96 (by decide) rfl m4 ?_
              refine mw_icmp_ge (tgt := 104) dX8_leave_97 (by decide) (fun hc => ?_) (fun hc => ?_)
              · have h := mit hc h
                exact mw_sub (L' := [(0, .ref 45), (1, .int a1), (2, .int x2), (3, .int (eI σ 4 x2.toNatClampNeg)), (4, .long ((eL σ 49 a1.toNatClampNeg) + (eL σ 48 x2.toNatClampNeg))), (6, .int ((eI σ 50 a1.toNatClampNeg) ||| ((1 : Int32) <<< (x2 &&& 31))))]) [3, 4, 5, 2, 1, 0] rfl (p_X8_leave_J104 ih h)
              · have h := mie hc h
                refine mw_iconst (v := 1) dX8_leave_100 (by decide) ?_
                refine mw_goto (tgt := 105) dX8_leave_101 (by decide) ?_
                exact mw_sub (L' := [(0, .ref 45), (1, .int a1), (2, .int x2), (3, .int (eI σ 4 x2.toNatClampNeg)), (4, .long ((eL σ 49 a1.toNatClampNeg) + (eL σ 48 x2.toNatClampNeg))), (6, .int ((eI σ 50 a1.toNatClampNeg) ||| ((1 : Int32) <<< (x2 &&& 31))))]) [3, 4, 5, 2, 1, 0] rfl (p_X8_leave_J105 ih h)
def e_X8_leave (a1 : Int32) (σ : ES) : Option ES := e_X8_leave_L2 a1 mN (0 : Int32) σ
set_option maxRecDepth 100000 in
set_option maxHeartbeats 4000000 in
theorem k_X8_leave {l : Launch} {σ : ES} {a1 : Int32} {out : ES} (h : e_X8_leave a1 σ = some out) : MK l yX8_leave cX8_leave 8 none 1 [.ref 45, .int a1] (mkS σ) none (mkS out) := by
  unfold e_X8_leave at h
  refine mw_entry (own := RX8) (ini := false) (L := [(0, .ref 45), (1, .int a1)]) (by decide +kernel) rfl (fun h => nomatch h) rfl (Nat.le_of_ble_eq_true rfl) (Nat.le_of_ble_eq_true rfl) (fun E => ?_)
  refine mw_iconst (v := 0) dX8_leave_0 (by decide) ?_
  refine mw_istore_n (L' := [(2, .int (0 : Int32)), (0, .ref 45), (1, .int a1)]) dX8_leave_1 rfl (by decide) rfl ?_
  exact mw_sub (L' := [(0, .ref 45), (1, .int a1), (2, .int (0 : Int32))]) [1, 2, 0] rfl (p_X8_leave_L2  mN _ _ h)

theorem dX8_pick_0 : decode cX8_pick 0 = .ok (.iconst 0, 1) := by decide +kernel
theorem dX8_pick_1 : decode cX8_pick 1 = .ok (.istore_n 1, 1) := by decide +kernel
theorem dX8_pick_2 : decode cX8_pick 2 = .ok (.iload_n 1, 1) := by decide +kernel
theorem dX8_pick_3 : decode cX8_pick 3 = .ok (.bipush 6, 2) := by decide +kernel
theorem dX8_pick_5 : decode cX8_pick 5 = .ok (.if_icmp .ge 23, 3) := by decide +kernel
theorem dX8_pick_8 : decode cX8_pick 8 = .ok (.aload_n 0, 1) := by decide +kernel
theorem dX8_pick_9 : decode cX8_pick 9 = .ok (.getfield 9, 3) := by decide +kernel
theorem dX8_pick_12 : decode cX8_pick 12 = .ok (.iload_n 1, 1) := by decide +kernel
theorem dX8_pick_13 : decode cX8_pick 13 = .ok (.lconst 0, 1) := by decide +kernel
theorem dX8_pick_14 : decode cX8_pick 14 = .ok (.lastore, 1) := by decide +kernel
theorem dX8_pick_15 : decode cX8_pick 15 = .ok (.aload_n 0, 1) := by decide +kernel
theorem dX8_pick_16 : decode cX8_pick 16 = .ok (.getfield 15, 3) := by decide +kernel
theorem dX8_pick_19 : decode cX8_pick 19 = .ok (.iload_n 1, 1) := by decide +kernel
theorem dX8_pick_20 : decode cX8_pick 20 = .ok (.iconst 0, 1) := by decide +kernel
theorem dX8_pick_21 : decode cX8_pick 21 = .ok (.iastore, 1) := by decide +kernel
theorem dX8_pick_22 : decode cX8_pick 22 = .ok (.iinc 1 1, 3) := by decide +kernel
theorem dX8_pick_25 : decode cX8_pick 25 = .ok (.goto (-23), 3) := by decide +kernel
theorem dX8_pick_28 : decode cX8_pick 28 = .ok (.aload_n 0, 1) := by decide +kernel
theorem dX8_pick_29 : decode cX8_pick 29 = .ok (.getfield 23, 3) := by decide +kernel
theorem dX8_pick_32 : decode cX8_pick 32 = .ok (.istore_n 1, 1) := by decide +kernel
theorem dX8_pick_33 : decode cX8_pick 33 = .ok (.iload_n 1, 1) := by decide +kernel
theorem dX8_pick_34 : decode cX8_pick 34 = .ok (.aload_n 0, 1) := by decide +kernel
theorem dX8_pick_35 : decode cX8_pick 35 = .ok (.getfield 27, 3) := by decide +kernel
theorem dX8_pick_38 : decode cX8_pick 38 = .ok (.if_icmp .ge 31, 3) := by decide +kernel
theorem dX8_pick_41 : decode cX8_pick 41 = .ok (.iload_n 1, 1) := by decide +kernel
theorem dX8_pick_42 : decode cX8_pick 42 = .ok (.aload_n 0, 1) := by decide +kernel
theorem dX8_pick_43 : decode cX8_pick 43 = .ok (.getfield 23, 3) := by decide +kernel
theorem dX8_pick_46 : decode cX8_pick 46 = .ok (.if_icmp .eq 12, 3) := by decide +kernel
theorem dX8_pick_49 : decode cX8_pick 49 = .ok (.aload_n 0, 1) := by decide +kernel
theorem dX8_pick_50 : decode cX8_pick 50 = .ok (.getfield 15, 3) := by decide +kernel
theorem dX8_pick_53 : decode cX8_pick 53 = .ok (.iload_n 1, 1) := by decide +kernel
theorem dX8_pick_54 : decode cX8_pick 54 = .ok (.iaload, 1) := by decide +kernel
theorem dX8_pick_55 : decode cX8_pick 55 = .ok (.ifCond .eq 8, 3) := by decide +kernel
theorem dX8_pick_58 : decode cX8_pick 58 = .ok (.aload_n 0, 1) := by decide +kernel
theorem dX8_pick_59 : decode cX8_pick 59 = .ok (.iload_n 1, 1) := by decide +kernel
theorem dX8_pick_60 : decode cX8_pick 60 = .ok (.invokevirtual 38, 3) := by decide +kernel
theorem dX8_pick_63 : decode cX8_pick 63 = .ok (.iinc 1 1, 3) := by decide +kernel
theorem dX8_pick_66 : decode cX8_pick 66 = .ok (.goto (-33), 3) := by decide +kernel
theorem dX8_pick_69 : decode cX8_pick 69 = .ok (.aload_n 0, 1) := by decide +kernel
theorem dX8_pick_70 : decode cX8_pick 70 = .ok (.getfield 15, 3) := by decide +kernel
theorem dX8_pick_73 : decode cX8_pick 73 = .ok (.aload_n 0, 1) := by decide +kernel
theorem dX8_pick_74 : decode cX8_pick 74 = .ok (.getfield 27, 3) := by decide +kernel
theorem dX8_pick_77 : decode cX8_pick 77 = .ok (.iaload, 1) := by decide +kernel
theorem dX8_pick_78 : decode cX8_pick 78 = .ok (.ireturn, 1) := by decide +kernel
def e_X8_pick_L33  : Nat → Int32 → ES → Option (Int32 × ES)
  | 0, _, _ => none
  | n + 1, x1, σ => if (eI σ 45 14) ≤ x1 then (if mib (eI σ 45 14) 6 = true then (some ((eI σ 50 (eI σ 45 14).toNatClampNeg), σ)) else none) else (if x1 = (eI σ 45 13) then ((e_X8_leave x1 σ).bind (fun r2 => e_X8_pick_L33 n (x1 + 1) r2)) else (if mib x1 6 = true then (if (eI σ 50 x1.toNatClampNeg) = 0 then (e_X8_pick_L33 n (x1 + 1) σ) else ((e_X8_leave x1 σ).bind (fun r5 => e_X8_pick_L33 n (x1 + 1) r5))) else none))
set_option maxRecDepth 100000 in
set_option maxHeartbeats 4000000 in
theorem p_X8_pick_L33 {l : Launch} {E : MX} {out : (Int32 × ES)}   : ∀ (n : Nat) (x1 : Int32) (σ : ES), e_X8_pick_L33 n x1 σ = some out → MV l E cX8_pick RX8 2 (some .int) 2 (82, (some (.int out.1)), mkS out.2) (mkS σ) 33 [(0, .ref 45), (1, .int x1)] [] := by
  intro n
  induction n with
  | zero =>
    intro x1 σ h
    exact nomatch h
  | succ n ih =>
    intro x1 σ h
    rw [e_X8_pick_L33] at h
    refine mw_iload_n dX8_pick_33 1 rfl ?_
    refine mw_aload_n dX8_pick_34 0 rfl ?_
    refine ev_getI fd_RX8_27_7 dX8_pick_35 rfl rfl ?_
    refine mw_icmp_ge (tgt := 69) dX8_pick_38 (by decide) (fun hc => ?_) (fun hc => ?_)
    · have h := mit hc h
      refine mw_aload_n dX8_pick_69 0 rfl ?_
      refine ev_getR (q := 50) fd_RX8_15_7 dX8_pick_70 rfl rfl rfl ?_
      refine mw_aload_n dX8_pick_73 0 rfl ?_
      refine ev_getI fd_RX8_27_7 dX8_pick_74 rfl rfl ?_
      obtain ⟨m1, h⟩ := mif h
      refine ev_iald dX8_pick_77 (by decide) rfl m1 ?_
      exact mw_iret dX8_pick_78 rfl (ers_im h) rfl rfl
    · have h := mie hc h
      refine mw_iload_n dX8_pick_41 1 rfl ?_
      refine mw_aload_n dX8_pick_42 0 rfl ?_
      refine ev_getI fd_RX8_23_7 dX8_pick_43 rfl rfl ?_
      refine mw_icmp_eq (tgt := 58) dX8_pick_46 (by decide) (fun hc => ?_) (fun hc => ?_)
      · have h := mit hc h
        refine mw_aload_n dX8_pick_58 0 rfl ?_
        refine mw_iload_n dX8_pick_59 1 rfl ?_
        obtain ⟨r2, e3, h⟩ := mbd h
        refine mv_callV_v (As := [.int x1]) (ci := 7) lkV_RX8_38_yX8_leave dX8_pick_60 (k_X8_leave e3) rfl rfl rfl rfl (Nat.le_of_ble_eq_true rfl) (by decide) (by decide) ?_
        refine mw_iinc (v := (x1 + 1)) (L' := [(1, .int (x1 + 1)), (0, .ref 45)]) dX8_pick_63 1 rfl rfl (by decide) rfl ?_
        refine mw_goto (tgt := 33) dX8_pick_66 (by decide) ?_
        exact mw_sub (L' := [(0, .ref 45), (1, .int (x1 + 1))]) [1, 0] rfl (ih _ _ h)
      · have h := mie hc h
        refine mw_aload_n dX8_pick_49 0 rfl ?_
        refine ev_getR (q := 50) fd_RX8_15_7 dX8_pick_50 rfl rfl rfl ?_
        refine mw_iload_n dX8_pick_53 1 rfl ?_
        obtain ⟨m4, h⟩ := mif h
        refine ev_iald dX8_pick_54 (by decide) rfl m4 ?_
        refine mw_if_eq (tgt := 63) dX8_pick_55 (by decide) (fun hc => ?_) (fun hc => ?_)
        · have h := mit hc h
          refine mw_iinc (v := (x1 + 1)) (L' := [(1, .int (x1 + 1)), (0, .ref 45)]) dX8_pick_63 1 rfl rfl (by decide) rfl ?_
          refine mw_goto (tgt := 33) dX8_pick_66 (by decide) ?_
          exact mw_sub (L' := [(0, .ref 45), (1, .int (x1 + 1))]) [1, 0] rfl (ih _ _ h)
        · have h := mie hc h
          refine mw_aload_n dX8_pick_58 0 rfl ?_
          refine mw_iload_n dX8_pick_59 1 rfl ?_
          obtain ⟨r5, e6, h⟩ := mbd h
          refine mv_callV_v (As := [.int x1]) (ci := 7) lkV_RX8_38_yX8_leave dX8_pick_60 (k_X8_leave e6) rfl rfl rfl rfl (Nat.le_of_ble_eq_true rfl) (by decide) (by decide) ?_
          refine mw_iinc (v := (x1 + 1)) (L' := [(1, .int (x1 + 1)), (0, .ref 45)]) dX8_pick_63 1 rfl rfl (by decide) rfl ?_
          refine mw_goto (tgt := 33) dX8_pick_66 (by decide) ?_
          exact mw_sub (L' := [(0, .ref 45), (1, .int (x1 + 1))]) [1, 0] rfl (ih _ _ h)
def e_X8_pick_L2  : Nat → Int32 → ES → Option (Int32 × ES)
  | 0, _, _ => none
  | n + 1, x1, σ => if (6 : Int32) ≤ x1 then (e_X8_pick_L33 mN (eI σ 45 13) σ) else (if mib x1 6 = true then (e_X8_pick_L2 n (x1 + 1) (uI (uL σ 49 x1.toNatClampNeg (0 : Int64)) 50 x1.toNatClampNeg (0 : Int32))) else none)
set_option maxRecDepth 100000 in
set_option maxHeartbeats 4000000 in
theorem p_X8_pick_L2 {l : Launch} {E : MX} {out : (Int32 × ES)}   : ∀ (n : Nat) (x1 : Int32) (σ : ES), e_X8_pick_L2 n x1 σ = some out → MV l E cX8_pick RX8 2 (some .int) 2 (82, (some (.int out.1)), mkS out.2) (mkS σ) 2 [(0, .ref 45), (1, .int x1)] [] := by
  intro n
  induction n with
  | zero =>
    intro x1 σ h
    exact nomatch h
  | succ n ih =>
    intro x1 σ h
    rw [e_X8_pick_L2] at h
    refine mw_iload_n dX8_pick_2 1 rfl ?_
    refine mw_bipush (v := 6) dX8_pick_3 (by decide) ?_
    refine mw_icmp_ge (tgt := 28) dX8_pick_5 (by decide) (fun hc => ?_) (fun hc => ?_)
    · have h := mit hc h
      refine mw_aload_n dX8_pick_28 0 rfl ?_
      refine ev_getI fd_RX8_23_7 dX8_pick_29 rfl rfl ?_
      refine mw_istore_n (L' := [(1, .int (eI σ 45 13)), (0, .ref 45)]) dX8_pick_32 rfl (by decide) rfl ?_
      exact mw_sub (L' := [(0, .ref 45), (1, .int (eI σ 45 13))]) [1, 0] rfl (p_X8_pick_L33  mN _ _ h)
    · have h := mie hc h
      refine mw_aload_n dX8_pick_8 0 rfl ?_
      refine ev_getR (q := 49) fd_RX8_9_7 dX8_pick_9 rfl rfl rfl ?_
      refine mw_iload_n dX8_pick_12 1 rfl ?_
      refine mw_lconst (v := 0) dX8_pick_13 (by decide) ?_
      obtain ⟨m1, h⟩ := mif h
      refine ev_last dX8_pick_14 (by decide) rfl m1 ?_
      refine mw_aload_n dX8_pick_15 0 rfl ?_
      refine ev_getR (q := 50) fd_RX8_15_7 dX8_pick_16 rfl rfl rfl ?_
      refine mw_iload_n dX8_pick_19 1 rfl ?_
      refine mw_iconst (v := 0) dX8_pick_20 (by decide) ?_
      refine ev_iast dX8_pick_21 (by decide) rfl m1 ?_
      refine mw_iinc (v := (x1 + 1)) (L' := [(1, .int (x1 + 1)), (0, .ref 45)]) dX8_pick_22 1 rfl rfl (by decide) rfl ?_
      refine mw_goto (tgt := 2) dX8_pick_25 (by decide) ?_
      exact mw_sub (L' := [(0, .ref 45), (1, .int (x1 + 1))]) [1, 0] rfl (ih _ _ h)
def e_X8_pick (σ : ES) : Option (Int32 × ES) := e_X8_pick_L2 mN (0 : Int32) σ
set_option maxRecDepth 100000 in
set_option maxHeartbeats 4000000 in
theorem k_X8_pick {l : Launch} {σ : ES}  {out : (Int32 × ES)} (h : e_X8_pick σ = some out) : MK l yX8_pick cX8_pick 2 (some .int) 2 [.ref 45] (mkS σ) (some (.int out.1)) (mkS out.2) := by
  unfold e_X8_pick at h
  refine mw_entry (own := RX8) (ini := false) (L := [(0, .ref 45)]) (by decide +kernel) rfl (fun h => nomatch h) rfl (Nat.le_of_ble_eq_true rfl) (Nat.le_of_ble_eq_true rfl) (fun E => ?_)
  refine mw_iconst (v := 0) dX8_pick_0 (by decide) ?_
  refine mw_istore_n (L' := [(1, .int (0 : Int32)), (0, .ref 45)]) dX8_pick_1 rfl (by decide) rfl ?_
  exact mw_sub (L' := [(0, .ref 45), (1, .int (0 : Int32))]) [1, 0] rfl (p_X8_pick_L2  mN _ _ h)

def e_X0_runs_45_L19  : Nat → Int32 → Int32 → ES → Option (Int32 × ES)
  | 0, _, _, _ => none
  | n + 1, x1, x2, σ => if (16384 : Int32) < x2 then (some ((1 : Int32), σ)) else ((e_X0_together_45_46 (uI σ 45 1 x2) x1).bind (fun r1 => (e_X0_together_45_47 (uL (uI σ 45 1 x2) 45 2 ((eL (uI σ 45 1 x2) 45 5) + r1)) x1).bind (fun r3 => (e_X0_weigh_45 (eL (uL (uL (uI σ 45 1 x2) 45 2 ((eL (uI σ 45 1 x2) 45 5) + r1)) 45 3 ((eL (uL (uI σ 45 1 x2) 45 2 ((eL (uI σ 45 1 x2) 45 5) + r1)) 45 6) + r3)) 45 2) (eL (uL (uL (uI σ 45 1 x2) 45 2 ((eL (uI σ 45 1 x2) 45 5) + r1)) 45 3 ((eL (uL (uI σ 45 1 x2) 45 2 ((eL (uI σ 45 1 x2) 45 5) + r1)) 45 6) + r3)) 45 3) (uL (uL (uI σ 45 1 x2) 45 2 ((eL (uI σ 45 1 x2) 45 5) + r1)) 45 3 ((eL (uL (uI σ 45 1 x2) 45 2 ((eL (uI σ 45 1 x2) 45 5) + r1)) 45 6) + r3))).bind (fun r5 => (e_X8_pick r5).bind (fun r7 => (e_X0_together_45_46 (uI r7.2 45 0 r7.1) (eI (uI r7.2 45 0 r7.1) 45 0)).bind (fun r9 => (e_X0_together_45_47 (uI r7.2 45 0 r7.1) (eI (uI r7.2 45 0 r7.1) 45 0)).bind (fun r11 => if ((eL (uI r7.2 45 0 r7.1) 45 2) * ((eL (uI r7.2 45 0 r7.1) 45 6) + r11)) < (((eL (uI r7.2 45 0 r7.1) 45 5) + r9) * (eL (uI r7.2 45 0 r7.1) 45 3)) then (e_X0_runs_45_L19 n (eI (uI r7.2 45 0 r7.1) 45 0) (x2 + 1) (uI r7.2 45 0 r7.1)) else (some ((1 : Int32), (uI r7.2 45 0 r7.1))))))))))
set_option maxRecDepth 100000 in
set_option maxHeartbeats 4000000 in
theorem p_X0_runs_45_L19 {l : Launch} {E : MX} {out : (Int32 × ES)}   : ∀ (n : Nat) (x1 : Int32) (x2 : Int32) (σ : ES), e_X0_runs_45_L19 n x1 x2 σ = some out → MV l E cX0_runs RX0 7 (some .boolean) 3 (82, (some (.int out.1)), mkS out.2) (mkS σ) 19 [(0, .ref 45), (1, .int x1), (2, .int x2)] [] := by
  intro n
  induction n with
  | zero =>
    intro x1 x2 σ h
    exact nomatch h
  | succ n ih =>
    intro x1 x2 σ h
    rw [e_X0_runs_45_L19] at h
    refine mw_iload_n dX0_runs_19 2 rfl ?_
    refine mw_sipush (v := 16384) dX0_runs_20 (by decide) ?_
    refine mw_icmp_gt (tgt := 154) dX0_runs_23 (by decide) (fun hc => ?_) (fun hc => ?_)
    · have h := mit hc h
      refine mw_iconst (v := 1) dX0_runs_154 (by decide) ?_
      exact mw_zret dX0_runs_155 rfl (by decide) (ers_im h) rfl rfl
    · have h := mie hc h
      refine mw_aload_n dX0_runs_26 0 rfl ?_
      refine mw_iload_n dX0_runs_27 2 rfl ?_
      refine ev_putI fw_RX0_45_7 dX0_runs_28 rfl rfl ?_
      refine mw_aload_n dX0_runs_31 0 rfl ?_
      refine mw_aload_n dX0_runs_32 0 rfl ?_
      refine ev_getL fd_RX0_48_7 dX0_runs_33 rfl rfl ?_
      refine mw_aload_n dX0_runs_36 0 rfl ?_
      refine mw_aload_n dX0_runs_37 0 rfl ?_
      refine ev_getR (q := 46) fd_RX0_9_7 dX0_runs_38 rfl rfl rfl ?_
      refine mw_iload_n dX0_runs_41 1 rfl ?_
      obtain ⟨r1, e2, h⟩ := mbd h
      refine mv_callU_l (As := [.ref 46, .int x1]) (ci := 7) lkU_RX0_52_7_yX0_together rfl dX0_runs_42 (k_X0_together_45_46 e2) rfl rfl rfl rfl (Nat.le_of_ble_eq_true rfl) (by decide) (by decide) ?_
      refine mw_ladd dX0_runs_45 ?_
      refine ev_putL fw_RX0_56_7 dX0_runs_46 rfl rfl ?_
      refine mw_aload_n dX0_runs_49 0 rfl ?_
      refine mw_aload_n dX0_runs_50 0 rfl ?_
      refine ev_getL fd_RX0_59_7 dX0_runs_51 rfl rfl ?_
      refine mw_aload_n dX0_runs_54 0 rfl ?_
      refine mw_aload_n dX0_runs_55 0 rfl ?_
      refine ev_getR (q := 47) fd_RX0_15_7 dX0_runs_56 rfl rfl rfl ?_
      refine mw_iload_n dX0_runs_59 1 rfl ?_
      obtain ⟨r3, e4, h⟩ := mbd h
      refine mv_callU_l (As := [.ref 47, .int x1]) (ci := 7) lkU_RX0_52_7_yX0_together rfl dX0_runs_60 (k_X0_together_45_47 e4) rfl rfl rfl rfl (Nat.le_of_ble_eq_true rfl) (by decide) (by decide) ?_
      refine mw_ladd dX0_runs_63 ?_
      refine ev_putL fw_RX0_62_7 dX0_runs_64 rfl rfl ?_
      refine mw_aload_n dX0_runs_67 0 rfl ?_
      refine mw_aload_n dX0_runs_68 0 rfl ?_
      refine ev_getL fd_RX0_56_7 dX0_runs_69 rfl rfl ?_
      refine mw_aload_n dX0_runs_72 0 rfl ?_
      refine ev_getL fd_RX0_62_7 dX0_runs_73 rfl rfl ?_
      obtain ⟨r5, e6, h⟩ := mbd h
      refine mv_callU_v (As := [.long (eL (uL (uL (uI σ 45 1 x2) 45 2 ((eL (uI σ 45 1 x2) 45 5) + r1)) 45 3 ((eL (uL (uI σ 45 1 x2) 45 2 ((eL (uI σ 45 1 x2) 45 5) + r1)) 45 6) + r3)) 45 2), .long (eL (uL (uL (uI σ 45 1 x2) 45 2 ((eL (uI σ 45 1 x2) 45 5) + r1)) 45 3 ((eL (uL (uI σ 45 1 x2) 45 2 ((eL (uI σ 45 1 x2) 45 5) + r1)) 45 6) + r3)) 45 3)]) (ci := 7) lkU_RX0_37_7_yX0_weigh rfl dX0_runs_76 (k_X0_weigh_45 e6) rfl rfl rfl rfl (Nat.le_of_ble_eq_true rfl) (by decide) (by decide) ?_
      refine mw_aload_n dX0_runs_79 0 rfl ?_
      refine mw_aload_n dX0_runs_80 0 rfl ?_
      obtain ⟨r7, e8, h⟩ := mbd h
      refine mv_callA_i (As := []) (ci := 7) lkU_RX0_41_7_yX8_pick dX0_runs_81 (k_X8_pick e8) rfl rfl rfl rfl (Nat.le_of_ble_eq_true rfl) (by decide) (by decide) ?_
      refine ev_putI fw_RX0_65_7 dX0_runs_84 rfl rfl ?_
      refine mw_aload_n dX0_runs_87 0 rfl ?_
      refine ev_getL fd_RX0_48_7 dX0_runs_88 rfl rfl ?_
      refine mw_aload_n dX0_runs_91 0 rfl ?_
      refine mw_aload_n dX0_runs_92 0 rfl ?_
      refine ev_getR (q := 46) fd_RX0_9_7 dX0_runs_93 rfl rfl rfl ?_
      refine mw_aload_n dX0_runs_96 0 rfl ?_
      refine ev_getI fd_RX0_65_7 dX0_runs_97 rfl rfl ?_
      obtain ⟨r9, e10, h⟩ := mbd h
      refine mv_callU_l (As := [.ref 46, .int (eI (uI r7.2 45 0 r7.1) 45 0)]) (ci := 7) lkU_RX0_52_7_yX0_together rfl dX0_runs_100 (k_X0_together_45_46 e10) rfl rfl rfl rfl (Nat.le_of_ble_eq_true rfl) (by decide) (by decide) ?_
      refine mw_ladd dX0_runs_103 ?_
      refine mw_lstore_n (L' := [(3, .long ((eL (uI r7.2 45 0 r7.1) 45 5) + r9)), (0, .ref 45), (1, .int x1), (2, .int x2)]) dX0_runs_104 rfl (by decide) rfl ?_
      refine mw_aload_n dX0_runs_105 1 rfl ?_
      refine ev_getL fd_RX0_59_7 dX0_runs_106 rfl rfl ?_
      refine mw_aload_n dX0_runs_109 1 rfl ?_
      refine mw_aload_n dX0_runs_110 1 rfl ?_
      refine ev_getR (q := 47) fd_RX0_15_7 dX0_runs_111 rfl rfl rfl ?_
      refine mw_aload_n dX0_runs_114 1 rfl ?_
      refine ev_getI fd_RX0_65_7 dX0_runs_115 rfl rfl ?_
      obtain ⟨r11, e12, h⟩ := mbd h
      refine mv_callU_l (As := [.ref 47, .int (eI (uI r7.2 45 0 r7.1) 45 0)]) (ci := 7) lkU_RX0_52_7_yX0_together rfl dX0_runs_118 (k_X0_together_45_47 e12) rfl rfl rfl rfl (Nat.le_of_ble_eq_true rfl) (by decide) (by decide) ?_
      refine mw_ladd dX0_runs_121 ?_
      refine mw_lstore (L' := [(5, .long ((eL (uI r7.2 45 0 r7.1) 45 6) + r11)), (3, .long ((eL (uI r7.2 45 0 r7.1) 45 5) + r9)), (0, .ref 45), (1, .int x1), (2, .int x2)]) dX0_runs_122 (by decide) rfl ?_
      refine mw_lload_n dX0_runs_124 1 rfl ?_
      refine mw_aload_n dX0_runs_125 2 rfl ?_
      refine ev_getL fd_RX0_62_7 dX0_runs_126 rfl rfl ?_
      refine mw_lmul dX0_runs_129 ?_
      refine mw_aload_n dX0_runs_130 2 rfl ?_
      refine ev_getL fd_RX0_56_7 dX0_runs_131 rfl rfl ?_
      refine mw_lload dX0_runs_134 0 rfl ?_
      refine mw_lmul dX0_runs_136 ?_
      refine mw_lc_gt (tgt := 143) dX0_runs_137 dX0_runs_138 (by decide) (fun hc => ?_) (fun hc => ?_)
      · have h := mit hc h
        refine mw_aload_n dX0_runs_143 2 rfl ?_
        refine ev_getI fd_RX0_65_7 dX0_runs_144 rfl rfl ?_
        refine mw_istore_n (L' := [(1, .int (eI (uI r7.2 45 0 r7.1) 45 0)), (5, .long ((eL (uI r7.2 45 0 r7.1) 45 6) + r11)), (3, .long ((eL (uI r7.2 45 0 r7.1) 45 5) + r9)), (0, .ref 45), (2, .int x2)]) dX0_runs_147 rfl (by decide) rfl ?_
        refine mw_iinc (v := (x2 + 1)) (L' := [(2, .int (x2 + 1)), (1, .int (eI (uI r7.2 45 0 r7.1) 45 0)), (5, .long ((eL (uI r7.2 45 0 r7.1) 45 6) + r11)), (3, .long ((eL (uI r7.2 45 0 r7.1) 45 5) + r9)), (0, .ref 45)]) dX0_runs_148 4 rfl rfl (by decide) rfl ?_
        refine mw_goto (tgt := 19) dX0_runs_151 (by decide) ?_
        exact mw_sub (L' := [(0, .ref 45), (1, .int (eI (uI r7.2 45 0 r7.1) 45 0)), (2, .int (x2 + 1))]) [4, 1, 0] rfl (ih _ _ _ h)
      · have h := mie hc h
        refine mw_iconst (v := 1) dX0_runs_141 (by decide) ?_
        exact mw_zret dX0_runs_142 rfl (by decide) (ers_im h) rfl rfl
def e_X0_runs_45 (σ : ES) : Option (Int32 × ES) := (e_X0_weigh_45 (0 : Int64) (0 : Int64) σ).bind (fun r1 => (e_X8_pick r1).bind (fun r3 => if r3.1 = 0 then (some ((0 : Int32), r3.2)) else (e_X0_runs_45_L19 mN r3.1 (1 : Int32) r3.2)))
set_option maxRecDepth 100000 in
set_option maxHeartbeats 4000000 in
theorem k_X0_runs_45 {l : Launch} {σ : ES}  {out : (Int32 × ES)} (h : e_X0_runs_45 σ = some out) : MK l yX0_runs cX0_runs 7 (some .boolean) 3 [.ref 45] (mkS σ) (some (.int out.1)) (mkS out.2) := by
  unfold e_X0_runs_45 at h
  refine mw_entry (own := RX0) (ini := false) (L := [(0, .ref 45)]) (by decide +kernel) rfl (fun h => nomatch h) rfl (Nat.le_of_ble_eq_true rfl) (Nat.le_of_ble_eq_true rfl) (fun E => ?_)
  refine mw_aload_n dX0_runs_0 0 rfl ?_
  refine mw_lconst (v := 0) dX0_runs_1 (by decide) ?_
  refine mw_lconst (v := 0) dX0_runs_2 (by decide) ?_
  obtain ⟨r1, e2, h⟩ := mbd h
  refine mv_callU_v (As := [.long (0 : Int64), .long (0 : Int64)]) (ci := 7) lkU_RX0_37_7_yX0_weigh rfl dX0_runs_3 (k_X0_weigh_45 e2) rfl rfl rfl rfl (Nat.le_of_ble_eq_true rfl) (by decide) (by decide) ?_
  refine mw_aload_n dX0_runs_6 0 rfl ?_
  obtain ⟨r3, e4, h⟩ := mbd h
  refine mv_callA_i (As := []) (ci := 7) lkU_RX0_41_7_yX8_pick dX0_runs_7 (k_X8_pick e4) rfl rfl rfl rfl (Nat.le_of_ble_eq_true rfl) (by decide) (by decide) ?_
  refine mw_istore_n (L' := [(1, .int r3.1), (0, .ref 45)]) dX0_runs_10 rfl (by decide) rfl ?_
  refine mw_iload_n dX0_runs_11 0 rfl ?_
  refine mw_if_ne (tgt := 17) dX0_runs_12 (by decide) (fun hc => ?_) (fun hc => ?_)
  · have h := mie hc h
    refine mw_iconst (v := 1) dX0_runs_17 (by decide) ?_
    refine mw_istore_n (L' := [(2, .int (1 : Int32)), (1, .int r3.1), (0, .ref 45)]) dX0_runs_18 rfl (by decide) rfl ?_
    exact mw_sub (L' := [(0, .ref 45), (1, .int r3.1), (2, .int (1 : Int32))]) [2, 1, 0] rfl (p_X0_runs_45_L19  mN _ _ _ h)
  · have h := mit hc h
    refine mw_iconst (v := 0) dX0_runs_15 (by decide) ?_
    exact mw_zret dX0_runs_16 rfl (by decide) (ers_im h) rfl rfl

theorem dX8_climbs_0 : decode cX8_climbs 0 = .ok (.aload_n 0, 1) := by decide +kernel
theorem dX8_climbs_1 : decode cX8_climbs 1 = .ok (.aload_n 1, 1) := by decide +kernel
theorem dX8_climbs_2 : decode cX8_climbs 2 = .ok (.putfield 19, 3) := by decide +kernel
theorem dX8_climbs_5 : decode cX8_climbs 5 = .ok (.aload_n 0, 1) := by decide +kernel
theorem dX8_climbs_6 : decode cX8_climbs 6 = .ok (.iload_n 2, 1) := by decide +kernel
theorem dX8_climbs_7 : decode cX8_climbs 7 = .ok (.putfield 23, 3) := by decide +kernel
theorem dX8_climbs_10 : decode cX8_climbs 10 = .ok (.aload_n 0, 1) := by decide +kernel
theorem dX8_climbs_11 : decode cX8_climbs 11 = .ok (.iload_n 3, 1) := by decide +kernel
theorem dX8_climbs_12 : decode cX8_climbs 12 = .ok (.putfield 27, 3) := by decide +kernel
theorem dX8_climbs_15 : decode cX8_climbs 15 = .ok (.aload_n 0, 1) := by decide +kernel
theorem dX8_climbs_16 : decode cX8_climbs 16 = .ok (.aload_n 1, 1) := by decide +kernel
theorem dX8_climbs_17 : decode cX8_climbs 17 = .ok (.invokevirtual 30, 3) := by decide +kernel
theorem dX8_climbs_20 : decode cX8_climbs 20 = .ok (.aload_n 0, 1) := by decide +kernel
theorem dX8_climbs_21 : decode cX8_climbs 21 = .ok (.invokevirtual 34, 3) := by decide +kernel
theorem dX8_climbs_24 : decode cX8_climbs 24 = .ok (.ireturn, 1) := by decide +kernel
def e_X8_climbs_1 (a2 : Int32) (a3 : Int32) (σ : ES) : Option (Int32 × ES) := (e_X0_takeWays_45_1 (uI (uI (uT σ 1 (some 1)) 45 13 a2) 45 14 a3)).bind (fun r1 => (e_X0_runs_45 r1).bind (fun r3 => if r3.1 = 0 ∨ r3.1 = 1 then (some (r3.1, r3.2)) else none))
set_option maxRecDepth 100000 in
set_option maxHeartbeats 4000000 in
theorem k_X8_climbs_1 {l : Launch} {σ : ES} {a2 : Int32} {a3 : Int32} {out : (Int32 × ES)} (h : e_X8_climbs_1 a2 a3 σ = some out) : MK l yX8_climbs cX8_climbs 4 (some .boolean) 7 [.ref 45, .ref 1, .int a2, .int a3] (mkS σ) (some (.int out.1)) (mkS out.2) := by
  unfold e_X8_climbs_1 at h
  refine mw_entry (own := RX8) (ini := false) (L := [(0, .ref 45), (1, .ref 1), (2, .int a2), (3, .int a3)]) (by decide +kernel) rfl (fun h => nomatch h) rfl (Nat.le_of_ble_eq_true rfl) (Nat.le_of_ble_eq_true rfl) (fun E => ?_)
  refine mw_aload_n dX8_climbs_0 0 rfl ?_
  refine mw_aload_n dX8_climbs_1 1 rfl ?_
  refine ev_putT1 fw_RX8_19_7 dX8_climbs_2 ?_
  refine mw_aload_n dX8_climbs_5 0 rfl ?_
  refine mw_iload_n dX8_climbs_6 2 rfl ?_
  refine ev_putI fw_RX8_23_7 dX8_climbs_7 rfl rfl ?_
  refine mw_aload_n dX8_climbs_10 0 rfl ?_
  refine mw_iload_n dX8_climbs_11 3 rfl ?_
  refine ev_putI fw_RX8_27_7 dX8_climbs_12 rfl rfl ?_
  refine mw_aload_n dX8_climbs_15 0 rfl ?_
  refine mw_aload_n dX8_climbs_16 1 rfl ?_
  obtain ⟨r1, e2, h⟩ := mbd h
  refine mv_callU_v (As := [.ref 1]) (ci := 7) lkU_RX8_30_7_yX0_takeWays rfl dX8_climbs_17 (k_X0_takeWays_45_1 e2) rfl rfl rfl rfl (Nat.le_of_ble_eq_true rfl) (by decide) (by decide) ?_
  refine mw_aload_n dX8_climbs_20 0 rfl ?_
  obtain ⟨r3, e4, h⟩ := mbd h
  refine mv_callU_i (As := []) (ci := 7) lkU_RX8_34_7_yX0_runs rfl dX8_climbs_21 (k_X0_runs_45 e4) rfl rfl rfl rfl (Nat.le_of_ble_eq_true rfl) (by decide) (by decide) ?_
  obtain ⟨m5, h⟩ := mif h
  exact mw_zret dX8_climbs_24 rfl m5 (ers_im h) rfl rfl

def e_X9_told_45 (a2 : Int32) (a3 : Int32) (σ : ES) : Option (Int64 × ES) := if a2 = 0 then ((e_X9_longFinding (3 : Int32) σ).bind (fun r3 => some (r3.1, r3.2))) else (if a3 = 2 then (some ((eI σ 45 0).toInt64, σ)) else (if a3 = 3 then (some ((eI σ 45 1).toInt64, σ)) else ((e_X9_lowest (eL σ 45 2) (eL σ 45 3) a3).bind (fun r1 => some (r1, σ)))))
set_option maxRecDepth 100000 in
set_option maxHeartbeats 4000000 in
theorem k_X9_told_45 {l : Launch} {σ : ES} {a2 : Int32} {a3 : Int32} {out : (Int64 × ES)} (h : e_X9_told_45 a2 a3 σ = some out) : MK l yX9_told cX9_told 4 (some .long) 3 [.ref 0, .ref 45, .int a2, .int a3] (mkS σ) (some (.long out.1)) (mkS out.2) := by
  unfold e_X9_told_45 at h
  refine mw_entry (own := RX9) (ini := false) (L := [(0, .ref 0), (1, .ref 45), (2, .int a2), (3, .int a3)]) (by decide +kernel) rfl (fun h => nomatch h) rfl (Nat.le_of_ble_eq_true rfl) (Nat.le_of_ble_eq_true rfl) (fun E => ?_)
  refine mw_iload_n dX9_told_0 2 rfl ?_
  refine mw_if_ne (tgt := 10) dX9_told_1 (by decide) (fun hc => ?_) (fun hc => ?_)
  · have h := mie hc h
    refine mw_iload_n dX9_told_10 3 rfl ?_
    by_cases hs2 : a3 = 2
    · have h := mit hs2 h
      refine mv_look (tgt := 36) (off := 25) dX9_told_11 rfl (by rw [hs2] <;> rfl) (by decide) ?_
      refine mw_aload_n dX9_told_36 1 rfl ?_
      refine ev_getI fd_RX9_255_7 dX9_told_37 rfl rfl ?_
      refine mw_i2l dX9_told_40 ?_
      exact mw_lret dX9_told_41 rfl (ers_lm h) rfl rfl
    have h := mie hs2 h
    by_cases hs3 : a3 = 3
    · have h := mit hs3 h
      refine mv_look (tgt := 42) (off := 31) dX9_told_11 rfl (by rw [hs3] <;> rfl) (by decide) ?_
      refine mw_aload_n dX9_told_42 1 rfl ?_
      refine ev_getI fd_RX9_259_7 dX9_told_43 rfl rfl ?_
      refine mw_i2l dX9_told_46 ?_
      exact mw_lret dX9_told_47 rfl (ers_lm h) rfl rfl
    have h := mie hs3 h
    refine mv_look (tgt := 48) (off := 37) dX9_told_11 rfl (mlook2 (mne32 hs2) (mne32 hs3)) (by decide) ?_
    refine mw_aload_n dX9_told_48 1 rfl ?_
    refine ev_getL fd_RX9_262_7 dX9_told_49 rfl rfl ?_
    refine mw_aload_n dX9_told_52 1 rfl ?_
    refine ev_getL fd_RX9_265_7 dX9_told_53 rfl rfl ?_
    refine mw_iload_n dX9_told_56 3 rfl ?_
    obtain ⟨r1, e2, h⟩ := mbd h
    refine mv_callS_l (As := [.long (eL σ 45 2), .long (eL σ 45 3), .int a3]) lkS_RX9_179_yX9_lowest dX9_told_57 (k_X9_lowest e2) rfl rfl (Nat.le_of_ble_eq_true rfl) (by decide) (by decide) ?_
    exact mw_lret dX9_told_60 rfl (ers_lm h) rfl rfl
  · have h := mit hc h
    refine mw_aload_n dX9_told_4 0 rfl ?_
    refine mw_iconst (v := 3) dX9_told_5 (by decide) ?_
    obtain ⟨r3, e4, h⟩ := mbd h
    refine mv_callV_l (As := [.int (3 : Int32)]) (ci := 8) lkV_RX9_164_yX9_longFinding dX9_told_6 (k_X9_longFinding e4) rfl rfl rfl rfl (Nat.le_of_ble_eq_true rfl) (by decide) (by decide) ?_
    exact mw_lret dX9_told_9 rfl (ers_lm h) rfl rfl

theorem dX9_walk_0 : decode cX9_walk 0 = .ok (.aload_n 0, 1) := by decide +kernel
theorem dX9_walk_1 : decode cX9_walk 1 = .ok (.getfield 12, 3) := by decide +kernel
theorem dX9_walk_4 : decode cX9_walk 4 = .ok (.iload_n 1, 1) := by decide +kernel
theorem dX9_walk_5 : decode cX9_walk 5 = .ok (.invokevirtual 99, 3) := by decide +kernel
theorem dX9_walk_8 : decode cX9_walk 8 = .ok (.ifCond .eq 23, 3) := by decide +kernel
theorem dX9_walk_11 : decode cX9_walk 11 = .ok (.aload_n 0, 1) := by decide +kernel
theorem dX9_walk_12 : decode cX9_walk 12 = .ok (.getfield 12, 3) := by decide +kernel
theorem dX9_walk_15 : decode cX9_walk 15 = .ok (.iload_n 2, 1) := by decide +kernel
theorem dX9_walk_16 : decode cX9_walk 16 = .ok (.invokevirtual 99, 3) := by decide +kernel
theorem dX9_walk_19 : decode cX9_walk 19 = .ok (.ifCond .eq 12, 3) := by decide +kernel
theorem dX9_walk_22 : decode cX9_walk 22 = .ok (.iload_n 1, 1) := by decide +kernel
theorem dX9_walk_23 : decode cX9_walk 23 = .ok (.iload_n 2, 1) := by decide +kernel
theorem dX9_walk_24 : decode cX9_walk 24 = .ok (.if_icmp .ge 7, 3) := by decide +kernel
theorem dX9_walk_27 : decode cX9_walk 27 = .ok (.iconst 1, 1) := by decide +kernel
theorem dX9_walk_28 : decode cX9_walk 28 = .ok (.goto 4, 3) := by decide +kernel
theorem dX9_walk_31 : decode cX9_walk 31 = .ok (.iconst 0, 1) := by decide +kernel
theorem dX9_walk_32 : decode cX9_walk 32 = .ok (.istore 4, 2) := by decide +kernel
theorem dX9_walk_34 : decode cX9_walk 34 = .ok (.iload_n 3, 1) := by decide +kernel
theorem dX9_walk_35 : decode cX9_walk 35 = .ok (.iconst 0, 1) := by decide +kernel
theorem dX9_walk_36 : decode cX9_walk 36 = .ok (.iconst 3, 1) := by decide +kernel
theorem dX9_walk_37 : decode cX9_walk 37 = .ok (.invokestatic 75, 3) := by decide +kernel
theorem dX9_walk_40 : decode cX9_walk 40 = .ok (.ifCond .eq 8, 3) := by decide +kernel
theorem dX9_walk_43 : decode cX9_walk 43 = .ok (.iload 4, 2) := by decide +kernel
theorem dX9_walk_45 : decode cX9_walk 45 = .ok (.ifCond .ne 9, 3) := by decide +kernel
theorem dX9_walk_48 : decode cX9_walk 48 = .ok (.aload_n 0, 1) := by decide +kernel
theorem dX9_walk_49 : decode cX9_walk 49 = .ok (.iconst 0, 1) := by decide +kernel
theorem dX9_walk_50 : decode cX9_walk 50 = .ok (.invokevirtual 164, 3) := by decide +kernel
theorem dX9_walk_53 : decode cX9_walk 53 = .ok (.lreturn, 1) := by decide +kernel
theorem dX9_walk_54 : decode cX9_walk 54 = .ok (.aload_n 0, 1) := by decide +kernel
theorem dX9_walk_55 : decode cX9_walk 55 = .ok (.aload_n 0, 1) := by decide +kernel
theorem dX9_walk_56 : decode cX9_walk 56 = .ok (.getfield 39, 3) := by decide +kernel
theorem dX9_walk_59 : decode cX9_walk 59 = .ok (.aload_n 0, 1) := by decide +kernel
theorem dX9_walk_60 : decode cX9_walk 60 = .ok (.getfield 39, 3) := by decide +kernel
theorem dX9_walk_63 : decode cX9_walk 63 = .ok (.aload_n 0, 1) := by decide +kernel
theorem dX9_walk_64 : decode cX9_walk 64 = .ok (.getfield 12, 3) := by decide +kernel
theorem dX9_walk_67 : decode cX9_walk 67 = .ok (.iload_n 1, 1) := by decide +kernel
theorem dX9_walk_68 : decode cX9_walk 68 = .ok (.iload_n 2, 1) := by decide +kernel
theorem dX9_walk_69 : decode cX9_walk 69 = .ok (.invokevirtual 249, 3) := by decide +kernel
theorem dX9_walk_72 : decode cX9_walk 72 = .ok (.iload_n 3, 1) := by decide +kernel
theorem dX9_walk_73 : decode cX9_walk 73 = .ok (.invokevirtual 245, 3) := by decide +kernel
theorem dX9_walk_76 : decode cX9_walk 76 = .ok (.lreturn, 1) := by decide +kernel
def e_X9_walk_J32 (a1 : Int32) (a2 : Int32) (a3 : Int32) (s0 : Int32) (σ : ES) : Option (Int64 × ES) := (e_X9_within a3 (0 : Int32) (3 : Int32)).bind (fun r1 => if r1 = 0 then ((e_X9_longFinding (0 : Int32) σ).bind (fun r3 => some (r3.1, r3.2))) else (if s0 = 0 then ((e_X9_longFinding (0 : Int32) σ).bind (fun r9 => some (r9.1, r9.2))) else ((e_X8_climbs_1 a1 a2 σ).bind (fun r5 => (e_X9_told_45 r5.1 a3 r5.2).bind (fun r7 => some (r7.1, r7.2))))))
set_option maxRecDepth 100000 in
set_option maxHeartbeats 4000000 in
theorem p_X9_walk_J32 {l : Launch} {E : MX} {out : (Int64 × ES)} {a1 : Int32} {a2 : Int32} {a3 : Int32}  {s0 : Int32} {σ : ES} (h : e_X9_walk_J32 a1 a2 a3 s0 σ = some out) : MV l E cX9_walk RX9 5 (some .long) 8 (82, (some (.long out.1)), mkS out.2) (mkS σ) 32 [(0, .ref 0), (1, .int a1), (2, .int a2), (3, .int a3)] [.int s0] := by
  unfold e_X9_walk_J32 at h
  refine mw_istore (L' := [(4, .int s0), (0, .ref 0), (1, .int a1), (2, .int a2), (3, .int a3)]) dX9_walk_32 (by decide) rfl ?_
  refine mw_iload_n dX9_walk_34 4 rfl ?_
  refine mw_iconst (v := 0) dX9_walk_35 (by decide) ?_
  refine mw_iconst (v := 3) dX9_walk_36 (by decide) ?_
  obtain ⟨r1, e2, h⟩ := mbd h
  refine mv_callS_i (As := [.int a3, .int (0 : Int32), .int (3 : Int32)]) lkS_RX9_75_yX9_within dX9_walk_37 (k_X9_within e2) rfl rfl (Nat.le_of_ble_eq_true rfl) (by decide) (by decide) ?_
  refine mw_if_eq (tgt := 48) dX9_walk_40 (by decide) (fun hc => ?_) (fun hc => ?_)
  · have h := mit hc h
    refine mw_aload_n dX9_walk_48 1 rfl ?_
    refine mw_iconst (v := 0) dX9_walk_49 (by decide) ?_
    obtain ⟨r3, e4, h⟩ := mbd h
    refine mv_callV_l (As := [.int (0 : Int32)]) (ci := 8) lkV_RX9_164_yX9_longFinding dX9_walk_50 (k_X9_longFinding e4) rfl rfl rfl rfl (Nat.le_of_ble_eq_true rfl) (by decide) (by decide) ?_
    exact mw_lret dX9_walk_53 rfl (ers_lm h) rfl rfl
  · have h := mie hc h
    refine mw_iload dX9_walk_43 0 rfl ?_
    refine mw_if_ne (tgt := 54) dX9_walk_45 (by decide) (fun hc => ?_) (fun hc => ?_)
    · have h := mie hc h
      refine mw_aload_n dX9_walk_54 1 rfl ?_
      refine mw_aload_n dX9_walk_55 1 rfl ?_
      refine ev_getR (q := 45) fd_RX9_39_8 dX9_walk_56 rfl rfl rfl ?_
      refine mw_aload_n dX9_walk_59 1 rfl ?_
      refine ev_getR (q := 45) fd_RX9_39_8 dX9_walk_60 rfl rfl rfl ?_
      refine mw_aload_n dX9_walk_63 1 rfl ?_
      refine ev_getR (q := 1) fd_RX9_12_8 dX9_walk_64 rfl rfl rfl ?_
      refine mw_iload_n dX9_walk_67 2 rfl ?_
      refine mw_iload_n dX9_walk_68 3 rfl ?_
      obtain ⟨r5, e6, h⟩ := mbd h
      refine mv_callV_i (As := [.ref 1, .int a1, .int a2]) (ci := 7) lkV_RX9_249_yX8_climbs dX9_walk_69 (k_X8_climbs_1 e6) rfl rfl rfl rfl (Nat.le_of_ble_eq_true rfl) (by decide) (by decide) ?_
      refine mw_iload_n dX9_walk_72 4 rfl ?_
      obtain ⟨r7, e8, h⟩ := mbd h
      refine mv_callV_l (As := [.ref 45, .int r5.1, .int a3]) (ci := 8) lkV_RX9_245_yX9_told dX9_walk_73 (k_X9_told_45 e8) rfl rfl rfl rfl (Nat.le_of_ble_eq_true rfl) (by decide) (by decide) ?_
      exact mw_lret dX9_walk_76 rfl (ers_lm h) rfl rfl
    · have h := mit hc h
      refine mw_aload_n dX9_walk_48 1 rfl ?_
      refine mw_iconst (v := 0) dX9_walk_49 (by decide) ?_
      obtain ⟨r9, e10, h⟩ := mbd h
      refine mv_callV_l (As := [.int (0 : Int32)]) (ci := 8) lkV_RX9_164_yX9_longFinding dX9_walk_50 (k_X9_longFinding e10) rfl rfl rfl rfl (Nat.le_of_ble_eq_true rfl) (by decide) (by decide) ?_
      exact mw_lret dX9_walk_53 rfl (ers_lm h) rfl rfl
def e_X9_walk_J31 (a1 : Int32) (a2 : Int32) (a3 : Int32) (σ : ES) : Option (Int64 × ES) := e_X9_walk_J32 a1 a2 a3 (0 : Int32) σ
set_option maxRecDepth 100000 in
set_option maxHeartbeats 4000000 in
theorem p_X9_walk_J31 {l : Launch} {E : MX} {out : (Int64 × ES)} {a1 : Int32} {a2 : Int32} {a3 : Int32}  {σ : ES} (h : e_X9_walk_J31 a1 a2 a3 σ = some out) : MV l E cX9_walk RX9 5 (some .long) 8 (82, (some (.long out.1)), mkS out.2) (mkS σ) 31 [(0, .ref 0), (1, .int a1), (2, .int a2), (3, .int a3)] [] := by
  unfold e_X9_walk_J31 at h
  refine mw_iconst (v := 0) dX9_walk_31 (by decide) ?_
  exact mw_sub (L' := [(0, .ref 0), (1, .int a1), (2, .int a2), (3, .int a3)]) [0, 1, 2, 3] rfl (p_X9_walk_J32  h)
def e_X9_walk (a1 : Int32) (a2 : Int32) (a3 : Int32) (σ : ES) : Option (Int64 × ES) := (e_X1_isPlace_1 σ a1).bind (fun r1 => if r1 = 0 then (e_X9_walk_J31 a1 a2 a3 σ) else ((e_X1_isPlace_1 σ a2).bind (fun r3 => if r3 = 0 then (e_X9_walk_J31 a1 a2 a3 σ) else (if a2 ≤ a1 then (e_X9_walk_J31 a1 a2 a3 σ) else (e_X9_walk_J32 a1 a2 a3 (1 : Int32) σ)))))
set_option maxRecDepth 100000 in
set_option maxHeartbeats 4000000 in
theorem k_X9_walk {l : Launch} {σ : ES} {a1 : Int32} {a2 : Int32} {a3 : Int32} {out : (Int64 × ES)} (h : e_X9_walk a1 a2 a3 σ = some out) : MK l yX9_walk cX9_walk 5 (some .long) 8 [.ref 0, .int a1, .int a2, .int a3] (mkS σ) (some (.long out.1)) (mkS out.2) := by
  unfold e_X9_walk at h
  refine mw_entry (own := RX9) (ini := false) (L := [(0, .ref 0), (1, .int a1), (2, .int a2), (3, .int a3)]) (by decide +kernel) rfl (fun h => nomatch h) rfl (Nat.le_of_ble_eq_true rfl) (Nat.le_of_ble_eq_true rfl) (fun E => ?_)
  refine mw_aload_n dX9_walk_0 0 rfl ?_
  refine ev_getR (q := 1) fd_RX9_12_8 dX9_walk_1 rfl rfl rfl ?_
  refine mw_iload_n dX9_walk_4 1 rfl ?_
  obtain ⟨r1, e2, h⟩ := mbd h
  refine mv_callV_i (As := [.int a1]) (ci := 0) lkV_RX9_99_yX1_isPlace dX9_walk_5 (k_X1_isPlace_1 e2) rfl rfl rfl rfl (Nat.le_of_ble_eq_true rfl) (by decide) (by decide) ?_
  refine mw_if_eq (tgt := 31) dX9_walk_8 (by decide) (fun hc => ?_) (fun hc => ?_)
  · have h := mit hc h
    exact mw_sub (L' := [(0, .ref 0), (1, .int a1), (2, .int a2), (3, .int a3)]) [0, 1, 2, 3] rfl (p_X9_walk_J31  h)
  · have h := mie hc h
    refine mw_aload_n dX9_walk_11 0 rfl ?_
    refine ev_getR (q := 1) fd_RX9_12_8 dX9_walk_12 rfl rfl rfl ?_
    refine mw_iload_n dX9_walk_15 2 rfl ?_
    obtain ⟨r3, e4, h⟩ := mbd h
    refine mv_callV_i (As := [.int a2]) (ci := 0) lkV_RX9_99_yX1_isPlace dX9_walk_16 (k_X1_isPlace_1 e4) rfl rfl rfl rfl (Nat.le_of_ble_eq_true rfl) (by decide) (by decide) ?_
    refine mw_if_eq (tgt := 31) dX9_walk_19 (by decide) (fun hc => ?_) (fun hc => ?_)
    · have h := mit hc h
      exact mw_sub (L' := [(0, .ref 0), (1, .int a1), (2, .int a2), (3, .int a3)]) [0, 1, 2, 3] rfl (p_X9_walk_J31  h)
    · have h := mie hc h
      refine mw_iload_n dX9_walk_22 1 rfl ?_
      refine mw_iload_n dX9_walk_23 2 rfl ?_
      refine mw_icmp_ge (tgt := 31) dX9_walk_24 (by decide) (fun hc => ?_) (fun hc => ?_)
      · have h := mit hc h
        exact mw_sub (L' := [(0, .ref 0), (1, .int a1), (2, .int a2), (3, .int a3)]) [0, 1, 2, 3] rfl (p_X9_walk_J31  h)
      · have h := mie hc h
        refine mw_iconst (v := 1) dX9_walk_27 (by decide) ?_
        refine mw_goto (tgt := 32) dX9_walk_28 (by decide) ?_
        exact mw_sub (L' := [(0, .ref 0), (1, .int a1), (2, .int a2), (3, .int a3)]) [0, 1, 2, 3] rfl (p_X9_walk_J32  h)

def e_X0_together_51_52_L5 (σ : ES) (a2 : Int32) : Nat → Int64 → Int32 → Option Int64
  | 0, _, _ => none
  | n + 1, x3, x5 => if (eI σ 51 4) ≤ x5 then (some x3) else (if (a2 &&& ((1 : Int32) <<< (x5 &&& 31))) = 0 then (e_X0_together_51_52_L5 σ a2 n x3 (x5 + 1)) else (if mib x5 14 = true then (e_X0_together_51_52_L5 σ a2 n (x3 + (eL σ 52 x5.toNatClampNeg)) (x5 + 1)) else none))
set_option maxRecDepth 100000 in
set_option maxHeartbeats 4000000 in
theorem p_X0_together_51_52_L5 {l : Launch} {E : MX} {out : Int64} {σ : ES} {a2 : Int32}  : ∀ (n : Nat) (x3 : Int64) (x5 : Int32), e_X0_together_51_52_L5 σ a2 n x3 x5 = some out → MV l E cX0_together RX0 6 (some .long) 1 (82, (some (.long out)), mkS σ) (mkS σ) 5 [(0, .ref 51), (1, .ref 52), (2, .int a2), (3, .long x3), (5, .int x5)] [] := by
  intro n
  induction n with
  | zero =>
    intro x3 x5 h
    exact nomatch h
  | succ n ih =>
    intro x3 x5 h
    rw [e_X0_together_51_52_L5] at h
    refine mw_iload dX0_together_5 4 rfl ?_
    refine mw_aload_n dX0_together_7 0 rfl ?_
    refine ev_getI fd_RX0_27_2 dX0_together_8 rfl rfl ?_
    refine mw_icmp_ge (tgt := 36) dX0_together_11 (by decide) (fun hc => ?_) (fun hc => ?_)
    · have h := mit hc h
      refine mw_lload_n dX0_together_36 3 rfl ?_
      exact mw_lret dX0_together_37 rfl (ers_l h) rfl rfl
    · have h := mie hc h
      refine mw_iload_n dX0_together_14 2 rfl ?_
      refine mw_iconst (v := 1) dX0_together_15 (by decide) ?_
      refine mw_iload dX0_together_16 4 rfl ?_
      refine mw_ishl dX0_together_18 ?_
      refine mw_iand dX0_together_19 ?_
      refine mw_if_eq (tgt := 30) dX0_together_20 (by decide) (fun hc => ?_) (fun hc => ?_)
      · have h := mit hc h
        refine mw_iinc (v := (x5 + 1)) (L' := [(5, .int (x5 + 1)), (0, .ref 51), (1, .ref 52), (2, .int a2), (3, .long x3)]) dX0_together_30 4 rfl rfl (by decide) rfl ?_
        refine mw_goto (tgt := 5) dX0_together_33 (by decide) ?_
        exact mw_sub (L' := [(0, .ref 51), (1, .ref 52), (2, .int a2), (3, .long x3), (5, .int (x5 + 1))]) [1, 2, 3, 4, 0] rfl (ih _ _ h)
      · have h := mie hc h
        refine mw_lload_n dX0_together_23 3 rfl ?_
        refine mw_aload_n dX0_together_24 1 rfl ?_
        refine mw_iload dX0_together_25 4 rfl ?_
        obtain ⟨m1, h⟩ := mif h
        refine ev_lald dX0_together_27 (by decide) rfl m1 ?_
        refine mw_ladd dX0_together_28 ?_
        refine mw_lstore_n (L' := [(3, .long (x3 + (eL σ 52 x5.toNatClampNeg))), (0, .ref 51), (1, .ref 52), (2, .int a2), (5, .int x5)]) dX0_together_29 rfl (by decide) rfl ?_
        refine mw_iinc (v := (x5 + 1)) (L' := [(5, .int (x5 + 1)), (3, .long (x3 + (eL σ 52 x5.toNatClampNeg))), (0, .ref 51), (1, .ref 52), (2, .int a2)]) dX0_together_30 4 rfl rfl (by decide) rfl ?_
        refine mw_goto (tgt := 5) dX0_together_33 (by decide) ?_
        exact mw_sub (L' := [(0, .ref 51), (1, .ref 52), (2, .int a2), (3, .long (x3 + (eL σ 52 x5.toNatClampNeg))), (5, .int (x5 + 1))]) [2, 3, 4, 1, 0] rfl (ih _ _ h)
def e_X0_together_51_52 (σ : ES) (a2 : Int32) : Option Int64 := e_X0_together_51_52_L5 σ a2 mN (0 : Int64) (0 : Int32)
set_option maxRecDepth 100000 in
set_option maxHeartbeats 4000000 in
theorem k_X0_together_51_52 {l : Launch} {σ : ES} {a2 : Int32} {out : Int64} (h : e_X0_together_51_52 σ a2 = some out) : MK l yX0_together cX0_together 6 (some .long) 1 [.ref 51, .ref 52, .int a2] (mkS σ) (some (.long out)) (mkS σ) := by
  unfold e_X0_together_51_52 at h
  refine mw_entry (own := RX0) (ini := false) (L := [(0, .ref 51), (1, .ref 52), (2, .int a2)]) (by decide +kernel) rfl (fun h => nomatch h) rfl (Nat.le_of_ble_eq_true rfl) (Nat.le_of_ble_eq_true rfl) (fun E => ?_)
  refine mw_lconst (v := 0) dX0_together_0 (by decide) ?_
  refine mw_lstore_n (L' := [(3, .long (0 : Int64)), (0, .ref 51), (1, .ref 52), (2, .int a2)]) dX0_together_1 rfl (by decide) rfl ?_
  refine mw_iconst (v := 0) dX0_together_2 (by decide) ?_
  refine mw_istore (L' := [(5, .int (0 : Int32)), (3, .long (0 : Int64)), (0, .ref 51), (1, .ref 52), (2, .int a2)]) dX0_together_3 (by decide) rfl ?_
  exact mw_sub (L' := [(0, .ref 51), (1, .ref 52), (2, .int a2), (3, .long (0 : Int64)), (5, .int (0 : Int32))]) [2, 3, 4, 1, 0] rfl (p_X0_together_51_52_L5  mN _ _ h)

def e_X0_together_51_53_L5 (σ : ES) (a2 : Int32) : Nat → Int64 → Int32 → Option Int64
  | 0, _, _ => none
  | n + 1, x3, x5 => if (eI σ 51 4) ≤ x5 then (some x3) else (if (a2 &&& ((1 : Int32) <<< (x5 &&& 31))) = 0 then (e_X0_together_51_53_L5 σ a2 n x3 (x5 + 1)) else (if mib x5 14 = true then (e_X0_together_51_53_L5 σ a2 n (x3 + (eL σ 53 x5.toNatClampNeg)) (x5 + 1)) else none))
set_option maxRecDepth 100000 in
set_option maxHeartbeats 4000000 in
theorem p_X0_together_51_53_L5 {l : Launch} {E : MX} {out : Int64} {σ : ES} {a2 : Int32}  : ∀ (n : Nat) (x3 : Int64) (x5 : Int32), e_X0_together_51_53_L5 σ a2 n x3 x5 = some out → MV l E cX0_together RX0 6 (some .long) 1 (82, (some (.long out)), mkS σ) (mkS σ) 5 [(0, .ref 51), (1, .ref 53), (2, .int a2), (3, .long x3), (5, .int x5)] [] := by
  intro n
  induction n with
  | zero =>
    intro x3 x5 h
    exact nomatch h
  | succ n ih =>
    intro x3 x5 h
    rw [e_X0_together_51_53_L5] at h
    refine mw_iload dX0_together_5 4 rfl ?_
    refine mw_aload_n dX0_together_7 0 rfl ?_
    refine ev_getI fd_RX0_27_2 dX0_together_8 rfl rfl ?_
    refine mw_icmp_ge (tgt := 36) dX0_together_11 (by decide) (fun hc => ?_) (fun hc => ?_)
    · have h := mit hc h
      refine mw_lload_n dX0_together_36 3 rfl ?_
      exact mw_lret dX0_together_37 rfl (ers_l h) rfl rfl
    · have h := mie hc h
      refine mw_iload_n dX0_together_14 2 rfl ?_
      refine mw_iconst (v := 1) dX0_together_15 (by decide) ?_
      refine mw_iload dX0_together_16 4 rfl ?_
      refine mw_ishl dX0_together_18 ?_
      refine mw_iand dX0_together_19 ?_
      refine mw_if_eq (tgt := 30) dX0_together_20 (by decide) (fun hc => ?_) (fun hc => ?_)
      · have h := mit hc h
        refine mw_iinc (v := (x5 + 1)) (L' := [(5, .int (x5 + 1)), (0, .ref 51), (1, .ref 53), (2, .int a2), (3, .long x3)]) dX0_together_30 4 rfl rfl (by decide) rfl ?_
        refine mw_goto (tgt := 5) dX0_together_33 (by decide) ?_
        exact mw_sub (L' := [(0, .ref 51), (1, .ref 53), (2, .int a2), (3, .long x3), (5, .int (x5 + 1))]) [1, 2, 3, 4, 0] rfl (ih _ _ h)
      · have h := mie hc h
        refine mw_lload_n dX0_together_23 3 rfl ?_
        refine mw_aload_n dX0_together_24 1 rfl ?_
        refine mw_iload dX0_together_25 4 rfl ?_
        obtain ⟨m1, h⟩ := mif h
        refine ev_lald dX0_together_27 (by decide) rfl m1 ?_
        refine mw_ladd dX0_together_28 ?_
        refine mw_lstore_n (L' := [(3, .long (x3 + (eL σ 53 x5.toNatClampNeg))), (0, .ref 51), (1, .ref 53), (2, .int a2), (5, .int x5)]) dX0_together_29 rfl (by decide) rfl ?_
        refine mw_iinc (v := (x5 + 1)) (L' := [(5, .int (x5 + 1)), (3, .long (x3 + (eL σ 53 x5.toNatClampNeg))), (0, .ref 51), (1, .ref 53), (2, .int a2)]) dX0_together_30 4 rfl rfl (by decide) rfl ?_
        refine mw_goto (tgt := 5) dX0_together_33 (by decide) ?_
        exact mw_sub (L' := [(0, .ref 51), (1, .ref 53), (2, .int a2), (3, .long (x3 + (eL σ 53 x5.toNatClampNeg))), (5, .int (x5 + 1))]) [2, 3, 4, 1, 0] rfl (ih _ _ h)
def e_X0_together_51_53 (σ : ES) (a2 : Int32) : Option Int64 := e_X0_together_51_53_L5 σ a2 mN (0 : Int64) (0 : Int32)
set_option maxRecDepth 100000 in
set_option maxHeartbeats 4000000 in
theorem k_X0_together_51_53 {l : Launch} {σ : ES} {a2 : Int32} {out : Int64} (h : e_X0_together_51_53 σ a2 = some out) : MK l yX0_together cX0_together 6 (some .long) 1 [.ref 51, .ref 53, .int a2] (mkS σ) (some (.long out)) (mkS σ) := by
  unfold e_X0_together_51_53 at h
  refine mw_entry (own := RX0) (ini := false) (L := [(0, .ref 51), (1, .ref 53), (2, .int a2)]) (by decide +kernel) rfl (fun h => nomatch h) rfl (Nat.le_of_ble_eq_true rfl) (Nat.le_of_ble_eq_true rfl) (fun E => ?_)
  refine mw_lconst (v := 0) dX0_together_0 (by decide) ?_
  refine mw_lstore_n (L' := [(3, .long (0 : Int64)), (0, .ref 51), (1, .ref 53), (2, .int a2)]) dX0_together_1 rfl (by decide) rfl ?_
  refine mw_iconst (v := 0) dX0_together_2 (by decide) ?_
  refine mw_istore (L' := [(5, .int (0 : Int32)), (3, .long (0 : Int64)), (0, .ref 51), (1, .ref 53), (2, .int a2)]) dX0_together_3 (by decide) rfl ?_
  exact mw_sub (L' := [(0, .ref 51), (1, .ref 53), (2, .int a2), (3, .long (0 : Int64)), (5, .int (0 : Int32))]) [2, 3, 4, 1, 0] rfl (p_X0_together_51_53_L5  mN _ _ h)

def e_X0_weigh_51_L3 (a1 : Int64) (a3 : Int64) : Nat → Int32 → ES → Option ES
  | 0, _, _ => none
  | n + 1, x5, σ => if (eI σ 51 4) ≤ x5 then (some σ) else (if mib x5 14 = true then (e_X0_weigh_51_L3 a1 a3 n (x5 + 1) (uL σ 54 x5.toNatClampNeg ((a3 * (eL σ 52 x5.toNatClampNeg)) - (a1 * (eL σ 53 x5.toNatClampNeg))))) else none)
set_option maxRecDepth 100000 in
set_option maxHeartbeats 4000000 in
theorem p_X0_weigh_51_L3 {l : Launch} {E : MX} {out : ES} {a1 : Int64} {a3 : Int64}  : ∀ (n : Nat) (x5 : Int32) (σ : ES), e_X0_weigh_51_L3 a1 a3 n x5 σ = some out → MV l E cX0_weigh RX0 6 none 1 (82, none, mkS out) (mkS σ) 3 [(0, .ref 51), (1, .long a1), (3, .long a3), (5, .int x5)] [] := by
  intro n
  induction n with
  | zero =>
    intro x5 σ h
    exact nomatch h
  | succ n ih =>
    intro x5 σ h
    rw [e_X0_weigh_51_L3] at h
    refine mw_iload dX0_weigh_3 3 rfl ?_
    refine mw_aload_n dX0_weigh_5 0 rfl ?_
    refine ev_getI fd_RX0_27_2 dX0_weigh_6 rfl rfl ?_
    refine mw_icmp_ge (tgt := 44) dX0_weigh_9 (by decide) (fun hc => ?_) (fun hc => ?_)
    · have h := mit hc h
      exact mw_vret dX0_weigh_44 rfl (ers_vm h) rfl rfl
    · have h := mie hc h
      refine mw_aload_n dX0_weigh_12 0 rfl ?_
      refine ev_getR (q := 54) fd_RX0_18_2 dX0_weigh_13 rfl rfl rfl ?_
      refine mw_iload dX0_weigh_16 3 rfl ?_
      refine mw_lload_n dX0_weigh_18 2 rfl ?_
      refine mw_aload_n dX0_weigh_19 0 rfl ?_
      refine ev_getR (q := 52) fd_RX0_9_2 dX0_weigh_20 rfl rfl rfl ?_
      refine mw_iload dX0_weigh_23 3 rfl ?_
      obtain ⟨m1, h⟩ := mif h
      refine ev_lald dX0_weigh_25 (by decide) rfl m1 ?_
      refine mw_lmul dX0_weigh_26 ?_
      refine mw_lload_n dX0_weigh_27 1 rfl ?_
      refine mw_aload_n dX0_weigh_28 0 rfl ?_
      refine ev_getR (q := 53) fd_RX0_15_2 dX0_weigh_29 rfl rfl rfl ?_
      refine mw_iload dX0_weigh_32 3 rfl ?_
      refine ev_lald dX0_weigh_34 (by decide) rfl m1 ?_
      refine mw_lmul dX0_weigh_35 ?_
      refine mw_lsub dX0_weigh_36 ?_
      refine ev_last dX0_weigh_37 (by decide) rfl m1 ?_
      refine mw_iinc (v := (x5 + 1)) (L' := [(5, .int (x5 + 1)), (0, .ref 51), (1, .long a1), (3, .long a3)]) dX0_weigh_38 3 rfl rfl (by decide) rfl ?_
      refine mw_goto (tgt := 3) dX0_weigh_41 (by decide) ?_
      exact mw_sub (L' := [(0, .ref 51), (1, .long a1), (3, .long a3), (5, .int (x5 + 1))]) [1, 2, 3, 0] rfl (ih _ _ h)
def e_X0_weigh_51 (a1 : Int64) (a3 : Int64) (σ : ES) : Option ES := e_X0_weigh_51_L3 a1 a3 mN (0 : Int32) σ
set_option maxRecDepth 100000 in
set_option maxHeartbeats 4000000 in
theorem k_X0_weigh_51 {l : Launch} {σ : ES} {a1 : Int64} {a3 : Int64} {out : ES} (h : e_X0_weigh_51 a1 a3 σ = some out) : MK l yX0_weigh cX0_weigh 6 none 1 [.ref 51, .long a1, .long a3] (mkS σ) none (mkS out) := by
  unfold e_X0_weigh_51 at h
  refine mw_entry (own := RX0) (ini := false) (L := [(0, .ref 51), (1, .long a1), (3, .long a3)]) (by decide +kernel) rfl (fun h => nomatch h) rfl (Nat.le_of_ble_eq_true rfl) (Nat.le_of_ble_eq_true rfl) (fun E => ?_)
  refine mw_iconst (v := 0) dX0_weigh_0 (by decide) ?_
  refine mw_istore (L' := [(5, .int (0 : Int32)), (0, .ref 51), (1, .long a1), (3, .long a3)]) dX0_weigh_1 (by decide) rfl ?_
  exact mw_sub (L' := [(0, .ref 51), (1, .long a1), (3, .long a3), (5, .int (0 : Int32))]) [1, 2, 3, 0] rfl (p_X0_weigh_51_L3  mN _ _ h)

theorem dX3_pick_0 : decode cX3_pick 0 = .ok (.iconst 0, 1) := by decide +kernel
theorem dX3_pick_1 : decode cX3_pick 1 = .ok (.istore_n 1, 1) := by decide +kernel
theorem dX3_pick_2 : decode cX3_pick 2 = .ok (.iconst 0, 1) := by decide +kernel
theorem dX3_pick_3 : decode cX3_pick 3 = .ok (.istore_n 2, 1) := by decide +kernel
theorem dX3_pick_4 : decode cX3_pick 4 = .ok (.iload_n 2, 1) := by decide +kernel
theorem dX3_pick_5 : decode cX3_pick 5 = .ok (.aload_n 0, 1) := by decide +kernel
theorem dX3_pick_6 : decode cX3_pick 6 = .ok (.getfield 7, 3) := by decide +kernel
theorem dX3_pick_9 : decode cX3_pick 9 = .ok (.if_icmp .ge 74, 3) := by decide +kernel
theorem dX3_pick_12 : decode cX3_pick 12 = .ok (.iconst (-1), 1) := by decide +kernel
theorem dX3_pick_13 : decode cX3_pick 13 = .ok (.istore_n 3, 1) := by decide +kernel
theorem dX3_pick_14 : decode cX3_pick 14 = .ok (.iconst 0, 1) := by decide +kernel
theorem dX3_pick_15 : decode cX3_pick 15 = .ok (.istore 4, 2) := by decide +kernel
theorem dX3_pick_17 : decode cX3_pick 17 = .ok (.iload 4, 2) := by decide +kernel
theorem dX3_pick_19 : decode cX3_pick 19 = .ok (.aload_n 0, 1) := by decide +kernel
theorem dX3_pick_20 : decode cX3_pick 20 = .ok (.getfield 18, 3) := by decide +kernel
theorem dX3_pick_23 : decode cX3_pick 23 = .ok (.if_icmp .ge 42, 3) := by decide +kernel
theorem dX3_pick_26 : decode cX3_pick 26 = .ok (.iload_n 1, 1) := by decide +kernel
theorem dX3_pick_27 : decode cX3_pick 27 = .ok (.iconst 1, 1) := by decide +kernel
theorem dX3_pick_28 : decode cX3_pick 28 = .ok (.iload 4, 2) := by decide +kernel
theorem dX3_pick_30 : decode cX3_pick 30 = .ok (.ishl, 1) := by decide +kernel
theorem dX3_pick_31 : decode cX3_pick 31 = .ok (.iand, 1) := by decide +kernel
theorem dX3_pick_32 : decode cX3_pick 32 = .ok (.ifCond .ne 27, 3) := by decide +kernel
theorem dX3_pick_35 : decode cX3_pick 35 = .ok (.iload_n 3, 1) := by decide +kernel
theorem dX3_pick_36 : decode cX3_pick 36 = .ok (.ifCond .lt 20, 3) := by decide +kernel
theorem dX3_pick_39 : decode cX3_pick 39 = .ok (.aload_n 0, 1) := by decide +kernel
theorem dX3_pick_40 : decode cX3_pick 40 = .ok (.getfield 46, 3) := by decide +kernel
theorem dX3_pick_43 : decode cX3_pick 43 = .ok (.iload 4, 2) := by decide +kernel
theorem dX3_pick_45 : decode cX3_pick 45 = .ok (.laload, 1) := by decide +kernel
theorem dX3_pick_46 : decode cX3_pick 46 = .ok (.aload_n 0, 1) := by decide +kernel
theorem dX3_pick_47 : decode cX3_pick 47 = .ok (.getfield 46, 3) := by decide +kernel
theorem dX3_pick_50 : decode cX3_pick 50 = .ok (.iload_n 3, 1) := by decide +kernel
theorem dX3_pick_51 : decode cX3_pick 51 = .ok (.laload, 1) := by decide +kernel
theorem dX3_pick_52 : decode cX3_pick 52 = .ok (.lcmp, 1) := by decide +kernel
theorem dX3_pick_53 : decode cX3_pick 53 = .ok (.ifCond .le 6, 3) := by decide +kernel
theorem dX3_pick_56 : decode cX3_pick 56 = .ok (.iload 4, 2) := by decide +kernel
theorem dX3_pick_58 : decode cX3_pick 58 = .ok (.istore_n 3, 1) := by decide +kernel
theorem dX3_pick_59 : decode cX3_pick 59 = .ok (.iinc 4 1, 3) := by decide +kernel
theorem dX3_pick_62 : decode cX3_pick 62 = .ok (.goto (-45), 3) := by decide +kernel
theorem dX3_pick_65 : decode cX3_pick 65 = .ok (.iload_n 3, 1) := by decide +kernel
theorem dX3_pick_66 : decode cX3_pick 66 = .ok (.ifCond .ge 5, 3) := by decide +kernel
theorem dX3_pick_69 : decode cX3_pick 69 = .ok (.iconst 0, 1) := by decide +kernel
theorem dX3_pick_70 : decode cX3_pick 70 = .ok (.ireturn, 1) := by decide +kernel
theorem dX3_pick_71 : decode cX3_pick 71 = .ok (.iload_n 1, 1) := by decide +kernel
theorem dX3_pick_72 : decode cX3_pick 72 = .ok (.iconst 1, 1) := by decide +kernel
theorem dX3_pick_73 : decode cX3_pick 73 = .ok (.iload_n 3, 1) := by decide +kernel
theorem dX3_pick_74 : decode cX3_pick 74 = .ok (.ishl, 1) := by decide +kernel
theorem dX3_pick_75 : decode cX3_pick 75 = .ok (.ior, 1) := by decide +kernel
theorem dX3_pick_76 : decode cX3_pick 76 = .ok (.istore_n 1, 1) := by decide +kernel
theorem dX3_pick_77 : decode cX3_pick 77 = .ok (.iinc 2 1, 3) := by decide +kernel
theorem dX3_pick_80 : decode cX3_pick 80 = .ok (.goto (-76), 3) := by decide +kernel
theorem dX3_pick_83 : decode cX3_pick 83 = .ok (.iload_n 1, 1) := by decide +kernel
theorem dX3_pick_84 : decode cX3_pick 84 = .ok (.ireturn, 1) := by decide +kernel
def e_X3_pick_L17 (σ : ES) (k4 : Int32 → Int32 → Option Int32) : Nat → Int32 → Int32 → Int32 → Int32 → Option Int32
  | 0, _, _, _, _ => none
  | n + 1, x1, x2, x3, x4 => if (eI σ 51 4) ≤ x4 then (if 0 ≤ x3 then (k4 (x1 ||| ((1 : Int32) <<< (x3 &&& 31))) (x2 + 1)) else (some (0 : Int32))) else (if (x1 &&& ((1 : Int32) <<< (x4 &&& 31))) = 0 then (if x3 < 0 then (e_X3_pick_L17 σ k4 n x1 x2 x4 (x4 + 1)) else (if mib x4 14 = true then (if mib x3 14 = true then (if (eL σ 54 x4.toNatClampNeg) ≤ (eL σ 54 x3.toNatClampNeg) then (e_X3_pick_L17 σ k4 n x1 x2 x3 (x4 + 1)) else (e_X3_pick_L17 σ k4 n x1 x2 x4 (x4 + 1))) else none) else none)) else (e_X3_pick_L17 σ k4 n x1 x2 x3 (x4 + 1)))
set_option maxRecDepth 100000 in
set_option maxHeartbeats 4000000 in
theorem p_X3_pick_L17 {l : Launch} {E : MX} {out : Int32} {σ : ES} {k4 : Int32 → Int32 → Option Int32} (hk4 : ∀ (z0 : Int32) (z1 : Int32), k4 z0 z1 = some out → MV l E cX3_pick RX3 5 (some .int) 1 (82, (some (.int out)), mkS σ) (mkS σ) 4 [(0, .ref 51), (1, .int z0), (2, .int z1)] []) : ∀ (n : Nat) (x1 : Int32) (x2 : Int32) (x3 : Int32) (x4 : Int32), e_X3_pick_L17 σ k4 n x1 x2 x3 x4 = some out → MV l E cX3_pick RX3 5 (some .int) 1 (82, (some (.int out)), mkS σ) (mkS σ) 17 [(0, .ref 51), (1, .int x1), (2, .int x2), (3, .int x3), (4, .int x4)] [] := by
  intro n
  induction n with
  | zero =>
    intro x1 x2 x3 x4 h
    exact nomatch h
  | succ n ih =>
    intro x1 x2 x3 x4 h
    rw [e_X3_pick_L17] at h
    refine mw_iload dX3_pick_17 4 rfl ?_
    refine mw_aload_n dX3_pick_19 0 rfl ?_
    refine ev_getI fd_RX3_18_2 dX3_pick_20 rfl rfl ?_
    refine mw_icmp_ge (tgt := 65) dX3_pick_23 (by decide) (fun hc => ?_) (fun hc => ?_)
    · have h := mit hc h
      refine mw_iload_n dX3_pick_65 3 rfl ?_
      refine mw_if_ge (tgt := 71) dX3_pick_66 (by decide) (fun hc => ?_) (fun hc => ?_)
      · have h := mit hc h
        refine mw_iload_n dX3_pick_71 1 rfl ?_
        refine mw_iconst (v := 1) dX3_pick_72 (by decide) ?_
        refine mw_iload_n dX3_pick_73 3 rfl ?_
        refine mw_ishl dX3_pick_74 ?_
        refine mw_ior dX3_pick_75 ?_
        refine mw_istore_n (L' := [(1, .int (x1 ||| ((1 : Int32) <<< (x3 &&& 31)))), (0, .ref 51), (2, .int x2), (3, .int x3), (4, .int x4)]) dX3_pick_76 rfl (by decide) rfl ?_
        refine mw_iinc (v := (x2 + 1)) (L' := [(2, .int (x2 + 1)), (1, .int (x1 ||| ((1 : Int32) <<< (x3 &&& 31)))), (0, .ref 51), (3, .int x3), (4, .int x4)]) dX3_pick_77 2 rfl rfl (by decide) rfl ?_
        refine mw_goto (tgt := 4) dX3_pick_80 (by decide) ?_
        exact mw_sub (L' := [(0, .ref 51), (1, .int (x1 ||| ((1 : Int32) <<< (x3 &&& 31)))), (2, .int (x2 + 1))]) [2, 1, 0] rfl (hk4 _ _ h)
      · have h := mie hc h
        refine mw_iconst (v := 0) dX3_pick_69 (by decide) ?_
        exact mw_iret dX3_pick_70 rfl (ers_i h) rfl rfl
    · have h := mie hc h
      refine mw_iload_n dX3_pick_26 1 rfl ?_
      refine mw_iconst (v := 1) dX3_pick_27 (by decide) ?_
      refine mw_iload dX3_pick_28 4 rfl ?_
      refine mw_ishl dX3_pick_30 ?_
      refine mw_iand dX3_pick_31 ?_
      refine mw_if_ne (tgt := 59) dX3_pick_32 (by decide) (fun hc => ?_) (fun hc => ?_)
      · have h := mie hc h
        refine mw_iinc (v := (x4 + 1)) (L' := [(4, .int (x4 + 1)), (0, .ref 51), (1, .int x1), (2, .int x2), (3, .int x3)]) dX3_pick_59 4 rfl rfl (by decide) rfl ?_
        refine mw_goto (tgt := 17) dX3_pick_62 (by decide) ?_
        exact mw_sub (L' := [(0, .ref 51), (1, .int x1), (2, .int x2), (3, .int x3), (4, .int (x4 + 1))]) [1, 2, 3, 4, 0] rfl (ih _ _ _ _ h)
      · have h := mit hc h
        refine mw_iload_n dX3_pick_35 3 rfl ?_
        refine mw_if_lt (tgt := 56) dX3_pick_36 (by decide) (fun hc => ?_) (fun hc => ?_)
        · have h := mit hc h
          refine mw_iload dX3_pick_56 4 rfl ?_
          refine mw_istore_n (L' := [(3, .int x4), (0, .ref 51), (1, .int x1), (2, .int x2), (4, .int x4)]) dX3_pick_58 rfl (by decide) rfl ?_
          refine mw_iinc (v := (x4 + 1)) (L' := [(4, .int (x4 + 1)), (3, .int x4), (0, .ref 51), (1, .int x1), (2, .int x2)]) dX3_pick_59 4 rfl rfl (by decide) rfl ?_
          refine mw_goto (tgt := 17) dX3_pick_62 (by decide) ?_
          exact mw_sub (L' := [(0, .ref 51), (1, .int x1), (2, .int x2), (3, .int x4), (4, .int (x4 + 1))]) [2, 3, 4, 1, 0] rfl (ih _ _ _ _ h)
        · have h := mie hc h
          refine mw_aload_n dX3_pick_39 0 rfl ?_
          refine ev_getR (q := 54) fd_RX3_46_2 dX3_pick_40 rfl rfl rfl ?_
          refine mw_iload dX3_pick_43 4 rfl ?_
          obtain ⟨m1, h⟩ := mif h
          refine ev_lald dX3_pick_45 (by decide) rfl m1 ?_
          refine mw_aload_n dX3_pick_46 0 rfl ?_
          refine ev_getR (q := 54) fd_RX3_46_2 dX3_pick_47 rfl rfl rfl ?_
          refine mw_iload_n dX3_pick_50 3 rfl ?_
          obtain ⟨m2, h⟩ := mif h
          refine ev_lald dX3_pick_51 (by decide) rfl m2 ?_
          refine mw_lc_le (tgt := 59) dX3_pick_52 dX3_pick_53 (by decide) (fun hc => ?_) (fun hc => ?_)
          · have h := mit hc h
            refine mw_iinc (v := (x4 + 1)) (L' := [(4, .int (x4 + 1)), (0, .ref 51), (1, .int x1), (2, .int x2), (3, .int x3)]) dX3_pick_59 4 rfl rfl (by decide) rfl ?_
            refine mw_goto (tgt := 17) dX3_pick_62 (by decide) ?_
            exact mw_sub (L' := [(0, .ref 51), (1, .int x1), (2, .int x2), (3, .int x3), (4, .int (x4 + 1))]) [1, 2, 3, 4, 0] rfl (ih _ _ _ _ h)
          · have h := mie hc h
            refine mw_iload dX3_pick_56 4 rfl ?_
            refine mw_istore_n (L' := [(3, .int x4), (0, .ref 51), (1, .int x1), (2, .int x2), (4, .int x4)]) dX3_pick_58 rfl (by decide) rfl ?_
            refine mw_iinc (v := (x4 + 1)) (L' := [(4, .int (x4 + 1)), (3, .int x4), (0, .ref 51), (1, .int x1), (2, .int x2)]) dX3_pick_59 4 rfl rfl (by decide) rfl ?_
            refine mw_goto (tgt := 17) dX3_pick_62 (by decide) ?_
            exact mw_sub (L' := [(0, .ref 51), (1, .int x1), (2, .int x2), (3, .int x4), (4, .int (x4 + 1))]) [2, 3, 4, 1, 0] rfl (ih _ _ _ _ h)
def e_X3_pick_L4 (σ : ES) : Nat → Int32 → Int32 → Option Int32
  | 0, _, _ => none
  | n + 1, x1, x2 => if (eI σ 51 10) ≤ x2 then (some x1) else (e_X3_pick_L17 σ (e_X3_pick_L4 σ n) mN x1 x2 (-1 : Int32) (0 : Int32))
set_option maxRecDepth 100000 in
set_option maxHeartbeats 4000000 in
theorem p_X3_pick_L4 {l : Launch} {E : MX} {out : Int32} {σ : ES}  : ∀ (n : Nat) (x1 : Int32) (x2 : Int32), e_X3_pick_L4 σ n x1 x2 = some out → MV l E cX3_pick RX3 5 (some .int) 1 (82, (some (.int out)), mkS σ) (mkS σ) 4 [(0, .ref 51), (1, .int x1), (2, .int x2)] [] := by
  intro n
  induction n with
  | zero =>
    intro x1 x2 h
    exact nomatch h
  | succ n ih =>
    intro x1 x2 h
    rw [e_X3_pick_L4] at h
    refine mw_iload_n dX3_pick_4 2 rfl ?_
    refine mw_aload_n dX3_pick_5 0 rfl ?_
    refine ev_getI fd_RX3_7_2 dX3_pick_6 rfl rfl ?_
    refine mw_icmp_ge (tgt := 83) dX3_pick_9 (by decide) (fun hc => ?_) (fun hc => ?_)
    · have h := mit hc h
      refine mw_iload_n dX3_pick_83 1 rfl ?_
      exact mw_iret dX3_pick_84 rfl (ers_i h) rfl rfl
    · have h := mie hc h
      refine mw_iconst (v := -1) dX3_pick_12 (by decide) ?_
      refine mw_istore_n (L' := [(3, .int (-1 : Int32)), (0, .ref 51), (1, .int x1), (2, .int x2)]) dX3_pick_13 rfl (by decide) rfl ?_
      refine mw_iconst (v := 0) dX3_pick_14 (by decide) ?_
      refine mw_istore (L' := [(4, .int (0 : Int32)), (3, .int (-1 : Int32)), (0, .ref 51), (1, .int x1), (2, .int x2)]) dX3_pick_15 (by decide) rfl ?_
      exact mw_sub (L' := [(0, .ref 51), (1, .int x1), (2, .int x2), (3, .int (-1 : Int32)), (4, .int (0 : Int32))]) [2, 3, 4, 1, 0] rfl (p_X3_pick_L17 ih mN _ _ _ _ h)
def e_X3_pick (σ : ES) : Option Int32 := e_X3_pick_L4 σ mN (0 : Int32) (0 : Int32)
set_option maxRecDepth 100000 in
set_option maxHeartbeats 4000000 in
theorem k_X3_pick {l : Launch} {σ : ES}  {out : Int32} (h : e_X3_pick σ = some out) : MK l yX3_pick cX3_pick 5 (some .int) 1 [.ref 51] (mkS σ) (some (.int out)) (mkS σ) := by
  unfold e_X3_pick at h
  refine mw_entry (own := RX3) (ini := false) (L := [(0, .ref 51)]) (by decide +kernel) rfl (fun h => nomatch h) rfl (Nat.le_of_ble_eq_true rfl) (Nat.le_of_ble_eq_true rfl) (fun E => ?_)
  refine mw_iconst (v := 0) dX3_pick_0 (by decide) ?_
  refine mw_istore_n (L' := [(1, .int (0 : Int32)), (0, .ref 51)]) dX3_pick_1 rfl (by decide) rfl ?_
  refine mw_iconst (v := 0) dX3_pick_2 (by decide) ?_
  refine mw_istore_n (L' := [(2, .int (0 : Int32)), (1, .int (0 : Int32)), (0, .ref 51)]) dX3_pick_3 rfl (by decide) rfl ?_
  exact mw_sub (L' := [(0, .ref 51), (1, .int (0 : Int32)), (2, .int (0 : Int32))]) [2, 1, 0] rfl (p_X3_pick_L4  mN _ _ h)

def e_X0_runs_51_L19  : Nat → Int32 → Int32 → ES → Option (Int32 × ES)
  | 0, _, _, _ => none
  | n + 1, x1, x2, σ => if (16384 : Int32) < x2 then (some ((1 : Int32), σ)) else ((e_X0_together_51_52 (uI σ 51 1 x2) x1).bind (fun r1 => (e_X0_together_51_53 (uL (uI σ 51 1 x2) 51 2 ((eL (uI σ 51 1 x2) 51 5) + r1)) x1).bind (fun r3 => (e_X0_weigh_51 (eL (uL (uL (uI σ 51 1 x2) 51 2 ((eL (uI σ 51 1 x2) 51 5) + r1)) 51 3 ((eL (uL (uI σ 51 1 x2) 51 2 ((eL (uI σ 51 1 x2) 51 5) + r1)) 51 6) + r3)) 51 2) (eL (uL (uL (uI σ 51 1 x2) 51 2 ((eL (uI σ 51 1 x2) 51 5) + r1)) 51 3 ((eL (uL (uI σ 51 1 x2) 51 2 ((eL (uI σ 51 1 x2) 51 5) + r1)) 51 6) + r3)) 51 3) (uL (uL (uI σ 51 1 x2) 51 2 ((eL (uI σ 51 1 x2) 51 5) + r1)) 51 3 ((eL (uL (uI σ 51 1 x2) 51 2 ((eL (uI σ 51 1 x2) 51 5) + r1)) 51 6) + r3))).bind (fun r5 => (e_X3_pick r5).bind (fun r7 => (e_X0_together_51_52 (uI r5 51 0 r7) (eI (uI r5 51 0 r7) 51 0)).bind (fun r9 => (e_X0_together_51_53 (uI r5 51 0 r7) (eI (uI r5 51 0 r7) 51 0)).bind (fun r11 => if ((eL (uI r5 51 0 r7) 51 2) * ((eL (uI r5 51 0 r7) 51 6) + r11)) < (((eL (uI r5 51 0 r7) 51 5) + r9) * (eL (uI r5 51 0 r7) 51 3)) then (e_X0_runs_51_L19 n (eI (uI r5 51 0 r7) 51 0) (x2 + 1) (uI r5 51 0 r7)) else (some ((1 : Int32), (uI r5 51 0 r7))))))))))
set_option maxRecDepth 100000 in
set_option maxHeartbeats 4000000 in
theorem p_X0_runs_51_L19 {l : Launch} {E : MX} {out : (Int32 × ES)}   : ∀ (n : Nat) (x1 : Int32) (x2 : Int32) (σ : ES), e_X0_runs_51_L19 n x1 x2 σ = some out → MV l E cX0_runs RX0 7 (some .boolean) 2 (82, (some (.int out.1)), mkS out.2) (mkS σ) 19 [(0, .ref 51), (1, .int x1), (2, .int x2)] [] := by
  intro n
  induction n with
  | zero =>
    intro x1 x2 σ h
    exact nomatch h
  | succ n ih =>
    intro x1 x2 σ h
    rw [e_X0_runs_51_L19] at h
    refine mw_iload_n dX0_runs_19 2 rfl ?_
    refine mw_sipush (v := 16384) dX0_runs_20 (by decide) ?_
    refine mw_icmp_gt (tgt := 154) dX0_runs_23 (by decide) (fun hc => ?_) (fun hc => ?_)
    · have h := mit hc h
      refine mw_iconst (v := 1) dX0_runs_154 (by decide) ?_
      exact mw_zret dX0_runs_155 rfl (by decide) (ers_im h) rfl rfl
    · have h := mie hc h
      refine mw_aload_n dX0_runs_26 0 rfl ?_
      refine mw_iload_n dX0_runs_27 2 rfl ?_
      refine ev_putI fw_RX0_45_2 dX0_runs_28 rfl rfl ?_
      refine mw_aload_n dX0_runs_31 0 rfl ?_
      refine mw_aload_n dX0_runs_32 0 rfl ?_
      refine ev_getL fd_RX0_48_2 dX0_runs_33 rfl rfl ?_
      refine mw_aload_n dX0_runs_36 0 rfl ?_
      refine mw_aload_n dX0_runs_37 0 rfl ?_
      refine ev_getR (q := 52) fd_RX0_9_2 dX0_runs_38 rfl rfl rfl ?_
      refine mw_iload_n dX0_runs_41 1 rfl ?_
      obtain ⟨r1, e2, h⟩ := mbd h
      refine mv_callU_l (As := [.ref 52, .int x1]) (ci := 2) lkU_RX0_52_2_yX0_together rfl dX0_runs_42 (k_X0_together_51_52 e2) rfl rfl rfl rfl (Nat.le_of_ble_eq_true rfl) (by decide) (by decide) ?_
      refine mw_ladd dX0_runs_45 ?_
      refine ev_putL fw_RX0_56_2 dX0_runs_46 rfl rfl ?_
      refine mw_aload_n dX0_runs_49 0 rfl ?_
      refine mw_aload_n dX0_runs_50 0 rfl ?_
      refine ev_getL fd_RX0_59_2 dX0_runs_51 rfl rfl ?_
      refine mw_aload_n dX0_runs_54 0 rfl ?_
      refine mw_aload_n dX0_runs_55 0 rfl ?_
      refine ev_getR (q := 53) fd_RX0_15_2 dX0_runs_56 rfl rfl rfl ?_
      refine mw_iload_n dX0_runs_59 1 rfl ?_
      obtain ⟨r3, e4, h⟩ := mbd h
      refine mv_callU_l (As := [.ref 53, .int x1]) (ci := 2) lkU_RX0_52_2_yX0_together rfl dX0_runs_60 (k_X0_together_51_53 e4) rfl rfl rfl rfl (Nat.le_of_ble_eq_true rfl) (by decide) (by decide) ?_
      refine mw_ladd dX0_runs_63 ?_
      refine ev_putL fw_RX0_62_2 dX0_runs_64 rfl rfl ?_
      refine mw_aload_n dX0_runs_67 0 rfl ?_
      refine mw_aload_n dX0_runs_68 0 rfl ?_
      refine ev_getL fd_RX0_56_2 dX0_runs_69 rfl rfl ?_
      refine mw_aload_n dX0_runs_72 0 rfl ?_
      refine ev_getL fd_RX0_62_2 dX0_runs_73 rfl rfl ?_
      obtain ⟨r5, e6, h⟩ := mbd h
      refine mv_callU_v (As := [.long (eL (uL (uL (uI σ 51 1 x2) 51 2 ((eL (uI σ 51 1 x2) 51 5) + r1)) 51 3 ((eL (uL (uI σ 51 1 x2) 51 2 ((eL (uI σ 51 1 x2) 51 5) + r1)) 51 6) + r3)) 51 2), .long (eL (uL (uL (uI σ 51 1 x2) 51 2 ((eL (uI σ 51 1 x2) 51 5) + r1)) 51 3 ((eL (uL (uI σ 51 1 x2) 51 2 ((eL (uI σ 51 1 x2) 51 5) + r1)) 51 6) + r3)) 51 3)]) (ci := 2) lkU_RX0_37_2_yX0_weigh rfl dX0_runs_76 (k_X0_weigh_51 e6) rfl rfl rfl rfl (Nat.le_of_ble_eq_true rfl) (by decide) (by decide) ?_
      refine mw_aload_n dX0_runs_79 0 rfl ?_
      refine mw_aload_n dX0_runs_80 0 rfl ?_
      obtain ⟨r7, e8, h⟩ := mbd h
      refine mv_callA_i (As := []) (ci := 2) lkU_RX0_41_2_yX3_pick dX0_runs_81 (k_X3_pick e8) rfl rfl rfl rfl (Nat.le_of_ble_eq_true rfl) (by decide) (by decide) ?_
      refine ev_putI fw_RX0_65_2 dX0_runs_84 rfl rfl ?_
      refine mw_aload_n dX0_runs_87 0 rfl ?_
      refine ev_getL fd_RX0_48_2 dX0_runs_88 rfl rfl ?_
      refine mw_aload_n dX0_runs_91 0 rfl ?_
      refine mw_aload_n dX0_runs_92 0 rfl ?_
      refine ev_getR (q := 52) fd_RX0_9_2 dX0_runs_93 rfl rfl rfl ?_
      refine mw_aload_n dX0_runs_96 0 rfl ?_
      refine ev_getI fd_RX0_65_2 dX0_runs_97 rfl rfl ?_
      obtain ⟨r9, e10, h⟩ := mbd h
      refine mv_callU_l (As := [.ref 52, .int (eI (uI r5 51 0 r7) 51 0)]) (ci := 2) lkU_RX0_52_2_yX0_together rfl dX0_runs_100 (k_X0_together_51_52 e10) rfl rfl rfl rfl (Nat.le_of_ble_eq_true rfl) (by decide) (by decide) ?_
      refine mw_ladd dX0_runs_103 ?_
      refine mw_lstore_n (L' := [(3, .long ((eL (uI r5 51 0 r7) 51 5) + r9)), (0, .ref 51), (1, .int x1), (2, .int x2)]) dX0_runs_104 rfl (by decide) rfl ?_
      refine mw_aload_n dX0_runs_105 1 rfl ?_
      refine ev_getL fd_RX0_59_2 dX0_runs_106 rfl rfl ?_
      refine mw_aload_n dX0_runs_109 1 rfl ?_
      refine mw_aload_n dX0_runs_110 1 rfl ?_
      refine ev_getR (q := 53) fd_RX0_15_2 dX0_runs_111 rfl rfl rfl ?_
      refine mw_aload_n dX0_runs_114 1 rfl ?_
      refine ev_getI fd_RX0_65_2 dX0_runs_115 rfl rfl ?_
      obtain ⟨r11, e12, h⟩ := mbd h
      refine mv_callU_l (As := [.ref 53, .int (eI (uI r5 51 0 r7) 51 0)]) (ci := 2) lkU_RX0_52_2_yX0_together rfl dX0_runs_118 (k_X0_together_51_53 e12) rfl rfl rfl rfl (Nat.le_of_ble_eq_true rfl) (by decide) (by decide) ?_
      refine mw_ladd dX0_runs_121 ?_
      refine mw_lstore (L' := [(5, .long ((eL (uI r5 51 0 r7) 51 6) + r11)), (3, .long ((eL (uI r5 51 0 r7) 51 5) + r9)), (0, .ref 51), (1, .int x1), (2, .int x2)]) dX0_runs_122 (by decide) rfl ?_
      refine mw_lload_n dX0_runs_124 1 rfl ?_
      refine mw_aload_n dX0_runs_125 2 rfl ?_
      refine ev_getL fd_RX0_62_2 dX0_runs_126 rfl rfl ?_
      refine mw_lmul dX0_runs_129 ?_
      refine mw_aload_n dX0_runs_130 2 rfl ?_
      refine ev_getL fd_RX0_56_2 dX0_runs_131 rfl rfl ?_
      refine mw_lload dX0_runs_134 0 rfl ?_
      refine mw_lmul dX0_runs_136 ?_
      refine mw_lc_gt (tgt := 143) dX0_runs_137 dX0_runs_138 (by decide) (fun hc => ?_) (fun hc => ?_)
      · have h := mit hc h
        refine mw_aload_n dX0_runs_143 2 rfl ?_
        refine ev_getI fd_RX0_65_2 dX0_runs_144 rfl rfl ?_
        refine mw_istore_n (L' := [(1, .int (eI (uI r5 51 0 r7) 51 0)), (5, .long ((eL (uI r5 51 0 r7) 51 6) + r11)), (3, .long ((eL (uI r5 51 0 r7) 51 5) + r9)), (0, .ref 51), (2, .int x2)]) dX0_runs_147 rfl (by decide) rfl ?_
        refine mw_iinc (v := (x2 + 1)) (L' := [(2, .int (x2 + 1)), (1, .int (eI (uI r5 51 0 r7) 51 0)), (5, .long ((eL (uI r5 51 0 r7) 51 6) + r11)), (3, .long ((eL (uI r5 51 0 r7) 51 5) + r9)), (0, .ref 51)]) dX0_runs_148 4 rfl rfl (by decide) rfl ?_
        refine mw_goto (tgt := 19) dX0_runs_151 (by decide) ?_
        exact mw_sub (L' := [(0, .ref 51), (1, .int (eI (uI r5 51 0 r7) 51 0)), (2, .int (x2 + 1))]) [4, 1, 0] rfl (ih _ _ _ h)
      · have h := mie hc h
        refine mw_iconst (v := 1) dX0_runs_141 (by decide) ?_
        exact mw_zret dX0_runs_142 rfl (by decide) (ers_im h) rfl rfl
def e_X0_runs_51 (σ : ES) : Option (Int32 × ES) := (e_X0_weigh_51 (0 : Int64) (0 : Int64) σ).bind (fun r1 => (e_X3_pick r1).bind (fun r3 => if r3 = 0 then (some ((0 : Int32), r1)) else (e_X0_runs_51_L19 mN r3 (1 : Int32) r1)))
set_option maxRecDepth 100000 in
set_option maxHeartbeats 4000000 in
theorem k_X0_runs_51 {l : Launch} {σ : ES}  {out : (Int32 × ES)} (h : e_X0_runs_51 σ = some out) : MK l yX0_runs cX0_runs 7 (some .boolean) 2 [.ref 51] (mkS σ) (some (.int out.1)) (mkS out.2) := by
  unfold e_X0_runs_51 at h
  refine mw_entry (own := RX0) (ini := false) (L := [(0, .ref 51)]) (by decide +kernel) rfl (fun h => nomatch h) rfl (Nat.le_of_ble_eq_true rfl) (Nat.le_of_ble_eq_true rfl) (fun E => ?_)
  refine mw_aload_n dX0_runs_0 0 rfl ?_
  refine mw_lconst (v := 0) dX0_runs_1 (by decide) ?_
  refine mw_lconst (v := 0) dX0_runs_2 (by decide) ?_
  obtain ⟨r1, e2, h⟩ := mbd h
  refine mv_callU_v (As := [.long (0 : Int64), .long (0 : Int64)]) (ci := 2) lkU_RX0_37_2_yX0_weigh rfl dX0_runs_3 (k_X0_weigh_51 e2) rfl rfl rfl rfl (Nat.le_of_ble_eq_true rfl) (by decide) (by decide) ?_
  refine mw_aload_n dX0_runs_6 0 rfl ?_
  obtain ⟨r3, e4, h⟩ := mbd h
  refine mv_callA_i (As := []) (ci := 2) lkU_RX0_41_2_yX3_pick dX0_runs_7 (k_X3_pick e4) rfl rfl rfl rfl (Nat.le_of_ble_eq_true rfl) (by decide) (by decide) ?_
  refine mw_istore_n (L' := [(1, .int r3), (0, .ref 51)]) dX0_runs_10 rfl (by decide) rfl ?_
  refine mw_iload_n dX0_runs_11 0 rfl ?_
  refine mw_if_ne (tgt := 17) dX0_runs_12 (by decide) (fun hc => ?_) (fun hc => ?_)
  · have h := mie hc h
    refine mw_iconst (v := 1) dX0_runs_17 (by decide) ?_
    refine mw_istore_n (L' := [(2, .int (1 : Int32)), (1, .int r3), (0, .ref 51)]) dX0_runs_18 rfl (by decide) rfl ?_
    exact mw_sub (L' := [(0, .ref 51), (1, .int r3), (2, .int (1 : Int32))]) [2, 1, 0] rfl (p_X0_runs_51_L19  mN _ _ _ h)
  · have h := mit hc h
    refine mw_iconst (v := 0) dX0_runs_15 (by decide) ?_
    exact mw_zret dX0_runs_16 rfl (by decide) (ers_im h) rfl rfl

theorem dX3_climbs_0 : decode cX3_climbs 0 = .ok (.aload_n 0, 1) := by decide +kernel
theorem dX3_climbs_1 : decode cX3_climbs 1 = .ok (.iload_n 2, 1) := by decide +kernel
theorem dX3_climbs_2 : decode cX3_climbs 2 = .ok (.putfield 7, 3) := by decide +kernel
theorem dX3_climbs_5 : decode cX3_climbs 5 = .ok (.aload_n 0, 1) := by decide +kernel
theorem dX3_climbs_6 : decode cX3_climbs 6 = .ok (.aload_n 1, 1) := by decide +kernel
theorem dX3_climbs_7 : decode cX3_climbs 7 = .ok (.getfield 13, 3) := by decide +kernel
theorem dX3_climbs_10 : decode cX3_climbs 10 = .ok (.putfield 18, 3) := by decide +kernel
theorem dX3_climbs_13 : decode cX3_climbs 13 = .ok (.aload_n 0, 1) := by decide +kernel
theorem dX3_climbs_14 : decode cX3_climbs 14 = .ok (.aload_n 1, 1) := by decide +kernel
theorem dX3_climbs_15 : decode cX3_climbs 15 = .ok (.getfield 21, 3) := by decide +kernel
theorem dX3_climbs_18 : decode cX3_climbs 18 = .ok (.iconst 0, 1) := by decide +kernel
theorem dX3_climbs_19 : decode cX3_climbs 19 = .ok (.iaload, 1) := by decide +kernel
theorem dX3_climbs_20 : decode cX3_climbs 20 = .ok (.i2l, 1) := by decide +kernel
theorem dX3_climbs_21 : decode cX3_climbs 21 = .ok (.putfield 25, 3) := by decide +kernel
theorem dX3_climbs_24 : decode cX3_climbs 24 = .ok (.aload_n 0, 1) := by decide +kernel
theorem dX3_climbs_25 : decode cX3_climbs 25 = .ok (.aload_n 1, 1) := by decide +kernel
theorem dX3_climbs_26 : decode cX3_climbs 26 = .ok (.getfield 29, 3) := by decide +kernel
theorem dX3_climbs_29 : decode cX3_climbs 29 = .ok (.iconst 0, 1) := by decide +kernel
theorem dX3_climbs_30 : decode cX3_climbs 30 = .ok (.iaload, 1) := by decide +kernel
theorem dX3_climbs_31 : decode cX3_climbs 31 = .ok (.i2l, 1) := by decide +kernel
theorem dX3_climbs_32 : decode cX3_climbs 32 = .ok (.putfield 32, 3) := by decide +kernel
theorem dX3_climbs_35 : decode cX3_climbs 35 = .ok (.iconst 0, 1) := by decide +kernel
theorem dX3_climbs_36 : decode cX3_climbs 36 = .ok (.istore_n 3, 1) := by decide +kernel
theorem dX3_climbs_37 : decode cX3_climbs 37 = .ok (.iload_n 3, 1) := by decide +kernel
theorem dX3_climbs_38 : decode cX3_climbs 38 = .ok (.aload_n 0, 1) := by decide +kernel
theorem dX3_climbs_39 : decode cX3_climbs 39 = .ok (.getfield 18, 3) := by decide +kernel
theorem dX3_climbs_42 : decode cX3_climbs 42 = .ok (.if_icmp .ge 39, 3) := by decide +kernel
theorem dX3_climbs_45 : decode cX3_climbs 45 = .ok (.aload_n 0, 1) := by decide +kernel
theorem dX3_climbs_46 : decode cX3_climbs 46 = .ok (.getfield 35, 3) := by decide +kernel
theorem dX3_climbs_49 : decode cX3_climbs 49 = .ok (.iload_n 3, 1) := by decide +kernel
theorem dX3_climbs_50 : decode cX3_climbs 50 = .ok (.aload_n 1, 1) := by decide +kernel
theorem dX3_climbs_51 : decode cX3_climbs 51 = .ok (.getfield 21, 3) := by decide +kernel
theorem dX3_climbs_54 : decode cX3_climbs 54 = .ok (.iload_n 3, 1) := by decide +kernel
theorem dX3_climbs_55 : decode cX3_climbs 55 = .ok (.iconst 1, 1) := by decide +kernel
theorem dX3_climbs_56 : decode cX3_climbs 56 = .ok (.iadd, 1) := by decide +kernel
theorem dX3_climbs_57 : decode cX3_climbs 57 = .ok (.iaload, 1) := by decide +kernel
theorem dX3_climbs_58 : decode cX3_climbs 58 = .ok (.i2l, 1) := by decide +kernel
theorem dX3_climbs_59 : decode cX3_climbs 59 = .ok (.lastore, 1) := by decide +kernel
theorem dX3_climbs_60 : decode cX3_climbs 60 = .ok (.aload_n 0, 1) := by decide +kernel
theorem dX3_climbs_61 : decode cX3_climbs 61 = .ok (.getfield 39, 3) := by decide +kernel
theorem dX3_climbs_64 : decode cX3_climbs 64 = .ok (.iload_n 3, 1) := by decide +kernel
theorem dX3_climbs_65 : decode cX3_climbs 65 = .ok (.aload_n 1, 1) := by decide +kernel
theorem dX3_climbs_66 : decode cX3_climbs 66 = .ok (.getfield 29, 3) := by decide +kernel
theorem dX3_climbs_69 : decode cX3_climbs 69 = .ok (.iload_n 3, 1) := by decide +kernel
theorem dX3_climbs_70 : decode cX3_climbs 70 = .ok (.iconst 1, 1) := by decide +kernel
theorem dX3_climbs_71 : decode cX3_climbs 71 = .ok (.iadd, 1) := by decide +kernel
theorem dX3_climbs_72 : decode cX3_climbs 72 = .ok (.iaload, 1) := by decide +kernel
theorem dX3_climbs_73 : decode cX3_climbs 73 = .ok (.i2l, 1) := by decide +kernel
theorem dX3_climbs_74 : decode cX3_climbs 74 = .ok (.lastore, 1) := by decide +kernel
theorem dX3_climbs_75 : decode cX3_climbs 75 = .ok (.iinc 3 1, 3) := by decide +kernel
theorem dX3_climbs_78 : decode cX3_climbs 78 = .ok (.goto (-41), 3) := by decide +kernel
theorem dX3_climbs_81 : decode cX3_climbs 81 = .ok (.aload_n 0, 1) := by decide +kernel
theorem dX3_climbs_82 : decode cX3_climbs 82 = .ok (.invokevirtual 42, 3) := by decide +kernel
theorem dX3_climbs_85 : decode cX3_climbs 85 = .ok (.ireturn, 1) := by decide +kernel
def e_X3_climbs_1_L37 (a2 : Int32) : Nat → Int32 → ES → Option (Int32 × ES)
  | 0, _, _ => none
  | n + 1, x3, σ => if (eI σ 51 4) ≤ x3 then ((e_X0_runs_51 σ).bind (fun r1 => if r1.1 = 0 ∨ r1.1 = 1 then (some (r1.1, r1.2)) else none)) else (if mib (x3 + (1 : Int32)) 13 = true then (if mib x3 14 = true then (e_X3_climbs_1_L37 a2 n (x3 + 1) (uL (uL σ 52 x3.toNatClampNeg ((eI σ 8 (x3 + (1 : Int32)).toNatClampNeg).toInt64)) 53 x3.toNatClampNeg ((eI (uL σ 52 x3.toNatClampNeg ((eI σ 8 (x3 + (1 : Int32)).toNatClampNeg).toInt64)) 9 (x3 + (1 : Int32)).toNatClampNeg).toInt64))) else none) else none)
set_option maxRecDepth 100000 in
set_option maxHeartbeats 4000000 in
theorem p_X3_climbs_1_L37 {l : Launch} {E : MX} {out : (Int32 × ES)} {a2 : Int32}  : ∀ (n : Nat) (x3 : Int32) (σ : ES), e_X3_climbs_1_L37 a2 n x3 σ = some out → MV l E cX3_climbs RX3 4 (some .boolean) 3 (82, (some (.int out.1)), mkS out.2) (mkS σ) 37 [(0, .ref 51), (1, .ref 1), (2, .int a2), (3, .int x3)] [] := by
  intro n
  induction n with
  | zero =>
    intro x3 σ h
    exact nomatch h
  | succ n ih =>
    intro x3 σ h
    rw [e_X3_climbs_1_L37] at h
    refine mw_iload_n dX3_climbs_37 3 rfl ?_
    refine mw_aload_n dX3_climbs_38 0 rfl ?_
    refine ev_getI fd_RX3_18_2 dX3_climbs_39 rfl rfl ?_
    refine mw_icmp_ge (tgt := 81) dX3_climbs_42 (by decide) (fun hc => ?_) (fun hc => ?_)
    · have h := mit hc h
      refine mw_aload_n dX3_climbs_81 0 rfl ?_
      obtain ⟨r1, e2, h⟩ := mbd h
      refine mv_callU_i (As := []) (ci := 2) lkU_RX3_42_2_yX0_runs rfl dX3_climbs_82 (k_X0_runs_51 e2) rfl rfl rfl rfl (Nat.le_of_ble_eq_true rfl) (by decide) (by decide) ?_
      obtain ⟨m3, h⟩ := mif h
      exact mw_zret dX3_climbs_85 rfl m3 (ers_im h) rfl rfl
    · have h := mie hc h
      refine mw_aload_n dX3_climbs_45 0 rfl ?_
      refine ev_getR (q := 52) fd_RX3_35_2 dX3_climbs_46 rfl rfl rfl ?_
      refine mw_iload_n dX3_climbs_49 3 rfl ?_
      refine mw_aload_n dX3_climbs_50 1 rfl ?_
      refine ev_getR (q := 8) fd_RX3_21_0 dX3_climbs_51 rfl rfl rfl ?_
      refine mw_iload_n dX3_climbs_54 3 rfl ?_
      refine mw_iconst (v := 1) dX3_climbs_55 (by decide) ?_
      refine mw_iadd dX3_climbs_56 ?_
      obtain ⟨m4, h⟩ := mif h
      refine ev_iald dX3_climbs_57 (by decide) rfl m4 ?_
      refine mw_i2l dX3_climbs_58 ?_
      obtain ⟨m5, h⟩ := mif h
      refine ev_last dX3_climbs_59 (by decide) rfl m5 ?_
      refine mw_aload_n dX3_climbs_60 0 rfl ?_
      refine ev_getR (q := 53) fd_RX3_39_2 dX3_climbs_61 rfl rfl rfl ?_
      refine mw_iload_n dX3_climbs_64 3 rfl ?_
      refine mw_aload_n dX3_climbs_65 1 rfl ?_
      refine ev_getR (q := 9) fd_RX3_29_0 dX3_climbs_66 rfl rfl rfl ?_
      refine mw_iload_n dX3_climbs_69 3 rfl ?_
      refine mw_iconst (v := 1) dX3_climbs_70 (by decide) ?_
      refine mw_iadd dX3_climbs_71 ?_
      refine ev_iald dX3_climbs_72 (by decide) rfl m4 ?_
      refine mw_i2l dX3_climbs_73 ?_
      refine ev_last dX3_climbs_74 (by decide) rfl m5 ?_
      refine mw_iinc (v := (x3 + 1)) (L' := [(3, .int (x3 + 1)), (0, .ref 51), (1, .ref 1), (2, .int a2)]) dX3_climbs_75 3 rfl rfl (by decide) rfl ?_
      refine mw_goto (tgt := 37) dX3_climbs_78 (by decide) ?_
      exact mw_sub (L' := [(0, .ref 51), (1, .ref 1), (2, .int a2), (3, .int (x3 + 1))]) [1, 2, 3, 0] rfl (ih _ _ h)
def e_X3_climbs_1 (a2 : Int32) (σ : ES) : Option (Int32 × ES) := if mib (0 : Int32) 13 = true then (e_X3_climbs_1_L37 a2 mN (0 : Int32) (uL (uL (uI (uI σ 51 10 a2) 51 4 (eI (uI σ 51 10 a2) 1 9)) 51 5 ((eI (uI (uI σ 51 10 a2) 51 4 (eI (uI σ 51 10 a2) 1 9)) 8 (0 : Int32).toNatClampNeg).toInt64)) 51 6 ((eI (uL (uI (uI σ 51 10 a2) 51 4 (eI (uI σ 51 10 a2) 1 9)) 51 5 ((eI (uI (uI σ 51 10 a2) 51 4 (eI (uI σ 51 10 a2) 1 9)) 8 (0 : Int32).toNatClampNeg).toInt64)) 9 (0 : Int32).toNatClampNeg).toInt64))) else none
set_option maxRecDepth 100000 in
set_option maxHeartbeats 4000000 in
theorem k_X3_climbs_1 {l : Launch} {σ : ES} {a2 : Int32} {out : (Int32 × ES)} (h : e_X3_climbs_1 a2 σ = some out) : MK l yX3_climbs cX3_climbs 4 (some .boolean) 3 [.ref 51, .ref 1, .int a2] (mkS σ) (some (.int out.1)) (mkS out.2) := by
  unfold e_X3_climbs_1 at h
  refine mw_entry (own := RX3) (ini := false) (L := [(0, .ref 51), (1, .ref 1), (2, .int a2)]) (by decide +kernel) rfl (fun h => nomatch h) rfl (Nat.le_of_ble_eq_true rfl) (Nat.le_of_ble_eq_true rfl) (fun E => ?_)
  refine mw_aload_n dX3_climbs_0 0 rfl ?_
  refine mw_iload_n dX3_climbs_1 2 rfl ?_
  refine ev_putI fw_RX3_7_2 dX3_climbs_2 rfl rfl ?_
  refine mw_aload_n dX3_climbs_5 0 rfl ?_
  refine mw_aload_n dX3_climbs_6 1 rfl ?_
  refine ev_getI fd_RX3_13_0 dX3_climbs_7 rfl rfl ?_
  refine ev_putI fw_RX3_18_2 dX3_climbs_10 rfl rfl ?_
  refine mw_aload_n dX3_climbs_13 0 rfl ?_
  refine mw_aload_n dX3_climbs_14 1 rfl ?_
  refine ev_getR (q := 8) fd_RX3_21_0 dX3_climbs_15 rfl rfl rfl ?_
  refine mw_iconst (v := 0) dX3_climbs_18 (by decide) ?_
  obtain ⟨m1, h⟩ := mif h
  refine ev_iald dX3_climbs_19 (by decide) rfl m1 ?_
  refine mw_i2l dX3_climbs_20 ?_
  refine ev_putL fw_RX3_25_2 dX3_climbs_21 rfl rfl ?_
  refine mw_aload_n dX3_climbs_24 0 rfl ?_
  refine mw_aload_n dX3_climbs_25 1 rfl ?_
  refine ev_getR (q := 9) fd_RX3_29_0 dX3_climbs_26 rfl rfl rfl ?_
  refine mw_iconst (v := 0) dX3_climbs_29 (by decide) ?_
  refine ev_iald dX3_climbs_30 (by decide) rfl m1 ?_
  refine mw_i2l dX3_climbs_31 ?_
  refine ev_putL fw_RX3_32_2 dX3_climbs_32 rfl rfl ?_
  refine mw_iconst (v := 0) dX3_climbs_35 (by decide) ?_
  refine mw_istore_n (L' := [(3, .int (0 : Int32)), (0, .ref 51), (1, .ref 1), (2, .int a2)]) dX3_climbs_36 rfl (by decide) rfl ?_
  exact mw_sub (L' := [(0, .ref 51), (1, .ref 1), (2, .int a2), (3, .int (0 : Int32))]) [1, 2, 3, 0] rfl (p_X3_climbs_1_L37  mN _ _ h)

def e_X9_told_51 (a2 : Int32) (a3 : Int32) (σ : ES) : Option (Int64 × ES) := if a2 = 0 then ((e_X9_longFinding (3 : Int32) σ).bind (fun r3 => some (r3.1, r3.2))) else (if a3 = 2 then (some ((eI σ 51 0).toInt64, σ)) else (if a3 = 3 then (some ((eI σ 51 1).toInt64, σ)) else ((e_X9_lowest (eL σ 51 2) (eL σ 51 3) a3).bind (fun r1 => some (r1, σ)))))
set_option maxRecDepth 100000 in
set_option maxHeartbeats 4000000 in
theorem k_X9_told_51 {l : Launch} {σ : ES} {a2 : Int32} {a3 : Int32} {out : (Int64 × ES)} (h : e_X9_told_51 a2 a3 σ = some out) : MK l yX9_told cX9_told 4 (some .long) 3 [.ref 0, .ref 51, .int a2, .int a3] (mkS σ) (some (.long out.1)) (mkS out.2) := by
  unfold e_X9_told_51 at h
  refine mw_entry (own := RX9) (ini := false) (L := [(0, .ref 0), (1, .ref 51), (2, .int a2), (3, .int a3)]) (by decide +kernel) rfl (fun h => nomatch h) rfl (Nat.le_of_ble_eq_true rfl) (Nat.le_of_ble_eq_true rfl) (fun E => ?_)
  refine mw_iload_n dX9_told_0 2 rfl ?_
  refine mw_if_ne (tgt := 10) dX9_told_1 (by decide) (fun hc => ?_) (fun hc => ?_)
  · have h := mie hc h
    refine mw_iload_n dX9_told_10 3 rfl ?_
    by_cases hs2 : a3 = 2
    · have h := mit hs2 h
      refine mv_look (tgt := 36) (off := 25) dX9_told_11 rfl (by rw [hs2] <;> rfl) (by decide) ?_
      refine mw_aload_n dX9_told_36 1 rfl ?_
      refine ev_getI fd_RX9_255_2 dX9_told_37 rfl rfl ?_
      refine mw_i2l dX9_told_40 ?_
      exact mw_lret dX9_told_41 rfl (ers_lm h) rfl rfl
    have h := mie hs2 h
    by_cases hs3 : a3 = 3
    · have h := mit hs3 h
      refine mv_look (tgt := 42) (off := 31) dX9_told_11 rfl (by rw [hs3] <;> rfl) (by decide) ?_
      refine mw_aload_n dX9_told_42 1 rfl ?_
      refine ev_getI fd_RX9_259_2 dX9_told_43 rfl rfl ?_
      refine mw_i2l dX9_told_46 ?_
      exact mw_lret dX9_told_47 rfl (ers_lm h) rfl rfl
    have h := mie hs3 h
    refine mv_look (tgt := 48) (off := 37) dX9_told_11 rfl (mlook2 (mne32 hs2) (mne32 hs3)) (by decide) ?_
    refine mw_aload_n dX9_told_48 1 rfl ?_
    refine ev_getL fd_RX9_262_2 dX9_told_49 rfl rfl ?_
    refine mw_aload_n dX9_told_52 1 rfl ?_
    refine ev_getL fd_RX9_265_2 dX9_told_53 rfl rfl ?_
    refine mw_iload_n dX9_told_56 3 rfl ?_
    obtain ⟨r1, e2, h⟩ := mbd h
    refine mv_callS_l (As := [.long (eL σ 51 2), .long (eL σ 51 3), .int a3]) lkS_RX9_179_yX9_lowest dX9_told_57 (k_X9_lowest e2) rfl rfl (Nat.le_of_ble_eq_true rfl) (by decide) (by decide) ?_
    exact mw_lret dX9_told_60 rfl (ers_lm h) rfl rfl
  · have h := mit hc h
    refine mw_aload_n dX9_told_4 0 rfl ?_
    refine mw_iconst (v := 3) dX9_told_5 (by decide) ?_
    obtain ⟨r3, e4, h⟩ := mbd h
    refine mv_callV_l (As := [.int (3 : Int32)]) (ci := 8) lkV_RX9_164_yX9_longFinding dX9_told_6 (k_X9_longFinding e4) rfl rfl rfl rfl (Nat.le_of_ble_eq_true rfl) (by decide) (by decide) ?_
    exact mw_lret dX9_told_9 rfl (ers_lm h) rfl rfl

theorem dX9_load_0 : decode cX9_load 0 = .ok (.iload_n 2, 1) := by decide +kernel
theorem dX9_load_1 : decode cX9_load 1 = .ok (.iconst 0, 1) := by decide +kernel
theorem dX9_load_2 : decode cX9_load 2 = .ok (.iconst 3, 1) := by decide +kernel
theorem dX9_load_3 : decode cX9_load 3 = .ok (.invokestatic 75, 3) := by decide +kernel
theorem dX9_load_6 : decode cX9_load 6 = .ok (.ifCond .eq 18, 3) := by decide +kernel
theorem dX9_load_9 : decode cX9_load 9 = .ok (.iload_n 1, 1) := by decide +kernel
theorem dX9_load_10 : decode cX9_load 10 = .ok (.iconst 1, 1) := by decide +kernel
theorem dX9_load_11 : decode cX9_load 11 = .ok (.aload_n 0, 1) := by decide +kernel
theorem dX9_load_12 : decode cX9_load 12 = .ok (.getfield 12, 3) := by decide +kernel
theorem dX9_load_15 : decode cX9_load 15 = .ok (.getfield 148, 3) := by decide +kernel
theorem dX9_load_18 : decode cX9_load 18 = .ok (.invokestatic 75, 3) := by decide +kernel
theorem dX9_load_21 : decode cX9_load 21 = .ok (.ifCond .ne 9, 3) := by decide +kernel
theorem dX9_load_24 : decode cX9_load 24 = .ok (.aload_n 0, 1) := by decide +kernel
theorem dX9_load_25 : decode cX9_load 25 = .ok (.iconst 0, 1) := by decide +kernel
theorem dX9_load_26 : decode cX9_load 26 = .ok (.invokevirtual 164, 3) := by decide +kernel
theorem dX9_load_29 : decode cX9_load 29 = .ok (.lreturn, 1) := by decide +kernel
theorem dX9_load_30 : decode cX9_load 30 = .ok (.aload_n 0, 1) := by decide +kernel
theorem dX9_load_31 : decode cX9_load 31 = .ok (.aload_n 0, 1) := by decide +kernel
theorem dX9_load_32 : decode cX9_load 32 = .ok (.getfield 46, 3) := by decide +kernel
theorem dX9_load_35 : decode cX9_load 35 = .ok (.aload_n 0, 1) := by decide +kernel
theorem dX9_load_36 : decode cX9_load 36 = .ok (.getfield 46, 3) := by decide +kernel
theorem dX9_load_39 : decode cX9_load 39 = .ok (.aload_n 0, 1) := by decide +kernel
theorem dX9_load_40 : decode cX9_load 40 = .ok (.getfield 12, 3) := by decide +kernel
theorem dX9_load_43 : decode cX9_load 43 = .ok (.iload_n 1, 1) := by decide +kernel
theorem dX9_load_44 : decode cX9_load 44 = .ok (.invokevirtual 252, 3) := by decide +kernel
theorem dX9_load_47 : decode cX9_load 47 = .ok (.iload_n 2, 1) := by decide +kernel
theorem dX9_load_48 : decode cX9_load 48 = .ok (.invokevirtual 245, 3) := by decide +kernel
theorem dX9_load_51 : decode cX9_load 51 = .ok (.lreturn, 1) := by decide +kernel
def e_X9_load (a1 : Int32) (a2 : Int32) (σ : ES) : Option (Int64 × ES) := (e_X9_within a2 (0 : Int32) (3 : Int32)).bind (fun r1 => if r1 = 0 then ((e_X9_longFinding (0 : Int32) σ).bind (fun r3 => some (r3.1, r3.2))) else ((e_X9_within a1 (1 : Int32) (eI σ 1 9)).bind (fun r5 => if r5 = 0 then ((e_X9_longFinding (0 : Int32) σ).bind (fun r11 => some (r11.1, r11.2))) else ((e_X3_climbs_1 a1 σ).bind (fun r7 => (e_X9_told_51 r7.1 a2 r7.2).bind (fun r9 => some (r9.1, r9.2)))))))
set_option maxRecDepth 100000 in
set_option maxHeartbeats 4000000 in
theorem k_X9_load {l : Launch} {σ : ES} {a1 : Int32} {a2 : Int32} {out : (Int64 × ES)} (h : e_X9_load a1 a2 σ = some out) : MK l yX9_load cX9_load 3 (some .long) 4 [.ref 0, .int a1, .int a2] (mkS σ) (some (.long out.1)) (mkS out.2) := by
  unfold e_X9_load at h
  refine mw_entry (own := RX9) (ini := false) (L := [(0, .ref 0), (1, .int a1), (2, .int a2)]) (by decide +kernel) rfl (fun h => nomatch h) rfl (Nat.le_of_ble_eq_true rfl) (Nat.le_of_ble_eq_true rfl) (fun E => ?_)
  refine mw_iload_n dX9_load_0 2 rfl ?_
  refine mw_iconst (v := 0) dX9_load_1 (by decide) ?_
  refine mw_iconst (v := 3) dX9_load_2 (by decide) ?_
  obtain ⟨r1, e2, h⟩ := mbd h
  refine mv_callS_i (As := [.int a2, .int (0 : Int32), .int (3 : Int32)]) lkS_RX9_75_yX9_within dX9_load_3 (k_X9_within e2) rfl rfl (Nat.le_of_ble_eq_true rfl) (by decide) (by decide) ?_
  refine mw_if_eq (tgt := 24) dX9_load_6 (by decide) (fun hc => ?_) (fun hc => ?_)
  · have h := mit hc h
    refine mw_aload_n dX9_load_24 0 rfl ?_
    refine mw_iconst (v := 0) dX9_load_25 (by decide) ?_
    obtain ⟨r3, e4, h⟩ := mbd h
    refine mv_callV_l (As := [.int (0 : Int32)]) (ci := 8) lkV_RX9_164_yX9_longFinding dX9_load_26 (k_X9_longFinding e4) rfl rfl rfl rfl (Nat.le_of_ble_eq_true rfl) (by decide) (by decide) ?_
    exact mw_lret dX9_load_29 rfl (ers_lm h) rfl rfl
  · have h := mie hc h
    refine mw_iload_n dX9_load_9 1 rfl ?_
    refine mw_iconst (v := 1) dX9_load_10 (by decide) ?_
    refine mw_aload_n dX9_load_11 0 rfl ?_
    refine ev_getR (q := 1) fd_RX9_12_8 dX9_load_12 rfl rfl rfl ?_
    refine ev_getI fd_RX9_148_0 dX9_load_15 rfl rfl ?_
    obtain ⟨r5, e6, h⟩ := mbd h
    refine mv_callS_i (As := [.int a1, .int (1 : Int32), .int (eI σ 1 9)]) lkS_RX9_75_yX9_within dX9_load_18 (k_X9_within e6) rfl rfl (Nat.le_of_ble_eq_true rfl) (by decide) (by decide) ?_
    refine mw_if_ne (tgt := 30) dX9_load_21 (by decide) (fun hc => ?_) (fun hc => ?_)
    · have h := mie hc h
      refine mw_aload_n dX9_load_30 0 rfl ?_
      refine mw_aload_n dX9_load_31 0 rfl ?_
      refine ev_getR (q := 51) fd_RX9_46_8 dX9_load_32 rfl rfl rfl ?_
      refine mw_aload_n dX9_load_35 0 rfl ?_
      refine ev_getR (q := 51) fd_RX9_46_8 dX9_load_36 rfl rfl rfl ?_
      refine mw_aload_n dX9_load_39 0 rfl ?_
      refine ev_getR (q := 1) fd_RX9_12_8 dX9_load_40 rfl rfl rfl ?_
      refine mw_iload_n dX9_load_43 1 rfl ?_
      obtain ⟨r7, e8, h⟩ := mbd h
      refine mv_callV_i (As := [.ref 1, .int a1]) (ci := 2) lkV_RX9_252_yX3_climbs dX9_load_44 (k_X3_climbs_1 e8) rfl rfl rfl rfl (Nat.le_of_ble_eq_true rfl) (by decide) (by decide) ?_
      refine mw_iload_n dX9_load_47 2 rfl ?_
      obtain ⟨r9, e10, h⟩ := mbd h
      refine mv_callV_l (As := [.ref 51, .int r7.1, .int a2]) (ci := 8) lkV_RX9_245_yX9_told dX9_load_48 (k_X9_told_51 e10) rfl rfl rfl rfl (Nat.le_of_ble_eq_true rfl) (by decide) (by decide) ?_
      exact mw_lret dX9_load_51 rfl (ers_lm h) rfl rfl
    · have h := mit hc h
      refine mw_aload_n dX9_load_24 0 rfl ?_
      refine mw_iconst (v := 0) dX9_load_25 (by decide) ?_
      obtain ⟨r11, e12, h⟩ := mbd h
      refine mv_callV_l (As := [.int (0 : Int32)]) (ci := 8) lkV_RX9_164_yX9_longFinding dX9_load_26 (k_X9_longFinding e12) rfl rfl rfl rfl (Nat.le_of_ble_eq_true rfl) (by decide) (by decide) ?_
      exact mw_lret dX9_load_29 rfl (ers_lm h) rfl rfl

theorem dX1_isOpenSet_0 : decode cX1_isOpenSet 0 = .ok (.iload_n 1, 1) := by decide +kernel
theorem dX1_isOpenSet_1 : decode cX1_isOpenSet 1 = .ok (.ifCond .le 13, 3) := by decide +kernel
theorem dX1_isOpenSet_4 : decode cX1_isOpenSet 4 = .ok (.iload_n 1, 1) := by decide +kernel
theorem dX1_isOpenSet_5 : decode cX1_isOpenSet 5 = .ok (.iconst 1, 1) := by decide +kernel
theorem dX1_isOpenSet_6 : decode cX1_isOpenSet 6 = .ok (.aload_n 0, 1) := by decide +kernel
theorem dX1_isOpenSet_7 : decode cX1_isOpenSet 7 = .ok (.getfield 44, 3) := by decide +kernel
theorem dX1_isOpenSet_10 : decode cX1_isOpenSet 10 = .ok (.ishl, 1) := by decide +kernel
theorem dX1_isOpenSet_11 : decode cX1_isOpenSet 11 = .ok (.if_icmp .lt 5, 3) := by decide +kernel
theorem dX1_isOpenSet_14 : decode cX1_isOpenSet 14 = .ok (.iconst 0, 1) := by decide +kernel
theorem dX1_isOpenSet_15 : decode cX1_isOpenSet 15 = .ok (.ireturn, 1) := by decide +kernel
theorem dX1_isOpenSet_16 : decode cX1_isOpenSet 16 = .ok (.iconst 0, 1) := by decide +kernel
theorem dX1_isOpenSet_17 : decode cX1_isOpenSet 17 = .ok (.istore_n 2, 1) := by decide +kernel
theorem dX1_isOpenSet_18 : decode cX1_isOpenSet 18 = .ok (.iload_n 2, 1) := by decide +kernel
theorem dX1_isOpenSet_19 : decode cX1_isOpenSet 19 = .ok (.aload_n 0, 1) := by decide +kernel
theorem dX1_isOpenSet_20 : decode cX1_isOpenSet 20 = .ok (.getfield 44, 3) := by decide +kernel
theorem dX1_isOpenSet_23 : decode cX1_isOpenSet 23 = .ok (.if_icmp .ge 28, 3) := by decide +kernel
theorem dX1_isOpenSet_26 : decode cX1_isOpenSet 26 = .ok (.iload_n 1, 1) := by decide +kernel
theorem dX1_isOpenSet_27 : decode cX1_isOpenSet 27 = .ok (.iconst 1, 1) := by decide +kernel
theorem dX1_isOpenSet_28 : decode cX1_isOpenSet 28 = .ok (.iload_n 2, 1) := by decide +kernel
theorem dX1_isOpenSet_29 : decode cX1_isOpenSet 29 = .ok (.ishl, 1) := by decide +kernel
theorem dX1_isOpenSet_30 : decode cX1_isOpenSet 30 = .ok (.iand, 1) := by decide +kernel
theorem dX1_isOpenSet_31 : decode cX1_isOpenSet 31 = .ok (.ifCond .eq 14, 3) := by decide +kernel
theorem dX1_isOpenSet_34 : decode cX1_isOpenSet 34 = .ok (.aload_n 0, 1) := by decide +kernel
theorem dX1_isOpenSet_35 : decode cX1_isOpenSet 35 = .ok (.getfield 31, 3) := by decide +kernel
theorem dX1_isOpenSet_38 : decode cX1_isOpenSet 38 = .ok (.iload_n 2, 1) := by decide +kernel
theorem dX1_isOpenSet_39 : decode cX1_isOpenSet 39 = .ok (.iaload, 1) := by decide +kernel
theorem dX1_isOpenSet_40 : decode cX1_isOpenSet 40 = .ok (.ifCond .eq 5, 3) := by decide +kernel
theorem dX1_isOpenSet_43 : decode cX1_isOpenSet 43 = .ok (.iconst 0, 1) := by decide +kernel
theorem dX1_isOpenSet_44 : decode cX1_isOpenSet 44 = .ok (.ireturn, 1) := by decide +kernel
theorem dX1_isOpenSet_45 : decode cX1_isOpenSet 45 = .ok (.iinc 2 1, 3) := by decide +kernel
theorem dX1_isOpenSet_48 : decode cX1_isOpenSet 48 = .ok (.goto (-30), 3) := by decide +kernel
theorem dX1_isOpenSet_51 : decode cX1_isOpenSet 51 = .ok (.iconst 1, 1) := by decide +kernel
theorem dX1_isOpenSet_52 : decode cX1_isOpenSet 52 = .ok (.ireturn, 1) := by decide +kernel
def e_X1_isOpenSet_1_L18 (σ : ES) (a1 : Int32) : Nat → Int32 → Option Int32
  | 0, _ => none
  | n + 1, x2 => if (eI σ 1 2) ≤ x2 then (some (1 : Int32)) else (if (a1 &&& ((1 : Int32) <<< (x2 &&& 31))) = 0 then (e_X1_isOpenSet_1_L18 σ a1 n (x2 + 1)) else (if mib x2 14 = true then (if (eI σ 7 x2.toNatClampNeg) = 0 then (e_X1_isOpenSet_1_L18 σ a1 n (x2 + 1)) else (some (0 : Int32))) else none))
set_option maxRecDepth 100000 in
set_option maxHeartbeats 4000000 in
theorem p_X1_isOpenSet_1_L18 {l : Launch} {E : MX} {out : Int32} {σ : ES} {a1 : Int32}  : ∀ (n : Nat) (x2 : Int32), e_X1_isOpenSet_1_L18 σ a1 n x2 = some out → MV l E cX1_isOpenSet RX1 3 (some .boolean) 1 (82, (some (.int out)), mkS σ) (mkS σ) 18 [(0, .ref 1), (1, .int a1), (2, .int x2)] [] := by
  intro n
  induction n with
  | zero =>
    intro x2 h
    exact nomatch h
  | succ n ih =>
    intro x2 h
    rw [e_X1_isOpenSet_1_L18] at h
    refine mw_iload_n dX1_isOpenSet_18 2 rfl ?_
    refine mw_aload_n dX1_isOpenSet_19 0 rfl ?_
    refine ev_getI fd_RX1_44_0 dX1_isOpenSet_20 rfl rfl ?_
    refine mw_icmp_ge (tgt := 51) dX1_isOpenSet_23 (by decide) (fun hc => ?_) (fun hc => ?_)
    · have h := mit hc h
      refine mw_iconst (v := 1) dX1_isOpenSet_51 (by decide) ?_
      exact mw_zret dX1_isOpenSet_52 rfl (by decide) (ers_i h) rfl rfl
    · have h := mie hc h
      refine mw_iload_n dX1_isOpenSet_26 1 rfl ?_
      refine mw_iconst (v := 1) dX1_isOpenSet_27 (by decide) ?_
      refine mw_iload_n dX1_isOpenSet_28 2 rfl ?_
      refine mw_ishl dX1_isOpenSet_29 ?_
      refine mw_iand dX1_isOpenSet_30 ?_
      refine mw_if_eq (tgt := 45) dX1_isOpenSet_31 (by decide) (fun hc => ?_) (fun hc => ?_)
      · have h := mit hc h
        refine mw_iinc (v := (x2 + 1)) (L' := [(2, .int (x2 + 1)), (0, .ref 1), (1, .int a1)]) dX1_isOpenSet_45 2 rfl rfl (by decide) rfl ?_
        refine mw_goto (tgt := 18) dX1_isOpenSet_48 (by decide) ?_
        exact mw_sub (L' := [(0, .ref 1), (1, .int a1), (2, .int (x2 + 1))]) [1, 2, 0] rfl (ih _ h)
      · have h := mie hc h
        refine mw_aload_n dX1_isOpenSet_34 0 rfl ?_
        refine ev_getR (q := 7) fd_RX1_31_0 dX1_isOpenSet_35 rfl rfl rfl ?_
        refine mw_iload_n dX1_isOpenSet_38 2 rfl ?_
        obtain ⟨m1, h⟩ := mif h
        refine ev_iald dX1_isOpenSet_39 (by decide) rfl m1 ?_
        refine mw_if_eq (tgt := 45) dX1_isOpenSet_40 (by decide) (fun hc => ?_) (fun hc => ?_)
        · have h := mit hc h
          refine mw_iinc (v := (x2 + 1)) (L' := [(2, .int (x2 + 1)), (0, .ref 1), (1, .int a1)]) dX1_isOpenSet_45 2 rfl rfl (by decide) rfl ?_
          refine mw_goto (tgt := 18) dX1_isOpenSet_48 (by decide) ?_
          exact mw_sub (L' := [(0, .ref 1), (1, .int a1), (2, .int (x2 + 1))]) [1, 2, 0] rfl (ih _ h)
        · have h := mie hc h
          refine mw_iconst (v := 0) dX1_isOpenSet_43 (by decide) ?_
          exact mw_zret dX1_isOpenSet_44 rfl (by decide) (ers_i h) rfl rfl
def e_X1_isOpenSet_1 (σ : ES) (a1 : Int32) : Option Int32 := if a1 ≤ 0 then (some (0 : Int32)) else (if a1 < ((1 : Int32) <<< ((eI σ 1 2) &&& 31)) then (e_X1_isOpenSet_1_L18 σ a1 mN (0 : Int32)) else (some (0 : Int32)))
set_option maxRecDepth 100000 in
set_option maxHeartbeats 4000000 in
theorem k_X1_isOpenSet_1 {l : Launch} {σ : ES} {a1 : Int32} {out : Int32} (h : e_X1_isOpenSet_1 σ a1 = some out) : MK l yX1_isOpenSet cX1_isOpenSet 3 (some .boolean) 1 [.ref 1, .int a1] (mkS σ) (some (.int out)) (mkS σ) := by
  unfold e_X1_isOpenSet_1 at h
  refine mw_entry (own := RX1) (ini := false) (L := [(0, .ref 1), (1, .int a1)]) (by decide +kernel) rfl (fun h => nomatch h) rfl (Nat.le_of_ble_eq_true rfl) (Nat.le_of_ble_eq_true rfl) (fun E => ?_)
  refine mw_iload_n dX1_isOpenSet_0 1 rfl ?_
  refine mw_if_le (tgt := 14) dX1_isOpenSet_1 (by decide) (fun hc => ?_) (fun hc => ?_)
  · have h := mit hc h
    refine mw_iconst (v := 0) dX1_isOpenSet_14 (by decide) ?_
    exact mw_zret dX1_isOpenSet_15 rfl (by decide) (ers_i h) rfl rfl
  · have h := mie hc h
    refine mw_iload_n dX1_isOpenSet_4 1 rfl ?_
    refine mw_iconst (v := 1) dX1_isOpenSet_5 (by decide) ?_
    refine mw_aload_n dX1_isOpenSet_6 0 rfl ?_
    refine ev_getI fd_RX1_44_0 dX1_isOpenSet_7 rfl rfl ?_
    refine mw_ishl dX1_isOpenSet_10 ?_
    refine mw_icmp_lt (tgt := 16) dX1_isOpenSet_11 (by decide) (fun hc => ?_) (fun hc => ?_)
    · have h := mit hc h
      refine mw_iconst (v := 0) dX1_isOpenSet_16 (by decide) ?_
      refine mw_istore_n (L' := [(2, .int (0 : Int32)), (0, .ref 1), (1, .int a1)]) dX1_isOpenSet_17 rfl (by decide) rfl ?_
      exact mw_sub (L' := [(0, .ref 1), (1, .int a1), (2, .int (0 : Int32))]) [1, 2, 0] rfl (p_X1_isOpenSet_1_L18  mN _ h)
    · have h := mie hc h
      refine mw_iconst (v := 0) dX1_isOpenSet_14 (by decide) ?_
      exact mw_zret dX1_isOpenSet_15 rfl (by decide) (ers_i h) rfl rfl

theorem dX1_firstFrom_0 : decode cX1_firstFrom 0 = .ok (.iconst 0, 1) := by decide +kernel
theorem dX1_firstFrom_1 : decode cX1_firstFrom 1 = .ok (.istore_n 3, 1) := by decide +kernel
theorem dX1_firstFrom_2 : decode cX1_firstFrom 2 = .ok (.iload_n 3, 1) := by decide +kernel
theorem dX1_firstFrom_3 : decode cX1_firstFrom 3 = .ok (.aload_n 0, 1) := by decide +kernel
theorem dX1_firstFrom_4 : decode cX1_firstFrom 4 = .ok (.getfield 44, 3) := by decide +kernel
theorem dX1_firstFrom_7 : decode cX1_firstFrom 7 = .ok (.if_icmp .ge 34, 3) := by decide +kernel
theorem dX1_firstFrom_10 : decode cX1_firstFrom 10 = .ok (.iload_n 1, 1) := by decide +kernel
theorem dX1_firstFrom_11 : decode cX1_firstFrom 11 = .ok (.iconst 1, 1) := by decide +kernel
theorem dX1_firstFrom_12 : decode cX1_firstFrom 12 = .ok (.iload_n 3, 1) := by decide +kernel
theorem dX1_firstFrom_13 : decode cX1_firstFrom 13 = .ok (.ishl, 1) := by decide +kernel
theorem dX1_firstFrom_14 : decode cX1_firstFrom 14 = .ok (.iand, 1) := by decide +kernel
theorem dX1_firstFrom_15 : decode cX1_firstFrom 15 = .ok (.ifCond .eq 20, 3) := by decide +kernel
theorem dX1_firstFrom_18 : decode cX1_firstFrom 18 = .ok (.iload_n 2, 1) := by decide +kernel
theorem dX1_firstFrom_19 : decode cX1_firstFrom 19 = .ok (.iconst (-1), 1) := by decide +kernel
theorem dX1_firstFrom_20 : decode cX1_firstFrom 20 = .ok (.if_icmp .eq 13, 3) := by decide +kernel
theorem dX1_firstFrom_23 : decode cX1_firstFrom 23 = .ok (.aload_n 0, 1) := by decide +kernel
theorem dX1_firstFrom_24 : decode cX1_firstFrom 24 = .ok (.getfield 19, 3) := by decide +kernel
theorem dX1_firstFrom_27 : decode cX1_firstFrom 27 = .ok (.iload_n 3, 1) := by decide +kernel
theorem dX1_firstFrom_28 : decode cX1_firstFrom 28 = .ok (.iaload, 1) := by decide +kernel
theorem dX1_firstFrom_29 : decode cX1_firstFrom 29 = .ok (.iload_n 2, 1) := by decide +kernel
theorem dX1_firstFrom_30 : decode cX1_firstFrom 30 = .ok (.if_icmp .ne 5, 3) := by decide +kernel
theorem dX1_firstFrom_33 : decode cX1_firstFrom 33 = .ok (.iload_n 3, 1) := by decide +kernel
theorem dX1_firstFrom_34 : decode cX1_firstFrom 34 = .ok (.ireturn, 1) := by decide +kernel
theorem dX1_firstFrom_35 : decode cX1_firstFrom 35 = .ok (.iinc 3 1, 3) := by decide +kernel
theorem dX1_firstFrom_38 : decode cX1_firstFrom 38 = .ok (.goto (-36), 3) := by decide +kernel
theorem dX1_firstFrom_41 : decode cX1_firstFrom 41 = .ok (.iconst (-1), 1) := by decide +kernel
theorem dX1_firstFrom_42 : decode cX1_firstFrom 42 = .ok (.ireturn, 1) := by decide +kernel
def e_X1_firstFrom_1_L2 (σ : ES) (a1 : Int32) (a2 : Int32) : Nat → Int32 → Option Int32
  | 0, _ => none
  | n + 1, x3 => if (eI σ 1 2) ≤ x3 then (some (-1 : Int32)) else (if (a1 &&& ((1 : Int32) <<< (x3 &&& 31))) = 0 then (e_X1_firstFrom_1_L2 σ a1 a2 n (x3 + 1)) else (if a2 = (-1 : Int32) then (some x3) else (if mib x3 14 = true then (if (eI σ 3 x3.toNatClampNeg) = a2 then (some x3) else (e_X1_firstFrom_1_L2 σ a1 a2 n (x3 + 1))) else none)))
set_option maxRecDepth 100000 in
set_option maxHeartbeats 4000000 in
theorem p_X1_firstFrom_1_L2 {l : Launch} {E : MX} {out : Int32} {σ : ES} {a1 : Int32} {a2 : Int32}  : ∀ (n : Nat) (x3 : Int32), e_X1_firstFrom_1_L2 σ a1 a2 n x3 = some out → MV l E cX1_firstFrom RX1 4 (some .int) 1 (82, (some (.int out)), mkS σ) (mkS σ) 2 [(0, .ref 1), (1, .int a1), (2, .int a2), (3, .int x3)] [] := by
  intro n
  induction n with
  | zero =>
    intro x3 h
    exact nomatch h
  | succ n ih =>
    intro x3 h
    rw [e_X1_firstFrom_1_L2] at h
    refine mw_iload_n dX1_firstFrom_2 3 rfl ?_
    refine mw_aload_n dX1_firstFrom_3 0 rfl ?_
    refine ev_getI fd_RX1_44_0 dX1_firstFrom_4 rfl rfl ?_
    refine mw_icmp_ge (tgt := 41) dX1_firstFrom_7 (by decide) (fun hc => ?_) (fun hc => ?_)
    · have h := mit hc h
      refine mw_iconst (v := -1) dX1_firstFrom_41 (by decide) ?_
      exact mw_iret dX1_firstFrom_42 rfl (ers_i h) rfl rfl
    · have h := mie hc h
      refine mw_iload_n dX1_firstFrom_10 1 rfl ?_
      refine mw_iconst (v := 1) dX1_firstFrom_11 (by decide) ?_
      refine mw_iload_n dX1_firstFrom_12 3 rfl ?_
      refine mw_ishl dX1_firstFrom_13 ?_
      refine mw_iand dX1_firstFrom_14 ?_
      refine mw_if_eq (tgt := 35) dX1_firstFrom_15 (by decide) (fun hc => ?_) (fun hc => ?_)
      · have h := mit hc h
        refine mw_iinc (v := (x3 + 1)) (L' := [(3, .int (x3 + 1)), (0, .ref 1), (1, .int a1), (2, .int a2)]) dX1_firstFrom_35 3 rfl rfl (by decide) rfl ?_
        refine mw_goto (tgt := 2) dX1_firstFrom_38 (by decide) ?_
        exact mw_sub (L' := [(0, .ref 1), (1, .int a1), (2, .int a2), (3, .int (x3 + 1))]) [1, 2, 3, 0] rfl (ih _ h)
      · have h := mie hc h
        refine mw_iload_n dX1_firstFrom_18 2 rfl ?_
        refine mw_iconst (v := -1) dX1_firstFrom_19 (by decide) ?_
        refine mw_icmp_eq (tgt := 33) dX1_firstFrom_20 (by decide) (fun hc => ?_) (fun hc => ?_)
        · have h := mit hc h
          refine mw_iload_n dX1_firstFrom_33 3 rfl ?_
          exact mw_iret dX1_firstFrom_34 rfl (ers_i h) rfl rfl
        · have h := mie hc h
          refine mw_aload_n dX1_firstFrom_23 0 rfl ?_
          refine ev_getR (q := 3) fd_RX1_19_0 dX1_firstFrom_24 rfl rfl rfl ?_
          refine mw_iload_n dX1_firstFrom_27 3 rfl ?_
          obtain ⟨m1, h⟩ := mif h
          refine ev_iald dX1_firstFrom_28 (by decide) rfl m1 ?_
          refine mw_iload_n dX1_firstFrom_29 2 rfl ?_
          refine mw_icmp_ne (tgt := 35) dX1_firstFrom_30 (by decide) (fun hc => ?_) (fun hc => ?_)
          · have h := mie hc h
            refine mw_iinc (v := (x3 + 1)) (L' := [(3, .int (x3 + 1)), (0, .ref 1), (1, .int a1), (2, .int a2)]) dX1_firstFrom_35 3 rfl rfl (by decide) rfl ?_
            refine mw_goto (tgt := 2) dX1_firstFrom_38 (by decide) ?_
            exact mw_sub (L' := [(0, .ref 1), (1, .int a1), (2, .int a2), (3, .int (x3 + 1))]) [1, 2, 3, 0] rfl (ih _ h)
          · have h := mit hc h
            refine mw_iload_n dX1_firstFrom_33 3 rfl ?_
            exact mw_iret dX1_firstFrom_34 rfl (ers_i h) rfl rfl
def e_X1_firstFrom_1 (σ : ES) (a1 : Int32) (a2 : Int32) : Option Int32 := e_X1_firstFrom_1_L2 σ a1 a2 mN (0 : Int32)
set_option maxRecDepth 100000 in
set_option maxHeartbeats 4000000 in
theorem k_X1_firstFrom_1 {l : Launch} {σ : ES} {a1 : Int32} {a2 : Int32} {out : Int32} (h : e_X1_firstFrom_1 σ a1 a2 = some out) : MK l yX1_firstFrom cX1_firstFrom 4 (some .int) 1 [.ref 1, .int a1, .int a2] (mkS σ) (some (.int out)) (mkS σ) := by
  unfold e_X1_firstFrom_1 at h
  refine mw_entry (own := RX1) (ini := false) (L := [(0, .ref 1), (1, .int a1), (2, .int a2)]) (by decide +kernel) rfl (fun h => nomatch h) rfl (Nat.le_of_ble_eq_true rfl) (Nat.le_of_ble_eq_true rfl) (fun E => ?_)
  refine mw_iconst (v := 0) dX1_firstFrom_0 (by decide) ?_
  refine mw_istore_n (L' := [(3, .int (0 : Int32)), (0, .ref 1), (1, .int a1), (2, .int a2)]) dX1_firstFrom_1 rfl (by decide) rfl ?_
  exact mw_sub (L' := [(0, .ref 1), (1, .int a1), (2, .int a2), (3, .int (0 : Int32))]) [1, 2, 3, 0] rfl (p_X1_firstFrom_1_L2  mN _ h)

theorem dJ6_bitCount_0f7a4_0 : decode cJ6_bitCount_0f7a4 0 = .ok (.iload_n 0, 1) := by decide +kernel
theorem dJ6_bitCount_0f7a4_1 : decode cJ6_bitCount_0f7a4 1 = .ok (.iload_n 0, 1) := by decide +kernel
theorem dJ6_bitCount_0f7a4_2 : decode cJ6_bitCount_0f7a4 2 = .ok (.iconst 1, 1) := by decide +kernel
theorem dJ6_bitCount_0f7a4_3 : decode cJ6_bitCount_0f7a4 3 = .ok (.iushr, 1) := by decide +kernel
theorem dJ6_bitCount_0f7a4_4 : decode cJ6_bitCount_0f7a4 4 = .ok (.ldc_w 265, 3) := by decide +kernel
theorem dJ6_bitCount_0f7a4_7 : decode cJ6_bitCount_0f7a4 7 = .ok (.iand, 1) := by decide +kernel
theorem dJ6_bitCount_0f7a4_8 : decode cJ6_bitCount_0f7a4 8 = .ok (.isub, 1) := by decide +kernel
theorem dJ6_bitCount_0f7a4_9 : decode cJ6_bitCount_0f7a4 9 = .ok (.istore_n 0, 1) := by decide +kernel
theorem dJ6_bitCount_0f7a4_10 : decode cJ6_bitCount_0f7a4 10 = .ok (.iload_n 0, 1) := by decide +kernel
theorem dJ6_bitCount_0f7a4_11 : decode cJ6_bitCount_0f7a4 11 = .ok (.ldc_w 266, 3) := by decide +kernel
theorem dJ6_bitCount_0f7a4_14 : decode cJ6_bitCount_0f7a4 14 = .ok (.iand, 1) := by decide +kernel
theorem dJ6_bitCount_0f7a4_15 : decode cJ6_bitCount_0f7a4 15 = .ok (.iload_n 0, 1) := by decide +kernel
theorem dJ6_bitCount_0f7a4_16 : decode cJ6_bitCount_0f7a4 16 = .ok (.iconst 2, 1) := by decide +kernel
theorem dJ6_bitCount_0f7a4_17 : decode cJ6_bitCount_0f7a4 17 = .ok (.iushr, 1) := by decide +kernel
theorem dJ6_bitCount_0f7a4_18 : decode cJ6_bitCount_0f7a4 18 = .ok (.ldc_w 266, 3) := by decide +kernel
theorem dJ6_bitCount_0f7a4_21 : decode cJ6_bitCount_0f7a4 21 = .ok (.iand, 1) := by decide +kernel
theorem dJ6_bitCount_0f7a4_22 : decode cJ6_bitCount_0f7a4 22 = .ok (.iadd, 1) := by decide +kernel
theorem dJ6_bitCount_0f7a4_23 : decode cJ6_bitCount_0f7a4 23 = .ok (.istore_n 0, 1) := by decide +kernel
theorem dJ6_bitCount_0f7a4_24 : decode cJ6_bitCount_0f7a4 24 = .ok (.iload_n 0, 1) := by decide +kernel
theorem dJ6_bitCount_0f7a4_25 : decode cJ6_bitCount_0f7a4 25 = .ok (.iload_n 0, 1) := by decide +kernel
theorem dJ6_bitCount_0f7a4_26 : decode cJ6_bitCount_0f7a4 26 = .ok (.iconst 4, 1) := by decide +kernel
theorem dJ6_bitCount_0f7a4_27 : decode cJ6_bitCount_0f7a4 27 = .ok (.iushr, 1) := by decide +kernel
theorem dJ6_bitCount_0f7a4_28 : decode cJ6_bitCount_0f7a4 28 = .ok (.iadd, 1) := by decide +kernel
theorem dJ6_bitCount_0f7a4_29 : decode cJ6_bitCount_0f7a4 29 = .ok (.ldc_w 267, 3) := by decide +kernel
theorem dJ6_bitCount_0f7a4_32 : decode cJ6_bitCount_0f7a4 32 = .ok (.iand, 1) := by decide +kernel
theorem dJ6_bitCount_0f7a4_33 : decode cJ6_bitCount_0f7a4 33 = .ok (.istore_n 0, 1) := by decide +kernel
theorem dJ6_bitCount_0f7a4_34 : decode cJ6_bitCount_0f7a4 34 = .ok (.iload_n 0, 1) := by decide +kernel
theorem dJ6_bitCount_0f7a4_35 : decode cJ6_bitCount_0f7a4 35 = .ok (.iload_n 0, 1) := by decide +kernel
theorem dJ6_bitCount_0f7a4_36 : decode cJ6_bitCount_0f7a4 36 = .ok (.bipush 8, 2) := by decide +kernel
theorem dJ6_bitCount_0f7a4_38 : decode cJ6_bitCount_0f7a4 38 = .ok (.iushr, 1) := by decide +kernel
theorem dJ6_bitCount_0f7a4_39 : decode cJ6_bitCount_0f7a4 39 = .ok (.iadd, 1) := by decide +kernel
theorem dJ6_bitCount_0f7a4_40 : decode cJ6_bitCount_0f7a4 40 = .ok (.istore_n 0, 1) := by decide +kernel
theorem dJ6_bitCount_0f7a4_41 : decode cJ6_bitCount_0f7a4 41 = .ok (.iload_n 0, 1) := by decide +kernel
theorem dJ6_bitCount_0f7a4_42 : decode cJ6_bitCount_0f7a4 42 = .ok (.iload_n 0, 1) := by decide +kernel
theorem dJ6_bitCount_0f7a4_43 : decode cJ6_bitCount_0f7a4 43 = .ok (.bipush 16, 2) := by decide +kernel
theorem dJ6_bitCount_0f7a4_45 : decode cJ6_bitCount_0f7a4 45 = .ok (.iushr, 1) := by decide +kernel
theorem dJ6_bitCount_0f7a4_46 : decode cJ6_bitCount_0f7a4 46 = .ok (.iadd, 1) := by decide +kernel
theorem dJ6_bitCount_0f7a4_47 : decode cJ6_bitCount_0f7a4 47 = .ok (.istore_n 0, 1) := by decide +kernel
theorem dJ6_bitCount_0f7a4_48 : decode cJ6_bitCount_0f7a4 48 = .ok (.iload_n 0, 1) := by decide +kernel
theorem dJ6_bitCount_0f7a4_49 : decode cJ6_bitCount_0f7a4 49 = .ok (.bipush 63, 2) := by decide +kernel
theorem dJ6_bitCount_0f7a4_51 : decode cJ6_bitCount_0f7a4 51 = .ok (.iand, 1) := by decide +kernel
theorem dJ6_bitCount_0f7a4_52 : decode cJ6_bitCount_0f7a4 52 = .ok (.ireturn, 1) := by decide +kernel
def e_J6_bitCount_0f7a4 (a0 : Int32) : Option Int32 := some ((((((((a0 - (((a0.toUInt32 >>> ((1 : Int32).toUInt32 &&& Int32.toUInt32 31)).toInt32) &&& (1431655765 : Int32))) &&& (858993459 : Int32)) + ((((a0 - (((a0.toUInt32 >>> ((1 : Int32).toUInt32 &&& Int32.toUInt32 31)).toInt32) &&& (1431655765 : Int32))).toUInt32 >>> ((2 : Int32).toUInt32 &&& Int32.toUInt32 31)).toInt32) &&& (858993459 : Int32))) + (((((a0 - (((a0.toUInt32 >>> ((1 : Int32).toUInt32 &&& Int32.toUInt32 31)).toInt32) &&& (1431655765 : Int32))) &&& (858993459 : Int32)) + ((((a0 - (((a0.toUInt32 >>> ((1 : Int32).toUInt32 &&& Int32.toUInt32 31)).toInt32) &&& (1431655765 : Int32))).toUInt32 >>> ((2 : Int32).toUInt32 &&& Int32.toUInt32 31)).toInt32) &&& (858993459 : Int32))).toUInt32 >>> ((4 : Int32).toUInt32 &&& Int32.toUInt32 31)).toInt32)) &&& (252645135 : Int32)) + (((((((a0 - (((a0.toUInt32 >>> ((1 : Int32).toUInt32 &&& Int32.toUInt32 31)).toInt32) &&& (1431655765 : Int32))) &&& (858993459 : Int32)) + ((((a0 - (((a0.toUInt32 >>> ((1 : Int32).toUInt32 &&& Int32.toUInt32 31)).toInt32) &&& (1431655765 : Int32))).toUInt32 >>> ((2 : Int32).toUInt32 &&& Int32.toUInt32 31)).toInt32) &&& (858993459 : Int32))) + (((((a0 - (((a0.toUInt32 >>> ((1 : Int32).toUInt32 &&& Int32.toUInt32 31)).toInt32) &&& (1431655765 : Int32))) &&& (858993459 : Int32)) + ((((a0 - (((a0.toUInt32 >>> ((1 : Int32).toUInt32 &&& Int32.toUInt32 31)).toInt32) &&& (1431655765 : Int32))).toUInt32 >>> ((2 : Int32).toUInt32 &&& Int32.toUInt32 31)).toInt32) &&& (858993459 : Int32))).toUInt32 >>> ((4 : Int32).toUInt32 &&& Int32.toUInt32 31)).toInt32)) &&& (252645135 : Int32)).toUInt32 >>> ((8 : Int32).toUInt32 &&& Int32.toUInt32 31)).toInt32)) + ((((((((a0 - (((a0.toUInt32 >>> ((1 : Int32).toUInt32 &&& Int32.toUInt32 31)).toInt32) &&& (1431655765 : Int32))) &&& (858993459 : Int32)) + ((((a0 - (((a0.toUInt32 >>> ((1 : Int32).toUInt32 &&& Int32.toUInt32 31)).toInt32) &&& (1431655765 : Int32))).toUInt32 >>> ((2 : Int32).toUInt32 &&& Int32.toUInt32 31)).toInt32) &&& (858993459 : Int32))) + (((((a0 - (((a0.toUInt32 >>> ((1 : Int32).toUInt32 &&& Int32.toUInt32 31)).toInt32) &&& (1431655765 : Int32))) &&& (858993459 : Int32)) + ((((a0 - (((a0.toUInt32 >>> ((1 : Int32).toUInt32 &&& Int32.toUInt32 31)).toInt32) &&& (1431655765 : Int32))).toUInt32 >>> ((2 : Int32).toUInt32 &&& Int32.toUInt32 31)).toInt32) &&& (858993459 : Int32))).toUInt32 >>> ((4 : Int32).toUInt32 &&& Int32.toUInt32 31)).toInt32)) &&& (252645135 : Int32)) + (((((((a0 - (((a0.toUInt32 >>> ((1 : Int32).toUInt32 &&& Int32.toUInt32 31)).toInt32) &&& (1431655765 : Int32))) &&& (858993459 : Int32)) + ((((a0 - (((a0.toUInt32 >>> ((1 : Int32).toUInt32 &&& Int32.toUInt32 31)).toInt32) &&& (1431655765 : Int32))).toUInt32 >>> ((2 : Int32).toUInt32 &&& Int32.toUInt32 31)).toInt32) &&& (858993459 : Int32))) + (((((a0 - (((a0.toUInt32 >>> ((1 : Int32).toUInt32 &&& Int32.toUInt32 31)).toInt32) &&& (1431655765 : Int32))) &&& (858993459 : Int32)) + ((((a0 - (((a0.toUInt32 >>> ((1 : Int32).toUInt32 &&& Int32.toUInt32 31)).toInt32) &&& (1431655765 : Int32))).toUInt32 >>> ((2 : Int32).toUInt32 &&& Int32.toUInt32 31)).toInt32) &&& (858993459 : Int32))).toUInt32 >>> ((4 : Int32).toUInt32 &&& Int32.toUInt32 31)).toInt32)) &&& (252645135 : Int32)).toUInt32 >>> ((8 : Int32).toUInt32 &&& Int32.toUInt32 31)).toInt32)).toUInt32 >>> ((16 : Int32).toUInt32 &&& Int32.toUInt32 31)).toInt32)) &&& (63 : Int32))
set_option maxRecDepth 100000 in
set_option maxHeartbeats 4000000 in
theorem k_J6_bitCount_0f7a4 {l : Launch} {σ : ES} {a0 : Int32} {out : Int32} (h : e_J6_bitCount_0f7a4 a0 = some out) : MK l yJ6_bitCount_0f7a4 cJ6_bitCount_0f7a4 1 (some .int) 1 [.int a0] (mkS σ) (some (.int out)) (mkS σ) := by
  unfold e_J6_bitCount_0f7a4 at h
  refine mw_entry (own := RJ6) (ini := false) (L := [(0, .int a0)]) (by decide +kernel) rfl (fun h => nomatch h) rfl (Nat.le_of_ble_eq_true rfl) (Nat.le_of_ble_eq_true rfl) (fun E => ?_)
  refine mw_iload_n dJ6_bitCount_0f7a4_0 0 rfl ?_
  refine mw_iload_n dJ6_bitCount_0f7a4_1 0 rfl ?_
  refine mw_iconst (v := 1) dJ6_bitCount_0f7a4_2 (by decide) ?_
  refine mw_iushr dJ6_bitCount_0f7a4_3 ?_
  refine mw_ldcw dJ6_bitCount_0f7a4_4 wt_374 ?_
  refine mw_iand dJ6_bitCount_0f7a4_7 ?_
  refine mw_isub dJ6_bitCount_0f7a4_8 ?_
  refine mw_istore_n (L' := [(0, .int (a0 - (((a0.toUInt32 >>> ((1 : Int32).toUInt32 &&& Int32.toUInt32 31)).toInt32) &&& (1431655765 : Int32))))]) dJ6_bitCount_0f7a4_9 rfl (by decide) rfl ?_
  refine mw_iload_n dJ6_bitCount_0f7a4_10 0 rfl ?_
  refine mw_ldcw dJ6_bitCount_0f7a4_11 wt_375 ?_
  refine mw_iand dJ6_bitCount_0f7a4_14 ?_
  refine mw_iload_n dJ6_bitCount_0f7a4_15 0 rfl ?_
  refine mw_iconst (v := 2) dJ6_bitCount_0f7a4_16 (by decide) ?_
  refine mw_iushr dJ6_bitCount_0f7a4_17 ?_
  refine mw_ldcw dJ6_bitCount_0f7a4_18 wt_375 ?_
  refine mw_iand dJ6_bitCount_0f7a4_21 ?_
  refine mw_iadd dJ6_bitCount_0f7a4_22 ?_
  refine mw_istore_n (L' := [(0, .int (((a0 - (((a0.toUInt32 >>> ((1 : Int32).toUInt32 &&& Int32.toUInt32 31)).toInt32) &&& (1431655765 : Int32))) &&& (858993459 : Int32)) + ((((a0 - (((a0.toUInt32 >>> ((1 : Int32).toUInt32 &&& Int32.toUInt32 31)).toInt32) &&& (1431655765 : Int32))).toUInt32 >>> ((2 : Int32).toUInt32 &&& Int32.toUInt32 31)).toInt32) &&& (858993459 : Int32))))]) dJ6_bitCount_0f7a4_23 rfl (by decide) rfl ?_
  refine mw_iload_n dJ6_bitCount_0f7a4_24 0 rfl ?_
  refine mw_iload_n dJ6_bitCount_0f7a4_25 0 rfl ?_
  refine mw_iconst (v := 4) dJ6_bitCount_0f7a4_26 (by decide) ?_
  refine mw_iushr dJ6_bitCount_0f7a4_27 ?_
  refine mw_iadd dJ6_bitCount_0f7a4_28 ?_
  refine mw_ldcw dJ6_bitCount_0f7a4_29 wt_376 ?_
  refine mw_iand dJ6_bitCount_0f7a4_32 ?_
  refine mw_istore_n (L' := [(0, .int (((((a0 - (((a0.toUInt32 >>> ((1 : Int32).toUInt32 &&& Int32.toUInt32 31)).toInt32) &&& (1431655765 : Int32))) &&& (858993459 : Int32)) + ((((a0 - (((a0.toUInt32 >>> ((1 : Int32).toUInt32 &&& Int32.toUInt32 31)).toInt32) &&& (1431655765 : Int32))).toUInt32 >>> ((2 : Int32).toUInt32 &&& Int32.toUInt32 31)).toInt32) &&& (858993459 : Int32))) + (((((a0 - (((a0.toUInt32 >>> ((1 : Int32).toUInt32 &&& Int32.toUInt32 31)).toInt32) &&& (1431655765 : Int32))) &&& (858993459 : Int32)) + ((((a0 - (((a0.toUInt32 >>> ((1 : Int32).toUInt32 &&& Int32.toUInt32 31)).toInt32) &&& (1431655765 : Int32))).toUInt32 >>> ((2 : Int32).toUInt32 &&& Int32.toUInt32 31)).toInt32) &&& (858993459 : Int32))).toUInt32 >>> ((4 : Int32).toUInt32 &&& Int32.toUInt32 31)).toInt32)) &&& (252645135 : Int32)))]) dJ6_bitCount_0f7a4_33 rfl (by decide) rfl ?_
  refine mw_iload_n dJ6_bitCount_0f7a4_34 0 rfl ?_
  refine mw_iload_n dJ6_bitCount_0f7a4_35 0 rfl ?_
  refine mw_bipush (v := 8) dJ6_bitCount_0f7a4_36 (by decide) ?_
  refine mw_iushr dJ6_bitCount_0f7a4_38 ?_
  refine mw_iadd dJ6_bitCount_0f7a4_39 ?_
  refine mw_istore_n (L' := [(0, .int ((((((a0 - (((a0.toUInt32 >>> ((1 : Int32).toUInt32 &&& Int32.toUInt32 31)).toInt32) &&& (1431655765 : Int32))) &&& (858993459 : Int32)) + ((((a0 - (((a0.toUInt32 >>> ((1 : Int32).toUInt32 &&& Int32.toUInt32 31)).toInt32) &&& (1431655765 : Int32))).toUInt32 >>> ((2 : Int32).toUInt32 &&& Int32.toUInt32 31)).toInt32) &&& (858993459 : Int32))) + (((((a0 - (((a0.toUInt32 >>> ((1 : Int32).toUInt32 &&& Int32.toUInt32 31)).toInt32) &&& (1431655765 : Int32))) &&& (858993459 : Int32)) + ((((a0 - (((a0.toUInt32 >>> ((1 : Int32).toUInt32 &&& Int32.toUInt32 31)).toInt32) &&& (1431655765 : Int32))).toUInt32 >>> ((2 : Int32).toUInt32 &&& Int32.toUInt32 31)).toInt32) &&& (858993459 : Int32))).toUInt32 >>> ((4 : Int32).toUInt32 &&& Int32.toUInt32 31)).toInt32)) &&& (252645135 : Int32)) + (((((((a0 - (((a0.toUInt32 >>> ((1 : Int32).toUInt32 &&& Int32.toUInt32 31)).toInt32) &&& (1431655765 : Int32))) &&& (858993459 : Int32)) + ((((a0 - (((a0.toUInt32 >>> ((1 : Int32).toUInt32 &&& Int32.toUInt32 31)).toInt32) &&& (1431655765 : Int32))).toUInt32 >>> ((2 : Int32).toUInt32 &&& Int32.toUInt32 31)).toInt32) &&& (858993459 : Int32))) + (((((a0 - (((a0.toUInt32 >>> ((1 : Int32).toUInt32 &&& Int32.toUInt32 31)).toInt32) &&& (1431655765 : Int32))) &&& (858993459 : Int32)) + ((((a0 - (((a0.toUInt32 >>> ((1 : Int32).toUInt32 &&& Int32.toUInt32 31)).toInt32) &&& (1431655765 : Int32))).toUInt32 >>> ((2 : Int32).toUInt32 &&& Int32.toUInt32 31)).toInt32) &&& (858993459 : Int32))).toUInt32 >>> ((4 : Int32).toUInt32 &&& Int32.toUInt32 31)).toInt32)) &&& (252645135 : Int32)).toUInt32 >>> ((8 : Int32).toUInt32 &&& Int32.toUInt32 31)).toInt32)))]) dJ6_bitCount_0f7a4_40 rfl (by decide) rfl ?_
  refine mw_iload_n dJ6_bitCount_0f7a4_41 0 rfl ?_
  refine mw_iload_n dJ6_bitCount_0f7a4_42 0 rfl ?_
  refine mw_bipush (v := 16) dJ6_bitCount_0f7a4_43 (by decide) ?_
  refine mw_iushr dJ6_bitCount_0f7a4_45 ?_
  refine mw_iadd dJ6_bitCount_0f7a4_46 ?_
  refine mw_istore_n (L' := [(0, .int (((((((a0 - (((a0.toUInt32 >>> ((1 : Int32).toUInt32 &&& Int32.toUInt32 31)).toInt32) &&& (1431655765 : Int32))) &&& (858993459 : Int32)) + ((((a0 - (((a0.toUInt32 >>> ((1 : Int32).toUInt32 &&& Int32.toUInt32 31)).toInt32) &&& (1431655765 : Int32))).toUInt32 >>> ((2 : Int32).toUInt32 &&& Int32.toUInt32 31)).toInt32) &&& (858993459 : Int32))) + (((((a0 - (((a0.toUInt32 >>> ((1 : Int32).toUInt32 &&& Int32.toUInt32 31)).toInt32) &&& (1431655765 : Int32))) &&& (858993459 : Int32)) + ((((a0 - (((a0.toUInt32 >>> ((1 : Int32).toUInt32 &&& Int32.toUInt32 31)).toInt32) &&& (1431655765 : Int32))).toUInt32 >>> ((2 : Int32).toUInt32 &&& Int32.toUInt32 31)).toInt32) &&& (858993459 : Int32))).toUInt32 >>> ((4 : Int32).toUInt32 &&& Int32.toUInt32 31)).toInt32)) &&& (252645135 : Int32)) + (((((((a0 - (((a0.toUInt32 >>> ((1 : Int32).toUInt32 &&& Int32.toUInt32 31)).toInt32) &&& (1431655765 : Int32))) &&& (858993459 : Int32)) + ((((a0 - (((a0.toUInt32 >>> ((1 : Int32).toUInt32 &&& Int32.toUInt32 31)).toInt32) &&& (1431655765 : Int32))).toUInt32 >>> ((2 : Int32).toUInt32 &&& Int32.toUInt32 31)).toInt32) &&& (858993459 : Int32))) + (((((a0 - (((a0.toUInt32 >>> ((1 : Int32).toUInt32 &&& Int32.toUInt32 31)).toInt32) &&& (1431655765 : Int32))) &&& (858993459 : Int32)) + ((((a0 - (((a0.toUInt32 >>> ((1 : Int32).toUInt32 &&& Int32.toUInt32 31)).toInt32) &&& (1431655765 : Int32))).toUInt32 >>> ((2 : Int32).toUInt32 &&& Int32.toUInt32 31)).toInt32) &&& (858993459 : Int32))).toUInt32 >>> ((4 : Int32).toUInt32 &&& Int32.toUInt32 31)).toInt32)) &&& (252645135 : Int32)).toUInt32 >>> ((8 : Int32).toUInt32 &&& Int32.toUInt32 31)).toInt32)) + ((((((((a0 - (((a0.toUInt32 >>> ((1 : Int32).toUInt32 &&& Int32.toUInt32 31)).toInt32) &&& (1431655765 : Int32))) &&& (858993459 : Int32)) + ((((a0 - (((a0.toUInt32 >>> ((1 : Int32).toUInt32 &&& Int32.toUInt32 31)).toInt32) &&& (1431655765 : Int32))).toUInt32 >>> ((2 : Int32).toUInt32 &&& Int32.toUInt32 31)).toInt32) &&& (858993459 : Int32))) + (((((a0 - (((a0.toUInt32 >>> ((1 : Int32).toUInt32 &&& Int32.toUInt32 31)).toInt32) &&& (1431655765 : Int32))) &&& (858993459 : Int32)) + ((((a0 - (((a0.toUInt32 >>> ((1 : Int32).toUInt32 &&& Int32.toUInt32 31)).toInt32) &&& (1431655765 : Int32))).toUInt32 >>> ((2 : Int32).toUInt32 &&& Int32.toUInt32 31)).toInt32) &&& (858993459 : Int32))).toUInt32 >>> ((4 : Int32).toUInt32 &&& Int32.toUInt32 31)).toInt32)) &&& (252645135 : Int32)) + (((((((a0 - (((a0.toUInt32 >>> ((1 : Int32).toUInt32 &&& Int32.toUInt32 31)).toInt32) &&& (1431655765 : Int32))) &&& (858993459 : Int32)) + ((((a0 - (((a0.toUInt32 >>> ((1 : Int32).toUInt32 &&& Int32.toUInt32 31)).toInt32) &&& (1431655765 : Int32))).toUInt32 >>> ((2 : Int32).toUInt32 &&& Int32.toUInt32 31)).toInt32) &&& (858993459 : Int32))) + (((((a0 - (((a0.toUInt32 >>> ((1 : Int32).toUInt32 &&& Int32.toUInt32 31)).toInt32) &&& (1431655765 : Int32))) &&& (858993459 : Int32)) + ((((a0 - (((a0.toUInt32 >>> ((1 : Int32).toUInt32 &&& Int32.toUInt32 31)).toInt32) &&& (1431655765 : Int32))).toUInt32 >>> ((2 : Int32).toUInt32 &&& Int32.toUInt32 31)).toInt32) &&& (858993459 : Int32))).toUInt32 >>> ((4 : Int32).toUInt32 &&& Int32.toUInt32 31)).toInt32)) &&& (252645135 : Int32)).toUInt32 >>> ((8 : Int32).toUInt32 &&& Int32.toUInt32 31)).toInt32)).toUInt32 >>> ((16 : Int32).toUInt32 &&& Int32.toUInt32 31)).toInt32)))]) dJ6_bitCount_0f7a4_47 rfl (by decide) rfl ?_
  refine mw_iload_n dJ6_bitCount_0f7a4_48 0 rfl ?_
  refine mw_bipush (v := 63) dJ6_bitCount_0f7a4_49 (by decide) ?_
  refine mw_iand dJ6_bitCount_0f7a4_51 ?_
  exact mw_iret dJ6_bitCount_0f7a4_52 rfl (ers_i h) rfl rfl
