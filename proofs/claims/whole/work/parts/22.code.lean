/-! ===== methods as functions, and that the machine does so (written by gen/all.py) ===== -/
theorem dX9_sharedBelowZero_0 : decode cX9_sharedBelowZero 0 = .ok (.lload_n 0, 1) := by decide +kernel
theorem dX9_sharedBelowZero_1 : decode cX9_sharedBelowZero 1 = .ok (.lconst 0, 1) := by decide +kernel
theorem dX9_sharedBelowZero_2 : decode cX9_sharedBelowZero 2 = .ok (.lcmp, 1) := by decide +kernel
theorem dX9_sharedBelowZero_3 : decode cX9_sharedBelowZero 3 = .ok (.ifCond .le 8, 3) := by decide +kernel
theorem dX9_sharedBelowZero_6 : decode cX9_sharedBelowZero 6 = .ok (.lload_n 0, 1) := by decide +kernel
theorem dX9_sharedBelowZero_7 : decode cX9_sharedBelowZero 7 = .ok (.lneg, 1) := by decide +kernel
theorem dX9_sharedBelowZero_8 : decode cX9_sharedBelowZero 8 = .ok (.goto 4, 3) := by decide +kernel
theorem dX9_sharedBelowZero_11 : decode cX9_sharedBelowZero 11 = .ok (.lload_n 0, 1) := by decide +kernel
theorem dX9_sharedBelowZero_12 : decode cX9_sharedBelowZero 12 = .ok (.lstore 4, 2) := by decide +kernel
theorem dX9_sharedBelowZero_14 : decode cX9_sharedBelowZero 14 = .ok (.lload_n 2, 1) := by decide +kernel
theorem dX9_sharedBelowZero_15 : decode cX9_sharedBelowZero 15 = .ok (.lconst 0, 1) := by decide +kernel
theorem dX9_sharedBelowZero_16 : decode cX9_sharedBelowZero 16 = .ok (.lcmp, 1) := by decide +kernel
theorem dX9_sharedBelowZero_17 : decode cX9_sharedBelowZero 17 = .ok (.ifCond .le 8, 3) := by decide +kernel
theorem dX9_sharedBelowZero_20 : decode cX9_sharedBelowZero 20 = .ok (.lload_n 2, 1) := by decide +kernel
theorem dX9_sharedBelowZero_21 : decode cX9_sharedBelowZero 21 = .ok (.lneg, 1) := by decide +kernel
theorem dX9_sharedBelowZero_22 : decode cX9_sharedBelowZero 22 = .ok (.goto 4, 3) := by decide +kernel
theorem dX9_sharedBelowZero_25 : decode cX9_sharedBelowZero 25 = .ok (.lload_n 2, 1) := by decide +kernel
theorem dX9_sharedBelowZero_26 : decode cX9_sharedBelowZero 26 = .ok (.lstore 6, 2) := by decide +kernel
theorem dX9_sharedBelowZero_28 : decode cX9_sharedBelowZero 28 = .ok (.iconst 0, 1) := by decide +kernel
theorem dX9_sharedBelowZero_29 : decode cX9_sharedBelowZero 29 = .ok (.istore 8, 2) := by decide +kernel
theorem dX9_sharedBelowZero_31 : decode cX9_sharedBelowZero 31 = .ok (.iload 8, 2) := by decide +kernel
theorem dX9_sharedBelowZero_33 : decode cX9_sharedBelowZero 33 = .ok (.sipush 200, 3) := by decide +kernel
theorem dX9_sharedBelowZero_36 : decode cX9_sharedBelowZero 36 = .ok (.if_icmp .ge 31, 3) := by decide +kernel
theorem dX9_sharedBelowZero_39 : decode cX9_sharedBelowZero 39 = .ok (.lload 6, 2) := by decide +kernel
theorem dX9_sharedBelowZero_41 : decode cX9_sharedBelowZero 41 = .ok (.lconst 0, 1) := by decide +kernel
theorem dX9_sharedBelowZero_42 : decode cX9_sharedBelowZero 42 = .ok (.lcmp, 1) := by decide +kernel
theorem dX9_sharedBelowZero_43 : decode cX9_sharedBelowZero 43 = .ok (.ifCond .eq 24, 3) := by decide +kernel
theorem dX9_sharedBelowZero_46 : decode cX9_sharedBelowZero 46 = .ok (.lload 4, 2) := by decide +kernel
theorem dX9_sharedBelowZero_48 : decode cX9_sharedBelowZero 48 = .ok (.lload 6, 2) := by decide +kernel
theorem dX9_sharedBelowZero_50 : decode cX9_sharedBelowZero 50 = .ok (.lrem, 1) := by decide +kernel
theorem dX9_sharedBelowZero_51 : decode cX9_sharedBelowZero 51 = .ok (.lstore 9, 2) := by decide +kernel
theorem dX9_sharedBelowZero_53 : decode cX9_sharedBelowZero 53 = .ok (.lload 6, 2) := by decide +kernel
theorem dX9_sharedBelowZero_55 : decode cX9_sharedBelowZero 55 = .ok (.lstore 4, 2) := by decide +kernel
theorem dX9_sharedBelowZero_57 : decode cX9_sharedBelowZero 57 = .ok (.lload 9, 2) := by decide +kernel
theorem dX9_sharedBelowZero_59 : decode cX9_sharedBelowZero 59 = .ok (.lstore 6, 2) := by decide +kernel
theorem dX9_sharedBelowZero_61 : decode cX9_sharedBelowZero 61 = .ok (.iinc 8 1, 3) := by decide +kernel
theorem dX9_sharedBelowZero_64 : decode cX9_sharedBelowZero 64 = .ok (.goto (-33), 3) := by decide +kernel
theorem dX9_sharedBelowZero_67 : decode cX9_sharedBelowZero 67 = .ok (.lload 4, 2) := by decide +kernel
theorem dX9_sharedBelowZero_69 : decode cX9_sharedBelowZero 69 = .ok (.lreturn, 1) := by decide +kernel
def e_X9_sharedBelowZero_L31 (a0 : Int64) (a2 : Int64) : Nat → Int64 → Int64 → Int32 → Option Int64
  | 0, _, _, _ => none
  | n + 1, x4, x6, x8 => if (200 : Int32) ≤ x8 then (some x4) else (if x6 = (0 : Int64) then (some x4) else (if x6 = 0 then none else (e_X9_sharedBelowZero_L31 a0 a2 n x6 (x4 - x4 / x6 * x6) (x8 + 1))))
set_option maxRecDepth 100000 in
set_option maxHeartbeats 4000000 in
theorem p_X9_sharedBelowZero_L31 {l : Launch} {E : MX} {out : Int64} {a0 : Int64} {a2 : Int64} {σ : ES}  : ∀ (n : Nat) (x4 : Int64) (x6 : Int64) (x8 : Int32), e_X9_sharedBelowZero_L31 a0 a2 n x4 x6 x8 = some out → MV l E cX9_sharedBelowZero RX9 11 (some .long) 1 (82, (some (.long out)), mkS σ) (mkS σ) 31 [(0, .long a0), (2, .long a2), (4, .long x4), (6, .long x6), (8, .int x8)] [] := by
  intro n
  induction n with
  | zero =>
    intro x4 x6 x8 h
    exact nomatch h
  | succ n ih =>
    intro x4 x6 x8 h
    rw [e_X9_sharedBelowZero_L31] at h
    refine mw_iload dX9_sharedBelowZero_31 4 rfl ?_
    refine mw_sipush (v := 200) dX9_sharedBelowZero_33 (by decide) ?_
    refine mw_icmp_ge (tgt := 67) dX9_sharedBelowZero_36 (by decide) (fun hc => ?_) (fun hc => ?_)
    · have h := mit hc h
      refine mw_lload dX9_sharedBelowZero_67 2 rfl ?_
      exact mw_lret dX9_sharedBelowZero_69 rfl (ers_l h) rfl rfl
    · have h := mie hc h
      refine mw_lload dX9_sharedBelowZero_39 3 rfl ?_
      refine mw_lconst (v := 0) dX9_sharedBelowZero_41 (by decide) ?_
      refine mw_lc_eq (tgt := 67) dX9_sharedBelowZero_42 dX9_sharedBelowZero_43 (by decide) (fun hc => ?_) (fun hc => ?_)
      · have h := mit hc h
        refine mw_lload dX9_sharedBelowZero_67 2 rfl ?_
        exact mw_lret dX9_sharedBelowZero_69 rfl (ers_l h) rfl rfl
      · have h := mie hc h
        refine mw_lload dX9_sharedBelowZero_46 2 rfl ?_
        refine mw_lload dX9_sharedBelowZero_48 3 rfl ?_
        obtain ⟨m1, h⟩ := mnf h
        refine mw_lrem dX9_sharedBelowZero_50 m1 ?_
        refine mw_lstore (L' := [(9, .long (x4 - x4 / x6 * x6)), (0, .long a0), (2, .long a2), (4, .long x4), (6, .long x6), (8, .int x8)]) dX9_sharedBelowZero_51 (by decide) rfl ?_
        refine mw_lload dX9_sharedBelowZero_53 4 rfl ?_
        refine mw_lstore (L' := [(4, .long x6), (9, .long (x4 - x4 / x6 * x6)), (0, .long a0), (2, .long a2), (6, .long x6), (8, .int x8)]) dX9_sharedBelowZero_55 (by decide) rfl ?_
        refine mw_lload dX9_sharedBelowZero_57 1 rfl ?_
        refine mw_lstore (L' := [(6, .long (x4 - x4 / x6 * x6)), (4, .long x6), (9, .long (x4 - x4 / x6 * x6)), (0, .long a0), (2, .long a2), (8, .int x8)]) dX9_sharedBelowZero_59 (by decide) rfl ?_
        refine mw_iinc (v := (x8 + 1)) (L' := [(8, .int (x8 + 1)), (6, .long (x4 - x4 / x6 * x6)), (4, .long x6), (9, .long (x4 - x4 / x6 * x6)), (0, .long a0), (2, .long a2)]) dX9_sharedBelowZero_61 5 rfl rfl (by decide) rfl ?_
        refine mw_goto (tgt := 31) dX9_sharedBelowZero_64 (by decide) ?_
        exact mw_sub (L' := [(0, .long a0), (2, .long a2), (4, .long x6), (6, .long (x4 - x4 / x6 * x6)), (8, .int (x8 + 1))]) [4, 5, 2, 1, 0] rfl (ih _ _ _ h)
def e_X9_sharedBelowZero_J12 (a0 : Int64) (a2 : Int64) (s0 : Int64) : Option Int64 := if a2 ≤ (0 : Int64) then (e_X9_sharedBelowZero_L31 a0 a2 mN s0 a2 (0 : Int32)) else (e_X9_sharedBelowZero_L31 a0 a2 mN s0 (-a2) (0 : Int32))
set_option maxRecDepth 100000 in
set_option maxHeartbeats 4000000 in
theorem p_X9_sharedBelowZero_J12 {l : Launch} {E : MX} {out : Int64} {a0 : Int64} {a2 : Int64} {σ : ES}  {s0 : Int64} (h : e_X9_sharedBelowZero_J12 a0 a2 s0 = some out) : MV l E cX9_sharedBelowZero RX9 11 (some .long) 1 (82, (some (.long out)), mkS σ) (mkS σ) 12 [(0, .long a0), (2, .long a2)] [.long s0] := by
  unfold e_X9_sharedBelowZero_J12 at h
  refine mw_lstore (L' := [(4, .long s0), (0, .long a0), (2, .long a2)]) dX9_sharedBelowZero_12 (by decide) rfl ?_
  refine mw_lload_n dX9_sharedBelowZero_14 2 rfl ?_
  refine mw_lconst (v := 0) dX9_sharedBelowZero_15 (by decide) ?_
  refine mw_lc_le (tgt := 25) dX9_sharedBelowZero_16 dX9_sharedBelowZero_17 (by decide) (fun hc => ?_) (fun hc => ?_)
  · have h := mit hc h
    refine mw_lload_n dX9_sharedBelowZero_25 2 rfl ?_
    refine mw_lstore (L' := [(6, .long a2), (4, .long s0), (0, .long a0), (2, .long a2)]) dX9_sharedBelowZero_26 (by decide) rfl ?_
    refine mw_iconst (v := 0) dX9_sharedBelowZero_28 (by decide) ?_
    refine mw_istore (L' := [(8, .int (0 : Int32)), (6, .long a2), (4, .long s0), (0, .long a0), (2, .long a2)]) dX9_sharedBelowZero_29 (by decide) rfl ?_
    exact mw_sub (L' := [(0, .long a0), (2, .long a2), (4, .long s0), (6, .long a2), (8, .int (0 : Int32))]) [3, 4, 2, 1, 0] rfl (p_X9_sharedBelowZero_L31  mN _ _ _ h)
  · have h := mie hc h
    refine mw_lload_n dX9_sharedBelowZero_20 2 rfl ?_
    refine mw_lneg dX9_sharedBelowZero_21 ?_
    refine mw_goto (tgt := 26) dX9_sharedBelowZero_22 (by decide) ?_
    refine mw_lstore (L' := [(6, .long (-a2)), (4, .long s0), (0, .long a0), (2, .long a2)]) dX9_sharedBelowZero_26 (by decide) rfl ?_
    refine mw_iconst (v := 0) dX9_sharedBelowZero_28 (by decide) ?_
    refine mw_istore (L' := [(8, .int (0 : Int32)), (6, .long (-a2)), (4, .long s0), (0, .long a0), (2, .long a2)]) dX9_sharedBelowZero_29 (by decide) rfl ?_
    exact mw_sub (L' := [(0, .long a0), (2, .long a2), (4, .long s0), (6, .long (-a2)), (8, .int (0 : Int32))]) [3, 4, 2, 1, 0] rfl (p_X9_sharedBelowZero_L31  mN _ _ _ h)
def e_X9_sharedBelowZero (a0 : Int64) (a2 : Int64) : Option Int64 := if a0 ≤ (0 : Int64) then (e_X9_sharedBelowZero_J12 a0 a2 a0) else (e_X9_sharedBelowZero_J12 a0 a2 (-a0))
set_option maxRecDepth 100000 in
set_option maxHeartbeats 4000000 in
theorem k_X9_sharedBelowZero {l : Launch} {σ : ES} {a0 : Int64} {a2 : Int64} {out : Int64} (h : e_X9_sharedBelowZero a0 a2 = some out) : MK l yX9_sharedBelowZero cX9_sharedBelowZero 11 (some .long) 1 [.long a0, .long a2] (mkS σ) (some (.long out)) (mkS σ) := by
  unfold e_X9_sharedBelowZero at h
  refine mw_entry (own := RX9) (ini := false) (L := [(0, .long a0), (2, .long a2)]) (by decide +kernel) rfl (fun h => nomatch h) rfl (Nat.le_of_ble_eq_true rfl) (Nat.le_of_ble_eq_true rfl) (fun E => ?_)
  refine mw_lload_n dX9_sharedBelowZero_0 0 rfl ?_
  refine mw_lconst (v := 0) dX9_sharedBelowZero_1 (by decide) ?_
  refine mw_lc_le (tgt := 11) dX9_sharedBelowZero_2 dX9_sharedBelowZero_3 (by decide) (fun hc => ?_) (fun hc => ?_)
  · have h := mit hc h
    refine mw_lload_n dX9_sharedBelowZero_11 0 rfl ?_
    exact mw_sub (L' := [(0, .long a0), (2, .long a2)]) [0, 1] rfl (p_X9_sharedBelowZero_J12  h)
  · have h := mie hc h
    refine mw_lload_n dX9_sharedBelowZero_6 0 rfl ?_
    refine mw_lneg dX9_sharedBelowZero_7 ?_
    refine mw_goto (tgt := 12) dX9_sharedBelowZero_8 (by decide) ?_
    exact mw_sub (L' := [(0, .long a0), (2, .long a2)]) [0, 1] rfl (p_X9_sharedBelowZero_J12  h)

theorem dX9_lowest_0 : decode cX9_lowest 0 = .ok (.lload_n 0, 1) := by decide +kernel
theorem dX9_lowest_1 : decode cX9_lowest 1 = .ok (.lload_n 2, 1) := by decide +kernel
theorem dX9_lowest_2 : decode cX9_lowest 2 = .ok (.invokestatic 304, 3) := by decide +kernel
theorem dX9_lowest_5 : decode cX9_lowest 5 = .ok (.lneg, 1) := by decide +kernel
theorem dX9_lowest_6 : decode cX9_lowest 6 = .ok (.lstore 5, 2) := by decide +kernel
theorem dX9_lowest_8 : decode cX9_lowest 8 = .ok (.lload 5, 2) := by decide +kernel
theorem dX9_lowest_10 : decode cX9_lowest 10 = .ok (.lconst 1, 1) := by decide +kernel
theorem dX9_lowest_11 : decode cX9_lowest 11 = .ok (.lcmp, 1) := by decide +kernel
theorem dX9_lowest_12 : decode cX9_lowest 12 = .ok (.ifCond .ge 5, 3) := by decide +kernel
theorem dX9_lowest_15 : decode cX9_lowest 15 = .ok (.lconst 0, 1) := by decide +kernel
theorem dX9_lowest_16 : decode cX9_lowest 16 = .ok (.lreturn, 1) := by decide +kernel
theorem dX9_lowest_17 : decode cX9_lowest 17 = .ok (.iload 4, 2) := by decide +kernel
theorem dX9_lowest_19 : decode cX9_lowest 19 = .ok (.ifCond .ne 7, 3) := by decide +kernel
theorem dX9_lowest_22 : decode cX9_lowest 22 = .ok (.lload_n 0, 1) := by decide +kernel
theorem dX9_lowest_23 : decode cX9_lowest 23 = .ok (.goto 4, 3) := by decide +kernel
theorem dX9_lowest_26 : decode cX9_lowest 26 = .ok (.lload_n 2, 1) := by decide +kernel
theorem dX9_lowest_27 : decode cX9_lowest 27 = .ok (.lload 5, 2) := by decide +kernel
theorem dX9_lowest_29 : decode cX9_lowest 29 = .ok (.ldiv, 1) := by decide +kernel
theorem dX9_lowest_30 : decode cX9_lowest 30 = .ok (.lreturn, 1) := by decide +kernel
def e_X9_lowest (a0 : Int64) (a2 : Int64) (a4 : Int32) : Option Int64 := (e_X9_sharedBelowZero a0 a2).bind (fun r1 => if (1 : Int64) ≤ (-r1) then (if a4 = 0 then (if (-r1) = 0 then none else (some (a0 / (-r1)))) else (if (-r1) = 0 then none else (some (a2 / (-r1))))) else (some (0 : Int64)))
set_option maxRecDepth 100000 in
set_option maxHeartbeats 4000000 in
theorem k_X9_lowest {l : Launch} {σ : ES} {a0 : Int64} {a2 : Int64} {a4 : Int32} {out : Int64} (h : e_X9_lowest a0 a2 a4 = some out) : MK l yX9_lowest cX9_lowest 7 (some .long) 2 [.long a0, .long a2, .int a4] (mkS σ) (some (.long out)) (mkS σ) := by
  unfold e_X9_lowest at h
  refine mw_entry (own := RX9) (ini := false) (L := [(0, .long a0), (2, .long a2), (4, .int a4)]) (by decide +kernel) rfl (fun h => nomatch h) rfl (Nat.le_of_ble_eq_true rfl) (Nat.le_of_ble_eq_true rfl) (fun E => ?_)
  refine mw_lload_n dX9_lowest_0 0 rfl ?_
  refine mw_lload_n dX9_lowest_1 1 rfl ?_
  obtain ⟨r1, e2, h⟩ := mbd h
  refine mv_callS_l (As := [.long a0, .long a2]) lkS_RX9_304_yX9_sharedBelowZero dX9_lowest_2 (k_X9_sharedBelowZero e2) rfl rfl (Nat.le_of_ble_eq_true rfl) (by decide) (by decide) ?_
  refine mw_lneg dX9_lowest_5 ?_
  refine mw_lstore (L' := [(5, .long (-r1)), (0, .long a0), (2, .long a2), (4, .int a4)]) dX9_lowest_6 (by decide) rfl ?_
  refine mw_lload dX9_lowest_8 0 rfl ?_
  refine mw_lconst (v := 1) dX9_lowest_10 (by decide) ?_
  refine mw_lc_ge (tgt := 17) dX9_lowest_11 dX9_lowest_12 (by decide) (fun hc => ?_) (fun hc => ?_)
  · have h := mit hc h
    refine mw_iload dX9_lowest_17 3 rfl ?_
    refine mw_if_ne (tgt := 26) dX9_lowest_19 (by decide) (fun hc => ?_) (fun hc => ?_)
    · have h := mie hc h
      refine mw_lload_n dX9_lowest_26 2 rfl ?_
      refine mw_lload dX9_lowest_27 0 rfl ?_
      obtain ⟨m3, h⟩ := mnf h
      refine mw_ldiv dX9_lowest_29 m3 ?_
      exact mw_lret dX9_lowest_30 rfl (ers_l h) rfl rfl
    · have h := mit hc h
      refine mw_lload_n dX9_lowest_22 1 rfl ?_
      refine mw_goto (tgt := 27) dX9_lowest_23 (by decide) ?_
      refine mw_lload dX9_lowest_27 0 rfl ?_
      obtain ⟨m4, h⟩ := mnf h
      refine mw_ldiv dX9_lowest_29 m4 ?_
      exact mw_lret dX9_lowest_30 rfl (ers_l h) rfl rfl
  · have h := mie hc h
    refine mw_lconst (v := 0) dX9_lowest_15 (by decide) ?_
    exact mw_lret dX9_lowest_16 rfl (ers_l h) rfl rfl

theorem dX9_longFinding_0 : decode cX9_longFinding 0 = .ok (.aload_n 0, 1) := by decide +kernel
theorem dX9_longFinding_1 : decode cX9_longFinding 1 = .ok (.getfield 70, 3) := by decide +kernel
theorem dX9_longFinding_4 : decode cX9_longFinding 4 = .ok (.iload_n 1, 1) := by decide +kernel
theorem dX9_longFinding_5 : decode cX9_longFinding 5 = .ok (.dup2, 1) := by decide +kernel
theorem dX9_longFinding_6 : decode cX9_longFinding 6 = .ok (.iaload, 1) := by decide +kernel
theorem dX9_longFinding_7 : decode cX9_longFinding 7 = .ok (.iconst 1, 1) := by decide +kernel
theorem dX9_longFinding_8 : decode cX9_longFinding 8 = .ok (.iadd, 1) := by decide +kernel
theorem dX9_longFinding_9 : decode cX9_longFinding 9 = .ok (.iastore, 1) := by decide +kernel
theorem dX9_longFinding_10 : decode cX9_longFinding 10 = .ok (.ldc2_w 203, 3) := by decide +kernel
theorem dX9_longFinding_13 : decode cX9_longFinding 13 = .ok (.iload_n 1, 1) := by decide +kernel
theorem dX9_longFinding_14 : decode cX9_longFinding 14 = .ok (.i2l, 1) := by decide +kernel
theorem dX9_longFinding_15 : decode cX9_longFinding 15 = .ok (.lsub, 1) := by decide +kernel
theorem dX9_longFinding_16 : decode cX9_longFinding 16 = .ok (.lreturn, 1) := by decide +kernel
def e_X9_longFinding (a1 : Int32) (σ : ES) : Option (Int64 × ES) := if mib a1 9 = true then (some (((-4000000000000000001 : Int64) - a1.toInt64), (uI σ 60 a1.toNatClampNeg ((eI σ 60 a1.toNatClampNeg) + (1 : Int32))))) else none
set_option maxRecDepth 100000 in
set_option maxHeartbeats 4000000 in
theorem k_X9_longFinding {l : Launch} {σ : ES} {a1 : Int32} {out : (Int64 × ES)} (h : e_X9_longFinding a1 σ = some out) : MK l yX9_longFinding cX9_longFinding 2 (some .long) 1 [.ref 0, .int a1] (mkS σ) (some (.long out.1)) (mkS out.2) := by
  unfold e_X9_longFinding at h
  refine mw_entry (own := RX9) (ini := false) (L := [(0, .ref 0), (1, .int a1)]) (by decide +kernel) rfl (fun h => nomatch h) rfl (Nat.le_of_ble_eq_true rfl) (Nat.le_of_ble_eq_true rfl) (fun E => ?_)
  refine mw_aload_n dX9_longFinding_0 0 rfl ?_
  refine ev_getR (q := 60) fd_RX9_70_8 dX9_longFinding_1 rfl rfl rfl ?_
  refine mw_iload_n dX9_longFinding_4 1 rfl ?_
  refine mw_dup2 dX9_longFinding_5 rfl rfl ?_
  obtain ⟨m1, h⟩ := mif h
  refine ev_iald dX9_longFinding_6 (by decide) rfl m1 ?_
  refine mw_iconst (v := 1) dX9_longFinding_7 (by decide) ?_
  refine mw_iadd dX9_longFinding_8 ?_
  refine ev_iast dX9_longFinding_9 (by decide) rfl m1 ?_
  refine mw_ldc2 dX9_longFinding_10 wt_151 ?_
  refine mw_iload_n dX9_longFinding_13 1 rfl ?_
  refine mw_i2l dX9_longFinding_14 ?_
  refine mw_lsub dX9_longFinding_15 ?_
  exact mw_lret dX9_longFinding_16 rfl (ers_lm h) rfl rfl

theorem dX9_ring_0 : decode cX9_ring 0 = .ok (.iload_n 1, 1) := by decide +kernel
theorem dX9_ring_1 : decode cX9_ring 1 = .ok (.iconst 0, 1) := by decide +kernel
theorem dX9_ring_2 : decode cX9_ring 2 = .ok (.iconst 1, 1) := by decide +kernel
theorem dX9_ring_3 : decode cX9_ring 3 = .ok (.invokestatic 75, 3) := by decide +kernel
theorem dX9_ring_6 : decode cX9_ring 6 = .ok (.ifCond .ne 9, 3) := by decide +kernel
theorem dX9_ring_9 : decode cX9_ring 9 = .ok (.aload_n 0, 1) := by decide +kernel
theorem dX9_ring_10 : decode cX9_ring 10 = .ok (.iconst 0, 1) := by decide +kernel
theorem dX9_ring_11 : decode cX9_ring 11 = .ok (.invokevirtual 164, 3) := by decide +kernel
theorem dX9_ring_14 : decode cX9_ring 14 = .ok (.lreturn, 1) := by decide +kernel
theorem dX9_ring_15 : decode cX9_ring 15 = .ok (.aload_n 0, 1) := by decide +kernel
theorem dX9_ring_16 : decode cX9_ring 16 = .ok (.invokevirtual 168, 3) := by decide +kernel
theorem dX9_ring_19 : decode cX9_ring 19 = .ok (.istore_n 2, 1) := by decide +kernel
theorem dX9_ring_20 : decode cX9_ring 20 = .ok (.iload_n 2, 1) := by decide +kernel
theorem dX9_ring_21 : decode cX9_ring 21 = .ok (.iconst (-1), 1) := by decide +kernel
theorem dX9_ring_22 : decode cX9_ring 22 = .ok (.if_icmp .ne 9, 3) := by decide +kernel
theorem dX9_ring_25 : decode cX9_ring 25 = .ok (.aload_n 0, 1) := by decide +kernel
theorem dX9_ring_26 : decode cX9_ring 26 = .ok (.iconst 3, 1) := by decide +kernel
theorem dX9_ring_27 : decode cX9_ring 27 = .ok (.invokevirtual 164, 3) := by decide +kernel
theorem dX9_ring_30 : decode cX9_ring 30 = .ok (.lreturn, 1) := by decide +kernel
theorem dX9_ring_31 : decode cX9_ring 31 = .ok (.aload_n 0, 1) := by decide +kernel
theorem dX9_ring_32 : decode cX9_ring 32 = .ok (.getfield 25, 3) := by decide +kernel
theorem dX9_ring_35 : decode cX9_ring 35 = .ok (.getfield 172, 3) := by decide +kernel
theorem dX9_ring_38 : decode cX9_ring 38 = .ok (.iload_n 2, 1) := by decide +kernel
theorem dX9_ring_39 : decode cX9_ring 39 = .ok (.laload, 1) := by decide +kernel
theorem dX9_ring_40 : decode cX9_ring 40 = .ok (.aload_n 0, 1) := by decide +kernel
theorem dX9_ring_41 : decode cX9_ring 41 = .ok (.getfield 25, 3) := by decide +kernel
theorem dX9_ring_44 : decode cX9_ring 44 = .ok (.getfield 176, 3) := by decide +kernel
theorem dX9_ring_47 : decode cX9_ring 47 = .ok (.iload_n 2, 1) := by decide +kernel
theorem dX9_ring_48 : decode cX9_ring 48 = .ok (.laload, 1) := by decide +kernel
theorem dX9_ring_49 : decode cX9_ring 49 = .ok (.iload_n 1, 1) := by decide +kernel
theorem dX9_ring_50 : decode cX9_ring 50 = .ok (.invokestatic 179, 3) := by decide +kernel
theorem dX9_ring_53 : decode cX9_ring 53 = .ok (.lreturn, 1) := by decide +kernel
def e_X9_ring (a1 : Int32) (σ : ES) : Option (Int64 × ES) := (e_X9_within a1 (0 : Int32) (1 : Int32)).bind (fun r1 => if r1 = 0 then ((e_X9_longFinding (0 : Int32) σ).bind (fun r10 => some (r10.1, r10.2))) else ((e_X9_bestRing σ).bind (fun r3 => if r3.1 = (-1 : Int32) then ((e_X9_longFinding (3 : Int32) r3.2).bind (fun r8 => some (r8.1, r8.2))) else (if mib r3.1 1296 = true then ((e_X9_lowest (eL r3.2 30 r3.1.toNatClampNeg) (eL r3.2 31 r3.1.toNatClampNeg) a1).bind (fun r6 => some (r6, r3.2))) else none))))
set_option maxRecDepth 100000 in
set_option maxHeartbeats 4000000 in
theorem k_X9_ring {l : Launch} {σ : ES} {a1 : Int32} {out : (Int64 × ES)} (h : e_X9_ring a1 σ = some out) : MK l yX9_ring cX9_ring 3 (some .long) 13 [.ref 0, .int a1] (mkS σ) (some (.long out.1)) (mkS out.2) := by
  unfold e_X9_ring at h
  refine mw_entry (own := RX9) (ini := false) (L := [(0, .ref 0), (1, .int a1)]) (by decide +kernel) rfl (fun h => nomatch h) rfl (Nat.le_of_ble_eq_true rfl) (Nat.le_of_ble_eq_true rfl) (fun E => ?_)
  refine mw_iload_n dX9_ring_0 1 rfl ?_
  refine mw_iconst (v := 0) dX9_ring_1 (by decide) ?_
  refine mw_iconst (v := 1) dX9_ring_2 (by decide) ?_
  obtain ⟨r1, e2, h⟩ := mbd h
  refine mv_callS_i (As := [.int a1, .int (0 : Int32), .int (1 : Int32)]) lkS_RX9_75_yX9_within dX9_ring_3 (k_X9_within e2) rfl rfl (Nat.le_of_ble_eq_true rfl) (by decide) (by decide) ?_
  refine mw_if_ne (tgt := 15) dX9_ring_6 (by decide) (fun hc => ?_) (fun hc => ?_)
  · have h := mie hc h
    refine mw_aload_n dX9_ring_15 0 rfl ?_
    obtain ⟨r3, e4, h⟩ := mbd h
    refine mv_callV_i (As := []) (ci := 8) lkV_RX9_168_yX9_bestRing dX9_ring_16 (k_X9_bestRing e4) rfl rfl rfl rfl (Nat.le_of_ble_eq_true rfl) (by decide) (by decide) ?_
    refine mw_istore_n (L' := [(2, .int r3.1), (0, .ref 0), (1, .int a1)]) dX9_ring_19 rfl (by decide) rfl ?_
    refine mw_iload_n dX9_ring_20 0 rfl ?_
    refine mw_iconst (v := -1) dX9_ring_21 (by decide) ?_
    refine mw_icmp_ne (tgt := 31) dX9_ring_22 (by decide) (fun hc => ?_) (fun hc => ?_)
    · have h := mie hc h
      refine mw_aload_n dX9_ring_31 1 rfl ?_
      refine ev_getR (q := 28) fd_RX9_25_8 dX9_ring_32 rfl rfl rfl ?_
      refine ev_getR (q := 30) fd_RX9_172_3 dX9_ring_35 rfl rfl rfl ?_
      refine mw_iload_n dX9_ring_38 0 rfl ?_
      obtain ⟨m5, h⟩ := mif h
      refine ev_lald dX9_ring_39 (by decide) rfl m5 ?_
      refine mw_aload_n dX9_ring_40 1 rfl ?_
      refine ev_getR (q := 28) fd_RX9_25_8 dX9_ring_41 rfl rfl rfl ?_
      refine ev_getR (q := 31) fd_RX9_176_3 dX9_ring_44 rfl rfl rfl ?_
      refine mw_iload_n dX9_ring_47 0 rfl ?_
      refine ev_lald dX9_ring_48 (by decide) rfl m5 ?_
      refine mw_iload_n dX9_ring_49 2 rfl ?_
      obtain ⟨r6, e7, h⟩ := mbd h
      refine mv_callS_l (As := [.long (eL r3.2 30 r3.1.toNatClampNeg), .long (eL r3.2 31 r3.1.toNatClampNeg), .int a1]) lkS_RX9_179_yX9_lowest dX9_ring_50 (k_X9_lowest e7) rfl rfl (Nat.le_of_ble_eq_true rfl) (by decide) (by decide) ?_
      exact mw_lret dX9_ring_53 rfl (ers_lm h) rfl rfl
    · have h := mit hc h
      refine mw_aload_n dX9_ring_25 1 rfl ?_
      refine mw_iconst (v := 3) dX9_ring_26 (by decide) ?_
      obtain ⟨r8, e9, h⟩ := mbd h
      refine mv_callV_l (As := [.int (3 : Int32)]) (ci := 8) lkV_RX9_164_yX9_longFinding dX9_ring_27 (k_X9_longFinding e9) rfl rfl rfl rfl (Nat.le_of_ble_eq_true rfl) (by decide) (by decide) ?_
      exact mw_lret dX9_ring_30 rfl (ers_lm h) rfl rfl
  · have h := mit hc h
    refine mw_aload_n dX9_ring_9 0 rfl ?_
    refine mw_iconst (v := 0) dX9_ring_10 (by decide) ?_
    obtain ⟨r10, e11, h⟩ := mbd h
    refine mv_callV_l (As := [.int (0 : Int32)]) (ci := 8) lkV_RX9_164_yX9_longFinding dX9_ring_11 (k_X9_longFinding e11) rfl rfl rfl rfl (Nat.le_of_ble_eq_true rfl) (by decide) (by decide) ?_
    exact mw_lret dX9_ring_14 rfl (ers_lm h) rfl rfl

theorem dX9_ringWays_0 : decode cX9_ringWays 0 = .ok (.aload_n 0, 1) := by decide +kernel
theorem dX9_ringWays_1 : decode cX9_ringWays 1 = .ok (.invokevirtual 168, 3) := by decide +kernel
theorem dX9_ringWays_4 : decode cX9_ringWays 4 = .ok (.istore_n 1, 1) := by decide +kernel
theorem dX9_ringWays_5 : decode cX9_ringWays 5 = .ok (.iload_n 1, 1) := by decide +kernel
theorem dX9_ringWays_6 : decode cX9_ringWays 6 = .ok (.iconst (-1), 1) := by decide +kernel
theorem dX9_ringWays_7 : decode cX9_ringWays 7 = .ok (.if_icmp .ne 9, 3) := by decide +kernel
theorem dX9_ringWays_10 : decode cX9_ringWays 10 = .ok (.aload_n 0, 1) := by decide +kernel
theorem dX9_ringWays_11 : decode cX9_ringWays 11 = .ok (.iconst 3, 1) := by decide +kernel
theorem dX9_ringWays_12 : decode cX9_ringWays 12 = .ok (.invokevirtual 79, 3) := by decide +kernel
theorem dX9_ringWays_15 : decode cX9_ringWays 15 = .ok (.ireturn, 1) := by decide +kernel
theorem dX9_ringWays_16 : decode cX9_ringWays 16 = .ok (.iconst 0, 1) := by decide +kernel
theorem dX9_ringWays_17 : decode cX9_ringWays 17 = .ok (.istore_n 2, 1) := by decide +kernel
theorem dX9_ringWays_18 : decode cX9_ringWays 18 = .ok (.iconst 0, 1) := by decide +kernel
theorem dX9_ringWays_19 : decode cX9_ringWays 19 = .ok (.istore_n 3, 1) := by decide +kernel
theorem dX9_ringWays_20 : decode cX9_ringWays 20 = .ok (.iload_n 3, 1) := by decide +kernel
theorem dX9_ringWays_21 : decode cX9_ringWays 21 = .ok (.aload_n 0, 1) := by decide +kernel
theorem dX9_ringWays_22 : decode cX9_ringWays 22 = .ok (.getfield 25, 3) := by decide +kernel
theorem dX9_ringWays_25 : decode cX9_ringWays 25 = .ok (.getfield 183, 3) := by decide +kernel
theorem dX9_ringWays_28 : decode cX9_ringWays 28 = .ok (.if_icmp .ge 33, 3) := by decide +kernel
theorem dX9_ringWays_31 : decode cX9_ringWays 31 = .ok (.aload_n 0, 1) := by decide +kernel
theorem dX9_ringWays_32 : decode cX9_ringWays 32 = .ok (.getfield 25, 3) := by decide +kernel
theorem dX9_ringWays_35 : decode cX9_ringWays 35 = .ok (.iload_n 3, 1) := by decide +kernel
theorem dX9_ringWays_36 : decode cX9_ringWays 36 = .ok (.iload_n 1, 1) := by decide +kernel
theorem dX9_ringWays_37 : decode cX9_ringWays 37 = .ok (.invokevirtual 186, 3) := by decide +kernel
theorem dX9_ringWays_40 : decode cX9_ringWays 40 = .ok (.ifCond .ne 15, 3) := by decide +kernel
theorem dX9_ringWays_43 : decode cX9_ringWays 43 = .ok (.iload_n 2, 1) := by decide +kernel
theorem dX9_ringWays_44 : decode cX9_ringWays 44 = .ok (.aload_n 0, 1) := by decide +kernel
theorem dX9_ringWays_45 : decode cX9_ringWays 45 = .ok (.getfield 25, 3) := by decide +kernel
theorem dX9_ringWays_48 : decode cX9_ringWays 48 = .ok (.getfield 189, 3) := by decide +kernel
theorem dX9_ringWays_51 : decode cX9_ringWays 51 = .ok (.iload_n 3, 1) := by decide +kernel
theorem dX9_ringWays_52 : decode cX9_ringWays 52 = .ok (.iaload, 1) := by decide +kernel
theorem dX9_ringWays_53 : decode cX9_ringWays 53 = .ok (.ior, 1) := by decide +kernel
theorem dX9_ringWays_54 : decode cX9_ringWays 54 = .ok (.istore_n 2, 1) := by decide +kernel
theorem dX9_ringWays_55 : decode cX9_ringWays 55 = .ok (.iinc 3 1, 3) := by decide +kernel
theorem dX9_ringWays_58 : decode cX9_ringWays 58 = .ok (.goto (-38), 3) := by decide +kernel
theorem dX9_ringWays_61 : decode cX9_ringWays 61 = .ok (.iload_n 2, 1) := by decide +kernel
theorem dX9_ringWays_62 : decode cX9_ringWays 62 = .ok (.ireturn, 1) := by decide +kernel
def e_X9_ringWays_L20  : Nat → Int32 → Int32 → Int32 → ES → Option (Int32 × ES)
  | 0, _, _, _, _ => none
  | n + 1, x1, x2, x3, σ => if (eI σ 28 0) ≤ x3 then (some (x2, σ)) else ((e_X4_order σ x3 x1).bind (fun r1 => if r1 = 0 then (if mib x3 1296 = true then (e_X9_ringWays_L20 n x1 (x2 ||| (eI σ 29 x3.toNatClampNeg)) (x3 + 1) σ) else none) else (e_X9_ringWays_L20 n x1 x2 (x3 + 1) σ)))
set_option maxRecDepth 100000 in
set_option maxHeartbeats 4000000 in
theorem p_X9_ringWays_L20 {l : Launch} {E : MX} {out : (Int32 × ES)}   : ∀ (n : Nat) (x1 : Int32) (x2 : Int32) (x3 : Int32) (σ : ES), e_X9_ringWays_L20 n x1 x2 x3 σ = some out → MV l E cX9_ringWays RX9 4 (some .int) 13 (82, (some (.int out.1)), mkS out.2) (mkS σ) 20 [(0, .ref 0), (1, .int x1), (2, .int x2), (3, .int x3)] [] := by
  intro n
  induction n with
  | zero =>
    intro x1 x2 x3 σ h
    exact nomatch h
  | succ n ih =>
    intro x1 x2 x3 σ h
    rw [e_X9_ringWays_L20] at h
    refine mw_iload_n dX9_ringWays_20 3 rfl ?_
    refine mw_aload_n dX9_ringWays_21 0 rfl ?_
    refine ev_getR (q := 28) fd_RX9_25_8 dX9_ringWays_22 rfl rfl rfl ?_
    refine ev_getI fd_RX9_183_3 dX9_ringWays_25 rfl rfl ?_
    refine mw_icmp_ge (tgt := 61) dX9_ringWays_28 (by decide) (fun hc => ?_) (fun hc => ?_)
    · have h := mit hc h
      refine mw_iload_n dX9_ringWays_61 2 rfl ?_
      exact mw_iret dX9_ringWays_62 rfl (ers_im h) rfl rfl
    · have h := mie hc h
      refine mw_aload_n dX9_ringWays_31 0 rfl ?_
      refine ev_getR (q := 28) fd_RX9_25_8 dX9_ringWays_32 rfl rfl rfl ?_
      refine mw_iload_n dX9_ringWays_35 3 rfl ?_
      refine mw_iload_n dX9_ringWays_36 1 rfl ?_
      obtain ⟨r1, e2, h⟩ := mbd h
      refine mv_callV_i (As := [.int x3, .int x1]) (ci := 3) lkV_RX9_186_yX4_order dX9_ringWays_37 (k_X4_order e2) rfl rfl rfl rfl (Nat.le_of_ble_eq_true rfl) (by decide) (by decide) ?_
      refine mw_if_ne (tgt := 55) dX9_ringWays_40 (by decide) (fun hc => ?_) (fun hc => ?_)
      · have h := mie hc h
        refine mw_iinc (v := (x3 + 1)) (L' := [(3, .int (x3 + 1)), (0, .ref 0), (1, .int x1), (2, .int x2)]) dX9_ringWays_55 3 rfl rfl (by decide) rfl ?_
        refine mw_goto (tgt := 20) dX9_ringWays_58 (by decide) ?_
        exact mw_sub (L' := [(0, .ref 0), (1, .int x1), (2, .int x2), (3, .int (x3 + 1))]) [1, 2, 3, 0] rfl (ih _ _ _ _ h)
      · have h := mit hc h
        refine mw_iload_n dX9_ringWays_43 2 rfl ?_
        refine mw_aload_n dX9_ringWays_44 0 rfl ?_
        refine ev_getR (q := 28) fd_RX9_25_8 dX9_ringWays_45 rfl rfl rfl ?_
        refine ev_getR (q := 29) fd_RX9_189_3 dX9_ringWays_48 rfl rfl rfl ?_
        refine mw_iload_n dX9_ringWays_51 3 rfl ?_
        obtain ⟨m3, h⟩ := mif h
        refine ev_iald dX9_ringWays_52 (by decide) rfl m3 ?_
        refine mw_ior dX9_ringWays_53 ?_
        refine mw_istore_n (L' := [(2, .int (x2 ||| (eI σ 29 x3.toNatClampNeg))), (0, .ref 0), (1, .int x1), (3, .int x3)]) dX9_ringWays_54 rfl (by decide) rfl ?_
        refine mw_iinc (v := (x3 + 1)) (L' := [(3, .int (x3 + 1)), (2, .int (x2 ||| (eI σ 29 x3.toNatClampNeg))), (0, .ref 0), (1, .int x1)]) dX9_ringWays_55 3 rfl rfl (by decide) rfl ?_
        refine mw_goto (tgt := 20) dX9_ringWays_58 (by decide) ?_
        exact mw_sub (L' := [(0, .ref 0), (1, .int x1), (2, .int (x2 ||| (eI σ 29 x3.toNatClampNeg))), (3, .int (x3 + 1))]) [2, 3, 1, 0] rfl (ih _ _ _ _ h)
def e_X9_ringWays (σ : ES) : Option (Int32 × ES) := (e_X9_bestRing σ).bind (fun r1 => if r1.1 = (-1 : Int32) then ((e_X9_finding (3 : Int32) r1.2).bind (fun r3 => some (r3.1, r3.2))) else (e_X9_ringWays_L20 mN r1.1 (0 : Int32) (0 : Int32) r1.2))
set_option maxRecDepth 100000 in
set_option maxHeartbeats 4000000 in
theorem k_X9_ringWays {l : Launch} {σ : ES}  {out : (Int32 × ES)} (h : e_X9_ringWays σ = some out) : MK l yX9_ringWays cX9_ringWays 4 (some .int) 13 [.ref 0] (mkS σ) (some (.int out.1)) (mkS out.2) := by
  unfold e_X9_ringWays at h
  refine mw_entry (own := RX9) (ini := false) (L := [(0, .ref 0)]) (by decide +kernel) rfl (fun h => nomatch h) rfl (Nat.le_of_ble_eq_true rfl) (Nat.le_of_ble_eq_true rfl) (fun E => ?_)
  refine mw_aload_n dX9_ringWays_0 0 rfl ?_
  obtain ⟨r1, e2, h⟩ := mbd h
  refine mv_callV_i (As := []) (ci := 8) lkV_RX9_168_yX9_bestRing dX9_ringWays_1 (k_X9_bestRing e2) rfl rfl rfl rfl (Nat.le_of_ble_eq_true rfl) (by decide) (by decide) ?_
  refine mw_istore_n (L' := [(1, .int r1.1), (0, .ref 0)]) dX9_ringWays_4 rfl (by decide) rfl ?_
  refine mw_iload_n dX9_ringWays_5 0 rfl ?_
  refine mw_iconst (v := -1) dX9_ringWays_6 (by decide) ?_
  refine mw_icmp_ne (tgt := 16) dX9_ringWays_7 (by decide) (fun hc => ?_) (fun hc => ?_)
  · have h := mie hc h
    refine mw_iconst (v := 0) dX9_ringWays_16 (by decide) ?_
    refine mw_istore_n (L' := [(2, .int (0 : Int32)), (1, .int r1.1), (0, .ref 0)]) dX9_ringWays_17 rfl (by decide) rfl ?_
    refine mw_iconst (v := 0) dX9_ringWays_18 (by decide) ?_
    refine mw_istore_n (L' := [(3, .int (0 : Int32)), (2, .int (0 : Int32)), (1, .int r1.1), (0, .ref 0)]) dX9_ringWays_19 rfl (by decide) rfl ?_
    exact mw_sub (L' := [(0, .ref 0), (1, .int r1.1), (2, .int (0 : Int32)), (3, .int (0 : Int32))]) [3, 2, 1, 0] rfl (p_X9_ringWays_L20  mN _ _ _ _ h)
  · have h := mit hc h
    refine mw_aload_n dX9_ringWays_10 1 rfl ?_
    refine mw_iconst (v := 3) dX9_ringWays_11 (by decide) ?_
    obtain ⟨r3, e4, h⟩ := mbd h
    refine mv_callV_i (As := [.int (3 : Int32)]) (ci := 8) lkV_RX9_79_yX9_finding dX9_ringWays_12 (k_X9_finding e4) rfl rfl rfl rfl (Nat.le_of_ble_eq_true rfl) (by decide) (by decide) ?_
    exact mw_iret dX9_ringWays_15 rfl (ers_im h) rfl rfl

theorem dX4_step_0 : decode cX4_step 0 = .ok (.aload_n 0, 1) := by decide +kernel
theorem dX4_step_1 : decode cX4_step 1 = .ok (.getfield 25, 3) := by decide +kernel
theorem dX4_step_4 : decode cX4_step 4 = .ok (.iload_n 1, 1) := by decide +kernel
theorem dX4_step_5 : decode cX4_step 5 = .ok (.baload, 1) := by decide +kernel
theorem dX4_step_6 : decode cX4_step 6 = .ok (.ifCond .eq 51, 3) := by decide +kernel
theorem dX4_step_9 : decode cX4_step 9 = .ok (.aload_n 0, 1) := by decide +kernel
theorem dX4_step_10 : decode cX4_step 10 = .ok (.getfield 25, 3) := by decide +kernel
theorem dX4_step_13 : decode cX4_step 13 = .ok (.iload_n 2, 1) := by decide +kernel
theorem dX4_step_14 : decode cX4_step 14 = .ok (.baload, 1) := by decide +kernel
theorem dX4_step_15 : decode cX4_step 15 = .ok (.ifCond .eq 21, 3) := by decide +kernel
theorem dX4_step_18 : decode cX4_step 18 = .ok (.aload_n 0, 1) := by decide +kernel
theorem dX4_step_19 : decode cX4_step 19 = .ok (.getfield 22, 3) := by decide +kernel
theorem dX4_step_22 : decode cX4_step 22 = .ok (.iload_n 1, 1) := by decide +kernel
theorem dX4_step_23 : decode cX4_step 23 = .ok (.laload, 1) := by decide +kernel
theorem dX4_step_24 : decode cX4_step 24 = .ok (.lload_n 3, 1) := by decide +kernel
theorem dX4_step_25 : decode cX4_step 25 = .ok (.ladd, 1) := by decide +kernel
theorem dX4_step_26 : decode cX4_step 26 = .ok (.aload_n 0, 1) := by decide +kernel
theorem dX4_step_27 : decode cX4_step 27 = .ok (.getfield 22, 3) := by decide +kernel
theorem dX4_step_30 : decode cX4_step 30 = .ok (.iload_n 2, 1) := by decide +kernel
theorem dX4_step_31 : decode cX4_step 31 = .ok (.laload, 1) := by decide +kernel
theorem dX4_step_32 : decode cX4_step 32 = .ok (.lcmp, 1) := by decide +kernel
theorem dX4_step_33 : decode cX4_step 33 = .ok (.ifCond .le 24, 3) := by decide +kernel
theorem dX4_step_36 : decode cX4_step 36 = .ok (.aload_n 0, 1) := by decide +kernel
theorem dX4_step_37 : decode cX4_step 37 = .ok (.getfield 25, 3) := by decide +kernel
theorem dX4_step_40 : decode cX4_step 40 = .ok (.iload_n 2, 1) := by decide +kernel
theorem dX4_step_41 : decode cX4_step 41 = .ok (.iconst 1, 1) := by decide +kernel
theorem dX4_step_42 : decode cX4_step 42 = .ok (.bastore, 1) := by decide +kernel
theorem dX4_step_43 : decode cX4_step 43 = .ok (.aload_n 0, 1) := by decide +kernel
theorem dX4_step_44 : decode cX4_step 44 = .ok (.getfield 22, 3) := by decide +kernel
theorem dX4_step_47 : decode cX4_step 47 = .ok (.iload_n 2, 1) := by decide +kernel
theorem dX4_step_48 : decode cX4_step 48 = .ok (.aload_n 0, 1) := by decide +kernel
theorem dX4_step_49 : decode cX4_step 49 = .ok (.getfield 22, 3) := by decide +kernel
theorem dX4_step_52 : decode cX4_step 52 = .ok (.iload_n 1, 1) := by decide +kernel
theorem dX4_step_53 : decode cX4_step 53 = .ok (.laload, 1) := by decide +kernel
theorem dX4_step_54 : decode cX4_step 54 = .ok (.lload_n 3, 1) := by decide +kernel
theorem dX4_step_55 : decode cX4_step 55 = .ok (.ladd, 1) := by decide +kernel
theorem dX4_step_56 : decode cX4_step 56 = .ok (.lastore, 1) := by decide +kernel
theorem dX4_step_57 : decode cX4_step 57 = .ok (.return_, 1) := by decide +kernel
def e_X4_step_J36 (a1 : Int32) (a2 : Int32) (a3 : Int64) (σ : ES) : Option ES := if mib a2 6 = true then (if mib a1 6 = true then (some (uL (uI σ 33 a2.toNatClampNeg (vp_nar .boolean (1 : Int32))) 32 a2.toNatClampNeg ((eL (uI σ 33 a2.toNatClampNeg (vp_nar .boolean (1 : Int32))) 32 a1.toNatClampNeg) + a3))) else none) else none
set_option maxRecDepth 100000 in
set_option maxHeartbeats 4000000 in
theorem p_X4_step_J36 {l : Launch} {E : MX} {out : ES} {a1 : Int32} {a2 : Int32} {a3 : Int64}  {σ : ES} (h : e_X4_step_J36 a1 a2 a3 σ = some out) : MV l E cX4_step RX4 5 none 1 (82, none, mkS out) (mkS σ) 36 [(0, .ref 28), (1, .int a1), (2, .int a2), (3, .long a3)] [] := by
  unfold e_X4_step_J36 at h
  refine mw_aload_n dX4_step_36 0 rfl ?_
  refine ev_getR (q := 33) fd_RX4_25_3 dX4_step_37 rfl rfl rfl ?_
  refine mw_iload_n dX4_step_40 2 rfl ?_
  refine mw_iconst (v := 1) dX4_step_41 (by decide) ?_
  obtain ⟨m1, h⟩ := mif h
  refine ev_zast dX4_step_42 (by decide) rfl m1 ?_
  refine mw_aload_n dX4_step_43 0 rfl ?_
  refine ev_getR (q := 32) fd_RX4_22_3 dX4_step_44 rfl rfl rfl ?_
  refine mw_iload_n dX4_step_47 2 rfl ?_
  refine mw_aload_n dX4_step_48 0 rfl ?_
  refine ev_getR (q := 32) fd_RX4_22_3 dX4_step_49 rfl rfl rfl ?_
  refine mw_iload_n dX4_step_52 1 rfl ?_
  obtain ⟨m2, h⟩ := mif h
  refine ev_lald dX4_step_53 (by decide) rfl m2 ?_
  refine mw_lload_n dX4_step_54 3 rfl ?_
  refine mw_ladd dX4_step_55 ?_
  refine ev_last dX4_step_56 (by decide) rfl m1 ?_
  exact mw_vret dX4_step_57 rfl (ers_vm h) rfl rfl
def e_X4_step (a1 : Int32) (a2 : Int32) (a3 : Int64) (σ : ES) : Option ES := if mib a1 6 = true then (if (eI σ 33 a1.toNatClampNeg) = 0 then (some σ) else (if mib a2 6 = true then (if (eI σ 33 a2.toNatClampNeg) = 0 then (e_X4_step_J36 a1 a2 a3 σ) else (if ((eL σ 32 a1.toNatClampNeg) + a3) ≤ (eL σ 32 a2.toNatClampNeg) then (some σ) else (e_X4_step_J36 a1 a2 a3 σ))) else none)) else none
set_option maxRecDepth 100000 in
set_option maxHeartbeats 4000000 in
theorem k_X4_step {l : Launch} {σ : ES} {a1 : Int32} {a2 : Int32} {a3 : Int64} {out : ES} (h : e_X4_step a1 a2 a3 σ = some out) : MK l yX4_step cX4_step 5 none 1 [.ref 28, .int a1, .int a2, .long a3] (mkS σ) none (mkS out) := by
  unfold e_X4_step at h
  refine mw_entry (own := RX4) (ini := false) (L := [(0, .ref 28), (1, .int a1), (2, .int a2), (3, .long a3)]) (by decide +kernel) rfl (fun h => nomatch h) rfl (Nat.le_of_ble_eq_true rfl) (Nat.le_of_ble_eq_true rfl) (fun E => ?_)
  refine mw_aload_n dX4_step_0 0 rfl ?_
  refine ev_getR (q := 33) fd_RX4_25_3 dX4_step_1 rfl rfl rfl ?_
  refine mw_iload_n dX4_step_4 1 rfl ?_
  obtain ⟨m1, h⟩ := mif h
  refine ev_zald dX4_step_5 (by decide) rfl m1 ?_
  refine mw_if_eq (tgt := 57) dX4_step_6 (by decide) (fun hc => ?_) (fun hc => ?_)
  · have h := mit hc h
    exact mw_vret dX4_step_57 rfl (ers_vm h) rfl rfl
  · have h := mie hc h
    refine mw_aload_n dX4_step_9 0 rfl ?_
    refine ev_getR (q := 33) fd_RX4_25_3 dX4_step_10 rfl rfl rfl ?_
    refine mw_iload_n dX4_step_13 2 rfl ?_
    obtain ⟨m2, h⟩ := mif h
    refine ev_zald dX4_step_14 (by decide) rfl m2 ?_
    refine mw_if_eq (tgt := 36) dX4_step_15 (by decide) (fun hc => ?_) (fun hc => ?_)
    · have h := mit hc h
      exact mw_sub (L' := [(0, .ref 28), (1, .int a1), (2, .int a2), (3, .long a3)]) [0, 1, 2, 3] rfl (p_X4_step_J36  h)
    · have h := mie hc h
      refine mw_aload_n dX4_step_18 0 rfl ?_
      refine ev_getR (q := 32) fd_RX4_22_3 dX4_step_19 rfl rfl rfl ?_
      refine mw_iload_n dX4_step_22 1 rfl ?_
      refine ev_lald dX4_step_23 (by decide) rfl m1 ?_
      refine mw_lload_n dX4_step_24 3 rfl ?_
      refine mw_ladd dX4_step_25 ?_
      refine mw_aload_n dX4_step_26 0 rfl ?_
      refine ev_getR (q := 32) fd_RX4_22_3 dX4_step_27 rfl rfl rfl ?_
      refine mw_iload_n dX4_step_30 2 rfl ?_
      refine ev_lald dX4_step_31 (by decide) rfl m2 ?_
      refine mw_lc_le (tgt := 57) dX4_step_32 dX4_step_33 (by decide) (fun hc => ?_) (fun hc => ?_)
      · have h := mit hc h
        exact mw_vret dX4_step_57 rfl (ers_vm h) rfl rfl
      · have h := mie hc h
        exact mw_sub (L' := [(0, .ref 28), (1, .int a1), (2, .int a2), (3, .long a3)]) [0, 1, 2, 3] rfl (p_X4_step_J36  h)

theorem dX4_lifts_0 : decode cX4_lifts 0 = .ok (.iconst 0, 1) := by decide +kernel
theorem dX4_lifts_1 : decode cX4_lifts 1 = .ok (.istore 8, 2) := by decide +kernel
theorem dX4_lifts_3 : decode cX4_lifts 3 = .ok (.iload 8, 2) := by decide +kernel
theorem dX4_lifts_5 : decode cX4_lifts 5 = .ok (.bipush 6, 2) := by decide +kernel
theorem dX4_lifts_7 : decode cX4_lifts 7 = .ok (.if_icmp .ge 35, 3) := by decide +kernel
theorem dX4_lifts_10 : decode cX4_lifts 10 = .ok (.aload_n 0, 1) := by decide +kernel
theorem dX4_lifts_11 : decode cX4_lifts 11 = .ok (.getfield 25, 3) := by decide +kernel
theorem dX4_lifts_14 : decode cX4_lifts 14 = .ok (.iload 8, 2) := by decide +kernel
theorem dX4_lifts_16 : decode cX4_lifts 16 = .ok (.iload 8, 2) := by decide +kernel
theorem dX4_lifts_18 : decode cX4_lifts 18 = .ok (.iload_n 2, 1) := by decide +kernel
theorem dX4_lifts_19 : decode cX4_lifts 19 = .ok (.if_icmp .ne 7, 3) := by decide +kernel
theorem dX4_lifts_22 : decode cX4_lifts 22 = .ok (.iconst 1, 1) := by decide +kernel
theorem dX4_lifts_23 : decode cX4_lifts 23 = .ok (.goto 4, 3) := by decide +kernel
theorem dX4_lifts_26 : decode cX4_lifts 26 = .ok (.iconst 0, 1) := by decide +kernel
theorem dX4_lifts_27 : decode cX4_lifts 27 = .ok (.bastore, 1) := by decide +kernel
theorem dX4_lifts_28 : decode cX4_lifts 28 = .ok (.aload_n 0, 1) := by decide +kernel
theorem dX4_lifts_29 : decode cX4_lifts 29 = .ok (.getfield 22, 3) := by decide +kernel
theorem dX4_lifts_32 : decode cX4_lifts 32 = .ok (.iload 8, 2) := by decide +kernel
theorem dX4_lifts_34 : decode cX4_lifts 34 = .ok (.lconst 0, 1) := by decide +kernel
theorem dX4_lifts_35 : decode cX4_lifts 35 = .ok (.lastore, 1) := by decide +kernel
theorem dX4_lifts_36 : decode cX4_lifts 36 = .ok (.iinc 8 1, 3) := by decide +kernel
theorem dX4_lifts_39 : decode cX4_lifts 39 = .ok (.goto (-36), 3) := by decide +kernel
theorem dX4_lifts_42 : decode cX4_lifts 42 = .ok (.iconst 1, 1) := by decide +kernel
theorem dX4_lifts_43 : decode cX4_lifts 43 = .ok (.istore 8, 2) := by decide +kernel
theorem dX4_lifts_45 : decode cX4_lifts 45 = .ok (.iload 8, 2) := by decide +kernel
theorem dX4_lifts_47 : decode cX4_lifts 47 = .ok (.aload_n 1, 1) := by decide +kernel
theorem dX4_lifts_48 : decode cX4_lifts 48 = .ok (.getfield 67, 3) := by decide +kernel
theorem dX4_lifts_51 : decode cX4_lifts 51 = .ok (.if_icmp .ge 76, 3) := by decide +kernel
theorem dX4_lifts_54 : decode cX4_lifts 54 = .ok (.iconst 0, 1) := by decide +kernel
theorem dX4_lifts_55 : decode cX4_lifts 55 = .ok (.istore 9, 2) := by decide +kernel
theorem dX4_lifts_57 : decode cX4_lifts 57 = .ok (.iload 9, 2) := by decide +kernel
theorem dX4_lifts_59 : decode cX4_lifts 59 = .ok (.aload_n 1, 1) := by decide +kernel
theorem dX4_lifts_60 : decode cX4_lifts 60 = .ok (.getfield 48, 3) := by decide +kernel
theorem dX4_lifts_63 : decode cX4_lifts 63 = .ok (.if_icmp .ge 58, 3) := by decide +kernel
theorem dX4_lifts_66 : decode cX4_lifts 66 = .ok (.aload_n 1, 1) := by decide +kernel
theorem dX4_lifts_67 : decode cX4_lifts 67 = .ok (.getfield 61, 3) := by decide +kernel
theorem dX4_lifts_70 : decode cX4_lifts 70 = .ok (.iload 9, 2) := by decide +kernel
theorem dX4_lifts_72 : decode cX4_lifts 72 = .ok (.iaload, 1) := by decide +kernel
theorem dX4_lifts_73 : decode cX4_lifts 73 = .ok (.ifCond .ne 42, 3) := by decide +kernel
theorem dX4_lifts_76 : decode cX4_lifts 76 = .ok (.aload_n 0, 1) := by decide +kernel
theorem dX4_lifts_77 : decode cX4_lifts 77 = .ok (.aload_n 1, 1) := by decide +kernel
theorem dX4_lifts_78 : decode cX4_lifts 78 = .ok (.getfield 64, 3) := by decide +kernel
theorem dX4_lifts_81 : decode cX4_lifts 81 = .ok (.iload 9, 2) := by decide +kernel
theorem dX4_lifts_83 : decode cX4_lifts 83 = .ok (.iaload, 1) := by decide +kernel
theorem dX4_lifts_84 : decode cX4_lifts 84 = .ok (.aload_n 1, 1) := by decide +kernel
theorem dX4_lifts_85 : decode cX4_lifts 85 = .ok (.getfield 53, 3) := by decide +kernel
theorem dX4_lifts_88 : decode cX4_lifts 88 = .ok (.iload 9, 2) := by decide +kernel
theorem dX4_lifts_90 : decode cX4_lifts 90 = .ok (.iaload, 1) := by decide +kernel
theorem dX4_lifts_91 : decode cX4_lifts 91 = .ok (.lload 6, 2) := by decide +kernel
theorem dX4_lifts_93 : decode cX4_lifts 93 = .ok (.aload_n 0, 1) := by decide +kernel
theorem dX4_lifts_94 : decode cX4_lifts 94 = .ok (.getfield 38, 3) := by decide +kernel
theorem dX4_lifts_97 : decode cX4_lifts 97 = .ok (.iload 9, 2) := by decide +kernel
theorem dX4_lifts_99 : decode cX4_lifts 99 = .ok (.laload, 1) := by decide +kernel
theorem dX4_lifts_100 : decode cX4_lifts 100 = .ok (.lmul, 1) := by decide +kernel
theorem dX4_lifts_101 : decode cX4_lifts 101 = .ok (.lload 4, 2) := by decide +kernel
theorem dX4_lifts_103 : decode cX4_lifts 103 = .ok (.aload_n 0, 1) := by decide +kernel
theorem dX4_lifts_104 : decode cX4_lifts 104 = .ok (.getfield 41, 3) := by decide +kernel
theorem dX4_lifts_107 : decode cX4_lifts 107 = .ok (.iload 9, 2) := by decide +kernel
theorem dX4_lifts_109 : decode cX4_lifts 109 = .ok (.laload, 1) := by decide +kernel
theorem dX4_lifts_110 : decode cX4_lifts 110 = .ok (.lmul, 1) := by decide +kernel
theorem dX4_lifts_111 : decode cX4_lifts 111 = .ok (.lsub, 1) := by decide +kernel
theorem dX4_lifts_112 : decode cX4_lifts 112 = .ok (.invokevirtual 108, 3) := by decide +kernel
theorem dX4_lifts_115 : decode cX4_lifts 115 = .ok (.iinc 9 1, 3) := by decide +kernel
theorem dX4_lifts_118 : decode cX4_lifts 118 = .ok (.goto (-61), 3) := by decide +kernel
theorem dX4_lifts_121 : decode cX4_lifts 121 = .ok (.iinc 8 1, 3) := by decide +kernel
theorem dX4_lifts_124 : decode cX4_lifts 124 = .ok (.goto (-79), 3) := by decide +kernel
theorem dX4_lifts_127 : decode cX4_lifts 127 = .ok (.aload_n 0, 1) := by decide +kernel
theorem dX4_lifts_128 : decode cX4_lifts 128 = .ok (.getfield 25, 3) := by decide +kernel
theorem dX4_lifts_131 : decode cX4_lifts 131 = .ok (.iload_n 3, 1) := by decide +kernel
theorem dX4_lifts_132 : decode cX4_lifts 132 = .ok (.baload, 1) := by decide +kernel
theorem dX4_lifts_133 : decode cX4_lifts 133 = .ok (.ireturn, 1) := by decide +kernel
def e_X4_lifts_1_J27 (a2 : Int32) (a3 : Int32) (a4 : Int64) (a6 : Int64) (k3 : Int32 → ES → Option (Int32 × ES)) (x8 : Int32) (s1 : Int32) (s2 : Int32) (σ : ES) : Option (Int32 × ES) := if mib s1 6 = true then (if mib x8 6 = true then (k3 (x8 + 1) (uL (uI σ 33 s1.toNatClampNeg (vp_nar .boolean s2)) 32 x8.toNatClampNeg (0 : Int64))) else none) else none
set_option maxRecDepth 100000 in
set_option maxHeartbeats 4000000 in
theorem p_X4_lifts_1_J27 {l : Launch} {E : MX} {out : (Int32 × ES)} {a2 : Int32} {a3 : Int32} {a4 : Int64} {a6 : Int64} {k3 : Int32 → ES → Option (Int32 × ES)} (hk3 : ∀ (z0 : Int32) (τ : ES), k3 z0 τ = some out → MV l E cX4_lifts RX4 10 (some .boolean) 2 (82, (some (.int out.1)), mkS out.2) (mkS τ) 3 [(0, .ref 28), (1, .ref 1), (2, .int a2), (3, .int a3), (4, .long a4), (6, .long a6), (8, .int z0)] []) {x8 : Int32} {s1 : Int32} {s2 : Int32} {σ : ES} (h : e_X4_lifts_1_J27 a2 a3 a4 a6 k3 x8 s1 s2 σ = some out) : MV l E cX4_lifts RX4 10 (some .boolean) 2 (82, (some (.int out.1)), mkS out.2) (mkS σ) 27 [(0, .ref 28), (1, .ref 1), (2, .int a2), (3, .int a3), (4, .long a4), (6, .long a6), (8, .int x8)] [.int s2, .int s1, .ref 33] := by
  unfold e_X4_lifts_1_J27 at h
  obtain ⟨m1, h⟩ := mif h
  refine ev_zast dX4_lifts_27 (by decide) rfl m1 ?_
  refine mw_aload_n dX4_lifts_28 0 rfl ?_
  refine ev_getR (q := 32) fd_RX4_22_3 dX4_lifts_29 rfl rfl rfl ?_
  refine mw_iload dX4_lifts_32 6 rfl ?_
  refine mw_lconst (v := 0) dX4_lifts_34 (by decide) ?_
  obtain ⟨m2, h⟩ := mif h
  refine ev_last dX4_lifts_35 (by decide) rfl m2 ?_
  refine mw_iinc (v := (x8 + 1)) (L' := [(8, .int (x8 + 1)), (0, .ref 28), (1, .ref 1), (2, .int a2), (3, .int a3), (4, .long a4), (6, .long a6)]) dX4_lifts_36 6 rfl rfl (by decide) rfl ?_
  refine mw_goto (tgt := 3) dX4_lifts_39 (by decide) ?_
  exact mw_sub (L' := [(0, .ref 28), (1, .ref 1), (2, .int a2), (3, .int a3), (4, .long a4), (6, .long a6), (8, .int (x8 + 1))]) [1, 2, 3, 4, 5, 6, 0] rfl (hk3 _ _ h)
def e_X4_lifts_1_L57 (a2 : Int32) (a3 : Int32) (a4 : Int64) (a6 : Int64) (k45 : Int32 → ES → Option (Int32 × ES)) : Nat → Int32 → Int32 → ES → Option (Int32 × ES)
  | 0, _, _, _ => none
  | n + 1, x8, x9, σ => if (eI σ 1 2) ≤ x9 then (k45 (x8 + 1) σ) else (if mib x9 14 = true then (if (eI σ 7 x9.toNatClampNeg) = 0 then ((e_X4_step (eI σ 3 x9.toNatClampNeg) (eI σ 4 x9.toNatClampNeg) ((a6 * (eL σ 37 x9.toNatClampNeg)) - (a4 * (eL σ 38 x9.toNatClampNeg))) σ).bind (fun r2 => e_X4_lifts_1_L57 a2 a3 a4 a6 k45 n x8 (x9 + 1) r2)) else (e_X4_lifts_1_L57 a2 a3 a4 a6 k45 n x8 (x9 + 1) σ)) else none)
set_option maxRecDepth 100000 in
set_option maxHeartbeats 4000000 in
theorem p_X4_lifts_1_L57 {l : Launch} {E : MX} {out : (Int32 × ES)} {a2 : Int32} {a3 : Int32} {a4 : Int64} {a6 : Int64} {k45 : Int32 → ES → Option (Int32 × ES)} (hk45 : ∀ (z0 : Int32) (τ : ES), k45 z0 τ = some out → MV l E cX4_lifts RX4 10 (some .boolean) 2 (82, (some (.int out.1)), mkS out.2) (mkS τ) 45 [(0, .ref 28), (1, .ref 1), (2, .int a2), (3, .int a3), (4, .long a4), (6, .long a6), (8, .int z0)] []) : ∀ (n : Nat) (x8 : Int32) (x9 : Int32) (σ : ES), e_X4_lifts_1_L57 a2 a3 a4 a6 k45 n x8 x9 σ = some out → MV l E cX4_lifts RX4 10 (some .boolean) 2 (82, (some (.int out.1)), mkS out.2) (mkS σ) 57 [(0, .ref 28), (1, .ref 1), (2, .int a2), (3, .int a3), (4, .long a4), (6, .long a6), (8, .int x8), (9, .int x9)] [] := by
  intro n
  induction n with
  | zero =>
    intro x8 x9 σ h
    exact nomatch h
  | succ n ih =>
    intro x8 x9 σ h
    rw [e_X4_lifts_1_L57] at h
    refine mw_iload dX4_lifts_57 7 rfl ?_
    refine mw_aload_n dX4_lifts_59 1 rfl ?_
    refine ev_getI fd_RX4_48_0 dX4_lifts_60 rfl rfl ?_
    refine mw_icmp_ge (tgt := 121) dX4_lifts_63 (by decide) (fun hc => ?_) (fun hc => ?_)
    · have h := mit hc h
      refine mw_iinc (v := (x8 + 1)) (L' := [(8, .int (x8 + 1)), (0, .ref 28), (1, .ref 1), (2, .int a2), (3, .int a3), (4, .long a4), (6, .long a6), (9, .int x9)]) dX4_lifts_121 6 rfl rfl (by decide) rfl ?_
      refine mw_goto (tgt := 45) dX4_lifts_124 (by decide) ?_
      exact mw_sub (L' := [(0, .ref 28), (1, .ref 1), (2, .int a2), (3, .int a3), (4, .long a4), (6, .long a6), (8, .int (x8 + 1))]) [1, 2, 3, 4, 5, 6, 0] rfl (hk45 _ _ h)
    · have h := mie hc h
      refine mw_aload_n dX4_lifts_66 1 rfl ?_
      refine ev_getR (q := 7) fd_RX4_61_0 dX4_lifts_67 rfl rfl rfl ?_
      refine mw_iload dX4_lifts_70 7 rfl ?_
      obtain ⟨m1, h⟩ := mif h
      refine ev_iald dX4_lifts_72 (by decide) rfl m1 ?_
      refine mw_if_ne (tgt := 115) dX4_lifts_73 (by decide) (fun hc => ?_) (fun hc => ?_)
      · have h := mie hc h
        refine mw_iinc (v := (x9 + 1)) (L' := [(9, .int (x9 + 1)), (0, .ref 28), (1, .ref 1), (2, .int a2), (3, .int a3), (4, .long a4), (6, .long a6), (8, .int x8)]) dX4_lifts_115 7 rfl rfl (by decide) rfl ?_
        refine mw_goto (tgt := 57) dX4_lifts_118 (by decide) ?_
        exact mw_sub (L' := [(0, .ref 28), (1, .ref 1), (2, .int a2), (3, .int a3), (4, .long a4), (6, .long a6), (8, .int x8), (9, .int (x9 + 1))]) [1, 2, 3, 4, 5, 6, 7, 0] rfl (ih _ _ _ h)
      · have h := mit hc h
        refine mw_aload_n dX4_lifts_76 0 rfl ?_
        refine mw_aload_n dX4_lifts_77 1 rfl ?_
        refine ev_getR (q := 3) fd_RX4_64_0 dX4_lifts_78 rfl rfl rfl ?_
        refine mw_iload dX4_lifts_81 7 rfl ?_
        refine ev_iald dX4_lifts_83 (by decide) rfl m1 ?_
        refine mw_aload_n dX4_lifts_84 1 rfl ?_
        refine ev_getR (q := 4) fd_RX4_53_0 dX4_lifts_85 rfl rfl rfl ?_
        refine mw_iload dX4_lifts_88 7 rfl ?_
        refine ev_iald dX4_lifts_90 (by decide) rfl m1 ?_
        refine mw_lload dX4_lifts_91 5 rfl ?_
        refine mw_aload_n dX4_lifts_93 0 rfl ?_
        refine ev_getR (q := 37) fd_RX4_38_3 dX4_lifts_94 rfl rfl rfl ?_
        refine mw_iload dX4_lifts_97 7 rfl ?_
        refine ev_lald dX4_lifts_99 (by decide) rfl m1 ?_
        refine mw_lmul dX4_lifts_100 ?_
        refine mw_lload dX4_lifts_101 4 rfl ?_
        refine mw_aload_n dX4_lifts_103 0 rfl ?_
        refine ev_getR (q := 38) fd_RX4_41_3 dX4_lifts_104 rfl rfl rfl ?_
        refine mw_iload dX4_lifts_107 7 rfl ?_
        refine ev_lald dX4_lifts_109 (by decide) rfl m1 ?_
        refine mw_lmul dX4_lifts_110 ?_
        refine mw_lsub dX4_lifts_111 ?_
        obtain ⟨r2, e3, h⟩ := mbd h
        refine mv_callV_v (As := [.int (eI σ 3 x9.toNatClampNeg), .int (eI σ 4 x9.toNatClampNeg), .long ((a6 * (eL σ 37 x9.toNatClampNeg)) - (a4 * (eL σ 38 x9.toNatClampNeg)))]) (ci := 3) lkV_RX4_108_yX4_step dX4_lifts_112 (k_X4_step e3) rfl rfl rfl rfl (Nat.le_of_ble_eq_true rfl) (by decide) (by decide) ?_
        refine mw_iinc (v := (x9 + 1)) (L' := [(9, .int (x9 + 1)), (0, .ref 28), (1, .ref 1), (2, .int a2), (3, .int a3), (4, .long a4), (6, .long a6), (8, .int x8)]) dX4_lifts_115 7 rfl rfl (by decide) rfl ?_
        refine mw_goto (tgt := 57) dX4_lifts_118 (by decide) ?_
        exact mw_sub (L' := [(0, .ref 28), (1, .ref 1), (2, .int a2), (3, .int a3), (4, .long a4), (6, .long a6), (8, .int x8), (9, .int (x9 + 1))]) [1, 2, 3, 4, 5, 6, 7, 0] rfl (ih _ _ _ h)
def e_X4_lifts_1_L45 (a2 : Int32) (a3 : Int32) (a4 : Int64) (a6 : Int64) : Nat → Int32 → ES → Option (Int32 × ES)
  | 0, _, _ => none
  | n + 1, x8, σ => if (eI σ 1 0) ≤ x8 then (if mib a3 6 = true then (if (eI σ 33 a3.toNatClampNeg) = 0 ∨ (eI σ 33 a3.toNatClampNeg) = 1 then (some ((eI σ 33 a3.toNatClampNeg), σ)) else none) else none) else (e_X4_lifts_1_L57 a2 a3 a4 a6 (e_X4_lifts_1_L45 a2 a3 a4 a6 n) mN x8 (0 : Int32) σ)
set_option maxRecDepth 100000 in
set_option maxHeartbeats 4000000 in
theorem p_X4_lifts_1_L45 {l : Launch} {E : MX} {out : (Int32 × ES)} {a2 : Int32} {a3 : Int32} {a4 : Int64} {a6 : Int64}  : ∀ (n : Nat) (x8 : Int32) (σ : ES), e_X4_lifts_1_L45 a2 a3 a4 a6 n x8 σ = some out → MV l E cX4_lifts RX4 10 (some .boolean) 2 (82, (some (.int out.1)), mkS out.2) (mkS σ) 45 [(0, .ref 28), (1, .ref 1), (2, .int a2), (3, .int a3), (4, .long a4), (6, .long a6), (8, .int x8)] [] := by
  intro n
  induction n with
  | zero =>
    intro x8 σ h
    exact nomatch h
  | succ n ih =>
    intro x8 σ h
    rw [e_X4_lifts_1_L45] at h
    refine mw_iload dX4_lifts_45 6 rfl ?_
    refine mw_aload_n dX4_lifts_47 1 rfl ?_
    refine ev_getI fd_RX4_67_0 dX4_lifts_48 rfl rfl ?_
    refine mw_icmp_ge (tgt := 127) dX4_lifts_51 (by decide) (fun hc => ?_) (fun hc => ?_)
    · have h := mit hc h
      refine mw_aload_n dX4_lifts_127 0 rfl ?_
      refine ev_getR (q := 33) fd_RX4_25_3 dX4_lifts_128 rfl rfl rfl ?_
      refine mw_iload_n dX4_lifts_131 3 rfl ?_
      obtain ⟨m1, h⟩ := mif h
      refine ev_zald dX4_lifts_132 (by decide) rfl m1 ?_
      obtain ⟨m2, h⟩ := mif h
      exact mw_zret dX4_lifts_133 rfl m2 (ers_im h) rfl rfl
    · have h := mie hc h
      refine mw_iconst (v := 0) dX4_lifts_54 (by decide) ?_
      refine mw_istore (L' := [(9, .int (0 : Int32)), (0, .ref 28), (1, .ref 1), (2, .int a2), (3, .int a3), (4, .long a4), (6, .long a6), (8, .int x8)]) dX4_lifts_55 (by decide) rfl ?_
      exact mw_sub (L' := [(0, .ref 28), (1, .ref 1), (2, .int a2), (3, .int a3), (4, .long a4), (6, .long a6), (8, .int x8), (9, .int (0 : Int32))]) [1, 2, 3, 4, 5, 6, 7, 0] rfl (p_X4_lifts_1_L57 ih mN _ _ _ h)
def e_X4_lifts_1_L3 (a2 : Int32) (a3 : Int32) (a4 : Int64) (a6 : Int64) : Nat → Int32 → ES → Option (Int32 × ES)
  | 0, _, _ => none
  | n + 1, x8, σ => if (6 : Int32) ≤ x8 then (e_X4_lifts_1_L45 a2 a3 a4 a6 mN (1 : Int32) σ) else (if x8 = a2 then (e_X4_lifts_1_J27 a2 a3 a4 a6 (e_X4_lifts_1_L3 a2 a3 a4 a6 n) x8 x8 (1 : Int32) σ) else (e_X4_lifts_1_J27 a2 a3 a4 a6 (e_X4_lifts_1_L3 a2 a3 a4 a6 n) x8 x8 (0 : Int32) σ))
set_option maxRecDepth 100000 in
set_option maxHeartbeats 4000000 in
theorem p_X4_lifts_1_L3 {l : Launch} {E : MX} {out : (Int32 × ES)} {a2 : Int32} {a3 : Int32} {a4 : Int64} {a6 : Int64}  : ∀ (n : Nat) (x8 : Int32) (σ : ES), e_X4_lifts_1_L3 a2 a3 a4 a6 n x8 σ = some out → MV l E cX4_lifts RX4 10 (some .boolean) 2 (82, (some (.int out.1)), mkS out.2) (mkS σ) 3 [(0, .ref 28), (1, .ref 1), (2, .int a2), (3, .int a3), (4, .long a4), (6, .long a6), (8, .int x8)] [] := by
  intro n
  induction n with
  | zero =>
    intro x8 σ h
    exact nomatch h
  | succ n ih =>
    intro x8 σ h
    rw [e_X4_lifts_1_L3] at h
    refine mw_iload dX4_lifts_3 6 rfl ?_
    refine mw_bipush (v := 6) dX4_lifts_5 (by decide) ?_
    refine mw_icmp_ge (tgt := 42) dX4_lifts_7 (by decide) (fun hc => ?_) (fun hc => ?_)
    · have h := mit hc h
      refine mw_iconst (v := 1) dX4_lifts_42 (by decide) ?_
      refine mw_istore (L' := [(8, .int (1 : Int32)), (0, .ref 28), (1, .ref 1), (2, .int a2), (3, .int a3), (4, .long a4), (6, .long a6)]) dX4_lifts_43 (by decide) rfl ?_
      exact mw_sub (L' := [(0, .ref 28), (1, .ref 1), (2, .int a2), (3, .int a3), (4, .long a4), (6, .long a6), (8, .int (1 : Int32))]) [1, 2, 3, 4, 5, 6, 0] rfl (p_X4_lifts_1_L45  mN _ _ h)
    · have h := mie hc h
      refine mw_aload_n dX4_lifts_10 0 rfl ?_
      refine ev_getR (q := 33) fd_RX4_25_3 dX4_lifts_11 rfl rfl rfl ?_
      refine mw_iload dX4_lifts_14 6 rfl ?_
      refine mw_iload dX4_lifts_16 6 rfl ?_
      refine mw_iload_n dX4_lifts_18 2 rfl ?_
      refine mw_icmp_ne (tgt := 26) dX4_lifts_19 (by decide) (fun hc => ?_) (fun hc => ?_)
      · have h := mie hc h
        refine mw_iconst (v := 0) dX4_lifts_26 (by decide) ?_
        exact mw_sub (L' := [(0, .ref 28), (1, .ref 1), (2, .int a2), (3, .int a3), (4, .long a4), (6, .long a6), (8, .int x8)]) [0, 1, 2, 3, 4, 5, 6] rfl (p_X4_lifts_1_J27 ih h)
      · have h := mit hc h
        refine mw_iconst (v := 1) dX4_lifts_22 (by decide) ?_
        refine mw_goto (tgt := 27) dX4_lifts_23 (by decide) ?_
        exact mw_sub (L' := [(0, .ref 28), (1, .ref 1), (2, .int a2), (3, .int a3), (4, .long a4), (6, .long a6), (8, .int x8)]) [0, 1, 2, 3, 4, 5, 6] rfl (p_X4_lifts_1_J27 ih h)
def e_X4_lifts_1 (a2 : Int32) (a3 : Int32) (a4 : Int64) (a6 : Int64) (σ : ES) : Option (Int32 × ES) := e_X4_lifts_1_L3 a2 a3 a4 a6 mN (0 : Int32) σ
set_option maxRecDepth 100000 in
set_option maxHeartbeats 4000000 in
theorem k_X4_lifts_1 {l : Launch} {σ : ES} {a2 : Int32} {a3 : Int32} {a4 : Int64} {a6 : Int64} {out : (Int32 × ES)} (h : e_X4_lifts_1 a2 a3 a4 a6 σ = some out) : MK l yX4_lifts cX4_lifts 10 (some .boolean) 2 [.ref 28, .ref 1, .int a2, .int a3, .long a4, .long a6] (mkS σ) (some (.int out.1)) (mkS out.2) := by
  unfold e_X4_lifts_1 at h
  refine mw_entry (own := RX4) (ini := false) (L := [(0, .ref 28), (1, .ref 1), (2, .int a2), (3, .int a3), (4, .long a4), (6, .long a6)]) (by decide +kernel) rfl (fun h => nomatch h) rfl (Nat.le_of_ble_eq_true rfl) (Nat.le_of_ble_eq_true rfl) (fun E => ?_)
  refine mw_iconst (v := 0) dX4_lifts_0 (by decide) ?_
  refine mw_istore (L' := [(8, .int (0 : Int32)), (0, .ref 28), (1, .ref 1), (2, .int a2), (3, .int a3), (4, .long a4), (6, .long a6)]) dX4_lifts_1 (by decide) rfl ?_
  exact mw_sub (L' := [(0, .ref 28), (1, .ref 1), (2, .int a2), (3, .int a3), (4, .long a4), (6, .long a6), (8, .int (0 : Int32))]) [1, 2, 3, 4, 5, 6, 0] rfl (p_X4_lifts_1_L3  mN _ _ h)

theorem dX9_lift_0 : decode cX9_lift 0 = .ok (.aload_n 0, 1) := by decide +kernel
theorem dX9_lift_1 : decode cX9_lift 1 = .ok (.getfield 12, 3) := by decide +kernel
theorem dX9_lift_4 : decode cX9_lift 4 = .ok (.iload_n 1, 1) := by decide +kernel
theorem dX9_lift_5 : decode cX9_lift 5 = .ok (.invokevirtual 99, 3) := by decide +kernel
theorem dX9_lift_8 : decode cX9_lift 8 = .ok (.ifCond .eq 14, 3) := by decide +kernel
theorem dX9_lift_11 : decode cX9_lift 11 = .ok (.aload_n 0, 1) := by decide +kernel
theorem dX9_lift_12 : decode cX9_lift 12 = .ok (.getfield 12, 3) := by decide +kernel
theorem dX9_lift_15 : decode cX9_lift 15 = .ok (.iload_n 2, 1) := by decide +kernel
theorem dX9_lift_16 : decode cX9_lift 16 = .ok (.invokevirtual 99, 3) := by decide +kernel
theorem dX9_lift_19 : decode cX9_lift 19 = .ok (.ifCond .ne 9, 3) := by decide +kernel
theorem dX9_lift_22 : decode cX9_lift 22 = .ok (.aload_n 0, 1) := by decide +kernel
theorem dX9_lift_23 : decode cX9_lift 23 = .ok (.iconst 0, 1) := by decide +kernel
theorem dX9_lift_24 : decode cX9_lift 24 = .ok (.invokevirtual 164, 3) := by decide +kernel
theorem dX9_lift_27 : decode cX9_lift 27 = .ok (.lreturn, 1) := by decide +kernel
theorem dX9_lift_28 : decode cX9_lift 28 = .ok (.aload_n 0, 1) := by decide +kernel
theorem dX9_lift_29 : decode cX9_lift 29 = .ok (.invokevirtual 168, 3) := by decide +kernel
theorem dX9_lift_32 : decode cX9_lift 32 = .ok (.istore_n 3, 1) := by decide +kernel
theorem dX9_lift_33 : decode cX9_lift 33 = .ok (.iload_n 3, 1) := by decide +kernel
theorem dX9_lift_34 : decode cX9_lift 34 = .ok (.iconst (-1), 1) := by decide +kernel
theorem dX9_lift_35 : decode cX9_lift 35 = .ok (.if_icmp .ne 9, 3) := by decide +kernel
theorem dX9_lift_38 : decode cX9_lift 38 = .ok (.aload_n 0, 1) := by decide +kernel
theorem dX9_lift_39 : decode cX9_lift 39 = .ok (.iconst 3, 1) := by decide +kernel
theorem dX9_lift_40 : decode cX9_lift 40 = .ok (.invokevirtual 164, 3) := by decide +kernel
theorem dX9_lift_43 : decode cX9_lift 43 = .ok (.lreturn, 1) := by decide +kernel
theorem dX9_lift_44 : decode cX9_lift 44 = .ok (.aload_n 0, 1) := by decide +kernel
theorem dX9_lift_45 : decode cX9_lift 45 = .ok (.getfield 25, 3) := by decide +kernel
theorem dX9_lift_48 : decode cX9_lift 48 = .ok (.getfield 172, 3) := by decide +kernel
theorem dX9_lift_51 : decode cX9_lift 51 = .ok (.iload_n 3, 1) := by decide +kernel
theorem dX9_lift_52 : decode cX9_lift 52 = .ok (.laload, 1) := by decide +kernel
theorem dX9_lift_53 : decode cX9_lift 53 = .ok (.aload_n 0, 1) := by decide +kernel
theorem dX9_lift_54 : decode cX9_lift 54 = .ok (.getfield 25, 3) := by decide +kernel
theorem dX9_lift_57 : decode cX9_lift 57 = .ok (.getfield 176, 3) := by decide +kernel
theorem dX9_lift_60 : decode cX9_lift 60 = .ok (.iload_n 3, 1) := by decide +kernel
theorem dX9_lift_61 : decode cX9_lift 61 = .ok (.laload, 1) := by decide +kernel
theorem dX9_lift_62 : decode cX9_lift 62 = .ok (.iconst 0, 1) := by decide +kernel
theorem dX9_lift_63 : decode cX9_lift 63 = .ok (.invokestatic 179, 3) := by decide +kernel
theorem dX9_lift_66 : decode cX9_lift 66 = .ok (.lstore 4, 2) := by decide +kernel
theorem dX9_lift_68 : decode cX9_lift 68 = .ok (.aload_n 0, 1) := by decide +kernel
theorem dX9_lift_69 : decode cX9_lift 69 = .ok (.getfield 25, 3) := by decide +kernel
theorem dX9_lift_72 : decode cX9_lift 72 = .ok (.getfield 172, 3) := by decide +kernel
theorem dX9_lift_75 : decode cX9_lift 75 = .ok (.iload_n 3, 1) := by decide +kernel
theorem dX9_lift_76 : decode cX9_lift 76 = .ok (.laload, 1) := by decide +kernel
theorem dX9_lift_77 : decode cX9_lift 77 = .ok (.aload_n 0, 1) := by decide +kernel
theorem dX9_lift_78 : decode cX9_lift 78 = .ok (.getfield 25, 3) := by decide +kernel
theorem dX9_lift_81 : decode cX9_lift 81 = .ok (.getfield 176, 3) := by decide +kernel
theorem dX9_lift_84 : decode cX9_lift 84 = .ok (.iload_n 3, 1) := by decide +kernel
theorem dX9_lift_85 : decode cX9_lift 85 = .ok (.laload, 1) := by decide +kernel
theorem dX9_lift_86 : decode cX9_lift 86 = .ok (.iconst 1, 1) := by decide +kernel
theorem dX9_lift_87 : decode cX9_lift 87 = .ok (.invokestatic 179, 3) := by decide +kernel
theorem dX9_lift_90 : decode cX9_lift 90 = .ok (.lstore 6, 2) := by decide +kernel
theorem dX9_lift_92 : decode cX9_lift 92 = .ok (.aload_n 0, 1) := by decide +kernel
theorem dX9_lift_93 : decode cX9_lift 93 = .ok (.getfield 25, 3) := by decide +kernel
theorem dX9_lift_96 : decode cX9_lift 96 = .ok (.aload_n 0, 1) := by decide +kernel
theorem dX9_lift_97 : decode cX9_lift 97 = .ok (.getfield 12, 3) := by decide +kernel
theorem dX9_lift_100 : decode cX9_lift 100 = .ok (.iload_n 1, 1) := by decide +kernel
theorem dX9_lift_101 : decode cX9_lift 101 = .ok (.iload_n 2, 1) := by decide +kernel
theorem dX9_lift_102 : decode cX9_lift 102 = .ok (.lload 4, 2) := by decide +kernel
theorem dX9_lift_104 : decode cX9_lift 104 = .ok (.lload 6, 2) := by decide +kernel
theorem dX9_lift_106 : decode cX9_lift 106 = .ok (.invokevirtual 192, 3) := by decide +kernel
theorem dX9_lift_109 : decode cX9_lift 109 = .ok (.ifCond .ne 9, 3) := by decide +kernel
theorem dX9_lift_112 : decode cX9_lift 112 = .ok (.aload_n 0, 1) := by decide +kernel
theorem dX9_lift_113 : decode cX9_lift 113 = .ok (.iconst 3, 1) := by decide +kernel
theorem dX9_lift_114 : decode cX9_lift 114 = .ok (.invokevirtual 164, 3) := by decide +kernel
theorem dX9_lift_117 : decode cX9_lift 117 = .ok (.lreturn, 1) := by decide +kernel
theorem dX9_lift_118 : decode cX9_lift 118 = .ok (.aload_n 0, 1) := by decide +kernel
theorem dX9_lift_119 : decode cX9_lift 119 = .ok (.getfield 25, 3) := by decide +kernel
theorem dX9_lift_122 : decode cX9_lift 122 = .ok (.getfield 196, 3) := by decide +kernel
theorem dX9_lift_125 : decode cX9_lift 125 = .ok (.iload_n 2, 1) := by decide +kernel
theorem dX9_lift_126 : decode cX9_lift 126 = .ok (.laload, 1) := by decide +kernel
theorem dX9_lift_127 : decode cX9_lift 127 = .ok (.lreturn, 1) := by decide +kernel
def e_X9_lift (a1 : Int32) (a2 : Int32) (σ : ES) : Option (Int64 × ES) := (e_X1_isPlace_1 σ a1).bind (fun r1 => if r1 = 0 then ((e_X9_longFinding (0 : Int32) σ).bind (fun r3 => some (r3.1, r3.2))) else ((e_X1_isPlace_1 σ a2).bind (fun r5 => if r5 = 0 then ((e_X9_longFinding (0 : Int32) σ).bind (fun r21 => some (r21.1, r21.2))) else ((e_X9_bestRing σ).bind (fun r7 => if r7.1 = (-1 : Int32) then ((e_X9_longFinding (3 : Int32) r7.2).bind (fun r19 => some (r19.1, r19.2))) else (if mib r7.1 1296 = true then ((e_X9_lowest (eL r7.2 30 r7.1.toNatClampNeg) (eL r7.2 31 r7.1.toNatClampNeg) (0 : Int32)).bind (fun r10 => (e_X9_lowest (eL r7.2 30 r7.1.toNatClampNeg) (eL r7.2 31 r7.1.toNatClampNeg) (1 : Int32)).bind (fun r12 => (e_X4_lifts_1 a1 a2 r10 r12 r7.2).bind (fun r14 => if r14.1 = 0 then ((e_X9_longFinding (3 : Int32) r14.2).bind (fun r17 => some (r17.1, r17.2))) else (if mib a2 6 = true then (some ((eL r14.2 32 a2.toNatClampNeg), r14.2)) else none))))) else none))))))
set_option maxRecDepth 100000 in
set_option maxHeartbeats 4000000 in
theorem k_X9_lift {l : Launch} {σ : ES} {a1 : Int32} {a2 : Int32} {out : (Int64 × ES)} (h : e_X9_lift a1 a2 σ = some out) : MK l yX9_lift cX9_lift 8 (some .long) 13 [.ref 0, .int a1, .int a2] (mkS σ) (some (.long out.1)) (mkS out.2) := by
  unfold e_X9_lift at h
  refine mw_entry (own := RX9) (ini := false) (L := [(0, .ref 0), (1, .int a1), (2, .int a2)]) (by decide +kernel) rfl (fun h => nomatch h) rfl (Nat.le_of_ble_eq_true rfl) (Nat.le_of_ble_eq_true rfl) (fun E => ?_)
  refine mw_aload_n dX9_lift_0 0 rfl ?_
  refine ev_getR (q := 1) fd_RX9_12_8 dX9_lift_1 rfl rfl rfl ?_
  refine mw_iload_n dX9_lift_4 1 rfl ?_
  obtain ⟨r1, e2, h⟩ := mbd h
  refine mv_callV_i (As := [.int a1]) (ci := 0) lkV_RX9_99_yX1_isPlace dX9_lift_5 (k_X1_isPlace_1 e2) rfl rfl rfl rfl (Nat.le_of_ble_eq_true rfl) (by decide) (by decide) ?_
  refine mw_if_eq (tgt := 22) dX9_lift_8 (by decide) (fun hc => ?_) (fun hc => ?_)
  · have h := mit hc h
    refine mw_aload_n dX9_lift_22 0 rfl ?_
    refine mw_iconst (v := 0) dX9_lift_23 (by decide) ?_
    obtain ⟨r3, e4, h⟩ := mbd h
    refine mv_callV_l (As := [.int (0 : Int32)]) (ci := 8) lkV_RX9_164_yX9_longFinding dX9_lift_24 (k_X9_longFinding e4) rfl rfl rfl rfl (Nat.le_of_ble_eq_true rfl) (by decide) (by decide) ?_
    exact mw_lret dX9_lift_27 rfl (ers_lm h) rfl rfl
  · have h := mie hc h
    refine mw_aload_n dX9_lift_11 0 rfl ?_
    refine ev_getR (q := 1) fd_RX9_12_8 dX9_lift_12 rfl rfl rfl ?_
    refine mw_iload_n dX9_lift_15 2 rfl ?_
    obtain ⟨r5, e6, h⟩ := mbd h
    refine mv_callV_i (As := [.int a2]) (ci := 0) lkV_RX9_99_yX1_isPlace dX9_lift_16 (k_X1_isPlace_1 e6) rfl rfl rfl rfl (Nat.le_of_ble_eq_true rfl) (by decide) (by decide) ?_
    refine mw_if_ne (tgt := 28) dX9_lift_19 (by decide) (fun hc => ?_) (fun hc => ?_)
    · have h := mie hc h
      refine mw_aload_n dX9_lift_28 0 rfl ?_
      obtain ⟨r7, e8, h⟩ := mbd h
      refine mv_callV_i (As := []) (ci := 8) lkV_RX9_168_yX9_bestRing dX9_lift_29 (k_X9_bestRing e8) rfl rfl rfl rfl (Nat.le_of_ble_eq_true rfl) (by decide) (by decide) ?_
      refine mw_istore_n (L' := [(3, .int r7.1), (0, .ref 0), (1, .int a1), (2, .int a2)]) dX9_lift_32 rfl (by decide) rfl ?_
      refine mw_iload_n dX9_lift_33 0 rfl ?_
      refine mw_iconst (v := -1) dX9_lift_34 (by decide) ?_
      refine mw_icmp_ne (tgt := 44) dX9_lift_35 (by decide) (fun hc => ?_) (fun hc => ?_)
      · have h := mie hc h
        refine mw_aload_n dX9_lift_44 1 rfl ?_
        refine ev_getR (q := 28) fd_RX9_25_8 dX9_lift_45 rfl rfl rfl ?_
        refine ev_getR (q := 30) fd_RX9_172_3 dX9_lift_48 rfl rfl rfl ?_
        refine mw_iload_n dX9_lift_51 0 rfl ?_
        obtain ⟨m9, h⟩ := mif h
        refine ev_lald dX9_lift_52 (by decide) rfl m9 ?_
        refine mw_aload_n dX9_lift_53 1 rfl ?_
        refine ev_getR (q := 28) fd_RX9_25_8 dX9_lift_54 rfl rfl rfl ?_
        refine ev_getR (q := 31) fd_RX9_176_3 dX9_lift_57 rfl rfl rfl ?_
        refine mw_iload_n dX9_lift_60 0 rfl ?_
        refine ev_lald dX9_lift_61 (by decide) rfl m9 ?_
        refine mw_iconst (v := 0) dX9_lift_62 (by decide) ?_
        obtain ⟨r10, e11, h⟩ := mbd h
        refine mv_callS_l (As := [.long (eL r7.2 30 r7.1.toNatClampNeg), .long (eL r7.2 31 r7.1.toNatClampNeg), .int (0 : Int32)]) lkS_RX9_179_yX9_lowest dX9_lift_63 (k_X9_lowest e11) rfl rfl (Nat.le_of_ble_eq_true rfl) (by decide) (by decide) ?_
        refine mw_lstore (L' := [(4, .long r10), (3, .int r7.1), (0, .ref 0), (1, .int a1), (2, .int a2)]) dX9_lift_66 (by decide) rfl ?_
        refine mw_aload_n dX9_lift_68 2 rfl ?_
        refine ev_getR (q := 28) fd_RX9_25_8 dX9_lift_69 rfl rfl rfl ?_
        refine ev_getR (q := 30) fd_RX9_172_3 dX9_lift_72 rfl rfl rfl ?_
        refine mw_iload_n dX9_lift_75 1 rfl ?_
        refine ev_lald dX9_lift_76 (by decide) rfl m9 ?_
        refine mw_aload_n dX9_lift_77 2 rfl ?_
        refine ev_getR (q := 28) fd_RX9_25_8 dX9_lift_78 rfl rfl rfl ?_
        refine ev_getR (q := 31) fd_RX9_176_3 dX9_lift_81 rfl rfl rfl ?_
        refine mw_iload_n dX9_lift_84 1 rfl ?_
        refine ev_lald dX9_lift_85 (by decide) rfl m9 ?_
        refine mw_iconst (v := 1) dX9_lift_86 (by decide) ?_
        obtain ⟨r12, e13, h⟩ := mbd h
        refine mv_callS_l (As := [.long (eL r7.2 30 r7.1.toNatClampNeg), .long (eL r7.2 31 r7.1.toNatClampNeg), .int (1 : Int32)]) lkS_RX9_179_yX9_lowest dX9_lift_87 (k_X9_lowest e13) rfl rfl (Nat.le_of_ble_eq_true rfl) (by decide) (by decide) ?_
        refine mw_lstore (L' := [(6, .long r12), (4, .long r10), (3, .int r7.1), (0, .ref 0), (1, .int a1), (2, .int a2)]) dX9_lift_90 (by decide) rfl ?_
        refine mw_aload_n dX9_lift_92 3 rfl ?_
        refine ev_getR (q := 28) fd_RX9_25_8 dX9_lift_93 rfl rfl rfl ?_
        refine mw_aload_n dX9_lift_96 3 rfl ?_
        refine ev_getR (q := 1) fd_RX9_12_8 dX9_lift_97 rfl rfl rfl ?_
        refine mw_iload_n dX9_lift_100 4 rfl ?_
        refine mw_iload_n dX9_lift_101 5 rfl ?_
        refine mw_lload dX9_lift_102 1 rfl ?_
        refine mw_lload dX9_lift_104 0 rfl ?_
        obtain ⟨r14, e15, h⟩ := mbd h
        refine mv_callV_i (As := [.ref 1, .int a1, .int a2, .long r10, .long r12]) (ci := 3) lkV_RX9_192_yX4_lifts dX9_lift_106 (k_X4_lifts_1 e15) rfl rfl rfl rfl (Nat.le_of_ble_eq_true rfl) (by decide) (by decide) ?_
        refine mw_if_ne (tgt := 118) dX9_lift_109 (by decide) (fun hc => ?_) (fun hc => ?_)
        · have h := mie hc h
          refine mw_aload_n dX9_lift_118 3 rfl ?_
          refine ev_getR (q := 28) fd_RX9_25_8 dX9_lift_119 rfl rfl rfl ?_
          refine ev_getR (q := 32) fd_RX9_196_3 dX9_lift_122 rfl rfl rfl ?_
          refine mw_iload_n dX9_lift_125 5 rfl ?_
          obtain ⟨m16, h⟩ := mif h
          refine ev_lald dX9_lift_126 (by decide) rfl m16 ?_
          exact mw_lret dX9_lift_127 rfl (ers_lm h) rfl rfl
        · have h := mit hc h
          refine mw_aload_n dX9_lift_112 3 rfl ?_
          refine mw_iconst (v := 3) dX9_lift_113 (by decide) ?_
          obtain ⟨r17, e18, h⟩ := mbd h
          refine mv_callV_l (As := [.int (3 : Int32)]) (ci := 8) lkV_RX9_164_yX9_longFinding dX9_lift_114 (k_X9_longFinding e18) rfl rfl rfl rfl (Nat.le_of_ble_eq_true rfl) (by decide) (by decide) ?_
          exact mw_lret dX9_lift_117 rfl (ers_lm h) rfl rfl
      · have h := mit hc h
        refine mw_aload_n dX9_lift_38 1 rfl ?_
        refine mw_iconst (v := 3) dX9_lift_39 (by decide) ?_
        obtain ⟨r19, e20, h⟩ := mbd h
        refine mv_callV_l (As := [.int (3 : Int32)]) (ci := 8) lkV_RX9_164_yX9_longFinding dX9_lift_40 (k_X9_longFinding e20) rfl rfl rfl rfl (Nat.le_of_ble_eq_true rfl) (by decide) (by decide) ?_
        exact mw_lret dX9_lift_43 rfl (ers_lm h) rfl rfl
    · have h := mit hc h
      refine mw_aload_n dX9_lift_22 0 rfl ?_
      refine mw_iconst (v := 0) dX9_lift_23 (by decide) ?_
      obtain ⟨r21, e22, h⟩ := mbd h
      refine mv_callV_l (As := [.int (0 : Int32)]) (ci := 8) lkV_RX9_164_yX9_longFinding dX9_lift_24 (k_X9_longFinding e22) rfl rfl rfl rfl (Nat.le_of_ble_eq_true rfl) (by decide) (by decide) ?_
      exact mw_lret dX9_lift_27 rfl (ers_lm h) rfl rfl

theorem dX9_productFits_0 : decode cX9_productFits 0 = .ok (.lload_n 2, 1) := by decide +kernel
theorem dX9_productFits_1 : decode cX9_productFits 1 = .ok (.lconst 0, 1) := by decide +kernel
theorem dX9_productFits_2 : decode cX9_productFits 2 = .ok (.lcmp, 1) := by decide +kernel
theorem dX9_productFits_3 : decode cX9_productFits 3 = .ok (.ifCond .ne 5, 3) := by decide +kernel
theorem dX9_productFits_6 : decode cX9_productFits 6 = .ok (.iconst 1, 1) := by decide +kernel
theorem dX9_productFits_7 : decode cX9_productFits 7 = .ok (.ireturn, 1) := by decide +kernel
theorem dX9_productFits_8 : decode cX9_productFits 8 = .ok (.lload_n 2, 1) := by decide +kernel
theorem dX9_productFits_9 : decode cX9_productFits 9 = .ok (.ldc2_w 374, 3) := by decide +kernel
theorem dX9_productFits_12 : decode cX9_productFits 12 = .ok (.lcmp, 1) := by decide +kernel
theorem dX9_productFits_13 : decode cX9_productFits 13 = .ok (.ifCond .ne 17, 3) := by decide +kernel
theorem dX9_productFits_16 : decode cX9_productFits 16 = .ok (.lload_n 0, 1) := by decide +kernel
theorem dX9_productFits_17 : decode cX9_productFits 17 = .ok (.ldc2_w 307, 3) := by decide +kernel
theorem dX9_productFits_20 : decode cX9_productFits 20 = .ok (.lcmp, 1) := by decide +kernel
theorem dX9_productFits_21 : decode cX9_productFits 21 = .ok (.ifCond .eq 7, 3) := by decide +kernel
theorem dX9_productFits_24 : decode cX9_productFits 24 = .ok (.iconst 1, 1) := by decide +kernel
theorem dX9_productFits_25 : decode cX9_productFits 25 = .ok (.goto 4, 3) := by decide +kernel
theorem dX9_productFits_28 : decode cX9_productFits 28 = .ok (.iconst 0, 1) := by decide +kernel
theorem dX9_productFits_29 : decode cX9_productFits 29 = .ok (.ireturn, 1) := by decide +kernel
theorem dX9_productFits_30 : decode cX9_productFits 30 = .ok (.lload_n 0, 1) := by decide +kernel
theorem dX9_productFits_31 : decode cX9_productFits 31 = .ok (.lload_n 2, 1) := by decide +kernel
theorem dX9_productFits_32 : decode cX9_productFits 32 = .ok (.lmul, 1) := by decide +kernel
theorem dX9_productFits_33 : decode cX9_productFits 33 = .ok (.lload_n 2, 1) := by decide +kernel
theorem dX9_productFits_34 : decode cX9_productFits 34 = .ok (.ldiv, 1) := by decide +kernel
theorem dX9_productFits_35 : decode cX9_productFits 35 = .ok (.lload_n 0, 1) := by decide +kernel
theorem dX9_productFits_36 : decode cX9_productFits 36 = .ok (.lcmp, 1) := by decide +kernel
theorem dX9_productFits_37 : decode cX9_productFits 37 = .ok (.ifCond .ne 7, 3) := by decide +kernel
theorem dX9_productFits_40 : decode cX9_productFits 40 = .ok (.iconst 1, 1) := by decide +kernel
theorem dX9_productFits_41 : decode cX9_productFits 41 = .ok (.goto 4, 3) := by decide +kernel
theorem dX9_productFits_44 : decode cX9_productFits 44 = .ok (.iconst 0, 1) := by decide +kernel
theorem dX9_productFits_45 : decode cX9_productFits 45 = .ok (.ireturn, 1) := by decide +kernel
def e_X9_productFits (a0 : Int64) (a2 : Int64) : Option Int32 := if a2 = (0 : Int64) then (some (1 : Int32)) else (if a2 = (-1 : Int64) then (if a0 = (-9223372036854775808 : Int64) then (some (0 : Int32)) else (some (1 : Int32))) else (if a2 = 0 then none else (if ((a0 * a2) / a2) = a0 then (some (1 : Int32)) else (some (0 : Int32)))))
set_option maxRecDepth 100000 in
set_option maxHeartbeats 4000000 in
theorem k_X9_productFits {l : Launch} {σ : ES} {a0 : Int64} {a2 : Int64} {out : Int32} (h : e_X9_productFits a0 a2 = some out) : MK l yX9_productFits cX9_productFits 4 (some .boolean) 1 [.long a0, .long a2] (mkS σ) (some (.int out)) (mkS σ) := by
  unfold e_X9_productFits at h
  refine mw_entry (own := RX9) (ini := false) (L := [(0, .long a0), (2, .long a2)]) (by decide +kernel) rfl (fun h => nomatch h) rfl (Nat.le_of_ble_eq_true rfl) (Nat.le_of_ble_eq_true rfl) (fun E => ?_)
  refine mw_lload_n dX9_productFits_0 1 rfl ?_
  refine mw_lconst (v := 0) dX9_productFits_1 (by decide) ?_
  refine mw_lc_ne (tgt := 8) dX9_productFits_2 dX9_productFits_3 (by decide) (fun hc => ?_) (fun hc => ?_)
  · have h := mie hc h
    refine mw_lload_n dX9_productFits_8 1 rfl ?_
    refine mw_ldc2 dX9_productFits_9 wt_169 ?_
    refine mw_lc_ne (tgt := 30) dX9_productFits_12 dX9_productFits_13 (by decide) (fun hc => ?_) (fun hc => ?_)
    · have h := mie hc h
      refine mw_lload_n dX9_productFits_30 0 rfl ?_
      refine mw_lload_n dX9_productFits_31 1 rfl ?_
      refine mw_lmul dX9_productFits_32 ?_
      refine mw_lload_n dX9_productFits_33 1 rfl ?_
      obtain ⟨m1, h⟩ := mnf h
      refine mw_ldiv dX9_productFits_34 m1 ?_
      refine mw_lload_n dX9_productFits_35 0 rfl ?_
      refine mw_lc_ne (tgt := 44) dX9_productFits_36 dX9_productFits_37 (by decide) (fun hc => ?_) (fun hc => ?_)
      · have h := mie hc h
        refine mw_iconst (v := 0) dX9_productFits_44 (by decide) ?_
        exact mw_zret dX9_productFits_45 rfl (by decide) (ers_i h) rfl rfl
      · have h := mit hc h
        refine mw_iconst (v := 1) dX9_productFits_40 (by decide) ?_
        refine mw_goto (tgt := 45) dX9_productFits_41 (by decide) ?_
        exact mw_zret dX9_productFits_45 rfl (by decide) (ers_i h) rfl rfl
    · have h := mit hc h
      refine mw_lload_n dX9_productFits_16 0 rfl ?_
      refine mw_ldc2 dX9_productFits_17 wt_170 ?_
      refine mw_lc_eq (tgt := 28) dX9_productFits_20 dX9_productFits_21 (by decide) (fun hc => ?_) (fun hc => ?_)
      · have h := mit hc h
        refine mw_iconst (v := 0) dX9_productFits_28 (by decide) ?_
        exact mw_zret dX9_productFits_29 rfl (by decide) (ers_i h) rfl rfl
      · have h := mie hc h
        refine mw_iconst (v := 1) dX9_productFits_24 (by decide) ?_
        refine mw_goto (tgt := 29) dX9_productFits_25 (by decide) ?_
        exact mw_zret dX9_productFits_29 rfl (by decide) (ers_i h) rfl rfl
  · have h := mit hc h
    refine mw_iconst (v := 1) dX9_productFits_6 (by decide) ?_
    exact mw_zret dX9_productFits_7 rfl (by decide) (ers_i h) rfl rfl

theorem dX9_worth_0 : decode cX9_worth 0 = .ok (.aload_n 0, 1) := by decide +kernel
theorem dX9_worth_1 : decode cX9_worth 1 = .ok (.invokevirtual 168, 3) := by decide +kernel
theorem dX9_worth_4 : decode cX9_worth 4 = .ok (.istore_n 3, 1) := by decide +kernel
theorem dX9_worth_5 : decode cX9_worth 5 = .ok (.iload_n 3, 1) := by decide +kernel
theorem dX9_worth_6 : decode cX9_worth 6 = .ok (.iconst (-1), 1) := by decide +kernel
theorem dX9_worth_7 : decode cX9_worth 7 = .ok (.if_icmp .ne 9, 3) := by decide +kernel
theorem dX9_worth_10 : decode cX9_worth 10 = .ok (.aload_n 0, 1) := by decide +kernel
theorem dX9_worth_11 : decode cX9_worth 11 = .ok (.iconst 3, 1) := by decide +kernel
theorem dX9_worth_12 : decode cX9_worth 12 = .ok (.invokevirtual 164, 3) := by decide +kernel
theorem dX9_worth_15 : decode cX9_worth 15 = .ok (.lreturn, 1) := by decide +kernel
theorem dX9_worth_16 : decode cX9_worth 16 = .ok (.aload_n 0, 1) := by decide +kernel
theorem dX9_worth_17 : decode cX9_worth 17 = .ok (.getfield 25, 3) := by decide +kernel
theorem dX9_worth_20 : decode cX9_worth 20 = .ok (.getfield 172, 3) := by decide +kernel
theorem dX9_worth_23 : decode cX9_worth 23 = .ok (.iload_n 3, 1) := by decide +kernel
theorem dX9_worth_24 : decode cX9_worth 24 = .ok (.laload, 1) := by decide +kernel
theorem dX9_worth_25 : decode cX9_worth 25 = .ok (.aload_n 0, 1) := by decide +kernel
theorem dX9_worth_26 : decode cX9_worth 26 = .ok (.getfield 25, 3) := by decide +kernel
theorem dX9_worth_29 : decode cX9_worth 29 = .ok (.getfield 176, 3) := by decide +kernel
theorem dX9_worth_32 : decode cX9_worth 32 = .ok (.iload_n 3, 1) := by decide +kernel
theorem dX9_worth_33 : decode cX9_worth 33 = .ok (.laload, 1) := by decide +kernel
theorem dX9_worth_34 : decode cX9_worth 34 = .ok (.iconst 0, 1) := by decide +kernel
theorem dX9_worth_35 : decode cX9_worth 35 = .ok (.invokestatic 179, 3) := by decide +kernel
theorem dX9_worth_38 : decode cX9_worth 38 = .ok (.lstore 4, 2) := by decide +kernel
theorem dX9_worth_40 : decode cX9_worth 40 = .ok (.aload_n 0, 1) := by decide +kernel
theorem dX9_worth_41 : decode cX9_worth 41 = .ok (.getfield 25, 3) := by decide +kernel
theorem dX9_worth_44 : decode cX9_worth 44 = .ok (.getfield 172, 3) := by decide +kernel
theorem dX9_worth_47 : decode cX9_worth 47 = .ok (.iload_n 3, 1) := by decide +kernel
theorem dX9_worth_48 : decode cX9_worth 48 = .ok (.laload, 1) := by decide +kernel
theorem dX9_worth_49 : decode cX9_worth 49 = .ok (.aload_n 0, 1) := by decide +kernel
theorem dX9_worth_50 : decode cX9_worth 50 = .ok (.getfield 25, 3) := by decide +kernel
theorem dX9_worth_53 : decode cX9_worth 53 = .ok (.getfield 176, 3) := by decide +kernel
theorem dX9_worth_56 : decode cX9_worth 56 = .ok (.iload_n 3, 1) := by decide +kernel
theorem dX9_worth_57 : decode cX9_worth 57 = .ok (.laload, 1) := by decide +kernel
theorem dX9_worth_58 : decode cX9_worth 58 = .ok (.iconst 1, 1) := by decide +kernel
theorem dX9_worth_59 : decode cX9_worth 59 = .ok (.invokestatic 179, 3) := by decide +kernel
theorem dX9_worth_62 : decode cX9_worth 62 = .ok (.lstore 6, 2) := by decide +kernel
theorem dX9_worth_64 : decode cX9_worth 64 = .ok (.lload_n 1, 1) := by decide +kernel
theorem dX9_worth_65 : decode cX9_worth 65 = .ok (.lload 4, 2) := by decide +kernel
theorem dX9_worth_67 : decode cX9_worth 67 = .ok (.invokestatic 199, 3) := by decide +kernel
theorem dX9_worth_70 : decode cX9_worth 70 = .ok (.ifCond .eq 10, 3) := by decide +kernel
theorem dX9_worth_73 : decode cX9_worth 73 = .ok (.lload 6, 2) := by decide +kernel
theorem dX9_worth_75 : decode cX9_worth 75 = .ok (.lconst 1, 1) := by decide +kernel
theorem dX9_worth_76 : decode cX9_worth 76 = .ok (.lcmp, 1) := by decide +kernel
theorem dX9_worth_77 : decode cX9_worth 77 = .ok (.ifCond .ge 10, 3) := by decide +kernel
theorem dX9_worth_80 : decode cX9_worth 80 = .ok (.aload_n 0, 1) := by decide +kernel
theorem dX9_worth_81 : decode cX9_worth 81 = .ok (.bipush 8, 2) := by decide +kernel
theorem dX9_worth_83 : decode cX9_worth 83 = .ok (.invokevirtual 164, 3) := by decide +kernel
theorem dX9_worth_86 : decode cX9_worth 86 = .ok (.lreturn, 1) := by decide +kernel
theorem dX9_worth_87 : decode cX9_worth 87 = .ok (.lload_n 1, 1) := by decide +kernel
theorem dX9_worth_88 : decode cX9_worth 88 = .ok (.lload 4, 2) := by decide +kernel
theorem dX9_worth_90 : decode cX9_worth 90 = .ok (.lmul, 1) := by decide +kernel
theorem dX9_worth_91 : decode cX9_worth 91 = .ok (.lload 6, 2) := by decide +kernel
theorem dX9_worth_93 : decode cX9_worth 93 = .ok (.ldiv, 1) := by decide +kernel
theorem dX9_worth_94 : decode cX9_worth 94 = .ok (.lstore 8, 2) := by decide +kernel
theorem dX9_worth_96 : decode cX9_worth 96 = .ok (.lload 8, 2) := by decide +kernel
theorem dX9_worth_98 : decode cX9_worth 98 = .ok (.ldc2_w 203, 3) := by decide +kernel
theorem dX9_worth_101 : decode cX9_worth 101 = .ok (.lcmp, 1) := by decide +kernel
theorem dX9_worth_102 : decode cX9_worth 102 = .ok (.ifCond .gt 12, 3) := by decide +kernel
theorem dX9_worth_105 : decode cX9_worth 105 = .ok (.aload_n 0, 1) := by decide +kernel
theorem dX9_worth_106 : decode cX9_worth 106 = .ok (.bipush 8, 2) := by decide +kernel
theorem dX9_worth_108 : decode cX9_worth 108 = .ok (.invokevirtual 164, 3) := by decide +kernel
theorem dX9_worth_111 : decode cX9_worth 111 = .ok (.goto 5, 3) := by decide +kernel
theorem dX9_worth_114 : decode cX9_worth 114 = .ok (.lload 8, 2) := by decide +kernel
theorem dX9_worth_116 : decode cX9_worth 116 = .ok (.lreturn, 1) := by decide +kernel
def e_X9_worth (a1 : Int64) (σ : ES) : Option (Int64 × ES) := (e_X9_bestRing σ).bind (fun r1 => if r1.1 = (-1 : Int32) then ((e_X9_longFinding (3 : Int32) r1.2).bind (fun r17 => some (r17.1, r17.2))) else (if mib r1.1 1296 = true then ((e_X9_lowest (eL r1.2 30 r1.1.toNatClampNeg) (eL r1.2 31 r1.1.toNatClampNeg) (0 : Int32)).bind (fun r4 => (e_X9_lowest (eL r1.2 30 r1.1.toNatClampNeg) (eL r1.2 31 r1.1.toNatClampNeg) (1 : Int32)).bind (fun r6 => (e_X9_productFits a1 r4).bind (fun r8 => if r8 = 0 then ((e_X9_longFinding (8 : Int32) r1.2).bind (fun r10 => some (r10.1, r10.2))) else (if (1 : Int64) ≤ r6 then (if r6 = 0 then none else (if (-4000000000000000001 : Int64) < ((a1 * r4) / r6) then (some (((a1 * r4) / r6), r1.2)) else ((e_X9_longFinding (8 : Int32) r1.2).bind (fun r13 => some (r13.1, r13.2))))) else ((e_X9_longFinding (8 : Int32) r1.2).bind (fun r15 => some (r15.1, r15.2)))))))) else none))
set_option maxRecDepth 100000 in
set_option maxHeartbeats 4000000 in
theorem k_X9_worth {l : Launch} {σ : ES} {a1 : Int64} {out : (Int64 × ES)} (h : e_X9_worth a1 σ = some out) : MK l yX9_worth cX9_worth 10 (some .long) 13 [.ref 0, .long a1] (mkS σ) (some (.long out.1)) (mkS out.2) := by
  unfold e_X9_worth at h
  refine mw_entry (own := RX9) (ini := false) (L := [(0, .ref 0), (1, .long a1)]) (by decide +kernel) rfl (fun h => nomatch h) rfl (Nat.le_of_ble_eq_true rfl) (Nat.le_of_ble_eq_true rfl) (fun E => ?_)
  refine mw_aload_n dX9_worth_0 0 rfl ?_
  obtain ⟨r1, e2, h⟩ := mbd h
  refine mv_callV_i (As := []) (ci := 8) lkV_RX9_168_yX9_bestRing dX9_worth_1 (k_X9_bestRing e2) rfl rfl rfl rfl (Nat.le_of_ble_eq_true rfl) (by decide) (by decide) ?_
  refine mw_istore_n (L' := [(3, .int r1.1), (0, .ref 0), (1, .long a1)]) dX9_worth_4 rfl (by decide) rfl ?_
  refine mw_iload_n dX9_worth_5 0 rfl ?_
  refine mw_iconst (v := -1) dX9_worth_6 (by decide) ?_
  refine mw_icmp_ne (tgt := 16) dX9_worth_7 (by decide) (fun hc => ?_) (fun hc => ?_)
  · have h := mie hc h
    refine mw_aload_n dX9_worth_16 1 rfl ?_
    refine ev_getR (q := 28) fd_RX9_25_8 dX9_worth_17 rfl rfl rfl ?_
    refine ev_getR (q := 30) fd_RX9_172_3 dX9_worth_20 rfl rfl rfl ?_
    refine mw_iload_n dX9_worth_23 0 rfl ?_
    obtain ⟨m3, h⟩ := mif h
    refine ev_lald dX9_worth_24 (by decide) rfl m3 ?_
    refine mw_aload_n dX9_worth_25 1 rfl ?_
    refine ev_getR (q := 28) fd_RX9_25_8 dX9_worth_26 rfl rfl rfl ?_
    refine ev_getR (q := 31) fd_RX9_176_3 dX9_worth_29 rfl rfl rfl ?_
    refine mw_iload_n dX9_worth_32 0 rfl ?_
    refine ev_lald dX9_worth_33 (by decide) rfl m3 ?_
    refine mw_iconst (v := 0) dX9_worth_34 (by decide) ?_
    obtain ⟨r4, e5, h⟩ := mbd h
    refine mv_callS_l (As := [.long (eL r1.2 30 r1.1.toNatClampNeg), .long (eL r1.2 31 r1.1.toNatClampNeg), .int (0 : Int32)]) lkS_RX9_179_yX9_lowest dX9_worth_35 (k_X9_lowest e5) rfl rfl (Nat.le_of_ble_eq_true rfl) (by decide) (by decide) ?_
    refine mw_lstore (L' := [(4, .long r4), (3, .int r1.1), (0, .ref 0), (1, .long a1)]) dX9_worth_38 (by decide) rfl ?_
    refine mw_aload_n dX9_worth_40 2 rfl ?_
    refine ev_getR (q := 28) fd_RX9_25_8 dX9_worth_41 rfl rfl rfl ?_
    refine ev_getR (q := 30) fd_RX9_172_3 dX9_worth_44 rfl rfl rfl ?_
    refine mw_iload_n dX9_worth_47 1 rfl ?_
    refine ev_lald dX9_worth_48 (by decide) rfl m3 ?_
    refine mw_aload_n dX9_worth_49 2 rfl ?_
    refine ev_getR (q := 28) fd_RX9_25_8 dX9_worth_50 rfl rfl rfl ?_
    refine ev_getR (q := 31) fd_RX9_176_3 dX9_worth_53 rfl rfl rfl ?_
    refine mw_iload_n dX9_worth_56 1 rfl ?_
    refine ev_lald dX9_worth_57 (by decide) rfl m3 ?_
    refine mw_iconst (v := 1) dX9_worth_58 (by decide) ?_
    obtain ⟨r6, e7, h⟩ := mbd h
    refine mv_callS_l (As := [.long (eL r1.2 30 r1.1.toNatClampNeg), .long (eL r1.2 31 r1.1.toNatClampNeg), .int (1 : Int32)]) lkS_RX9_179_yX9_lowest dX9_worth_59 (k_X9_lowest e7) rfl rfl (Nat.le_of_ble_eq_true rfl) (by decide) (by decide) ?_
    refine mw_lstore (L' := [(6, .long r6), (4, .long r4), (3, .int r1.1), (0, .ref 0), (1, .long a1)]) dX9_worth_62 (by decide) rfl ?_
    refine mw_lload_n dX9_worth_64 4 rfl ?_
    refine mw_lload dX9_worth_65 1 rfl ?_
    obtain ⟨r8, e9, h⟩ := mbd h
    refine mv_callS_i (As := [.long a1, .long r4]) lkS_RX9_199_yX9_productFits dX9_worth_67 (k_X9_productFits e9) rfl rfl (Nat.le_of_ble_eq_true rfl) (by decide) (by decide) ?_
    refine mw_if_eq (tgt := 80) dX9_worth_70 (by decide) (fun hc => ?_) (fun hc => ?_)
    · have h := mit hc h
      refine mw_aload_n dX9_worth_80 3 rfl ?_
      refine mw_bipush (v := 8) dX9_worth_81 (by decide) ?_
      obtain ⟨r10, e11, h⟩ := mbd h
      refine mv_callV_l (As := [.int (8 : Int32)]) (ci := 8) lkV_RX9_164_yX9_longFinding dX9_worth_83 (k_X9_longFinding e11) rfl rfl rfl rfl (Nat.le_of_ble_eq_true rfl) (by decide) (by decide) ?_
      exact mw_lret dX9_worth_86 rfl (ers_lm h) rfl rfl
    · have h := mie hc h
      refine mw_lload dX9_worth_73 0 rfl ?_
      refine mw_lconst (v := 1) dX9_worth_75 (by decide) ?_
      refine mw_lc_ge (tgt := 87) dX9_worth_76 dX9_worth_77 (by decide) (fun hc => ?_) (fun hc => ?_)
      · have h := mit hc h
        refine mw_lload_n dX9_worth_87 4 rfl ?_
        refine mw_lload dX9_worth_88 1 rfl ?_
        refine mw_lmul dX9_worth_90 ?_
        refine mw_lload dX9_worth_91 0 rfl ?_
        obtain ⟨m12, h⟩ := mnf h
        refine mw_ldiv dX9_worth_93 m12 ?_
        refine mw_lstore (L' := [(8, .long ((a1 * r4) / r6)), (6, .long r6), (4, .long r4), (3, .int r1.1), (0, .ref 0), (1, .long a1)]) dX9_worth_94 (by decide) rfl ?_
        refine mw_lload dX9_worth_96 0 rfl ?_
        refine mw_ldc2 dX9_worth_98 wt_151 ?_
        refine mw_lc_gt (tgt := 114) dX9_worth_101 dX9_worth_102 (by decide) (fun hc => ?_) (fun hc => ?_)
        · have h := mit hc h
          refine mw_lload dX9_worth_114 0 rfl ?_
          exact mw_lret dX9_worth_116 rfl (ers_lm h) rfl rfl
        · have h := mie hc h
          refine mw_aload_n dX9_worth_105 4 rfl ?_
          refine mw_bipush (v := 8) dX9_worth_106 (by decide) ?_
          obtain ⟨r13, e14, h⟩ := mbd h
          refine mv_callV_l (As := [.int (8 : Int32)]) (ci := 8) lkV_RX9_164_yX9_longFinding dX9_worth_108 (k_X9_longFinding e14) rfl rfl rfl rfl (Nat.le_of_ble_eq_true rfl) (by decide) (by decide) ?_
          refine mw_goto (tgt := 116) dX9_worth_111 (by decide) ?_
          exact mw_lret dX9_worth_116 rfl (ers_lm h) rfl rfl
      · have h := mie hc h
        refine mw_aload_n dX9_worth_80 3 rfl ?_
        refine mw_bipush (v := 8) dX9_worth_81 (by decide) ?_
        obtain ⟨r15, e16, h⟩ := mbd h
        refine mv_callV_l (As := [.int (8 : Int32)]) (ci := 8) lkV_RX9_164_yX9_longFinding dX9_worth_83 (k_X9_longFinding e16) rfl rfl rfl rfl (Nat.le_of_ble_eq_true rfl) (by decide) (by decide) ?_
        exact mw_lret dX9_worth_86 rfl (ers_lm h) rfl rfl
  · have h := mit hc h
    refine mw_aload_n dX9_worth_10 1 rfl ?_
    refine mw_iconst (v := 3) dX9_worth_11 (by decide) ?_
    obtain ⟨r17, e18, h⟩ := mbd h
    refine mv_callV_l (As := [.int (3 : Int32)]) (ci := 8) lkV_RX9_164_yX9_longFinding dX9_worth_12 (k_X9_longFinding e18) rfl rfl rfl rfl (Nat.le_of_ble_eq_true rfl) (by decide) (by decide) ?_
    exact mw_lret dX9_worth_15 rfl (ers_lm h) rfl rfl

theorem dJ9_floorDiv_f86c9_0 : decode cJ9_floorDiv_f86c9 0 = .ok (.lload_n 0, 1) := by decide +kernel
theorem dJ9_floorDiv_f86c9_1 : decode cJ9_floorDiv_f86c9 1 = .ok (.lload_n 2, 1) := by decide +kernel
theorem dJ9_floorDiv_f86c9_2 : decode cJ9_floorDiv_f86c9 2 = .ok (.ldiv, 1) := by decide +kernel
theorem dJ9_floorDiv_f86c9_3 : decode cJ9_floorDiv_f86c9 3 = .ok (.lstore 4, 2) := by decide +kernel
theorem dJ9_floorDiv_f86c9_5 : decode cJ9_floorDiv_f86c9 5 = .ok (.lload_n 0, 1) := by decide +kernel
theorem dJ9_floorDiv_f86c9_6 : decode cJ9_floorDiv_f86c9 6 = .ok (.lload_n 2, 1) := by decide +kernel
theorem dJ9_floorDiv_f86c9_7 : decode cJ9_floorDiv_f86c9 7 = .ok (.lxor, 1) := by decide +kernel
theorem dJ9_floorDiv_f86c9_8 : decode cJ9_floorDiv_f86c9 8 = .ok (.lconst 0, 1) := by decide +kernel
theorem dJ9_floorDiv_f86c9_9 : decode cJ9_floorDiv_f86c9 9 = .ok (.lcmp, 1) := by decide +kernel
theorem dJ9_floorDiv_f86c9_10 : decode cJ9_floorDiv_f86c9 10 = .ok (.ifCond .ge 17, 3) := by decide +kernel
theorem dJ9_floorDiv_f86c9_13 : decode cJ9_floorDiv_f86c9 13 = .ok (.lload 4, 2) := by decide +kernel
theorem dJ9_floorDiv_f86c9_15 : decode cJ9_floorDiv_f86c9 15 = .ok (.lload_n 2, 1) := by decide +kernel
theorem dJ9_floorDiv_f86c9_16 : decode cJ9_floorDiv_f86c9 16 = .ok (.lmul, 1) := by decide +kernel
theorem dJ9_floorDiv_f86c9_17 : decode cJ9_floorDiv_f86c9 17 = .ok (.lload_n 0, 1) := by decide +kernel
theorem dJ9_floorDiv_f86c9_18 : decode cJ9_floorDiv_f86c9 18 = .ok (.lcmp, 1) := by decide +kernel
theorem dJ9_floorDiv_f86c9_19 : decode cJ9_floorDiv_f86c9 19 = .ok (.ifCond .eq 8, 3) := by decide +kernel
theorem dJ9_floorDiv_f86c9_22 : decode cJ9_floorDiv_f86c9 22 = .ok (.lload 4, 2) := by decide +kernel
theorem dJ9_floorDiv_f86c9_24 : decode cJ9_floorDiv_f86c9 24 = .ok (.lconst 1, 1) := by decide +kernel
theorem dJ9_floorDiv_f86c9_25 : decode cJ9_floorDiv_f86c9 25 = .ok (.lsub, 1) := by decide +kernel
theorem dJ9_floorDiv_f86c9_26 : decode cJ9_floorDiv_f86c9 26 = .ok (.lreturn, 1) := by decide +kernel
theorem dJ9_floorDiv_f86c9_27 : decode cJ9_floorDiv_f86c9 27 = .ok (.lload 4, 2) := by decide +kernel
theorem dJ9_floorDiv_f86c9_29 : decode cJ9_floorDiv_f86c9 29 = .ok (.lreturn, 1) := by decide +kernel
def e_J9_floorDiv_f86c9 (a0 : Int64) (a2 : Int64) : Option Int64 := if a2 = 0 then none else (if (0 : Int64) ≤ (a0 ^^^ a2) then (some (a0 / a2)) else (if ((a0 / a2) * a2) = a0 then (some (a0 / a2)) else (some ((a0 / a2) - (1 : Int64)))))
set_option maxRecDepth 100000 in
set_option maxHeartbeats 4000000 in
theorem k_J9_floorDiv_f86c9 {l : Launch} {σ : ES} {a0 : Int64} {a2 : Int64} {out : Int64} (h : e_J9_floorDiv_f86c9 a0 a2 = some out) : MK l yJ9_floorDiv_f86c9 cJ9_floorDiv_f86c9 6 (some .long) 1 [.long a0, .long a2] (mkS σ) (some (.long out)) (mkS σ) := by
  unfold e_J9_floorDiv_f86c9 at h
  refine mw_entryF (own := RJ9) (ini := false) (L := [(0, .long a0), (2, .long a2)]) (by decide +kernel) rfl (fun h => nomatch h) rfl (Nat.le_of_ble_eq_true rfl) (Nat.le_of_ble_eq_true rfl) (fun E => ?_)
  refine mw_lload_n dJ9_floorDiv_f86c9_0 0 rfl ?_
  refine mw_lload_n dJ9_floorDiv_f86c9_1 1 rfl ?_
  obtain ⟨m1, h⟩ := mnf h
  refine mw_ldiv dJ9_floorDiv_f86c9_2 m1 ?_
  refine mw_lstore (L' := [(4, .long (a0 / a2)), (0, .long a0), (2, .long a2)]) dJ9_floorDiv_f86c9_3 (by decide) rfl ?_
  refine mw_lload_n dJ9_floorDiv_f86c9_5 1 rfl ?_
  refine mw_lload_n dJ9_floorDiv_f86c9_6 2 rfl ?_
  refine mw_lxor dJ9_floorDiv_f86c9_7 ?_
  refine mw_lconst (v := 0) dJ9_floorDiv_f86c9_8 (by decide) ?_
  refine mw_lc_ge (tgt := 27) dJ9_floorDiv_f86c9_9 dJ9_floorDiv_f86c9_10 (by decide) (fun hc => ?_) (fun hc => ?_)
  · have h := mit hc h
    refine mw_lload dJ9_floorDiv_f86c9_27 0 rfl ?_
    exact mw_lret dJ9_floorDiv_f86c9_29 rfl (ers_l h) rfl rfl
  · have h := mie hc h
    refine mw_lload dJ9_floorDiv_f86c9_13 0 rfl ?_
    refine mw_lload_n dJ9_floorDiv_f86c9_15 2 rfl ?_
    refine mw_lmul dJ9_floorDiv_f86c9_16 ?_
    refine mw_lload_n dJ9_floorDiv_f86c9_17 1 rfl ?_
    refine mw_lc_eq (tgt := 27) dJ9_floorDiv_f86c9_18 dJ9_floorDiv_f86c9_19 (by decide) (fun hc => ?_) (fun hc => ?_)
    · have h := mit hc h
      refine mw_lload dJ9_floorDiv_f86c9_27 0 rfl ?_
      exact mw_lret dJ9_floorDiv_f86c9_29 rfl (ers_l h) rfl rfl
    · have h := mie hc h
      refine mw_lload dJ9_floorDiv_f86c9_22 0 rfl ?_
      refine mw_lconst (v := 1) dJ9_floorDiv_f86c9_24 (by decide) ?_
      refine mw_lsub dJ9_floorDiv_f86c9_25 ?_
      exact mw_lret dJ9_floorDiv_f86c9_26 rfl (ers_l h) rfl rfl

theorem dX4_missingTo_0 : decode cX4_missingTo 0 = .ok (.aload_n 0, 1) := by decide +kernel
theorem dX4_missingTo_1 : decode cX4_missingTo 1 = .ok (.getfield 19, 3) := by decide +kernel
theorem dX4_missingTo_4 : decode cX4_missingTo 4 = .ok (.iload_n 1, 1) := by decide +kernel
theorem dX4_missingTo_5 : decode cX4_missingTo 5 = .ok (.laload, 1) := by decide +kernel
theorem dX4_missingTo_6 : decode cX4_missingTo 6 = .ok (.lstore 6, 2) := by decide +kernel
theorem dX4_missingTo_8 : decode cX4_missingTo 8 = .ok (.lload 6, 2) := by decide +kernel
theorem dX4_missingTo_10 : decode cX4_missingTo 10 = .ok (.lconst 1, 1) := by decide +kernel
theorem dX4_missingTo_11 : decode cX4_missingTo 11 = .ok (.lcmp, 1) := by decide +kernel
theorem dX4_missingTo_12 : decode cX4_missingTo 12 = .ok (.ifCond .ge 5, 3) := by decide +kernel
theorem dX4_missingTo_15 : decode cX4_missingTo 15 = .ok (.lconst 0, 1) := by decide +kernel
theorem dX4_missingTo_16 : decode cX4_missingTo 16 = .ok (.lreturn, 1) := by decide +kernel
theorem dX4_missingTo_17 : decode cX4_missingTo 17 = .ok (.lload_n 2, 1) := by decide +kernel
theorem dX4_missingTo_18 : decode cX4_missingTo 18 = .ok (.lload 6, 2) := by decide +kernel
theorem dX4_missingTo_20 : decode cX4_missingTo 20 = .ok (.lmul, 1) := by decide +kernel
theorem dX4_missingTo_21 : decode cX4_missingTo 21 = .ok (.aload_n 0, 1) := by decide +kernel
theorem dX4_missingTo_22 : decode cX4_missingTo 22 = .ok (.getfield 15, 3) := by decide +kernel
theorem dX4_missingTo_25 : decode cX4_missingTo 25 = .ok (.iload_n 1, 1) := by decide +kernel
theorem dX4_missingTo_26 : decode cX4_missingTo 26 = .ok (.laload, 1) := by decide +kernel
theorem dX4_missingTo_27 : decode cX4_missingTo 27 = .ok (.lload 4, 2) := by decide +kernel
theorem dX4_missingTo_29 : decode cX4_missingTo 29 = .ok (.lmul, 1) := by decide +kernel
theorem dX4_missingTo_30 : decode cX4_missingTo 30 = .ok (.lsub, 1) := by decide +kernel
theorem dX4_missingTo_31 : decode cX4_missingTo 31 = .ok (.lload 6, 2) := by decide +kernel
theorem dX4_missingTo_33 : decode cX4_missingTo 33 = .ok (.invokestatic 102, 3) := by decide +kernel
theorem dX4_missingTo_36 : decode cX4_missingTo 36 = .ok (.lneg, 1) := by decide +kernel
theorem dX4_missingTo_37 : decode cX4_missingTo 37 = .ok (.lreturn, 1) := by decide +kernel
def e_X4_missingTo (σ : ES) (a1 : Int32) (a2 : Int64) (a4 : Int64) : Option Int64 := if mib a1 1296 = true then (if (1 : Int64) ≤ (eL σ 31 a1.toNatClampNeg) then ((e_J9_floorDiv_f86c9 ((a2 * (eL σ 31 a1.toNatClampNeg)) - ((eL σ 30 a1.toNatClampNeg) * a4)) (eL σ 31 a1.toNatClampNeg)).bind (fun r2 => some (-r2))) else (some (0 : Int64))) else none
set_option maxRecDepth 100000 in
set_option maxHeartbeats 4000000 in
theorem k_X4_missingTo {l : Launch} {σ : ES} {a1 : Int32} {a2 : Int64} {a4 : Int64} {out : Int64} (h : e_X4_missingTo σ a1 a2 a4 = some out) : MK l yX4_missingTo cX4_missingTo 8 (some .long) 2 [.ref 28, .int a1, .long a2, .long a4] (mkS σ) (some (.long out)) (mkS σ) := by
  unfold e_X4_missingTo at h
  refine mw_entry (own := RX4) (ini := false) (L := [(0, .ref 28), (1, .int a1), (2, .long a2), (4, .long a4)]) (by decide +kernel) rfl (fun h => nomatch h) rfl (Nat.le_of_ble_eq_true rfl) (Nat.le_of_ble_eq_true rfl) (fun E => ?_)
  refine mw_aload_n dX4_missingTo_0 0 rfl ?_
  refine ev_getR (q := 31) fd_RX4_19_3 dX4_missingTo_1 rfl rfl rfl ?_
  refine mw_iload_n dX4_missingTo_4 1 rfl ?_
  obtain ⟨m1, h⟩ := mif h
  refine ev_lald dX4_missingTo_5 (by decide) rfl m1 ?_
  refine mw_lstore (L' := [(6, .long (eL σ 31 a1.toNatClampNeg)), (0, .ref 28), (1, .int a1), (2, .long a2), (4, .long a4)]) dX4_missingTo_6 (by decide) rfl ?_
  refine mw_lload dX4_missingTo_8 0 rfl ?_
  refine mw_lconst (v := 1) dX4_missingTo_10 (by decide) ?_
  refine mw_lc_ge (tgt := 17) dX4_missingTo_11 dX4_missingTo_12 (by decide) (fun hc => ?_) (fun hc => ?_)
  · have h := mit hc h
    refine mw_lload_n dX4_missingTo_17 3 rfl ?_
    refine mw_lload dX4_missingTo_18 0 rfl ?_
    refine mw_lmul dX4_missingTo_20 ?_
    refine mw_aload_n dX4_missingTo_21 1 rfl ?_
    refine ev_getR (q := 30) fd_RX4_15_3 dX4_missingTo_22 rfl rfl rfl ?_
    refine mw_iload_n dX4_missingTo_25 2 rfl ?_
    refine ev_lald dX4_missingTo_26 (by decide) rfl m1 ?_
    refine mw_lload dX4_missingTo_27 4 rfl ?_
    refine mw_lmul dX4_missingTo_29 ?_
    refine mw_lsub dX4_missingTo_30 ?_
    refine mw_lload dX4_missingTo_31 0 rfl ?_
    obtain ⟨r2, e3, h⟩ := mbd h
    refine mv_callS_l (As := [.long ((a2 * (eL σ 31 a1.toNatClampNeg)) - ((eL σ 30 a1.toNatClampNeg) * a4)), .long (eL σ 31 a1.toNatClampNeg)]) lkS_RX4_102_yJ9_floorDiv_f86c9 dX4_missingTo_33 (k_J9_floorDiv_f86c9 e3) rfl rfl (Nat.le_of_ble_eq_true rfl) (by decide) (by decide) ?_
    refine mw_lneg dX4_missingTo_36 ?_
    exact mw_lret dX4_missingTo_37 rfl (ers_l h) rfl rfl
  · have h := mie hc h
    refine mw_lconst (v := 0) dX4_missingTo_15 (by decide) ?_
    exact mw_lret dX4_missingTo_16 rfl (ers_l h) rfl rfl

theorem dX9_raise_0 : decode cX9_raise 0 = .ok (.aload_n 0, 1) := by decide +kernel
theorem dX9_raise_1 : decode cX9_raise 1 = .ok (.getfield 12, 3) := by decide +kernel
theorem dX9_raise_4 : decode cX9_raise 4 = .ok (.iload_n 1, 1) := by decide +kernel
theorem dX9_raise_5 : decode cX9_raise 5 = .ok (.invokevirtual 116, 3) := by decide +kernel
theorem dX9_raise_8 : decode cX9_raise 8 = .ok (.ifCond .ne 9, 3) := by decide +kernel
theorem dX9_raise_11 : decode cX9_raise 11 = .ok (.aload_n 0, 1) := by decide +kernel
theorem dX9_raise_12 : decode cX9_raise 12 = .ok (.iconst 0, 1) := by decide +kernel
theorem dX9_raise_13 : decode cX9_raise 13 = .ok (.invokevirtual 79, 3) := by decide +kernel
theorem dX9_raise_16 : decode cX9_raise 16 = .ok (.ireturn, 1) := by decide +kernel
theorem dX9_raise_17 : decode cX9_raise 17 = .ok (.aload_n 0, 1) := by decide +kernel
theorem dX9_raise_18 : decode cX9_raise 18 = .ok (.getfield 25, 3) := by decide +kernel
theorem dX9_raise_21 : decode cX9_raise 21 = .ok (.aload_n 0, 1) := by decide +kernel
theorem dX9_raise_22 : decode cX9_raise 22 = .ok (.getfield 12, 3) := by decide +kernel
theorem dX9_raise_25 : decode cX9_raise 25 = .ok (.iload_n 1, 1) := by decide +kernel
theorem dX9_raise_26 : decode cX9_raise 26 = .ok (.invokevirtual 205, 3) := by decide +kernel
theorem dX9_raise_29 : decode cX9_raise 29 = .ok (.iconst 1, 1) := by decide +kernel
theorem dX9_raise_30 : decode cX9_raise 30 = .ok (.iload_n 1, 1) := by decide +kernel
theorem dX9_raise_31 : decode cX9_raise 31 = .ok (.ishl, 1) := by decide +kernel
theorem dX9_raise_32 : decode cX9_raise 32 = .ok (.istore_n 2, 1) := by decide +kernel
theorem dX9_raise_33 : decode cX9_raise 33 = .ok (.aload_n 0, 1) := by decide +kernel
theorem dX9_raise_34 : decode cX9_raise 34 = .ok (.getfield 25, 3) := by decide +kernel
theorem dX9_raise_37 : decode cX9_raise 37 = .ok (.iload_n 2, 1) := by decide +kernel
theorem dX9_raise_38 : decode cX9_raise 38 = .ok (.invokevirtual 209, 3) := by decide +kernel
theorem dX9_raise_41 : decode cX9_raise 41 = .ok (.istore_n 3, 1) := by decide +kernel
theorem dX9_raise_42 : decode cX9_raise 42 = .ok (.ldc2_w 212, 3) := by decide +kernel
theorem dX9_raise_45 : decode cX9_raise 45 = .ok (.lstore 4, 2) := by decide +kernel
theorem dX9_raise_47 : decode cX9_raise 47 = .ok (.iconst 0, 1) := by decide +kernel
theorem dX9_raise_48 : decode cX9_raise 48 = .ok (.istore 6, 2) := by decide +kernel
theorem dX9_raise_50 : decode cX9_raise 50 = .ok (.iload 6, 2) := by decide +kernel
theorem dX9_raise_52 : decode cX9_raise 52 = .ok (.aload_n 0, 1) := by decide +kernel
theorem dX9_raise_53 : decode cX9_raise 53 = .ok (.getfield 25, 3) := by decide +kernel
theorem dX9_raise_56 : decode cX9_raise 56 = .ok (.getfield 183, 3) := by decide +kernel
theorem dX9_raise_59 : decode cX9_raise 59 = .ok (.if_icmp .ge 89, 3) := by decide +kernel
theorem dX9_raise_62 : decode cX9_raise 62 = .ok (.aload_n 0, 1) := by decide +kernel
theorem dX9_raise_63 : decode cX9_raise 63 = .ok (.getfield 25, 3) := by decide +kernel
theorem dX9_raise_66 : decode cX9_raise 66 = .ok (.getfield 189, 3) := by decide +kernel
theorem dX9_raise_69 : decode cX9_raise 69 = .ok (.iload 6, 2) := by decide +kernel
theorem dX9_raise_71 : decode cX9_raise 71 = .ok (.iaload, 1) := by decide +kernel
theorem dX9_raise_72 : decode cX9_raise 72 = .ok (.iload_n 2, 1) := by decide +kernel
theorem dX9_raise_73 : decode cX9_raise 73 = .ok (.iand, 1) := by decide +kernel
theorem dX9_raise_74 : decode cX9_raise 74 = .ok (.ifCond .eq 68, 3) := by decide +kernel
theorem dX9_raise_77 : decode cX9_raise 77 = .ok (.aload_n 0, 1) := by decide +kernel
theorem dX9_raise_78 : decode cX9_raise 78 = .ok (.getfield 25, 3) := by decide +kernel
theorem dX9_raise_81 : decode cX9_raise 81 = .ok (.getfield 172, 3) := by decide +kernel
theorem dX9_raise_84 : decode cX9_raise 84 = .ok (.iload 6, 2) := by decide +kernel
theorem dX9_raise_86 : decode cX9_raise 86 = .ok (.laload, 1) := by decide +kernel
theorem dX9_raise_87 : decode cX9_raise 87 = .ok (.aload_n 0, 1) := by decide +kernel
theorem dX9_raise_88 : decode cX9_raise 88 = .ok (.getfield 12, 3) := by decide +kernel
theorem dX9_raise_91 : decode cX9_raise 91 = .ok (.getfield 122, 3) := by decide +kernel
theorem dX9_raise_94 : decode cX9_raise 94 = .ok (.iload_n 1, 1) := by decide +kernel
theorem dX9_raise_95 : decode cX9_raise 95 = .ok (.iaload, 1) := by decide +kernel
theorem dX9_raise_96 : decode cX9_raise 96 = .ok (.i2l, 1) := by decide +kernel
theorem dX9_raise_97 : decode cX9_raise 97 = .ok (.lsub, 1) := by decide +kernel
theorem dX9_raise_98 : decode cX9_raise 98 = .ok (.lstore 7, 2) := by decide +kernel
theorem dX9_raise_100 : decode cX9_raise 100 = .ok (.iload_n 3, 1) := by decide +kernel
theorem dX9_raise_101 : decode cX9_raise 101 = .ok (.iconst (-1), 1) := by decide +kernel
theorem dX9_raise_102 : decode cX9_raise 102 = .ok (.if_icmp .ne 9, 3) := by decide +kernel
theorem dX9_raise_105 : decode cX9_raise 105 = .ok (.ldc2_w 214, 3) := by decide +kernel
theorem dX9_raise_108 : decode cX9_raise 108 = .ok (.goto 23, 3) := by decide +kernel
theorem dX9_raise_111 : decode cX9_raise 111 = .ok (.aload_n 0, 1) := by decide +kernel
theorem dX9_raise_112 : decode cX9_raise 112 = .ok (.getfield 25, 3) := by decide +kernel
theorem dX9_raise_115 : decode cX9_raise 115 = .ok (.iload_n 3, 1) := by decide +kernel
theorem dX9_raise_116 : decode cX9_raise 116 = .ok (.lload 7, 2) := by decide +kernel
theorem dX9_raise_118 : decode cX9_raise 118 = .ok (.aload_n 0, 1) := by decide +kernel
theorem dX9_raise_119 : decode cX9_raise 119 = .ok (.getfield 25, 3) := by decide +kernel
theorem dX9_raise_122 : decode cX9_raise 122 = .ok (.getfield 176, 3) := by decide +kernel
theorem dX9_raise_125 : decode cX9_raise 125 = .ok (.iload 6, 2) := by decide +kernel
theorem dX9_raise_127 : decode cX9_raise 127 = .ok (.laload, 1) := by decide +kernel
theorem dX9_raise_128 : decode cX9_raise 128 = .ok (.invokevirtual 216, 3) := by decide +kernel
theorem dX9_raise_131 : decode cX9_raise 131 = .ok (.lstore 9, 2) := by decide +kernel
theorem dX9_raise_133 : decode cX9_raise 133 = .ok (.lload 4, 2) := by decide +kernel
theorem dX9_raise_135 : decode cX9_raise 135 = .ok (.lload 9, 2) := by decide +kernel
theorem dX9_raise_137 : decode cX9_raise 137 = .ok (.invokestatic 220, 3) := by decide +kernel
theorem dX9_raise_140 : decode cX9_raise 140 = .ok (.lstore 4, 2) := by decide +kernel
theorem dX9_raise_142 : decode cX9_raise 142 = .ok (.iinc 6 1, 3) := by decide +kernel
theorem dX9_raise_145 : decode cX9_raise 145 = .ok (.goto (-95), 3) := by decide +kernel
theorem dX9_raise_148 : decode cX9_raise 148 = .ok (.lload 4, 2) := by decide +kernel
theorem dX9_raise_150 : decode cX9_raise 150 = .ok (.ldc2_w 226, 3) := by decide +kernel
theorem dX9_raise_153 : decode cX9_raise 153 = .ok (.lcmp, 1) := by decide +kernel
theorem dX9_raise_154 : decode cX9_raise 154 = .ok (.ifCond .le 11, 3) := by decide +kernel
theorem dX9_raise_157 : decode cX9_raise 157 = .ok (.aload_n 0, 1) := by decide +kernel
theorem dX9_raise_158 : decode cX9_raise 158 = .ok (.iconst 3, 1) := by decide +kernel
theorem dX9_raise_159 : decode cX9_raise 159 = .ok (.invokevirtual 79, 3) := by decide +kernel
theorem dX9_raise_162 : decode cX9_raise 162 = .ok (.goto 12, 3) := by decide +kernel
theorem dX9_raise_165 : decode cX9_raise 165 = .ok (.lload 4, 2) := by decide +kernel
theorem dX9_raise_167 : decode cX9_raise 167 = .ok (.ldc2_w 214, 3) := by decide +kernel
theorem dX9_raise_170 : decode cX9_raise 170 = .ok (.invokestatic 228, 3) := by decide +kernel
theorem dX9_raise_173 : decode cX9_raise 173 = .ok (.l2i, 1) := by decide +kernel
theorem dX9_raise_174 : decode cX9_raise 174 = .ok (.ireturn, 1) := by decide +kernel
def e_X9_raise_J131 (a1 : Int32) (k50 : Int32 → Int32 → Int64 → Int32 → ES → Option (Int32 × ES)) (x2 : Int32) (x3 : Int32) (x4 : Int64) (x6 : Int32) (s0 : Int64) (σ : ES) : Option (Int32 × ES) := k50 x2 x3 (if s0 < x4 then s0 else x4) (x6 + 1) σ
set_option maxRecDepth 100000 in
set_option maxHeartbeats 4000000 in
theorem p_X9_raise_J131 {l : Launch} {E : MX} {out : (Int32 × ES)} {a1 : Int32} {k50 : Int32 → Int32 → Int64 → Int32 → ES → Option (Int32 × ES)} (hk50 : ∀ (z0 : Int32) (z1 : Int32) (z2 : Int64) (z3 : Int32) (τ : ES), k50 z0 z1 z2 z3 τ = some out → MV l E cX9_raise RX9 11 (some .int) 12 (82, (some (.int out.1)), mkS out.2) (mkS τ) 50 [(0, .ref 0), (1, .int a1), (2, .int z0), (3, .int z1), (4, .long z2), (6, .int z3)] []) {x2 : Int32} {x3 : Int32} {x4 : Int64} {x6 : Int32} {s0 : Int64} {σ : ES} (h : e_X9_raise_J131 a1 k50 x2 x3 x4 x6 s0 σ = some out) : MV l E cX9_raise RX9 11 (some .int) 12 (82, (some (.int out.1)), mkS out.2) (mkS σ) 131 [(0, .ref 0), (1, .int a1), (2, .int x2), (3, .int x3), (4, .long x4), (6, .int x6)] [.long s0] := by
  unfold e_X9_raise_J131 at h
  refine mw_lstore (L' := [(9, .long s0), (0, .ref 0), (1, .int a1), (2, .int x2), (3, .int x3), (4, .long x4), (6, .int x6)]) dX9_raise_131 (by decide) rfl ?_
  refine mw_lload dX9_raise_133 5 rfl ?_
  refine mw_lload dX9_raise_135 0 rfl ?_
  refine mv_minl dX9_raise_137 wt_171 wt_172 wt_173 wt_174 (by decide) (Nat.le_of_ble_eq_true rfl) ?_
  refine mw_lstore (L' := [(4, .long (if s0 < x4 then s0 else x4)), (9, .long s0), (0, .ref 0), (1, .int a1), (2, .int x2), (3, .int x3), (6, .int x6)]) dX9_raise_140 (by decide) rfl ?_
  refine mw_iinc (v := (x6 + 1)) (L' := [(6, .int (x6 + 1)), (4, .long (if s0 < x4 then s0 else x4)), (9, .long s0), (0, .ref 0), (1, .int a1), (2, .int x2), (3, .int x3)]) dX9_raise_142 6 rfl rfl (by decide) rfl ?_
  refine mw_goto (tgt := 50) dX9_raise_145 (by decide) ?_
  exact mw_sub (L' := [(0, .ref 0), (1, .int a1), (2, .int x2), (3, .int x3), (4, .long (if s0 < x4 then s0 else x4)), (6, .int (x6 + 1))]) [3, 4, 5, 6, 1, 0] rfl (hk50 _ _ _ _ _ h)
def e_X9_raise_L50 (a1 : Int32) : Nat → Int32 → Int32 → Int64 → Int32 → ES → Option (Int32 × ES)
  | 0, _, _, _, _, _ => none
  | n + 1, x2, x3, x4, x6, σ => if (eI σ 28 0) ≤ x6 then (if x4 ≤ (999999999 : Int64) then (some ((if (-999999999 : Int64) < x4 then x4 else (-999999999 : Int64)).toInt32, σ)) else ((e_X9_finding (3 : Int32) σ).bind (fun r1 => some (r1.1, r1.2)))) else (if mib x6 1296 = true then (if ((eI σ 29 x6.toNatClampNeg) &&& x2) = 0 then (e_X9_raise_L50 a1 n x2 x3 x4 (x6 + 1) σ) else (if mib a1 14 = true then (if x3 = (-1 : Int32) then (e_X9_raise_J131 a1 (e_X9_raise_L50 a1 n) x2 x3 x4 x6 (-999999999 : Int64) σ) else ((e_X4_missingTo σ x3 ((eL σ 30 x6.toNatClampNeg) - (eI σ 5 a1.toNatClampNeg).toInt64) (eL σ 31 x6.toNatClampNeg)).bind (fun r5 => e_X9_raise_J131 a1 (e_X9_raise_L50 a1 n) x2 x3 x4 x6 r5 σ))) else none)) else none)
set_option maxRecDepth 100000 in
set_option maxHeartbeats 4000000 in
theorem p_X9_raise_L50 {l : Launch} {E : MX} {out : (Int32 × ES)} {a1 : Int32}  : ∀ (n : Nat) (x2 : Int32) (x3 : Int32) (x4 : Int64) (x6 : Int32) (σ : ES), e_X9_raise_L50 a1 n x2 x3 x4 x6 σ = some out → MV l E cX9_raise RX9 11 (some .int) 12 (82, (some (.int out.1)), mkS out.2) (mkS σ) 50 [(0, .ref 0), (1, .int a1), (2, .int x2), (3, .int x3), (4, .long x4), (6, .int x6)] [] := by
  intro n
  induction n with
  | zero =>
    intro x2 x3 x4 x6 σ h
    exact nomatch h
  | succ n ih =>
    intro x2 x3 x4 x6 σ h
    rw [e_X9_raise_L50] at h
    refine mw_iload dX9_raise_50 5 rfl ?_
    refine mw_aload_n dX9_raise_52 0 rfl ?_
    refine ev_getR (q := 28) fd_RX9_25_8 dX9_raise_53 rfl rfl rfl ?_
    refine ev_getI fd_RX9_183_3 dX9_raise_56 rfl rfl ?_
    refine mw_icmp_ge (tgt := 148) dX9_raise_59 (by decide) (fun hc => ?_) (fun hc => ?_)
    · have h := mit hc h
      refine mw_lload dX9_raise_148 4 rfl ?_
      refine mw_ldc2 dX9_raise_150 wt_175 ?_
      refine mw_lc_le (tgt := 165) dX9_raise_153 dX9_raise_154 (by decide) (fun hc => ?_) (fun hc => ?_)
      · have h := mit hc h
        refine mw_lload dX9_raise_165 4 rfl ?_
        refine mw_ldc2 dX9_raise_167 wt_176 ?_
        refine mv_maxl dX9_raise_170 wt_177 wt_178 wt_173 wt_179 (by decide) (Nat.le_of_ble_eq_true rfl) ?_
        refine mw_l2i dX9_raise_173 ?_
        exact mw_iret dX9_raise_174 rfl (ers_im h) rfl rfl
      · have h := mie hc h
        refine mw_aload_n dX9_raise_157 0 rfl ?_
        refine mw_iconst (v := 3) dX9_raise_158 (by decide) ?_
        obtain ⟨r1, e2, h⟩ := mbd h
        refine mv_callV_i (As := [.int (3 : Int32)]) (ci := 8) lkV_RX9_79_yX9_finding dX9_raise_159 (k_X9_finding e2) rfl rfl rfl rfl (Nat.le_of_ble_eq_true rfl) (by decide) (by decide) ?_
        refine mw_goto (tgt := 174) dX9_raise_162 (by decide) ?_
        exact mw_iret dX9_raise_174 rfl (ers_im h) rfl rfl
    · have h := mie hc h
      refine mw_aload_n dX9_raise_62 0 rfl ?_
      refine ev_getR (q := 28) fd_RX9_25_8 dX9_raise_63 rfl rfl rfl ?_
      refine ev_getR (q := 29) fd_RX9_189_3 dX9_raise_66 rfl rfl rfl ?_
      refine mw_iload dX9_raise_69 5 rfl ?_
      obtain ⟨m3, h⟩ := mif h
      refine ev_iald dX9_raise_71 (by decide) rfl m3 ?_
      refine mw_iload_n dX9_raise_72 2 rfl ?_
      refine mw_iand dX9_raise_73 ?_
      refine mw_if_eq (tgt := 142) dX9_raise_74 (by decide) (fun hc => ?_) (fun hc => ?_)
      · have h := mit hc h
        refine mw_iinc (v := (x6 + 1)) (L' := [(6, .int (x6 + 1)), (0, .ref 0), (1, .int a1), (2, .int x2), (3, .int x3), (4, .long x4)]) dX9_raise_142 5 rfl rfl (by decide) rfl ?_
        refine mw_goto (tgt := 50) dX9_raise_145 (by decide) ?_
        exact mw_sub (L' := [(0, .ref 0), (1, .int a1), (2, .int x2), (3, .int x3), (4, .long x4), (6, .int (x6 + 1))]) [1, 2, 3, 4, 5, 0] rfl (ih _ _ _ _ _ h)
      · have h := mie hc h
        refine mw_aload_n dX9_raise_77 0 rfl ?_
        refine ev_getR (q := 28) fd_RX9_25_8 dX9_raise_78 rfl rfl rfl ?_
        refine ev_getR (q := 30) fd_RX9_172_3 dX9_raise_81 rfl rfl rfl ?_
        refine mw_iload dX9_raise_84 5 rfl ?_
        refine ev_lald dX9_raise_86 (by decide) rfl m3 ?_
        refine mw_aload_n dX9_raise_87 0 rfl ?_
        refine ev_getR (q := 1) fd_RX9_12_8 dX9_raise_88 rfl rfl rfl ?_
        refine ev_getR (q := 5) fd_RX9_122_0 dX9_raise_91 rfl rfl rfl ?_
        refine mw_iload_n dX9_raise_94 1 rfl ?_
        obtain ⟨m4, h⟩ := mif h
        refine ev_iald dX9_raise_95 (by decide) rfl m4 ?_
        refine mw_i2l dX9_raise_96 ?_
        refine mw_lsub dX9_raise_97 ?_
        refine mw_lstore (L' := [(7, .long ((eL σ 30 x6.toNatClampNeg) - (eI σ 5 a1.toNatClampNeg).toInt64)), (0, .ref 0), (1, .int a1), (2, .int x2), (3, .int x3), (4, .long x4), (6, .int x6)]) dX9_raise_98 (by decide) rfl ?_
        refine mw_iload_n dX9_raise_100 4 rfl ?_
        refine mw_iconst (v := -1) dX9_raise_101 (by decide) ?_
        refine mw_icmp_ne (tgt := 111) dX9_raise_102 (by decide) (fun hc => ?_) (fun hc => ?_)
        · have h := mie hc h
          refine mw_aload_n dX9_raise_111 1 rfl ?_
          refine ev_getR (q := 28) fd_RX9_25_8 dX9_raise_112 rfl rfl rfl ?_
          refine mw_iload_n dX9_raise_115 4 rfl ?_
          refine mw_lload dX9_raise_116 0 rfl ?_
          refine mw_aload_n dX9_raise_118 1 rfl ?_
          refine ev_getR (q := 28) fd_RX9_25_8 dX9_raise_119 rfl rfl rfl ?_
          refine ev_getR (q := 31) fd_RX9_176_3 dX9_raise_122 rfl rfl rfl ?_
          refine mw_iload dX9_raise_125 6 rfl ?_
          refine ev_lald dX9_raise_127 (by decide) rfl m3 ?_
          obtain ⟨r5, e6, h⟩ := mbd h
          refine mv_callV_l (As := [.int x3, .long ((eL σ 30 x6.toNatClampNeg) - (eI σ 5 a1.toNatClampNeg).toInt64), .long (eL σ 31 x6.toNatClampNeg)]) (ci := 3) lkV_RX9_216_yX4_missingTo dX9_raise_128 (k_X4_missingTo e6) rfl rfl rfl rfl (Nat.le_of_ble_eq_true rfl) (by decide) (by decide) ?_
          exact mw_sub (L' := [(0, .ref 0), (1, .int a1), (2, .int x2), (3, .int x3), (4, .long x4), (6, .int x6)]) [1, 2, 3, 4, 5, 6] rfl (p_X9_raise_J131 ih h)
        · have h := mit hc h
          refine mw_ldc2 dX9_raise_105 wt_176 ?_
          refine mw_goto (tgt := 131) dX9_raise_108 (by decide) ?_
          exact mw_sub (L' := [(0, .ref 0), (1, .int a1), (2, .int x2), (3, .int x3), (4, .long x4), (6, .int x6)]) [1, 2, 3, 4, 5, 6] rfl (p_X9_raise_J131 ih h)
def e_X9_raise (a1 : Int32) (σ : ES) : Option (Int32 × ES) := (e_X1_isWay_1 σ a1).bind (fun r1 => if r1 = 0 then ((e_X9_finding (0 : Int32) σ).bind (fun r7 => some (r7.1, r7.2))) else ((e_X4_gather_1 a1 σ).bind (fun r3 => (e_X4_best r3 ((1 : Int32) <<< (a1 &&& 31))).bind (fun r5 => e_X9_raise_L50 a1 mN ((1 : Int32) <<< (a1 &&& 31)) r5 (1000000000 : Int64) (0 : Int32) r3))))
set_option maxRecDepth 100000 in
set_option maxHeartbeats 4000000 in
theorem k_X9_raise {l : Launch} {σ : ES} {a1 : Int32} {out : (Int32 × ES)} (h : e_X9_raise a1 σ = some out) : MK l yX9_raise cX9_raise 11 (some .int) 12 [.ref 0, .int a1] (mkS σ) (some (.int out.1)) (mkS out.2) := by
  unfold e_X9_raise at h
  refine mw_entry (own := RX9) (ini := false) (L := [(0, .ref 0), (1, .int a1)]) (by decide +kernel) rfl (fun h => nomatch h) rfl (Nat.le_of_ble_eq_true rfl) (Nat.le_of_ble_eq_true rfl) (fun E => ?_)
  refine mw_aload_n dX9_raise_0 0 rfl ?_
  refine ev_getR (q := 1) fd_RX9_12_8 dX9_raise_1 rfl rfl rfl ?_
  refine mw_iload_n dX9_raise_4 1 rfl ?_
  obtain ⟨r1, e2, h⟩ := mbd h
  refine mv_callV_i (As := [.int a1]) (ci := 0) lkV_RX9_116_yX1_isWay dX9_raise_5 (k_X1_isWay_1 e2) rfl rfl rfl rfl (Nat.le_of_ble_eq_true rfl) (by decide) (by decide) ?_
  refine mw_if_ne (tgt := 17) dX9_raise_8 (by decide) (fun hc => ?_) (fun hc => ?_)
  · have h := mie hc h
    refine mw_aload_n dX9_raise_17 0 rfl ?_
    refine ev_getR (q := 28) fd_RX9_25_8 dX9_raise_18 rfl rfl rfl ?_
    refine mw_aload_n dX9_raise_21 0 rfl ?_
    refine ev_getR (q := 1) fd_RX9_12_8 dX9_raise_22 rfl rfl rfl ?_
    refine mw_iload_n dX9_raise_25 1 rfl ?_
    obtain ⟨r3, e4, h⟩ := mbd h
    refine mv_callV_v (As := [.ref 1, .int a1]) (ci := 3) lkV_RX9_205_yX4_gather dX9_raise_26 (k_X4_gather_1 e4) rfl rfl rfl rfl (Nat.le_of_ble_eq_true rfl) (by decide) (by decide) ?_
    refine mw_iconst (v := 1) dX9_raise_29 (by decide) ?_
    refine mw_iload_n dX9_raise_30 1 rfl ?_
    refine mw_ishl dX9_raise_31 ?_
    refine mw_istore_n (L' := [(2, .int ((1 : Int32) <<< (a1 &&& 31))), (0, .ref 0), (1, .int a1)]) dX9_raise_32 rfl (by decide) rfl ?_
    refine mw_aload_n dX9_raise_33 1 rfl ?_
    refine ev_getR (q := 28) fd_RX9_25_8 dX9_raise_34 rfl rfl rfl ?_
    refine mw_iload_n dX9_raise_37 0 rfl ?_
    obtain ⟨r5, e6, h⟩ := mbd h
    refine mv_callV_i (As := [.int ((1 : Int32) <<< (a1 &&& 31))]) (ci := 3) lkV_RX9_209_yX4_best dX9_raise_38 (k_X4_best e6) rfl rfl rfl rfl (Nat.le_of_ble_eq_true rfl) (by decide) (by decide) ?_
    refine mw_istore_n (L' := [(3, .int r5), (2, .int ((1 : Int32) <<< (a1 &&& 31))), (0, .ref 0), (1, .int a1)]) dX9_raise_41 rfl (by decide) rfl ?_
    refine mw_ldc2 dX9_raise_42 wt_188 ?_
    refine mw_lstore (L' := [(4, .long (1000000000 : Int64)), (3, .int r5), (2, .int ((1 : Int32) <<< (a1 &&& 31))), (0, .ref 0), (1, .int a1)]) dX9_raise_45 (by decide) rfl ?_
    refine mw_iconst (v := 0) dX9_raise_47 (by decide) ?_
    refine mw_istore (L' := [(6, .int (0 : Int32)), (4, .long (1000000000 : Int64)), (3, .int r5), (2, .int ((1 : Int32) <<< (a1 &&& 31))), (0, .ref 0), (1, .int a1)]) dX9_raise_48 (by decide) rfl ?_
    exact mw_sub (L' := [(0, .ref 0), (1, .int a1), (2, .int ((1 : Int32) <<< (a1 &&& 31))), (3, .int r5), (4, .long (1000000000 : Int64)), (6, .int (0 : Int32))]) [4, 5, 3, 2, 1, 0] rfl (p_X9_raise_L50  mN _ _ _ _ _ h)
  · have h := mit hc h
    refine mw_aload_n dX9_raise_11 0 rfl ?_
    refine mw_iconst (v := 0) dX9_raise_12 (by decide) ?_
    obtain ⟨r7, e8, h⟩ := mbd h
    refine mv_callV_i (As := [.int (0 : Int32)]) (ci := 8) lkV_RX9_79_yX9_finding dX9_raise_13 (k_X9_finding e8) rfl rfl rfl rfl (Nat.le_of_ble_eq_true rfl) (by decide) (by decide) ?_
    exact mw_iret dX9_raise_16 rfl (ers_im h) rfl rfl

theorem dX9_lose_0 : decode cX9_lose 0 = .ok (.aload_n 0, 1) := by decide +kernel
theorem dX9_lose_1 : decode cX9_lose 1 = .ok (.invokevirtual 168, 3) := by decide +kernel
theorem dX9_lose_4 : decode cX9_lose 4 = .ok (.iconst (-1), 1) := by decide +kernel
theorem dX9_lose_5 : decode cX9_lose 5 = .ok (.if_icmp .ne 9, 3) := by decide +kernel
theorem dX9_lose_8 : decode cX9_lose 8 = .ok (.aload_n 0, 1) := by decide +kernel
theorem dX9_lose_9 : decode cX9_lose 9 = .ok (.iconst 3, 1) := by decide +kernel
theorem dX9_lose_10 : decode cX9_lose 10 = .ok (.invokevirtual 79, 3) := by decide +kernel
theorem dX9_lose_13 : decode cX9_lose 13 = .ok (.ireturn, 1) := by decide +kernel
theorem dX9_lose_14 : decode cX9_lose 14 = .ok (.iconst (-1), 1) := by decide +kernel
theorem dX9_lose_15 : decode cX9_lose 15 = .ok (.istore_n 1, 1) := by decide +kernel
theorem dX9_lose_16 : decode cX9_lose 16 = .ok (.iconst (-1), 1) := by decide +kernel
theorem dX9_lose_17 : decode cX9_lose 17 = .ok (.istore_n 2, 1) := by decide +kernel
theorem dX9_lose_18 : decode cX9_lose 18 = .ok (.iconst 0, 1) := by decide +kernel
theorem dX9_lose_19 : decode cX9_lose 19 = .ok (.istore_n 3, 1) := by decide +kernel
theorem dX9_lose_20 : decode cX9_lose 20 = .ok (.iload_n 3, 1) := by decide +kernel
theorem dX9_lose_21 : decode cX9_lose 21 = .ok (.aload_n 0, 1) := by decide +kernel
theorem dX9_lose_22 : decode cX9_lose 22 = .ok (.getfield 12, 3) := by decide +kernel
theorem dX9_lose_25 : decode cX9_lose 25 = .ok (.getfield 83, 3) := by decide +kernel
theorem dX9_lose_28 : decode cX9_lose 28 = .ok (.if_icmp .ge 64, 3) := by decide +kernel
theorem dX9_lose_31 : decode cX9_lose 31 = .ok (.aload_n 0, 1) := by decide +kernel
theorem dX9_lose_32 : decode cX9_lose 32 = .ok (.getfield 12, 3) := by decide +kernel
theorem dX9_lose_35 : decode cX9_lose 35 = .ok (.getfield 128, 3) := by decide +kernel
theorem dX9_lose_38 : decode cX9_lose 38 = .ok (.iload_n 3, 1) := by decide +kernel
theorem dX9_lose_39 : decode cX9_lose 39 = .ok (.iaload, 1) := by decide +kernel
theorem dX9_lose_40 : decode cX9_lose 40 = .ok (.ifCond .ne 46, 3) := by decide +kernel
theorem dX9_lose_43 : decode cX9_lose 43 = .ok (.aload_n 0, 1) := by decide +kernel
theorem dX9_lose_44 : decode cX9_lose 44 = .ok (.getfield 25, 3) := by decide +kernel
theorem dX9_lose_47 : decode cX9_lose 47 = .ok (.iconst 1, 1) := by decide +kernel
theorem dX9_lose_48 : decode cX9_lose 48 = .ok (.iload_n 3, 1) := by decide +kernel
theorem dX9_lose_49 : decode cX9_lose 49 = .ok (.ishl, 1) := by decide +kernel
theorem dX9_lose_50 : decode cX9_lose 50 = .ok (.invokevirtual 209, 3) := by decide +kernel
theorem dX9_lose_53 : decode cX9_lose 53 = .ok (.istore 4, 2) := by decide +kernel
theorem dX9_lose_55 : decode cX9_lose 55 = .ok (.iload 4, 2) := by decide +kernel
theorem dX9_lose_57 : decode cX9_lose 57 = .ok (.iconst (-1), 1) := by decide +kernel
theorem dX9_lose_58 : decode cX9_lose 58 = .ok (.if_icmp .ne 5, 3) := by decide +kernel
theorem dX9_lose_61 : decode cX9_lose 61 = .ok (.iload_n 3, 1) := by decide +kernel
theorem dX9_lose_62 : decode cX9_lose 62 = .ok (.ireturn, 1) := by decide +kernel
theorem dX9_lose_63 : decode cX9_lose 63 = .ok (.iload_n 1, 1) := by decide +kernel
theorem dX9_lose_64 : decode cX9_lose 64 = .ok (.iconst (-1), 1) := by decide +kernel
theorem dX9_lose_65 : decode cX9_lose 65 = .ok (.if_icmp .eq 16, 3) := by decide +kernel
theorem dX9_lose_68 : decode cX9_lose 68 = .ok (.aload_n 0, 1) := by decide +kernel
theorem dX9_lose_69 : decode cX9_lose 69 = .ok (.getfield 25, 3) := by decide +kernel
theorem dX9_lose_72 : decode cX9_lose 72 = .ok (.iload 4, 2) := by decide +kernel
theorem dX9_lose_74 : decode cX9_lose 74 = .ok (.iload_n 2, 1) := by decide +kernel
theorem dX9_lose_75 : decode cX9_lose 75 = .ok (.invokevirtual 186, 3) := by decide +kernel
theorem dX9_lose_78 : decode cX9_lose 78 = .ok (.ifCond .ge 8, 3) := by decide +kernel
theorem dX9_lose_81 : decode cX9_lose 81 = .ok (.iload_n 3, 1) := by decide +kernel
theorem dX9_lose_82 : decode cX9_lose 82 = .ok (.istore_n 1, 1) := by decide +kernel
theorem dX9_lose_83 : decode cX9_lose 83 = .ok (.iload 4, 2) := by decide +kernel
theorem dX9_lose_85 : decode cX9_lose 85 = .ok (.istore_n 2, 1) := by decide +kernel
theorem dX9_lose_86 : decode cX9_lose 86 = .ok (.iinc 3 1, 3) := by decide +kernel
theorem dX9_lose_89 : decode cX9_lose 89 = .ok (.goto (-69), 3) := by decide +kernel
theorem dX9_lose_92 : decode cX9_lose 92 = .ok (.iload_n 1, 1) := by decide +kernel
theorem dX9_lose_93 : decode cX9_lose 93 = .ok (.ireturn, 1) := by decide +kernel
def e_X9_lose_L20  : Nat → Int32 → Int32 → Int32 → ES → Option (Int32 × ES)
  | 0, _, _, _, _ => none
  | n + 1, x1, x2, x3, σ => if (eI σ 1 2) ≤ x3 then (some (x1, σ)) else (if mib x3 14 = true then (if (eI σ 7 x3.toNatClampNeg) = 0 then ((e_X4_best σ ((1 : Int32) <<< (x3 &&& 31))).bind (fun r2 => if r2 = (-1 : Int32) then (some (x3, σ)) else (if x1 = (-1 : Int32) then (e_X9_lose_L20 n x3 r2 (x3 + 1) σ) else ((e_X4_order σ r2 x2).bind (fun r4 => if 0 ≤ r4 then (e_X9_lose_L20 n x1 x2 (x3 + 1) σ) else (e_X9_lose_L20 n x3 r2 (x3 + 1) σ)))))) else (e_X9_lose_L20 n x1 x2 (x3 + 1) σ)) else none)
set_option maxRecDepth 100000 in
set_option maxHeartbeats 4000000 in
theorem p_X9_lose_L20 {l : Launch} {E : MX} {out : (Int32 × ES)}   : ∀ (n : Nat) (x1 : Int32) (x2 : Int32) (x3 : Int32) (σ : ES), e_X9_lose_L20 n x1 x2 x3 σ = some out → MV l E cX9_lose RX9 5 (some .int) 13 (82, (some (.int out.1)), mkS out.2) (mkS σ) 20 [(0, .ref 0), (1, .int x1), (2, .int x2), (3, .int x3)] [] := by
  intro n
  induction n with
  | zero =>
    intro x1 x2 x3 σ h
    exact nomatch h
  | succ n ih =>
    intro x1 x2 x3 σ h
    rw [e_X9_lose_L20] at h
    refine mw_iload_n dX9_lose_20 3 rfl ?_
    refine mw_aload_n dX9_lose_21 0 rfl ?_
    refine ev_getR (q := 1) fd_RX9_12_8 dX9_lose_22 rfl rfl rfl ?_
    refine ev_getI fd_RX9_83_0 dX9_lose_25 rfl rfl ?_
    refine mw_icmp_ge (tgt := 92) dX9_lose_28 (by decide) (fun hc => ?_) (fun hc => ?_)
    · have h := mit hc h
      refine mw_iload_n dX9_lose_92 1 rfl ?_
      exact mw_iret dX9_lose_93 rfl (ers_im h) rfl rfl
    · have h := mie hc h
      refine mw_aload_n dX9_lose_31 0 rfl ?_
      refine ev_getR (q := 1) fd_RX9_12_8 dX9_lose_32 rfl rfl rfl ?_
      refine ev_getR (q := 7) fd_RX9_128_0 dX9_lose_35 rfl rfl rfl ?_
      refine mw_iload_n dX9_lose_38 3 rfl ?_
      obtain ⟨m1, h⟩ := mif h
      refine ev_iald dX9_lose_39 (by decide) rfl m1 ?_
      refine mw_if_ne (tgt := 86) dX9_lose_40 (by decide) (fun hc => ?_) (fun hc => ?_)
      · have h := mie hc h
        refine mw_iinc (v := (x3 + 1)) (L' := [(3, .int (x3 + 1)), (0, .ref 0), (1, .int x1), (2, .int x2)]) dX9_lose_86 3 rfl rfl (by decide) rfl ?_
        refine mw_goto (tgt := 20) dX9_lose_89 (by decide) ?_
        exact mw_sub (L' := [(0, .ref 0), (1, .int x1), (2, .int x2), (3, .int (x3 + 1))]) [1, 2, 3, 0] rfl (ih _ _ _ _ h)
      · have h := mit hc h
        refine mw_aload_n dX9_lose_43 0 rfl ?_
        refine ev_getR (q := 28) fd_RX9_25_8 dX9_lose_44 rfl rfl rfl ?_
        refine mw_iconst (v := 1) dX9_lose_47 (by decide) ?_
        refine mw_iload_n dX9_lose_48 3 rfl ?_
        refine mw_ishl dX9_lose_49 ?_
        obtain ⟨r2, e3, h⟩ := mbd h
        refine mv_callV_i (As := [.int ((1 : Int32) <<< (x3 &&& 31))]) (ci := 3) lkV_RX9_209_yX4_best dX9_lose_50 (k_X4_best e3) rfl rfl rfl rfl (Nat.le_of_ble_eq_true rfl) (by decide) (by decide) ?_
        refine mw_istore (L' := [(4, .int r2), (0, .ref 0), (1, .int x1), (2, .int x2), (3, .int x3)]) dX9_lose_53 (by decide) rfl ?_
        refine mw_iload dX9_lose_55 0 rfl ?_
        refine mw_iconst (v := -1) dX9_lose_57 (by decide) ?_
        refine mw_icmp_ne (tgt := 63) dX9_lose_58 (by decide) (fun hc => ?_) (fun hc => ?_)
        · have h := mie hc h
          refine mw_iload_n dX9_lose_63 2 rfl ?_
          refine mw_iconst (v := -1) dX9_lose_64 (by decide) ?_
          refine mw_icmp_eq (tgt := 81) dX9_lose_65 (by decide) (fun hc => ?_) (fun hc => ?_)
          · have h := mit hc h
            refine mw_iload_n dX9_lose_81 4 rfl ?_
            refine mw_istore_n (L' := [(1, .int x3), (4, .int r2), (0, .ref 0), (2, .int x2), (3, .int x3)]) dX9_lose_82 rfl (by decide) rfl ?_
            refine mw_iload dX9_lose_83 1 rfl ?_
            refine mw_istore_n (L' := [(2, .int r2), (1, .int x3), (4, .int r2), (0, .ref 0), (3, .int x3)]) dX9_lose_85 rfl (by decide) rfl ?_
            refine mw_iinc (v := (x3 + 1)) (L' := [(3, .int (x3 + 1)), (2, .int r2), (1, .int x3), (4, .int r2), (0, .ref 0)]) dX9_lose_86 4 rfl rfl (by decide) rfl ?_
            refine mw_goto (tgt := 20) dX9_lose_89 (by decide) ?_
            exact mw_sub (L' := [(0, .ref 0), (1, .int x3), (2, .int r2), (3, .int (x3 + 1))]) [4, 2, 1, 0] rfl (ih _ _ _ _ h)
          · have h := mie hc h
            refine mw_aload_n dX9_lose_68 1 rfl ?_
            refine ev_getR (q := 28) fd_RX9_25_8 dX9_lose_69 rfl rfl rfl ?_
            refine mw_iload dX9_lose_72 0 rfl ?_
            refine mw_iload_n dX9_lose_74 3 rfl ?_
            obtain ⟨r4, e5, h⟩ := mbd h
            refine mv_callV_i (As := [.int r2, .int x2]) (ci := 3) lkV_RX9_186_yX4_order dX9_lose_75 (k_X4_order e5) rfl rfl rfl rfl (Nat.le_of_ble_eq_true rfl) (by decide) (by decide) ?_
            refine mw_if_ge (tgt := 86) dX9_lose_78 (by decide) (fun hc => ?_) (fun hc => ?_)
            · have h := mit hc h
              refine mw_iinc (v := (x3 + 1)) (L' := [(3, .int (x3 + 1)), (4, .int r2), (0, .ref 0), (1, .int x1), (2, .int x2)]) dX9_lose_86 4 rfl rfl (by decide) rfl ?_
              refine mw_goto (tgt := 20) dX9_lose_89 (by decide) ?_
              exact mw_sub (L' := [(0, .ref 0), (1, .int x1), (2, .int x2), (3, .int (x3 + 1))]) [2, 3, 4, 0] rfl (ih _ _ _ _ h)
            · have h := mie hc h
              refine mw_iload_n dX9_lose_81 4 rfl ?_
              refine mw_istore_n (L' := [(1, .int x3), (4, .int r2), (0, .ref 0), (2, .int x2), (3, .int x3)]) dX9_lose_82 rfl (by decide) rfl ?_
              refine mw_iload dX9_lose_83 1 rfl ?_
              refine mw_istore_n (L' := [(2, .int r2), (1, .int x3), (4, .int r2), (0, .ref 0), (3, .int x3)]) dX9_lose_85 rfl (by decide) rfl ?_
              refine mw_iinc (v := (x3 + 1)) (L' := [(3, .int (x3 + 1)), (2, .int r2), (1, .int x3), (4, .int r2), (0, .ref 0)]) dX9_lose_86 4 rfl rfl (by decide) rfl ?_
              refine mw_goto (tgt := 20) dX9_lose_89 (by decide) ?_
              exact mw_sub (L' := [(0, .ref 0), (1, .int x3), (2, .int r2), (3, .int (x3 + 1))]) [4, 2, 1, 0] rfl (ih _ _ _ _ h)
        · have h := mit hc h
          refine mw_iload_n dX9_lose_61 4 rfl ?_
          exact mw_iret dX9_lose_62 rfl (ers_im h) rfl rfl
def e_X9_lose (σ : ES) : Option (Int32 × ES) := (e_X9_bestRing σ).bind (fun r1 => if r1.1 = (-1 : Int32) then ((e_X9_finding (3 : Int32) r1.2).bind (fun r3 => some (r3.1, r3.2))) else (e_X9_lose_L20 mN (-1 : Int32) (-1 : Int32) (0 : Int32) r1.2))
set_option maxRecDepth 100000 in
set_option maxHeartbeats 4000000 in
theorem k_X9_lose {l : Launch} {σ : ES}  {out : (Int32 × ES)} (h : e_X9_lose σ = some out) : MK l yX9_lose cX9_lose 5 (some .int) 13 [.ref 0] (mkS σ) (some (.int out.1)) (mkS out.2) := by
  unfold e_X9_lose at h
  refine mw_entry (own := RX9) (ini := false) (L := [(0, .ref 0)]) (by decide +kernel) rfl (fun h => nomatch h) rfl (Nat.le_of_ble_eq_true rfl) (Nat.le_of_ble_eq_true rfl) (fun E => ?_)
  refine mw_aload_n dX9_lose_0 0 rfl ?_
  obtain ⟨r1, e2, h⟩ := mbd h
  refine mv_callV_i (As := []) (ci := 8) lkV_RX9_168_yX9_bestRing dX9_lose_1 (k_X9_bestRing e2) rfl rfl rfl rfl (Nat.le_of_ble_eq_true rfl) (by decide) (by decide) ?_
  refine mw_iconst (v := -1) dX9_lose_4 (by decide) ?_
  refine mw_icmp_ne (tgt := 14) dX9_lose_5 (by decide) (fun hc => ?_) (fun hc => ?_)
  · have h := mie hc h
    refine mw_iconst (v := -1) dX9_lose_14 (by decide) ?_
    refine mw_istore_n (L' := [(1, .int (-1 : Int32)), (0, .ref 0)]) dX9_lose_15 rfl (by decide) rfl ?_
    refine mw_iconst (v := -1) dX9_lose_16 (by decide) ?_
    refine mw_istore_n (L' := [(2, .int (-1 : Int32)), (1, .int (-1 : Int32)), (0, .ref 0)]) dX9_lose_17 rfl (by decide) rfl ?_
    refine mw_iconst (v := 0) dX9_lose_18 (by decide) ?_
    refine mw_istore_n (L' := [(3, .int (0 : Int32)), (2, .int (-1 : Int32)), (1, .int (-1 : Int32)), (0, .ref 0)]) dX9_lose_19 rfl (by decide) rfl ?_
    exact mw_sub (L' := [(0, .ref 0), (1, .int (-1 : Int32)), (2, .int (-1 : Int32)), (3, .int (0 : Int32))]) [3, 2, 1, 0] rfl (p_X9_lose_L20  mN _ _ _ _ h)
  · have h := mit hc h
    refine mw_aload_n dX9_lose_8 0 rfl ?_
    refine mw_iconst (v := 3) dX9_lose_9 (by decide) ?_
    obtain ⟨r3, e4, h⟩ := mbd h
    refine mv_callV_i (As := [.int (3 : Int32)]) (ci := 8) lkV_RX9_79_yX9_finding dX9_lose_10 (k_X9_finding e4) rfl rfl rfl rfl (Nat.le_of_ble_eq_true rfl) (by decide) (by decide) ?_
    exact mw_iret dX9_lose_13 rfl (ers_im h) rfl rfl

def e_X1_bringsOf_19 (σ : ES) (a1 : Int32) : Option Int32 := if mib a1 14 = true then ((e_X9_brings 3 (eI σ 20 a1.toNatClampNeg) (eI σ 23 a1.toNatClampNeg) (eI σ 19 1)).bind (fun r2 => some r2)) else none
set_option maxRecDepth 100000 in
set_option maxHeartbeats 4000000 in
theorem k_X1_bringsOf_19 {l : Launch} {σ : ES} {a1 : Int32} {out : Int32} (h : e_X1_bringsOf_19 σ a1 = some out) : MK l yX1_bringsOf cX1_bringsOf 2 (some .int) 5 [.ref 19, .int a1] (mkS σ) (some (.int out)) (mkS σ) := by
  unfold e_X1_bringsOf_19 at h
  refine mw_entry (own := RX1) (ini := false) (L := [(0, .ref 19), (1, .int a1)]) (by decide +kernel) rfl (fun h => nomatch h) rfl (Nat.le_of_ble_eq_true rfl) (Nat.le_of_ble_eq_true rfl) (fun E => ?_)
  refine mw_aload_n dX1_bringsOf_0 0 rfl ?_
  refine ev_getR (q := 20) fd_RX1_15_0 dX1_bringsOf_1 rfl rfl rfl ?_
  refine mw_iload_n dX1_bringsOf_4 1 rfl ?_
  obtain ⟨m1, h⟩ := mif h
  refine ev_iald dX1_bringsOf_5 (by decide) rfl m1 ?_
  refine mw_aload_n dX1_bringsOf_6 0 rfl ?_
  refine ev_getR (q := 23) fd_RX1_25_0 dX1_bringsOf_7 rfl rfl rfl ?_
  refine mw_iload_n dX1_bringsOf_10 1 rfl ?_
  refine ev_iald dX1_bringsOf_11 (by decide) rfl m1 ?_
  refine mw_aload_n dX1_bringsOf_12 0 rfl ?_
  refine ev_getI fd_RX1_50_0 dX1_bringsOf_13 rfl rfl ?_
  obtain ⟨r2, e3, h⟩ := mbd h
  refine mv_callSN_i (As := [.int (eI σ 20 a1.toNatClampNeg), .int (eI σ 23 a1.toNatClampNeg), .int (eI σ 19 1)]) lkN_RX1_53_yX9_brings dX1_bringsOf_16 (k_X9_brings 3 _ _ _ _ _ e3) rfl rfl (Nat.le_of_ble_eq_true rfl) (by decide) (by decide) ?_
  exact mw_iret dX1_bringsOf_19 rfl (ers_i h) rfl rfl

def e_X1_lastsOf_19 (σ : ES) (a1 : Int32) : Option Int32 := if mib a1 14 = true then ((e_X9_lasts 3 (eI σ 20 a1.toNatClampNeg) (eI σ 24 a1.toNatClampNeg) (eI σ 19 1)).bind (fun r2 => some r2)) else none
set_option maxRecDepth 100000 in
set_option maxHeartbeats 4000000 in
theorem k_X1_lastsOf_19 {l : Launch} {σ : ES} {a1 : Int32} {out : Int32} (h : e_X1_lastsOf_19 σ a1 = some out) : MK l yX1_lastsOf cX1_lastsOf 2 (some .int) 5 [.ref 19, .int a1] (mkS σ) (some (.int out)) (mkS σ) := by
  unfold e_X1_lastsOf_19 at h
  refine mw_entry (own := RX1) (ini := false) (L := [(0, .ref 19), (1, .int a1)]) (by decide +kernel) rfl (fun h => nomatch h) rfl (Nat.le_of_ble_eq_true rfl) (Nat.le_of_ble_eq_true rfl) (fun E => ?_)
  refine mw_aload_n dX1_lastsOf_0 0 rfl ?_
  refine ev_getR (q := 20) fd_RX1_15_0 dX1_lastsOf_1 rfl rfl rfl ?_
  refine mw_iload_n dX1_lastsOf_4 1 rfl ?_
  obtain ⟨m1, h⟩ := mif h
  refine ev_iald dX1_lastsOf_5 (by decide) rfl m1 ?_
  refine mw_aload_n dX1_lastsOf_6 0 rfl ?_
  refine ev_getR (q := 24) fd_RX1_28_0 dX1_lastsOf_7 rfl rfl rfl ?_
  refine mw_iload_n dX1_lastsOf_10 1 rfl ?_
  refine ev_iald dX1_lastsOf_11 (by decide) rfl m1 ?_
  refine mw_aload_n dX1_lastsOf_12 0 rfl ?_
  refine ev_getI fd_RX1_50_0 dX1_lastsOf_13 rfl rfl ?_
  obtain ⟨r2, e3, h⟩ := mbd h
  refine mv_callSN_i (As := [.int (eI σ 20 a1.toNatClampNeg), .int (eI σ 24 a1.toNatClampNeg), .int (eI σ 19 1)]) lkN_RX1_57_yX9_lasts dX1_lastsOf_16 (k_X9_lasts 3 _ _ _ _ _ e3) rfl rfl (Nat.le_of_ble_eq_true rfl) (by decide) (by decide) ?_
  exact mw_iret dX1_lastsOf_19 rfl (ers_i h) rfl rfl

def e_X4_gather_19_L132 (a2 : Int32) : Nat → Int32 → ES → Option ES
  | 0, _, _ => none
  | n + 1, x3, σ => if (eI σ 19 0) ≤ x3 then (some σ) else ((e_X4_goOn 8 x3 x3 ((1 : Int32) <<< (x3 &&& 31)) (0 : Int32) (0 : Int64) (0 : Int64) σ).bind (fun r1 => e_X4_gather_19_L132 a2 n (x3 + 1) r1))
set_option maxRecDepth 100000 in
set_option maxHeartbeats 4000000 in
theorem p_X4_gather_19_L132 {l : Launch} {E : MX} {out : ES} {a2 : Int32}  : ∀ (n : Nat) (x3 : Int32) (σ : ES), e_X4_gather_19_L132 a2 n x3 σ = some out → MV l E cX4_gather RX4 5 none 11 (82, none, mkS out) (mkS σ) 132 [(0, .ref 28), (1, .ref 19), (2, .int a2), (3, .int x3)] [] := by
  intro n
  induction n with
  | zero =>
    intro x3 σ h
    exact nomatch h
  | succ n ih =>
    intro x3 σ h
    rw [e_X4_gather_19_L132] at h
    refine mw_iload_n dX4_gather_132 3 rfl ?_
    refine mw_aload_n dX4_gather_133 1 rfl ?_
    refine ev_getI fd_RX4_67_0 dX4_gather_134 rfl rfl ?_
    refine mw_icmp_ge (tgt := 158) dX4_gather_137 (by decide) (fun hc => ?_) (fun hc => ?_)
    · have h := mit hc h
      exact mw_vret dX4_gather_158 rfl (ers_vm h) rfl rfl
    · have h := mie hc h
      refine mw_aload_n dX4_gather_140 0 rfl ?_
      refine mw_iload_n dX4_gather_141 3 rfl ?_
      refine mw_iload_n dX4_gather_142 3 rfl ?_
      refine mw_iconst (v := 1) dX4_gather_143 (by decide) ?_
      refine mw_iload_n dX4_gather_144 3 rfl ?_
      refine mw_ishl dX4_gather_145 ?_
      refine mw_iconst (v := 0) dX4_gather_146 (by decide) ?_
      refine mw_lconst (v := 0) dX4_gather_147 (by decide) ?_
      refine mw_lconst (v := 0) dX4_gather_148 (by decide) ?_
      obtain ⟨r1, e2, h⟩ := mbd h
      refine mv_callV_v (As := [.int x3, .int x3, .int ((1 : Int32) <<< (x3 &&& 31)), .int (0 : Int32), .long (0 : Int64), .long (0 : Int64)]) (ci := 3) lkV_RX4_70_yX4_goOn dX4_gather_149 (k_X4_goOn 8 _ _ _ _ _ _ _ _ e2) rfl rfl rfl rfl (Nat.le_of_ble_eq_true rfl) (by decide) (by decide) ?_
      refine mw_iinc (v := (x3 + 1)) (L' := [(3, .int (x3 + 1)), (0, .ref 28), (1, .ref 19), (2, .int a2)]) dX4_gather_152 3 rfl rfl (by decide) rfl ?_
      refine mw_goto (tgt := 132) dX4_gather_155 (by decide) ?_
      exact mw_sub (L' := [(0, .ref 28), (1, .ref 19), (2, .int a2), (3, .int (x3 + 1))]) [1, 2, 3, 0] rfl (ih _ _ h)
def e_X4_gather_19_J86 (a2 : Int32) (k28 : Int32 → ES → Option ES) (x3 : Int32) (σ : ES) : Option ES := if mib x3 14 = true then (if mib (eI σ 21 x3.toNatClampNeg) 6 = true then (if mib (((eI σ 21 x3.toNatClampNeg) * (14 : Int32)) + (eI σ 34 (eI σ 21 x3.toNatClampNeg).toNatClampNeg)) 84 = true then (k28 (x3 + 1) (uI (uI σ 35 (((eI σ 21 x3.toNatClampNeg) * (14 : Int32)) + (eI σ 34 (eI σ 21 x3.toNatClampNeg).toNatClampNeg)).toNatClampNeg x3) 34 (eI σ 21 x3.toNatClampNeg).toNatClampNeg ((eI (uI σ 35 (((eI σ 21 x3.toNatClampNeg) * (14 : Int32)) + (eI σ 34 (eI σ 21 x3.toNatClampNeg).toNatClampNeg)).toNatClampNeg x3) 34 (eI σ 21 x3.toNatClampNeg).toNatClampNeg) + (1 : Int32)))) else none) else none) else none
set_option maxRecDepth 100000 in
set_option maxHeartbeats 4000000 in
theorem p_X4_gather_19_J86 {l : Launch} {E : MX} {out : ES} {a2 : Int32} {k28 : Int32 → ES → Option ES} (hk28 : ∀ (z0 : Int32) (τ : ES), k28 z0 τ = some out → MV l E cX4_gather RX4 5 none 11 (82, none, mkS out) (mkS τ) 28 [(0, .ref 28), (1, .ref 19), (2, .int a2), (3, .int z0)] []) {x3 : Int32} {σ : ES} (h : e_X4_gather_19_J86 a2 k28 x3 σ = some out) : MV l E cX4_gather RX4 5 none 11 (82, none, mkS out) (mkS σ) 86 [(0, .ref 28), (1, .ref 19), (2, .int a2), (3, .int x3)] [] := by
  unfold e_X4_gather_19_J86 at h
  refine mw_aload_n dX4_gather_86 1 rfl ?_
  refine ev_getR (q := 21) fd_RX4_64_0 dX4_gather_87 rfl rfl rfl ?_
  refine mw_iload_n dX4_gather_90 3 rfl ?_
  obtain ⟨m1, h⟩ := mif h
  refine ev_iald dX4_gather_91 (by decide) rfl m1 ?_
  refine mw_istore (L' := [(4, .int (eI σ 21 x3.toNatClampNeg)), (0, .ref 28), (1, .ref 19), (2, .int a2), (3, .int x3)]) dX4_gather_92 (by decide) rfl ?_
  refine mw_aload_n dX4_gather_94 1 rfl ?_
  refine ev_getR (q := 35) fd_RX4_32_3 dX4_gather_95 rfl rfl rfl ?_
  refine mw_iload dX4_gather_98 0 rfl ?_
  refine mw_bipush (v := 14) dX4_gather_100 (by decide) ?_
  refine mw_imul dX4_gather_102 ?_
  refine mw_aload_n dX4_gather_103 1 rfl ?_
  refine ev_getR (q := 34) fd_RX4_29_3 dX4_gather_104 rfl rfl rfl ?_
  refine mw_iload dX4_gather_107 0 rfl ?_
  obtain ⟨m2, h⟩ := mif h
  refine ev_iald dX4_gather_109 (by decide) rfl m2 ?_
  refine mw_iadd dX4_gather_110 ?_
  refine mw_iload_n dX4_gather_111 4 rfl ?_
  obtain ⟨m3, h⟩ := mif h
  refine ev_iast dX4_gather_112 (by decide) rfl m3 ?_
  refine mw_aload_n dX4_gather_113 1 rfl ?_
  refine ev_getR (q := 34) fd_RX4_29_3 dX4_gather_114 rfl rfl rfl ?_
  refine mw_iload dX4_gather_117 0 rfl ?_
  refine mw_dup2 dX4_gather_119 rfl rfl ?_
  refine ev_iald dX4_gather_120 (by decide) rfl m2 ?_
  refine mw_iconst (v := 1) dX4_gather_121 (by decide) ?_
  refine mw_iadd dX4_gather_122 ?_
  refine ev_iast dX4_gather_123 (by decide) rfl m2 ?_
  refine mw_iinc (v := (x3 + 1)) (L' := [(3, .int (x3 + 1)), (4, .int (eI σ 21 x3.toNatClampNeg)), (0, .ref 28), (1, .ref 19), (2, .int a2)]) dX4_gather_124 4 rfl rfl (by decide) rfl ?_
  refine mw_goto (tgt := 28) dX4_gather_127 (by decide) ?_
  exact mw_sub (L' := [(0, .ref 28), (1, .ref 19), (2, .int a2), (3, .int (x3 + 1))]) [2, 3, 4, 0] rfl (hk28 _ _ h)
def e_X4_gather_19_L28 (a2 : Int32) : Nat → Int32 → ES → Option ES
  | 0, _, _ => none
  | n + 1, x3, σ => if (eI σ 19 2) ≤ x3 then (e_X4_gather_19_L132 a2 mN (0 : Int32) σ) else (if mib x3 14 = true then ((e_X1_bringsOf_19 (uI σ 36 x3.toNatClampNeg (eI σ 22 x3.toNatClampNeg)) x3).bind (fun r2 => (e_X1_lastsOf_19 (uL (uI σ 36 x3.toNatClampNeg (eI σ 22 x3.toNatClampNeg)) 37 x3.toNatClampNeg r2.toInt64) x3).bind (fun r4 => if (eI (uL (uL (uI σ 36 x3.toNatClampNeg (eI σ 22 x3.toNatClampNeg)) 37 x3.toNatClampNeg r2.toInt64) 38 x3.toNatClampNeg r4.toInt64) 25 x3.toNatClampNeg) = 0 then (e_X4_gather_19_J86 a2 (e_X4_gather_19_L28 a2 n) x3 (uL (uL (uI σ 36 x3.toNatClampNeg (eI σ 22 x3.toNatClampNeg)) 37 x3.toNatClampNeg r2.toInt64) 38 x3.toNatClampNeg r4.toInt64)) else (if x3 = a2 then (e_X4_gather_19_J86 a2 (e_X4_gather_19_L28 a2 n) x3 (uL (uL (uI σ 36 x3.toNatClampNeg (eI σ 22 x3.toNatClampNeg)) 37 x3.toNatClampNeg r2.toInt64) 38 x3.toNatClampNeg r4.toInt64)) else (e_X4_gather_19_L28 a2 n (x3 + 1) (uL (uL (uI σ 36 x3.toNatClampNeg (eI σ 22 x3.toNatClampNeg)) 37 x3.toNatClampNeg r2.toInt64) 38 x3.toNatClampNeg r4.toInt64)))))) else none)
set_option maxRecDepth 100000 in
set_option maxHeartbeats 4000000 in
theorem p_X4_gather_19_L28 {l : Launch} {E : MX} {out : ES} {a2 : Int32}  : ∀ (n : Nat) (x3 : Int32) (σ : ES), e_X4_gather_19_L28 a2 n x3 σ = some out → MV l E cX4_gather RX4 5 none 11 (82, none, mkS out) (mkS σ) 28 [(0, .ref 28), (1, .ref 19), (2, .int a2), (3, .int x3)] [] := by
  intro n
  induction n with
  | zero =>
    intro x3 σ h
    exact nomatch h
  | succ n ih =>
    intro x3 σ h
    rw [e_X4_gather_19_L28] at h
    refine mw_iload_n dX4_gather_28 3 rfl ?_
    refine mw_aload_n dX4_gather_29 1 rfl ?_
    refine ev_getI fd_RX4_48_0 dX4_gather_30 rfl rfl ?_
    refine mw_icmp_ge (tgt := 130) dX4_gather_33 (by decide) (fun hc => ?_) (fun hc => ?_)
    · have h := mit hc h
      refine mw_iconst (v := 0) dX4_gather_130 (by decide) ?_
      refine mw_istore_n (L' := [(3, .int (0 : Int32)), (0, .ref 28), (1, .ref 19), (2, .int a2)]) dX4_gather_131 rfl (by decide) rfl ?_
      exact mw_sub (L' := [(0, .ref 28), (1, .ref 19), (2, .int a2), (3, .int (0 : Int32))]) [1, 2, 3, 0] rfl (p_X4_gather_19_L132  mN _ _ h)
    · have h := mie hc h
      refine mw_aload_n dX4_gather_36 0 rfl ?_
      refine ev_getR (q := 36) fd_RX4_35_3 dX4_gather_37 rfl rfl rfl ?_
      refine mw_iload_n dX4_gather_40 3 rfl ?_
      refine mw_aload_n dX4_gather_41 1 rfl ?_
      refine ev_getR (q := 22) fd_RX4_53_0 dX4_gather_42 rfl rfl rfl ?_
      refine mw_iload_n dX4_gather_45 3 rfl ?_
      obtain ⟨m1, h⟩ := mif h
      refine ev_iald dX4_gather_46 (by decide) rfl m1 ?_
      refine ev_iast dX4_gather_47 (by decide) rfl m1 ?_
      refine mw_aload_n dX4_gather_48 0 rfl ?_
      refine ev_getR (q := 37) fd_RX4_38_3 dX4_gather_49 rfl rfl rfl ?_
      refine mw_iload_n dX4_gather_52 3 rfl ?_
      refine mw_aload_n dX4_gather_53 1 rfl ?_
      refine mw_iload_n dX4_gather_54 3 rfl ?_
      obtain ⟨r2, e3, h⟩ := mbd h
      refine mv_callV_i (As := [.int x3]) (ci := 0) lkV_RX4_54_yX1_bringsOf dX4_gather_55 (k_X1_bringsOf_19 e3) rfl rfl rfl rfl (Nat.le_of_ble_eq_true rfl) (by decide) (by decide) ?_
      refine mw_i2l dX4_gather_58 ?_
      refine ev_last dX4_gather_59 (by decide) rfl m1 ?_
      refine mw_aload_n dX4_gather_60 0 rfl ?_
      refine ev_getR (q := 38) fd_RX4_41_3 dX4_gather_61 rfl rfl rfl ?_
      refine mw_iload_n dX4_gather_64 3 rfl ?_
      refine mw_aload_n dX4_gather_65 1 rfl ?_
      refine mw_iload_n dX4_gather_66 3 rfl ?_
      obtain ⟨r4, e5, h⟩ := mbd h
      refine mv_callV_i (As := [.int x3]) (ci := 0) lkV_RX4_58_yX1_lastsOf dX4_gather_67 (k_X1_lastsOf_19 e5) rfl rfl rfl rfl (Nat.le_of_ble_eq_true rfl) (by decide) (by decide) ?_
      refine mw_i2l dX4_gather_70 ?_
      refine ev_last dX4_gather_71 (by decide) rfl m1 ?_
      refine mw_aload_n dX4_gather_72 1 rfl ?_
      refine ev_getR (q := 25) fd_RX4_61_0 dX4_gather_73 rfl rfl rfl ?_
      refine mw_iload_n dX4_gather_76 3 rfl ?_
      refine ev_iald dX4_gather_77 (by decide) rfl m1 ?_
      refine mw_if_eq (tgt := 86) dX4_gather_78 (by decide) (fun hc => ?_) (fun hc => ?_)
      · have h := mit hc h
        exact mw_sub (L' := [(0, .ref 28), (1, .ref 19), (2, .int a2), (3, .int x3)]) [0, 1, 2, 3] rfl (p_X4_gather_19_J86 ih h)
      · have h := mie hc h
        refine mw_iload_n dX4_gather_81 3 rfl ?_
        refine mw_iload_n dX4_gather_82 2 rfl ?_
        refine mw_icmp_ne (tgt := 124) dX4_gather_83 (by decide) (fun hc => ?_) (fun hc => ?_)
        · have h := mie hc h
          refine mw_iinc (v := (x3 + 1)) (L' := [(3, .int (x3 + 1)), (0, .ref 28), (1, .ref 19), (2, .int a2)]) dX4_gather_124 3 rfl rfl (by decide) rfl ?_
          refine mw_goto (tgt := 28) dX4_gather_127 (by decide) ?_
          exact mw_sub (L' := [(0, .ref 28), (1, .ref 19), (2, .int a2), (3, .int (x3 + 1))]) [1, 2, 3, 0] rfl (ih _ _ h)
        · have h := mit hc h
          exact mw_sub (L' := [(0, .ref 28), (1, .ref 19), (2, .int a2), (3, .int x3)]) [0, 1, 2, 3] rfl (p_X4_gather_19_J86 ih h)
def e_X4_gather_19_L7 (a2 : Int32) : Nat → Int32 → ES → Option ES
  | 0, _, _ => none
  | n + 1, x3, σ => if (6 : Int32) ≤ x3 then (e_X4_gather_19_L28 a2 mN (0 : Int32) σ) else (if mib x3 6 = true then (e_X4_gather_19_L7 a2 n (x3 + 1) (uI σ 34 x3.toNatClampNeg (0 : Int32))) else none)
set_option maxRecDepth 100000 in
set_option maxHeartbeats 4000000 in
theorem p_X4_gather_19_L7 {l : Launch} {E : MX} {out : ES} {a2 : Int32}  : ∀ (n : Nat) (x3 : Int32) (σ : ES), e_X4_gather_19_L7 a2 n x3 σ = some out → MV l E cX4_gather RX4 5 none 11 (82, none, mkS out) (mkS σ) 7 [(0, .ref 28), (1, .ref 19), (2, .int a2), (3, .int x3)] [] := by
  intro n
  induction n with
  | zero =>
    intro x3 σ h
    exact nomatch h
  | succ n ih =>
    intro x3 σ h
    rw [e_X4_gather_19_L7] at h
    refine mw_iload_n dX4_gather_7 3 rfl ?_
    refine mw_bipush (v := 6) dX4_gather_8 (by decide) ?_
    refine mw_icmp_ge (tgt := 26) dX4_gather_10 (by decide) (fun hc => ?_) (fun hc => ?_)
    · have h := mit hc h
      refine mw_iconst (v := 0) dX4_gather_26 (by decide) ?_
      refine mw_istore_n (L' := [(3, .int (0 : Int32)), (0, .ref 28), (1, .ref 19), (2, .int a2)]) dX4_gather_27 rfl (by decide) rfl ?_
      exact mw_sub (L' := [(0, .ref 28), (1, .ref 19), (2, .int a2), (3, .int (0 : Int32))]) [1, 2, 3, 0] rfl (p_X4_gather_19_L28  mN _ _ h)
    · have h := mie hc h
      refine mw_aload_n dX4_gather_13 0 rfl ?_
      refine ev_getR (q := 34) fd_RX4_29_3 dX4_gather_14 rfl rfl rfl ?_
      refine mw_iload_n dX4_gather_17 3 rfl ?_
      refine mw_iconst (v := 0) dX4_gather_18 (by decide) ?_
      obtain ⟨m1, h⟩ := mif h
      refine ev_iast dX4_gather_19 (by decide) rfl m1 ?_
      refine mw_iinc (v := (x3 + 1)) (L' := [(3, .int (x3 + 1)), (0, .ref 28), (1, .ref 19), (2, .int a2)]) dX4_gather_20 3 rfl rfl (by decide) rfl ?_
      refine mw_goto (tgt := 7) dX4_gather_23 (by decide) ?_
      exact mw_sub (L' := [(0, .ref 28), (1, .ref 19), (2, .int a2), (3, .int (x3 + 1))]) [1, 2, 3, 0] rfl (ih _ _ h)
def e_X4_gather_19 (a2 : Int32) (σ : ES) : Option ES := e_X4_gather_19_L7 a2 mN (0 : Int32) (uI σ 28 0 (0 : Int32))
set_option maxRecDepth 100000 in
set_option maxHeartbeats 4000000 in
theorem k_X4_gather_19 {l : Launch} {σ : ES} {a2 : Int32} {out : ES} (h : e_X4_gather_19 a2 σ = some out) : MK l yX4_gather cX4_gather 5 none 11 [.ref 28, .ref 19, .int a2] (mkS σ) none (mkS out) := by
  unfold e_X4_gather_19 at h
  refine mw_entry (own := RX4) (ini := false) (L := [(0, .ref 28), (1, .ref 19), (2, .int a2)]) (by decide +kernel) rfl (fun h => nomatch h) rfl (Nat.le_of_ble_eq_true rfl) (Nat.le_of_ble_eq_true rfl) (fun E => ?_)
  refine mw_aload_n dX4_gather_0 0 rfl ?_
  refine mw_iconst (v := 0) dX4_gather_1 (by decide) ?_
  refine ev_putI fw_RX4_44_3 dX4_gather_2 rfl rfl ?_
  refine mw_iconst (v := 0) dX4_gather_5 (by decide) ?_
  refine mw_istore_n (L' := [(3, .int (0 : Int32)), (0, .ref 28), (1, .ref 19), (2, .int a2)]) dX4_gather_6 rfl (by decide) rfl ?_
  exact mw_sub (L' := [(0, .ref 28), (1, .ref 19), (2, .int a2), (3, .int (0 : Int32))]) [1, 2, 3, 0] rfl (p_X4_gather_19_L7  mN _ _ h)

theorem dX4_rises_0 : decode cX4_rises 0 = .ok (.aload_n 0, 1) := by decide +kernel
theorem dX4_rises_1 : decode cX4_rises 1 = .ok (.aload_n 1, 1) := by decide +kernel
theorem dX4_rises_2 : decode cX4_rises 2 = .ok (.iconst (-1), 1) := by decide +kernel
theorem dX4_rises_3 : decode cX4_rises 3 = .ok (.invokevirtual 92, 3) := by decide +kernel
theorem dX4_rises_6 : decode cX4_rises 6 = .ok (.aload_n 0, 1) := by decide +kernel
theorem dX4_rises_7 : decode cX4_rises 7 = .ok (.iconst 0, 1) := by decide +kernel
theorem dX4_rises_8 : decode cX4_rises 8 = .ok (.invokevirtual 96, 3) := by decide +kernel
theorem dX4_rises_11 : decode cX4_rises 11 = .ok (.istore_n 2, 1) := by decide +kernel
theorem dX4_rises_12 : decode cX4_rises 12 = .ok (.iload_n 2, 1) := by decide +kernel
theorem dX4_rises_13 : decode cX4_rises 13 = .ok (.iconst (-1), 1) := by decide +kernel
theorem dX4_rises_14 : decode cX4_rises 14 = .ok (.if_icmp .ne 5, 3) := by decide +kernel
theorem dX4_rises_17 : decode cX4_rises 17 = .ok (.iconst 0, 1) := by decide +kernel
theorem dX4_rises_18 : decode cX4_rises 18 = .ok (.ireturn, 1) := by decide +kernel
theorem dX4_rises_19 : decode cX4_rises 19 = .ok (.aload_n 0, 1) := by decide +kernel
theorem dX4_rises_20 : decode cX4_rises 20 = .ok (.getfield 88, 3) := by decide +kernel
theorem dX4_rises_23 : decode cX4_rises 23 = .ok (.lconst 0, 1) := by decide +kernel
theorem dX4_rises_24 : decode cX4_rises 24 = .ok (.lcmp, 1) := by decide +kernel
theorem dX4_rises_25 : decode cX4_rises 25 = .ok (.ifCond .eq 31, 3) := by decide +kernel
theorem dX4_rises_28 : decode cX4_rises 28 = .ok (.aload_n 0, 1) := by decide +kernel
theorem dX4_rises_29 : decode cX4_rises 29 = .ok (.getfield 15, 3) := by decide +kernel
theorem dX4_rises_32 : decode cX4_rises 32 = .ok (.iload_n 2, 1) := by decide +kernel
theorem dX4_rises_33 : decode cX4_rises 33 = .ok (.laload, 1) := by decide +kernel
theorem dX4_rises_34 : decode cX4_rises 34 = .ok (.aload_n 0, 1) := by decide +kernel
theorem dX4_rises_35 : decode cX4_rises 35 = .ok (.getfield 88, 3) := by decide +kernel
theorem dX4_rises_38 : decode cX4_rises 38 = .ok (.lmul, 1) := by decide +kernel
theorem dX4_rises_39 : decode cX4_rises 39 = .ok (.aload_n 0, 1) := by decide +kernel
theorem dX4_rises_40 : decode cX4_rises 40 = .ok (.getfield 99, 3) := by decide +kernel
theorem dX4_rises_43 : decode cX4_rises 43 = .ok (.aload_n 0, 1) := by decide +kernel
theorem dX4_rises_44 : decode cX4_rises 44 = .ok (.getfield 19, 3) := by decide +kernel
theorem dX4_rises_47 : decode cX4_rises 47 = .ok (.iload_n 2, 1) := by decide +kernel
theorem dX4_rises_48 : decode cX4_rises 48 = .ok (.laload, 1) := by decide +kernel
theorem dX4_rises_49 : decode cX4_rises 49 = .ok (.lmul, 1) := by decide +kernel
theorem dX4_rises_50 : decode cX4_rises 50 = .ok (.lcmp, 1) := by decide +kernel
theorem dX4_rises_51 : decode cX4_rises 51 = .ok (.ifCond .gt 5, 3) := by decide +kernel
theorem dX4_rises_54 : decode cX4_rises 54 = .ok (.iconst 0, 1) := by decide +kernel
theorem dX4_rises_55 : decode cX4_rises 55 = .ok (.ireturn, 1) := by decide +kernel
theorem dX4_rises_56 : decode cX4_rises 56 = .ok (.aload_n 0, 1) := by decide +kernel
theorem dX4_rises_57 : decode cX4_rises 57 = .ok (.aload_n 0, 1) := by decide +kernel
theorem dX4_rises_58 : decode cX4_rises 58 = .ok (.getfield 15, 3) := by decide +kernel
theorem dX4_rises_61 : decode cX4_rises 61 = .ok (.iload_n 2, 1) := by decide +kernel
theorem dX4_rises_62 : decode cX4_rises 62 = .ok (.laload, 1) := by decide +kernel
theorem dX4_rises_63 : decode cX4_rises 63 = .ok (.putfield 99, 3) := by decide +kernel
theorem dX4_rises_66 : decode cX4_rises 66 = .ok (.aload_n 0, 1) := by decide +kernel
theorem dX4_rises_67 : decode cX4_rises 67 = .ok (.aload_n 0, 1) := by decide +kernel
theorem dX4_rises_68 : decode cX4_rises 68 = .ok (.getfield 19, 3) := by decide +kernel
theorem dX4_rises_71 : decode cX4_rises 71 = .ok (.iload_n 2, 1) := by decide +kernel
theorem dX4_rises_72 : decode cX4_rises 72 = .ok (.laload, 1) := by decide +kernel
theorem dX4_rises_73 : decode cX4_rises 73 = .ok (.putfield 88, 3) := by decide +kernel
theorem dX4_rises_76 : decode cX4_rises 76 = .ok (.iconst 1, 1) := by decide +kernel
theorem dX4_rises_77 : decode cX4_rises 77 = .ok (.ireturn, 1) := by decide +kernel
def e_X4_rises_19_J56 (x2 : Int32) (σ : ES) : Option (Int32 × ES) := if mib x2 1296 = true then (some ((1 : Int32), (uL (uL σ 28 11 (eL σ 30 x2.toNatClampNeg)) 28 12 (eL (uL σ 28 11 (eL σ 30 x2.toNatClampNeg)) 31 x2.toNatClampNeg)))) else none
set_option maxRecDepth 100000 in
set_option maxHeartbeats 4000000 in
theorem p_X4_rises_19_J56 {l : Launch} {E : MX} {out : (Int32 × ES)}   {x2 : Int32} {σ : ES} (h : e_X4_rises_19_J56 x2 σ = some out) : MV l E cX4_rises RX4 3 (some .boolean) 12 (82, (some (.int out.1)), mkS out.2) (mkS σ) 56 [(0, .ref 28), (1, .ref 19), (2, .int x2)] [] := by
  unfold e_X4_rises_19_J56 at h
  refine mw_aload_n dX4_rises_56 0 rfl ?_
  refine mw_aload_n dX4_rises_57 0 rfl ?_
  refine ev_getR (q := 30) fd_RX4_15_3 dX4_rises_58 rfl rfl rfl ?_
  refine mw_iload_n dX4_rises_61 2 rfl ?_
  obtain ⟨m1, h⟩ := mif h
  refine ev_lald dX4_rises_62 (by decide) rfl m1 ?_
  refine ev_putL fw_RX4_99_3 dX4_rises_63 rfl rfl ?_
  refine mw_aload_n dX4_rises_66 0 rfl ?_
  refine mw_aload_n dX4_rises_67 0 rfl ?_
  refine ev_getR (q := 31) fd_RX4_19_3 dX4_rises_68 rfl rfl rfl ?_
  refine mw_iload_n dX4_rises_71 2 rfl ?_
  refine ev_lald dX4_rises_72 (by decide) rfl m1 ?_
  refine ev_putL fw_RX4_88_3 dX4_rises_73 rfl rfl ?_
  refine mw_iconst (v := 1) dX4_rises_76 (by decide) ?_
  exact mw_zret dX4_rises_77 rfl (by decide) (ers_im h) rfl rfl
def e_X4_rises_19 (σ : ES) : Option (Int32 × ES) := (e_X4_gather_19 (-1 : Int32) σ).bind (fun r1 => (e_X4_best r1 (0 : Int32)).bind (fun r3 => if r3 = (-1 : Int32) then (some ((0 : Int32), r1)) else (if (eL r1 28 12) = (0 : Int64) then (e_X4_rises_19_J56 r3 r1) else (if mib r3 1296 = true then (if ((eL r1 28 11) * (eL r1 31 r3.toNatClampNeg)) < ((eL r1 30 r3.toNatClampNeg) * (eL r1 28 12)) then (e_X4_rises_19_J56 r3 r1) else (some ((0 : Int32), r1))) else none))))
set_option maxRecDepth 100000 in
set_option maxHeartbeats 4000000 in
theorem k_X4_rises_19 {l : Launch} {σ : ES}  {out : (Int32 × ES)} (h : e_X4_rises_19 σ = some out) : MK l yX4_rises cX4_rises 3 (some .boolean) 12 [.ref 28, .ref 19] (mkS σ) (some (.int out.1)) (mkS out.2) := by
  unfold e_X4_rises_19 at h
  refine mw_entry (own := RX4) (ini := false) (L := [(0, .ref 28), (1, .ref 19)]) (by decide +kernel) rfl (fun h => nomatch h) rfl (Nat.le_of_ble_eq_true rfl) (Nat.le_of_ble_eq_true rfl) (fun E => ?_)
  refine mw_aload_n dX4_rises_0 0 rfl ?_
  refine mw_aload_n dX4_rises_1 1 rfl ?_
  refine mw_iconst (v := -1) dX4_rises_2 (by decide) ?_
  obtain ⟨r1, e2, h⟩ := mbd h
  refine mv_callV_v (As := [.ref 19, .int (-1 : Int32)]) (ci := 3) lkV_RX4_92_yX4_gather dX4_rises_3 (k_X4_gather_19 e2) rfl rfl rfl rfl (Nat.le_of_ble_eq_true rfl) (by decide) (by decide) ?_
  refine mw_aload_n dX4_rises_6 0 rfl ?_
  refine mw_iconst (v := 0) dX4_rises_7 (by decide) ?_
  obtain ⟨r3, e4, h⟩ := mbd h
  refine mv_callV_i (As := [.int (0 : Int32)]) (ci := 3) lkV_RX4_96_yX4_best dX4_rises_8 (k_X4_best e4) rfl rfl rfl rfl (Nat.le_of_ble_eq_true rfl) (by decide) (by decide) ?_
  refine mw_istore_n (L' := [(2, .int r3), (0, .ref 28), (1, .ref 19)]) dX4_rises_11 rfl (by decide) rfl ?_
  refine mw_iload_n dX4_rises_12 0 rfl ?_
  refine mw_iconst (v := -1) dX4_rises_13 (by decide) ?_
  refine mw_icmp_ne (tgt := 19) dX4_rises_14 (by decide) (fun hc => ?_) (fun hc => ?_)
  · have h := mie hc h
    refine mw_aload_n dX4_rises_19 1 rfl ?_
    refine ev_getL fd_RX4_88_3 dX4_rises_20 rfl rfl ?_
    refine mw_lconst (v := 0) dX4_rises_23 (by decide) ?_
    refine mw_lc_eq (tgt := 56) dX4_rises_24 dX4_rises_25 (by decide) (fun hc => ?_) (fun hc => ?_)
    · have h := mit hc h
      exact mw_sub (L' := [(0, .ref 28), (1, .ref 19), (2, .int r3)]) [1, 2, 0] rfl (p_X4_rises_19_J56  h)
    · have h := mie hc h
      refine mw_aload_n dX4_rises_28 1 rfl ?_
      refine ev_getR (q := 30) fd_RX4_15_3 dX4_rises_29 rfl rfl rfl ?_
      refine mw_iload_n dX4_rises_32 0 rfl ?_
      obtain ⟨m5, h⟩ := mif h
      refine ev_lald dX4_rises_33 (by decide) rfl m5 ?_
      refine mw_aload_n dX4_rises_34 1 rfl ?_
      refine ev_getL fd_RX4_88_3 dX4_rises_35 rfl rfl ?_
      refine mw_lmul dX4_rises_38 ?_
      refine mw_aload_n dX4_rises_39 1 rfl ?_
      refine ev_getL fd_RX4_99_3 dX4_rises_40 rfl rfl ?_
      refine mw_aload_n dX4_rises_43 1 rfl ?_
      refine ev_getR (q := 31) fd_RX4_19_3 dX4_rises_44 rfl rfl rfl ?_
      refine mw_iload_n dX4_rises_47 0 rfl ?_
      refine ev_lald dX4_rises_48 (by decide) rfl m5 ?_
      refine mw_lmul dX4_rises_49 ?_
      refine mw_lc_gt (tgt := 56) dX4_rises_50 dX4_rises_51 (by decide) (fun hc => ?_) (fun hc => ?_)
      · have h := mit hc h
        exact mw_sub (L' := [(0, .ref 28), (1, .ref 19), (2, .int r3)]) [1, 2, 0] rfl (p_X4_rises_19_J56  h)
      · have h := mie hc h
        refine mw_iconst (v := 0) dX4_rises_54 (by decide) ?_
        exact mw_zret dX4_rises_55 rfl (by decide) (ers_im h) rfl rfl
  · have h := mit hc h
    refine mw_iconst (v := 0) dX4_rises_17 (by decide) ?_
    exact mw_zret dX4_rises_18 rfl (by decide) (ers_im h) rfl rfl

theorem dX1_become_0 : decode cX1_become 0 = .ok (.aload_n 0, 1) := by decide +kernel
theorem dX1_become_1 : decode cX1_become 1 = .ok (.aload_n 1, 1) := by decide +kernel
theorem dX1_become_2 : decode cX1_become 2 = .ok (.getfield 9, 3) := by decide +kernel
theorem dX1_become_5 : decode cX1_become 5 = .ok (.putfield 9, 3) := by decide +kernel
theorem dX1_become_8 : decode cX1_become 8 = .ok (.aload_n 0, 1) := by decide +kernel
theorem dX1_become_9 : decode cX1_become 9 = .ok (.aload_n 1, 1) := by decide +kernel
theorem dX1_become_10 : decode cX1_become 10 = .ok (.getfield 50, 3) := by decide +kernel
theorem dX1_become_13 : decode cX1_become 13 = .ok (.putfield 50, 3) := by decide +kernel
theorem dX1_become_16 : decode cX1_become 16 = .ok (.aload_n 0, 1) := by decide +kernel
theorem dX1_become_17 : decode cX1_become 17 = .ok (.aload_n 1, 1) := by decide +kernel
theorem dX1_become_18 : decode cX1_become 18 = .ok (.getfield 44, 3) := by decide +kernel
theorem dX1_become_21 : decode cX1_become 21 = .ok (.putfield 44, 3) := by decide +kernel
theorem dX1_become_24 : decode cX1_become 24 = .ok (.aload_n 0, 1) := by decide +kernel
theorem dX1_become_25 : decode cX1_become 25 = .ok (.aload_n 1, 1) := by decide +kernel
theorem dX1_become_26 : decode cX1_become 26 = .ok (.getfield 47, 3) := by decide +kernel
theorem dX1_become_29 : decode cX1_become 29 = .ok (.putfield 47, 3) := by decide +kernel
theorem dX1_become_32 : decode cX1_become 32 = .ok (.aload_n 1, 1) := by decide +kernel
theorem dX1_become_33 : decode cX1_become 33 = .ok (.getfield 15, 3) := by decide +kernel
theorem dX1_become_36 : decode cX1_become 36 = .ok (.iconst 0, 1) := by decide +kernel
theorem dX1_become_37 : decode cX1_become 37 = .ok (.aload_n 0, 1) := by decide +kernel
theorem dX1_become_38 : decode cX1_become 38 = .ok (.getfield 15, 3) := by decide +kernel
theorem dX1_become_41 : decode cX1_become 41 = .ok (.iconst 0, 1) := by decide +kernel
theorem dX1_become_42 : decode cX1_become 42 = .ok (.bipush 14, 2) := by decide +kernel
theorem dX1_become_44 : decode cX1_become 44 = .ok (.invokestatic 80, 3) := by decide +kernel
theorem dX1_become_47 : decode cX1_become 47 = .ok (.aload_n 1, 1) := by decide +kernel
theorem dX1_become_48 : decode cX1_become 48 = .ok (.getfield 19, 3) := by decide +kernel
theorem dX1_become_51 : decode cX1_become 51 = .ok (.iconst 0, 1) := by decide +kernel
theorem dX1_become_52 : decode cX1_become 52 = .ok (.aload_n 0, 1) := by decide +kernel
theorem dX1_become_53 : decode cX1_become 53 = .ok (.getfield 19, 3) := by decide +kernel
theorem dX1_become_56 : decode cX1_become 56 = .ok (.iconst 0, 1) := by decide +kernel
theorem dX1_become_57 : decode cX1_become 57 = .ok (.bipush 14, 2) := by decide +kernel
theorem dX1_become_59 : decode cX1_become 59 = .ok (.invokestatic 80, 3) := by decide +kernel
theorem dX1_become_62 : decode cX1_become 62 = .ok (.aload_n 1, 1) := by decide +kernel
theorem dX1_become_63 : decode cX1_become 63 = .ok (.getfield 22, 3) := by decide +kernel
theorem dX1_become_66 : decode cX1_become 66 = .ok (.iconst 0, 1) := by decide +kernel
theorem dX1_become_67 : decode cX1_become 67 = .ok (.aload_n 0, 1) := by decide +kernel
theorem dX1_become_68 : decode cX1_become 68 = .ok (.getfield 22, 3) := by decide +kernel
theorem dX1_become_71 : decode cX1_become 71 = .ok (.iconst 0, 1) := by decide +kernel
theorem dX1_become_72 : decode cX1_become 72 = .ok (.bipush 14, 2) := by decide +kernel
theorem dX1_become_74 : decode cX1_become 74 = .ok (.invokestatic 80, 3) := by decide +kernel
theorem dX1_become_77 : decode cX1_become 77 = .ok (.aload_n 1, 1) := by decide +kernel
theorem dX1_become_78 : decode cX1_become 78 = .ok (.getfield 25, 3) := by decide +kernel
theorem dX1_become_81 : decode cX1_become 81 = .ok (.iconst 0, 1) := by decide +kernel
theorem dX1_become_82 : decode cX1_become 82 = .ok (.aload_n 0, 1) := by decide +kernel
theorem dX1_become_83 : decode cX1_become 83 = .ok (.getfield 25, 3) := by decide +kernel
theorem dX1_become_86 : decode cX1_become 86 = .ok (.iconst 0, 1) := by decide +kernel
theorem dX1_become_87 : decode cX1_become 87 = .ok (.bipush 14, 2) := by decide +kernel
theorem dX1_become_89 : decode cX1_become 89 = .ok (.invokestatic 80, 3) := by decide +kernel
theorem dX1_become_92 : decode cX1_become 92 = .ok (.aload_n 1, 1) := by decide +kernel
theorem dX1_become_93 : decode cX1_become 93 = .ok (.getfield 28, 3) := by decide +kernel
theorem dX1_become_96 : decode cX1_become 96 = .ok (.iconst 0, 1) := by decide +kernel
theorem dX1_become_97 : decode cX1_become 97 = .ok (.aload_n 0, 1) := by decide +kernel
theorem dX1_become_98 : decode cX1_become 98 = .ok (.getfield 28, 3) := by decide +kernel
theorem dX1_become_101 : decode cX1_become 101 = .ok (.iconst 0, 1) := by decide +kernel
theorem dX1_become_102 : decode cX1_become 102 = .ok (.bipush 14, 2) := by decide +kernel
theorem dX1_become_104 : decode cX1_become 104 = .ok (.invokestatic 80, 3) := by decide +kernel
theorem dX1_become_107 : decode cX1_become 107 = .ok (.aload_n 1, 1) := by decide +kernel
theorem dX1_become_108 : decode cX1_become 108 = .ok (.getfield 31, 3) := by decide +kernel
theorem dX1_become_111 : decode cX1_become 111 = .ok (.iconst 0, 1) := by decide +kernel
theorem dX1_become_112 : decode cX1_become 112 = .ok (.aload_n 0, 1) := by decide +kernel
theorem dX1_become_113 : decode cX1_become 113 = .ok (.getfield 31, 3) := by decide +kernel
theorem dX1_become_116 : decode cX1_become 116 = .ok (.iconst 0, 1) := by decide +kernel
theorem dX1_become_117 : decode cX1_become 117 = .ok (.bipush 14, 2) := by decide +kernel
theorem dX1_become_119 : decode cX1_become 119 = .ok (.invokestatic 80, 3) := by decide +kernel
theorem dX1_become_122 : decode cX1_become 122 = .ok (.aload_n 1, 1) := by decide +kernel
theorem dX1_become_123 : decode cX1_become 123 = .ok (.getfield 34, 3) := by decide +kernel
theorem dX1_become_126 : decode cX1_become 126 = .ok (.iconst 0, 1) := by decide +kernel
theorem dX1_become_127 : decode cX1_become 127 = .ok (.aload_n 0, 1) := by decide +kernel
theorem dX1_become_128 : decode cX1_become 128 = .ok (.getfield 34, 3) := by decide +kernel
theorem dX1_become_131 : decode cX1_become 131 = .ok (.iconst 0, 1) := by decide +kernel
theorem dX1_become_132 : decode cX1_become 132 = .ok (.bipush 13, 2) := by decide +kernel
theorem dX1_become_134 : decode cX1_become 134 = .ok (.invokestatic 80, 3) := by decide +kernel
theorem dX1_become_137 : decode cX1_become 137 = .ok (.aload_n 1, 1) := by decide +kernel
theorem dX1_become_138 : decode cX1_become 138 = .ok (.getfield 37, 3) := by decide +kernel
theorem dX1_become_141 : decode cX1_become 141 = .ok (.iconst 0, 1) := by decide +kernel
theorem dX1_become_142 : decode cX1_become 142 = .ok (.aload_n 0, 1) := by decide +kernel
theorem dX1_become_143 : decode cX1_become 143 = .ok (.getfield 37, 3) := by decide +kernel
theorem dX1_become_146 : decode cX1_become 146 = .ok (.iconst 0, 1) := by decide +kernel
theorem dX1_become_147 : decode cX1_become 147 = .ok (.bipush 13, 2) := by decide +kernel
theorem dX1_become_149 : decode cX1_become 149 = .ok (.invokestatic 80, 3) := by decide +kernel
theorem dX1_become_152 : decode cX1_become 152 = .ok (.return_, 1) := by decide +kernel
def e_X1_become_19_1 (σ : ES) : Option ES := if mcpl 14 14 (0 : Int32) (0 : Int32) (14 : Int32) = true then (if mcpl 14 14 (0 : Int32) (0 : Int32) (14 : Int32) = true then (if mcpl 14 14 (0 : Int32) (0 : Int32) (14 : Int32) = true then (if mcpl 14 14 (0 : Int32) (0 : Int32) (14 : Int32) = true then (if mcpl 14 14 (0 : Int32) (0 : Int32) (14 : Int32) = true then (if mcpl 14 14 (0 : Int32) (0 : Int32) (14 : Int32) = true then (if mcpl 13 13 (0 : Int32) (0 : Int32) (13 : Int32) = true then (if mcpl 13 13 (0 : Int32) (0 : Int32) (13 : Int32) = true then (some (ecI (ecI (ecI (ecI (ecI (ecI (ecI (ecI (uI (uI (uI (uI σ 19 0 (eI σ 1 0)) 19 1 (eI (uI σ 19 0 (eI σ 1 0)) 1 1)) 19 2 (eI (uI (uI σ 19 0 (eI σ 1 0)) 19 1 (eI (uI σ 19 0 (eI σ 1 0)) 1 1)) 1 2)) 19 9 (eI (uI (uI (uI σ 19 0 (eI σ 1 0)) 19 1 (eI (uI σ 19 0 (eI σ 1 0)) 1 1)) 19 2 (eI (uI (uI σ 19 0 (eI σ 1 0)) 19 1 (eI (uI σ 19 0 (eI σ 1 0)) 1 1)) 1 2)) 1 9)) 2 (0 : Int32).toNatClampNeg 20 (0 : Int32).toNatClampNeg (14 : Int32).toNatClampNeg) 3 (0 : Int32).toNatClampNeg 21 (0 : Int32).toNatClampNeg (14 : Int32).toNatClampNeg) 4 (0 : Int32).toNatClampNeg 22 (0 : Int32).toNatClampNeg (14 : Int32).toNatClampNeg) 5 (0 : Int32).toNatClampNeg 23 (0 : Int32).toNatClampNeg (14 : Int32).toNatClampNeg) 6 (0 : Int32).toNatClampNeg 24 (0 : Int32).toNatClampNeg (14 : Int32).toNatClampNeg) 7 (0 : Int32).toNatClampNeg 25 (0 : Int32).toNatClampNeg (14 : Int32).toNatClampNeg) 8 (0 : Int32).toNatClampNeg 26 (0 : Int32).toNatClampNeg (13 : Int32).toNatClampNeg) 9 (0 : Int32).toNatClampNeg 27 (0 : Int32).toNatClampNeg (13 : Int32).toNatClampNeg)) else none) else none) else none) else none) else none) else none) else none) else none
set_option maxRecDepth 100000 in
set_option maxHeartbeats 4000000 in
theorem k_X1_become_19_1 {l : Launch} {σ : ES}  {out : ES} (h : e_X1_become_19_1 σ = some out) : MK l yX1_become cX1_become 2 none 1 [.ref 19, .ref 1] (mkS σ) none (mkS out) := by
  unfold e_X1_become_19_1 at h
  refine mw_entry (own := RX1) (ini := false) (L := [(0, .ref 19), (1, .ref 1)]) (by decide +kernel) rfl (fun h => nomatch h) rfl (Nat.le_of_ble_eq_true rfl) (Nat.le_of_ble_eq_true rfl) (fun E => ?_)
  refine mw_aload_n dX1_become_0 0 rfl ?_
  refine mw_aload_n dX1_become_1 1 rfl ?_
  refine ev_getI fd_RX1_9_0 dX1_become_2 rfl rfl ?_
  refine ev_putI fw_RX1_9_0 dX1_become_5 rfl rfl ?_
  refine mw_aload_n dX1_become_8 0 rfl ?_
  refine mw_aload_n dX1_become_9 1 rfl ?_
  refine ev_getI fd_RX1_50_0 dX1_become_10 rfl rfl ?_
  refine ev_putI fw_RX1_50_0 dX1_become_13 rfl rfl ?_
  refine mw_aload_n dX1_become_16 0 rfl ?_
  refine mw_aload_n dX1_become_17 1 rfl ?_
  refine ev_getI fd_RX1_44_0 dX1_become_18 rfl rfl ?_
  refine ev_putI fw_RX1_44_0 dX1_become_21 rfl rfl ?_
  refine mw_aload_n dX1_become_24 0 rfl ?_
  refine mw_aload_n dX1_become_25 1 rfl ?_
  refine ev_getI fd_RX1_47_0 dX1_become_26 rfl rfl ?_
  refine ev_putI fw_RX1_47_0 dX1_become_29 rfl rfl ?_
  refine mw_aload_n dX1_become_32 1 rfl ?_
  refine ev_getR (q := 2) fd_RX1_15_0 dX1_become_33 rfl rfl rfl ?_
  refine mw_iconst (v := 0) dX1_become_36 (by decide) ?_
  refine mw_aload_n dX1_become_37 0 rfl ?_
  refine ev_getR (q := 20) fd_RX1_15_0 dX1_become_38 rfl rfl rfl ?_
  refine mw_iconst (v := 0) dX1_become_41 (by decide) ?_
  refine mw_bipush (v := 14) dX1_become_42 (by decide) ?_
  obtain ⟨m1, h⟩ := mif h
  refine ev_copyI dX1_become_44 wt_202 wt_203 wt_204 wt_205 (by decide) (by decide) rfl rfl m1 (by decide) (Nat.le_of_ble_eq_true rfl) ?_
  refine mw_aload_n dX1_become_47 1 rfl ?_
  refine ev_getR (q := 3) fd_RX1_19_0 dX1_become_48 rfl rfl rfl ?_
  refine mw_iconst (v := 0) dX1_become_51 (by decide) ?_
  refine mw_aload_n dX1_become_52 0 rfl ?_
  refine ev_getR (q := 21) fd_RX1_19_0 dX1_become_53 rfl rfl rfl ?_
  refine mw_iconst (v := 0) dX1_become_56 (by decide) ?_
  refine mw_bipush (v := 14) dX1_become_57 (by decide) ?_
  obtain ⟨m2, h⟩ := mif h
  refine ev_copyI dX1_become_59 wt_202 wt_203 wt_204 wt_205 (by decide) (by decide) rfl rfl m2 (by decide) (Nat.le_of_ble_eq_true rfl) ?_
  refine mw_aload_n dX1_become_62 1 rfl ?_
  refine ev_getR (q := 4) fd_RX1_22_0 dX1_become_63 rfl rfl rfl ?_
  refine mw_iconst (v := 0) dX1_become_66 (by decide) ?_
  refine mw_aload_n dX1_become_67 0 rfl ?_
  refine ev_getR (q := 22) fd_RX1_22_0 dX1_become_68 rfl rfl rfl ?_
  refine mw_iconst (v := 0) dX1_become_71 (by decide) ?_
  refine mw_bipush (v := 14) dX1_become_72 (by decide) ?_
  obtain ⟨m3, h⟩ := mif h
  refine ev_copyI dX1_become_74 wt_202 wt_203 wt_204 wt_205 (by decide) (by decide) rfl rfl m3 (by decide) (Nat.le_of_ble_eq_true rfl) ?_
  refine mw_aload_n dX1_become_77 1 rfl ?_
  refine ev_getR (q := 5) fd_RX1_25_0 dX1_become_78 rfl rfl rfl ?_
  refine mw_iconst (v := 0) dX1_become_81 (by decide) ?_
  refine mw_aload_n dX1_become_82 0 rfl ?_
  refine ev_getR (q := 23) fd_RX1_25_0 dX1_become_83 rfl rfl rfl ?_
  refine mw_iconst (v := 0) dX1_become_86 (by decide) ?_
  refine mw_bipush (v := 14) dX1_become_87 (by decide) ?_
  obtain ⟨m4, h⟩ := mif h
  refine ev_copyI dX1_become_89 wt_202 wt_203 wt_204 wt_205 (by decide) (by decide) rfl rfl m4 (by decide) (Nat.le_of_ble_eq_true rfl) ?_
  refine mw_aload_n dX1_become_92 1 rfl ?_
  refine ev_getR (q := 6) fd_RX1_28_0 dX1_become_93 rfl rfl rfl ?_
  refine mw_iconst (v := 0) dX1_become_96 (by decide) ?_
  refine mw_aload_n dX1_become_97 0 rfl ?_
  refine ev_getR (q := 24) fd_RX1_28_0 dX1_become_98 rfl rfl rfl ?_
  refine mw_iconst (v := 0) dX1_become_101 (by decide) ?_
  refine mw_bipush (v := 14) dX1_become_102 (by decide) ?_
  obtain ⟨m5, h⟩ := mif h
  refine ev_copyI dX1_become_104 wt_202 wt_203 wt_204 wt_205 (by decide) (by decide) rfl rfl m5 (by decide) (Nat.le_of_ble_eq_true rfl) ?_
  refine mw_aload_n dX1_become_107 1 rfl ?_
  refine ev_getR (q := 7) fd_RX1_31_0 dX1_become_108 rfl rfl rfl ?_
  refine mw_iconst (v := 0) dX1_become_111 (by decide) ?_
  refine mw_aload_n dX1_become_112 0 rfl ?_
  refine ev_getR (q := 25) fd_RX1_31_0 dX1_become_113 rfl rfl rfl ?_
  refine mw_iconst (v := 0) dX1_become_116 (by decide) ?_
  refine mw_bipush (v := 14) dX1_become_117 (by decide) ?_
  obtain ⟨m6, h⟩ := mif h
  refine ev_copyI dX1_become_119 wt_202 wt_203 wt_204 wt_205 (by decide) (by decide) rfl rfl m6 (by decide) (Nat.le_of_ble_eq_true rfl) ?_
  refine mw_aload_n dX1_become_122 1 rfl ?_
  refine ev_getR (q := 8) fd_RX1_34_0 dX1_become_123 rfl rfl rfl ?_
  refine mw_iconst (v := 0) dX1_become_126 (by decide) ?_
  refine mw_aload_n dX1_become_127 0 rfl ?_
  refine ev_getR (q := 26) fd_RX1_34_0 dX1_become_128 rfl rfl rfl ?_
  refine mw_iconst (v := 0) dX1_become_131 (by decide) ?_
  refine mw_bipush (v := 13) dX1_become_132 (by decide) ?_
  obtain ⟨m7, h⟩ := mif h
  refine ev_copyI dX1_become_134 wt_202 wt_203 wt_204 wt_205 (by decide) (by decide) rfl rfl m7 (by decide) (Nat.le_of_ble_eq_true rfl) ?_
  refine mw_aload_n dX1_become_137 1 rfl ?_
  refine ev_getR (q := 9) fd_RX1_37_0 dX1_become_138 rfl rfl rfl ?_
  refine mw_iconst (v := 0) dX1_become_141 (by decide) ?_
  refine mw_aload_n dX1_become_142 0 rfl ?_
  refine ev_getR (q := 27) fd_RX1_37_0 dX1_become_143 rfl rfl rfl ?_
  refine mw_iconst (v := 0) dX1_become_146 (by decide) ?_
  refine mw_bipush (v := 13) dX1_become_147 (by decide) ?_
  obtain ⟨m8, h⟩ := mif h
  refine ev_copyI dX1_become_149 wt_202 wt_203 wt_204 wt_205 (by decide) (by decide) rfl rfl m8 (by decide) (Nat.le_of_ble_eq_true rfl) ?_
  exact mw_vret dX1_become_152 rfl (ers_vm h) rfl rfl

theorem dX4_forget_0 : decode cX4_forget 0 = .ok (.aload_n 0, 1) := by decide +kernel
theorem dX4_forget_1 : decode cX4_forget 1 = .ok (.lconst 0, 1) := by decide +kernel
theorem dX4_forget_2 : decode cX4_forget 2 = .ok (.putfield 88, 3) := by decide +kernel
theorem dX4_forget_5 : decode cX4_forget 5 = .ok (.return_, 1) := by decide +kernel
def e_X4_forget (σ : ES) : Option ES := some (uL σ 28 12 (0 : Int64))
set_option maxRecDepth 100000 in
set_option maxHeartbeats 4000000 in
theorem k_X4_forget {l : Launch} {σ : ES}  {out : ES} (h : e_X4_forget σ = some out) : MK l yX4_forget cX4_forget 1 none 1 [.ref 28] (mkS σ) none (mkS out) := by
  unfold e_X4_forget at h
  refine mw_entry (own := RX4) (ini := false) (L := [(0, .ref 28)]) (by decide +kernel) rfl (fun h => nomatch h) rfl (Nat.le_of_ble_eq_true rfl) (Nat.le_of_ble_eq_true rfl) (fun E => ?_)
  refine mw_aload_n dX4_forget_0 0 rfl ?_
  refine mw_lconst (v := 0) dX4_forget_1 (by decide) ?_
  refine ev_putL fw_RX4_88_3 dX4_forget_2 rfl rfl ?_
  exact mw_vret dX4_forget_5 rfl (ers_vm h) rfl rfl

theorem dX9_kind_0 : decode cX9_kind 0 = .ok (.aload_n 0, 1) := by decide +kernel
theorem dX9_kind_1 : decode cX9_kind 1 = .ok (.getfield 12, 3) := by decide +kernel
theorem dX9_kind_4 : decode cX9_kind 4 = .ok (.iload_n 1, 1) := by decide +kernel
theorem dX9_kind_5 : decode cX9_kind 5 = .ok (.invokevirtual 116, 3) := by decide +kernel
theorem dX9_kind_8 : decode cX9_kind 8 = .ok (.ifCond .ne 9, 3) := by decide +kernel
theorem dX9_kind_11 : decode cX9_kind 11 = .ok (.aload_n 0, 1) := by decide +kernel
theorem dX9_kind_12 : decode cX9_kind 12 = .ok (.iconst 0, 1) := by decide +kernel
theorem dX9_kind_13 : decode cX9_kind 13 = .ok (.invokevirtual 79, 3) := by decide +kernel
theorem dX9_kind_16 : decode cX9_kind 16 = .ok (.ireturn, 1) := by decide +kernel
theorem dX9_kind_17 : decode cX9_kind 17 = .ok (.aload_n 0, 1) := by decide +kernel
theorem dX9_kind_18 : decode cX9_kind 18 = .ok (.invokevirtual 168, 3) := by decide +kernel
theorem dX9_kind_21 : decode cX9_kind 21 = .ok (.iconst (-1), 1) := by decide +kernel
theorem dX9_kind_22 : decode cX9_kind 22 = .ok (.if_icmp .ne 9, 3) := by decide +kernel
theorem dX9_kind_25 : decode cX9_kind 25 = .ok (.aload_n 0, 1) := by decide +kernel
theorem dX9_kind_26 : decode cX9_kind 26 = .ok (.iconst 3, 1) := by decide +kernel
theorem dX9_kind_27 : decode cX9_kind 27 = .ok (.invokevirtual 79, 3) := by decide +kernel
theorem dX9_kind_30 : decode cX9_kind 30 = .ok (.ireturn, 1) := by decide +kernel
theorem dX9_kind_31 : decode cX9_kind 31 = .ok (.aload_n 0, 1) := by decide +kernel
theorem dX9_kind_32 : decode cX9_kind 32 = .ok (.getfield 19, 3) := by decide +kernel
theorem dX9_kind_35 : decode cX9_kind 35 = .ok (.aload_n 0, 1) := by decide +kernel
theorem dX9_kind_36 : decode cX9_kind 36 = .ok (.getfield 12, 3) := by decide +kernel
theorem dX9_kind_39 : decode cX9_kind 39 = .ok (.invokevirtual 231, 3) := by decide +kernel
theorem dX9_kind_42 : decode cX9_kind 42 = .ok (.aload_n 0, 1) := by decide +kernel
theorem dX9_kind_43 : decode cX9_kind 43 = .ok (.getfield 25, 3) := by decide +kernel
theorem dX9_kind_46 : decode cX9_kind 46 = .ok (.invokevirtual 235, 3) := by decide +kernel
theorem dX9_kind_49 : decode cX9_kind 49 = .ok (.iconst 0, 1) := by decide +kernel
theorem dX9_kind_50 : decode cX9_kind 50 = .ok (.istore_n 2, 1) := by decide +kernel
theorem dX9_kind_51 : decode cX9_kind 51 = .ok (.iconst 0, 1) := by decide +kernel
theorem dX9_kind_52 : decode cX9_kind 52 = .ok (.istore_n 3, 1) := by decide +kernel
theorem dX9_kind_53 : decode cX9_kind 53 = .ok (.iload_n 3, 1) := by decide +kernel
theorem dX9_kind_54 : decode cX9_kind 54 = .ok (.bipush 6, 2) := by decide +kernel
theorem dX9_kind_56 : decode cX9_kind 56 = .ok (.if_icmp .ge 35, 3) := by decide +kernel
theorem dX9_kind_59 : decode cX9_kind 59 = .ok (.aload_n 0, 1) := by decide +kernel
theorem dX9_kind_60 : decode cX9_kind 60 = .ok (.getfield 19, 3) := by decide +kernel
theorem dX9_kind_63 : decode cX9_kind 63 = .ok (.getfield 119, 3) := by decide +kernel
theorem dX9_kind_66 : decode cX9_kind 66 = .ok (.iload_n 1, 1) := by decide +kernel
theorem dX9_kind_67 : decode cX9_kind 67 = .ok (.iload_n 3, 1) := by decide +kernel
theorem dX9_kind_68 : decode cX9_kind 68 = .ok (.iastore, 1) := by decide +kernel
theorem dX9_kind_69 : decode cX9_kind 69 = .ok (.aload_n 0, 1) := by decide +kernel
theorem dX9_kind_70 : decode cX9_kind 70 = .ok (.getfield 25, 3) := by decide +kernel
theorem dX9_kind_73 : decode cX9_kind 73 = .ok (.aload_n 0, 1) := by decide +kernel
theorem dX9_kind_74 : decode cX9_kind 74 = .ok (.getfield 19, 3) := by decide +kernel
theorem dX9_kind_77 : decode cX9_kind 77 = .ok (.invokevirtual 238, 3) := by decide +kernel
theorem dX9_kind_80 : decode cX9_kind 80 = .ok (.ifCond .eq 5, 3) := by decide +kernel
theorem dX9_kind_83 : decode cX9_kind 83 = .ok (.iload_n 3, 1) := by decide +kernel
theorem dX9_kind_84 : decode cX9_kind 84 = .ok (.istore_n 2, 1) := by decide +kernel
theorem dX9_kind_85 : decode cX9_kind 85 = .ok (.iinc 3 1, 3) := by decide +kernel
theorem dX9_kind_88 : decode cX9_kind 88 = .ok (.goto (-35), 3) := by decide +kernel
theorem dX9_kind_91 : decode cX9_kind 91 = .ok (.iload_n 2, 1) := by decide +kernel
theorem dX9_kind_92 : decode cX9_kind 92 = .ok (.ireturn, 1) := by decide +kernel
def e_X9_kind_L53 (a1 : Int32) : Nat → Int32 → Int32 → ES → Option (Int32 × ES)
  | 0, _, _, _ => none
  | n + 1, x2, x3, σ => if (6 : Int32) ≤ x3 then (some (x2, σ)) else (if mib a1 14 = true then ((e_X4_rises_19 (uI σ 20 a1.toNatClampNeg x3)).bind (fun r2 => if r2.1 = 0 then (e_X9_kind_L53 a1 n x2 (x3 + 1) r2.2) else (e_X9_kind_L53 a1 n x3 (x3 + 1) r2.2))) else none)
set_option maxRecDepth 100000 in
set_option maxHeartbeats 4000000 in
theorem p_X9_kind_L53 {l : Launch} {E : MX} {out : (Int32 × ES)} {a1 : Int32}  : ∀ (n : Nat) (x2 : Int32) (x3 : Int32) (σ : ES), e_X9_kind_L53 a1 n x2 x3 σ = some out → MV l E cX9_kind RX9 4 (some .int) 13 (82, (some (.int out.1)), mkS out.2) (mkS σ) 53 [(0, .ref 0), (1, .int a1), (2, .int x2), (3, .int x3)] [] := by
  intro n
  induction n with
  | zero =>
    intro x2 x3 σ h
    exact nomatch h
  | succ n ih =>
    intro x2 x3 σ h
    rw [e_X9_kind_L53] at h
    refine mw_iload_n dX9_kind_53 3 rfl ?_
    refine mw_bipush (v := 6) dX9_kind_54 (by decide) ?_
    refine mw_icmp_ge (tgt := 91) dX9_kind_56 (by decide) (fun hc => ?_) (fun hc => ?_)
    · have h := mit hc h
      refine mw_iload_n dX9_kind_91 2 rfl ?_
      exact mw_iret dX9_kind_92 rfl (ers_im h) rfl rfl
    · have h := mie hc h
      refine mw_aload_n dX9_kind_59 0 rfl ?_
      refine ev_getR (q := 19) fd_RX9_19_8 dX9_kind_60 rfl rfl rfl ?_
      refine ev_getR (q := 20) fd_RX9_119_0 dX9_kind_63 rfl rfl rfl ?_
      refine mw_iload_n dX9_kind_66 1 rfl ?_
      refine mw_iload_n dX9_kind_67 3 rfl ?_
      obtain ⟨m1, h⟩ := mif h
      refine ev_iast dX9_kind_68 (by decide) rfl m1 ?_
      refine mw_aload_n dX9_kind_69 0 rfl ?_
      refine ev_getR (q := 28) fd_RX9_25_8 dX9_kind_70 rfl rfl rfl ?_
      refine mw_aload_n dX9_kind_73 0 rfl ?_
      refine ev_getR (q := 19) fd_RX9_19_8 dX9_kind_74 rfl rfl rfl ?_
      obtain ⟨r2, e3, h⟩ := mbd h
      refine mv_callV_i (As := [.ref 19]) (ci := 3) lkV_RX9_238_yX4_rises dX9_kind_77 (k_X4_rises_19 e3) rfl rfl rfl rfl (Nat.le_of_ble_eq_true rfl) (by decide) (by decide) ?_
      refine mw_if_eq (tgt := 85) dX9_kind_80 (by decide) (fun hc => ?_) (fun hc => ?_)
      · have h := mit hc h
        refine mw_iinc (v := (x3 + 1)) (L' := [(3, .int (x3 + 1)), (0, .ref 0), (1, .int a1), (2, .int x2)]) dX9_kind_85 3 rfl rfl (by decide) rfl ?_
        refine mw_goto (tgt := 53) dX9_kind_88 (by decide) ?_
        exact mw_sub (L' := [(0, .ref 0), (1, .int a1), (2, .int x2), (3, .int (x3 + 1))]) [1, 2, 3, 0] rfl (ih _ _ _ h)
      · have h := mie hc h
        refine mw_iload_n dX9_kind_83 3 rfl ?_
        refine mw_istore_n (L' := [(2, .int x3), (0, .ref 0), (1, .int a1), (3, .int x3)]) dX9_kind_84 rfl (by decide) rfl ?_
        refine mw_iinc (v := (x3 + 1)) (L' := [(3, .int (x3 + 1)), (2, .int x3), (0, .ref 0), (1, .int a1)]) dX9_kind_85 3 rfl rfl (by decide) rfl ?_
        refine mw_goto (tgt := 53) dX9_kind_88 (by decide) ?_
        exact mw_sub (L' := [(0, .ref 0), (1, .int a1), (2, .int x3), (3, .int (x3 + 1))]) [2, 3, 1, 0] rfl (ih _ _ _ h)
def e_X9_kind (a1 : Int32) (σ : ES) : Option (Int32 × ES) := (e_X1_isWay_1 σ a1).bind (fun r1 => if r1 = 0 then ((e_X9_finding (0 : Int32) σ).bind (fun r11 => some (r11.1, r11.2))) else ((e_X9_bestRing σ).bind (fun r3 => if r3.1 = (-1 : Int32) then ((e_X9_finding (3 : Int32) r3.2).bind (fun r9 => some (r9.1, r9.2))) else ((e_X1_become_19_1 r3.2).bind (fun r5 => (e_X4_forget r5).bind (fun r7 => e_X9_kind_L53 a1 mN (0 : Int32) (0 : Int32) r7))))))
set_option maxRecDepth 100000 in
set_option maxHeartbeats 4000000 in
theorem k_X9_kind {l : Launch} {σ : ES} {a1 : Int32} {out : (Int32 × ES)} (h : e_X9_kind a1 σ = some out) : MK l yX9_kind cX9_kind 4 (some .int) 13 [.ref 0, .int a1] (mkS σ) (some (.int out.1)) (mkS out.2) := by
  unfold e_X9_kind at h
  refine mw_entry (own := RX9) (ini := false) (L := [(0, .ref 0), (1, .int a1)]) (by decide +kernel) rfl (fun h => nomatch h) rfl (Nat.le_of_ble_eq_true rfl) (Nat.le_of_ble_eq_true rfl) (fun E => ?_)
  refine mw_aload_n dX9_kind_0 0 rfl ?_
  refine ev_getR (q := 1) fd_RX9_12_8 dX9_kind_1 rfl rfl rfl ?_
  refine mw_iload_n dX9_kind_4 1 rfl ?_
  obtain ⟨r1, e2, h⟩ := mbd h
  refine mv_callV_i (As := [.int a1]) (ci := 0) lkV_RX9_116_yX1_isWay dX9_kind_5 (k_X1_isWay_1 e2) rfl rfl rfl rfl (Nat.le_of_ble_eq_true rfl) (by decide) (by decide) ?_
  refine mw_if_ne (tgt := 17) dX9_kind_8 (by decide) (fun hc => ?_) (fun hc => ?_)
  · have h := mie hc h
    refine mw_aload_n dX9_kind_17 0 rfl ?_
    obtain ⟨r3, e4, h⟩ := mbd h
    refine mv_callV_i (As := []) (ci := 8) lkV_RX9_168_yX9_bestRing dX9_kind_18 (k_X9_bestRing e4) rfl rfl rfl rfl (Nat.le_of_ble_eq_true rfl) (by decide) (by decide) ?_
    refine mw_iconst (v := -1) dX9_kind_21 (by decide) ?_
    refine mw_icmp_ne (tgt := 31) dX9_kind_22 (by decide) (fun hc => ?_) (fun hc => ?_)
    · have h := mie hc h
      refine mw_aload_n dX9_kind_31 0 rfl ?_
      refine ev_getR (q := 19) fd_RX9_19_8 dX9_kind_32 rfl rfl rfl ?_
      refine mw_aload_n dX9_kind_35 0 rfl ?_
      refine ev_getR (q := 1) fd_RX9_12_8 dX9_kind_36 rfl rfl rfl ?_
      obtain ⟨r5, e6, h⟩ := mbd h
      refine mv_callV_v (As := [.ref 1]) (ci := 0) lkV_RX9_231_yX1_become dX9_kind_39 (k_X1_become_19_1 e6) rfl rfl rfl rfl (Nat.le_of_ble_eq_true rfl) (by decide) (by decide) ?_
      refine mw_aload_n dX9_kind_42 0 rfl ?_
      refine ev_getR (q := 28) fd_RX9_25_8 dX9_kind_43 rfl rfl rfl ?_
      obtain ⟨r7, e8, h⟩ := mbd h
      refine mv_callV_v (As := []) (ci := 3) lkV_RX9_235_yX4_forget dX9_kind_46 (k_X4_forget e8) rfl rfl rfl rfl (Nat.le_of_ble_eq_true rfl) (by decide) (by decide) ?_
      refine mw_iconst (v := 0) dX9_kind_49 (by decide) ?_
      refine mw_istore_n (L' := [(2, .int (0 : Int32)), (0, .ref 0), (1, .int a1)]) dX9_kind_50 rfl (by decide) rfl ?_
      refine mw_iconst (v := 0) dX9_kind_51 (by decide) ?_
      refine mw_istore_n (L' := [(3, .int (0 : Int32)), (2, .int (0 : Int32)), (0, .ref 0), (1, .int a1)]) dX9_kind_52 rfl (by decide) rfl ?_
      exact mw_sub (L' := [(0, .ref 0), (1, .int a1), (2, .int (0 : Int32)), (3, .int (0 : Int32))]) [2, 3, 1, 0] rfl (p_X9_kind_L53  mN _ _ _ h)
    · have h := mit hc h
      refine mw_aload_n dX9_kind_25 0 rfl ?_
      refine mw_iconst (v := 3) dX9_kind_26 (by decide) ?_
      obtain ⟨r9, e10, h⟩ := mbd h
      refine mv_callV_i (As := [.int (3 : Int32)]) (ci := 8) lkV_RX9_79_yX9_finding dX9_kind_27 (k_X9_finding e10) rfl rfl rfl rfl (Nat.le_of_ble_eq_true rfl) (by decide) (by decide) ?_
      exact mw_iret dX9_kind_30 rfl (ers_im h) rfl rfl
  · have h := mit hc h
    refine mw_aload_n dX9_kind_11 0 rfl ?_
    refine mw_iconst (v := 0) dX9_kind_12 (by decide) ?_
    obtain ⟨r11, e12, h⟩ := mbd h
    refine mv_callV_i (As := [.int (0 : Int32)]) (ci := 8) lkV_RX9_79_yX9_finding dX9_kind_13 (k_X9_finding e12) rfl rfl rfl rfl (Nat.le_of_ble_eq_true rfl) (by decide) (by decide) ?_
    exact mw_iret dX9_kind_16 rfl (ers_im h) rfl rfl

theorem dX9_season_0 : decode cX9_season 0 = .ok (.aload_n 0, 1) := by decide +kernel
theorem dX9_season_1 : decode cX9_season 1 = .ok (.invokevirtual 168, 3) := by decide +kernel
theorem dX9_season_4 : decode cX9_season 4 = .ok (.iconst (-1), 1) := by decide +kernel
theorem dX9_season_5 : decode cX9_season 5 = .ok (.if_icmp .ne 9, 3) := by decide +kernel
theorem dX9_season_8 : decode cX9_season 8 = .ok (.aload_n 0, 1) := by decide +kernel
theorem dX9_season_9 : decode cX9_season 9 = .ok (.iconst 3, 1) := by decide +kernel
theorem dX9_season_10 : decode cX9_season 10 = .ok (.invokevirtual 79, 3) := by decide +kernel
theorem dX9_season_13 : decode cX9_season 13 = .ok (.ireturn, 1) := by decide +kernel
theorem dX9_season_14 : decode cX9_season 14 = .ok (.aload_n 0, 1) := by decide +kernel
theorem dX9_season_15 : decode cX9_season 15 = .ok (.getfield 19, 3) := by decide +kernel
theorem dX9_season_18 : decode cX9_season 18 = .ok (.aload_n 0, 1) := by decide +kernel
theorem dX9_season_19 : decode cX9_season 19 = .ok (.getfield 12, 3) := by decide +kernel
theorem dX9_season_22 : decode cX9_season 22 = .ok (.invokevirtual 231, 3) := by decide +kernel
theorem dX9_season_25 : decode cX9_season 25 = .ok (.aload_n 0, 1) := by decide +kernel
theorem dX9_season_26 : decode cX9_season 26 = .ok (.getfield 25, 3) := by decide +kernel
theorem dX9_season_29 : decode cX9_season 29 = .ok (.invokevirtual 235, 3) := by decide +kernel
theorem dX9_season_32 : decode cX9_season 32 = .ok (.iconst 0, 1) := by decide +kernel
theorem dX9_season_33 : decode cX9_season 33 = .ok (.istore_n 1, 1) := by decide +kernel
theorem dX9_season_34 : decode cX9_season 34 = .ok (.iconst 0, 1) := by decide +kernel
theorem dX9_season_35 : decode cX9_season 35 = .ok (.istore_n 2, 1) := by decide +kernel
theorem dX9_season_36 : decode cX9_season 36 = .ok (.iload_n 2, 1) := by decide +kernel
theorem dX9_season_37 : decode cX9_season 37 = .ok (.iconst 5, 1) := by decide +kernel
theorem dX9_season_38 : decode cX9_season 38 = .ok (.if_icmp .gt 33, 3) := by decide +kernel
theorem dX9_season_41 : decode cX9_season 41 = .ok (.aload_n 0, 1) := by decide +kernel
theorem dX9_season_42 : decode cX9_season 42 = .ok (.getfield 19, 3) := by decide +kernel
theorem dX9_season_45 : decode cX9_season 45 = .ok (.iload_n 2, 1) := by decide +kernel
theorem dX9_season_46 : decode cX9_season 46 = .ok (.putfield 96, 3) := by decide +kernel
theorem dX9_season_49 : decode cX9_season 49 = .ok (.aload_n 0, 1) := by decide +kernel
theorem dX9_season_50 : decode cX9_season 50 = .ok (.getfield 25, 3) := by decide +kernel
theorem dX9_season_53 : decode cX9_season 53 = .ok (.aload_n 0, 1) := by decide +kernel
theorem dX9_season_54 : decode cX9_season 54 = .ok (.getfield 19, 3) := by decide +kernel
theorem dX9_season_57 : decode cX9_season 57 = .ok (.invokevirtual 238, 3) := by decide +kernel
theorem dX9_season_60 : decode cX9_season 60 = .ok (.ifCond .eq 5, 3) := by decide +kernel
theorem dX9_season_63 : decode cX9_season 63 = .ok (.iload_n 2, 1) := by decide +kernel
theorem dX9_season_64 : decode cX9_season 64 = .ok (.istore_n 1, 1) := by decide +kernel
theorem dX9_season_65 : decode cX9_season 65 = .ok (.iinc 2 1, 3) := by decide +kernel
theorem dX9_season_68 : decode cX9_season 68 = .ok (.goto (-32), 3) := by decide +kernel
theorem dX9_season_71 : decode cX9_season 71 = .ok (.iload_n 1, 1) := by decide +kernel
theorem dX9_season_72 : decode cX9_season 72 = .ok (.ireturn, 1) := by decide +kernel
def e_X9_season_L36  : Nat → Int32 → Int32 → ES → Option (Int32 × ES)
  | 0, _, _, _ => none
  | n + 1, x1, x2, σ => if (5 : Int32) < x2 then (some (x1, σ)) else ((e_X4_rises_19 (uI σ 19 1 x2)).bind (fun r1 => if r1.1 = 0 then (e_X9_season_L36 n x1 (x2 + 1) r1.2) else (e_X9_season_L36 n x2 (x2 + 1) r1.2)))
set_option maxRecDepth 100000 in
set_option maxHeartbeats 4000000 in
theorem p_X9_season_L36 {l : Launch} {E : MX} {out : (Int32 × ES)}   : ∀ (n : Nat) (x1 : Int32) (x2 : Int32) (σ : ES), e_X9_season_L36 n x1 x2 σ = some out → MV l E cX9_season RX9 3 (some .int) 13 (82, (some (.int out.1)), mkS out.2) (mkS σ) 36 [(0, .ref 0), (1, .int x1), (2, .int x2)] [] := by
  intro n
  induction n with
  | zero =>
    intro x1 x2 σ h
    exact nomatch h
  | succ n ih =>
    intro x1 x2 σ h
    rw [e_X9_season_L36] at h
    refine mw_iload_n dX9_season_36 2 rfl ?_
    refine mw_iconst (v := 5) dX9_season_37 (by decide) ?_
    refine mw_icmp_gt (tgt := 71) dX9_season_38 (by decide) (fun hc => ?_) (fun hc => ?_)
    · have h := mit hc h
      refine mw_iload_n dX9_season_71 1 rfl ?_
      exact mw_iret dX9_season_72 rfl (ers_im h) rfl rfl
    · have h := mie hc h
      refine mw_aload_n dX9_season_41 0 rfl ?_
      refine ev_getR (q := 19) fd_RX9_19_8 dX9_season_42 rfl rfl rfl ?_
      refine mw_iload_n dX9_season_45 2 rfl ?_
      refine ev_putI fw_RX9_96_0 dX9_season_46 rfl rfl ?_
      refine mw_aload_n dX9_season_49 0 rfl ?_
      refine ev_getR (q := 28) fd_RX9_25_8 dX9_season_50 rfl rfl rfl ?_
      refine mw_aload_n dX9_season_53 0 rfl ?_
      refine ev_getR (q := 19) fd_RX9_19_8 dX9_season_54 rfl rfl rfl ?_
      obtain ⟨r1, e2, h⟩ := mbd h
      refine mv_callV_i (As := [.ref 19]) (ci := 3) lkV_RX9_238_yX4_rises dX9_season_57 (k_X4_rises_19 e2) rfl rfl rfl rfl (Nat.le_of_ble_eq_true rfl) (by decide) (by decide) ?_
      refine mw_if_eq (tgt := 65) dX9_season_60 (by decide) (fun hc => ?_) (fun hc => ?_)
      · have h := mit hc h
        refine mw_iinc (v := (x2 + 1)) (L' := [(2, .int (x2 + 1)), (0, .ref 0), (1, .int x1)]) dX9_season_65 2 rfl rfl (by decide) rfl ?_
        refine mw_goto (tgt := 36) dX9_season_68 (by decide) ?_
        exact mw_sub (L' := [(0, .ref 0), (1, .int x1), (2, .int (x2 + 1))]) [1, 2, 0] rfl (ih _ _ _ h)
      · have h := mie hc h
        refine mw_iload_n dX9_season_63 2 rfl ?_
        refine mw_istore_n (L' := [(1, .int x2), (0, .ref 0), (2, .int x2)]) dX9_season_64 rfl (by decide) rfl ?_
        refine mw_iinc (v := (x2 + 1)) (L' := [(2, .int (x2 + 1)), (1, .int x2), (0, .ref 0)]) dX9_season_65 2 rfl rfl (by decide) rfl ?_
        refine mw_goto (tgt := 36) dX9_season_68 (by decide) ?_
        exact mw_sub (L' := [(0, .ref 0), (1, .int x2), (2, .int (x2 + 1))]) [2, 1, 0] rfl (ih _ _ _ h)
def e_X9_season (σ : ES) : Option (Int32 × ES) := (e_X9_bestRing σ).bind (fun r1 => if r1.1 = (-1 : Int32) then ((e_X9_finding (3 : Int32) r1.2).bind (fun r7 => some (r7.1, r7.2))) else ((e_X1_become_19_1 r1.2).bind (fun r3 => (e_X4_forget r3).bind (fun r5 => e_X9_season_L36 mN (0 : Int32) (0 : Int32) r5))))
set_option maxRecDepth 100000 in
set_option maxHeartbeats 4000000 in
theorem k_X9_season {l : Launch} {σ : ES}  {out : (Int32 × ES)} (h : e_X9_season σ = some out) : MK l yX9_season cX9_season 3 (some .int) 13 [.ref 0] (mkS σ) (some (.int out.1)) (mkS out.2) := by
  unfold e_X9_season at h
  refine mw_entry (own := RX9) (ini := false) (L := [(0, .ref 0)]) (by decide +kernel) rfl (fun h => nomatch h) rfl (Nat.le_of_ble_eq_true rfl) (Nat.le_of_ble_eq_true rfl) (fun E => ?_)
  refine mw_aload_n dX9_season_0 0 rfl ?_
  obtain ⟨r1, e2, h⟩ := mbd h
  refine mv_callV_i (As := []) (ci := 8) lkV_RX9_168_yX9_bestRing dX9_season_1 (k_X9_bestRing e2) rfl rfl rfl rfl (Nat.le_of_ble_eq_true rfl) (by decide) (by decide) ?_
  refine mw_iconst (v := -1) dX9_season_4 (by decide) ?_
  refine mw_icmp_ne (tgt := 14) dX9_season_5 (by decide) (fun hc => ?_) (fun hc => ?_)
  · have h := mie hc h
    refine mw_aload_n dX9_season_14 0 rfl ?_
    refine ev_getR (q := 19) fd_RX9_19_8 dX9_season_15 rfl rfl rfl ?_
    refine mw_aload_n dX9_season_18 0 rfl ?_
    refine ev_getR (q := 1) fd_RX9_12_8 dX9_season_19 rfl rfl rfl ?_
    obtain ⟨r3, e4, h⟩ := mbd h
    refine mv_callV_v (As := [.ref 1]) (ci := 0) lkV_RX9_231_yX1_become dX9_season_22 (k_X1_become_19_1 e4) rfl rfl rfl rfl (Nat.le_of_ble_eq_true rfl) (by decide) (by decide) ?_
    refine mw_aload_n dX9_season_25 0 rfl ?_
    refine ev_getR (q := 28) fd_RX9_25_8 dX9_season_26 rfl rfl rfl ?_
    obtain ⟨r5, e6, h⟩ := mbd h
    refine mv_callV_v (As := []) (ci := 3) lkV_RX9_235_yX4_forget dX9_season_29 (k_X4_forget e6) rfl rfl rfl rfl (Nat.le_of_ble_eq_true rfl) (by decide) (by decide) ?_
    refine mw_iconst (v := 0) dX9_season_32 (by decide) ?_
    refine mw_istore_n (L' := [(1, .int (0 : Int32)), (0, .ref 0)]) dX9_season_33 rfl (by decide) rfl ?_
    refine mw_iconst (v := 0) dX9_season_34 (by decide) ?_
    refine mw_istore_n (L' := [(2, .int (0 : Int32)), (1, .int (0 : Int32)), (0, .ref 0)]) dX9_season_35 rfl (by decide) rfl ?_
    exact mw_sub (L' := [(0, .ref 0), (1, .int (0 : Int32)), (2, .int (0 : Int32))]) [2, 1, 0] rfl (p_X9_season_L36  mN _ _ _ h)
  · have h := mit hc h
    refine mw_aload_n dX9_season_8 0 rfl ?_
    refine mw_iconst (v := 3) dX9_season_9 (by decide) ?_
    obtain ⟨r7, e8, h⟩ := mbd h
    refine mv_callV_i (As := [.int (3 : Int32)]) (ci := 8) lkV_RX9_79_yX9_finding dX9_season_10 (k_X9_finding e8) rfl rfl rfl rfl (Nat.le_of_ble_eq_true rfl) (by decide) (by decide) ?_
    exact mw_iret dX9_season_13 rfl (ers_im h) rfl rfl

theorem dX0_takeWays_0 : decode cX0_takeWays 0 = .ok (.aload_n 0, 1) := by decide +kernel
theorem dX0_takeWays_1 : decode cX0_takeWays 1 = .ok (.aload_n 1, 1) := by decide +kernel
theorem dX0_takeWays_2 : decode cX0_takeWays 2 = .ok (.getfield 21, 3) := by decide +kernel
theorem dX0_takeWays_5 : decode cX0_takeWays 5 = .ok (.putfield 27, 3) := by decide +kernel
theorem dX0_takeWays_8 : decode cX0_takeWays 8 = .ok (.iconst 0, 1) := by decide +kernel
theorem dX0_takeWays_9 : decode cX0_takeWays 9 = .ok (.istore_n 2, 1) := by decide +kernel
theorem dX0_takeWays_10 : decode cX0_takeWays 10 = .ok (.iload_n 2, 1) := by decide +kernel
theorem dX0_takeWays_11 : decode cX0_takeWays 11 = .ok (.aload_n 0, 1) := by decide +kernel
theorem dX0_takeWays_12 : decode cX0_takeWays 12 = .ok (.getfield 27, 3) := by decide +kernel
theorem dX0_takeWays_15 : decode cX0_takeWays 15 = .ok (.if_icmp .ge 33, 3) := by decide +kernel
theorem dX0_takeWays_18 : decode cX0_takeWays 18 = .ok (.aload_n 0, 1) := by decide +kernel
theorem dX0_takeWays_19 : decode cX0_takeWays 19 = .ok (.getfield 9, 3) := by decide +kernel
theorem dX0_takeWays_22 : decode cX0_takeWays 22 = .ok (.iload_n 2, 1) := by decide +kernel
theorem dX0_takeWays_23 : decode cX0_takeWays 23 = .ok (.aload_n 1, 1) := by decide +kernel
theorem dX0_takeWays_24 : decode cX0_takeWays 24 = .ok (.iload_n 2, 1) := by decide +kernel
theorem dX0_takeWays_25 : decode cX0_takeWays 25 = .ok (.invokevirtual 30, 3) := by decide +kernel
theorem dX0_takeWays_28 : decode cX0_takeWays 28 = .ok (.i2l, 1) := by decide +kernel
theorem dX0_takeWays_29 : decode cX0_takeWays 29 = .ok (.lastore, 1) := by decide +kernel
theorem dX0_takeWays_30 : decode cX0_takeWays 30 = .ok (.aload_n 0, 1) := by decide +kernel
theorem dX0_takeWays_31 : decode cX0_takeWays 31 = .ok (.getfield 15, 3) := by decide +kernel
theorem dX0_takeWays_34 : decode cX0_takeWays 34 = .ok (.iload_n 2, 1) := by decide +kernel
theorem dX0_takeWays_35 : decode cX0_takeWays 35 = .ok (.aload_n 1, 1) := by decide +kernel
theorem dX0_takeWays_36 : decode cX0_takeWays 36 = .ok (.iload_n 2, 1) := by decide +kernel
theorem dX0_takeWays_37 : decode cX0_takeWays 37 = .ok (.invokevirtual 34, 3) := by decide +kernel
theorem dX0_takeWays_40 : decode cX0_takeWays 40 = .ok (.i2l, 1) := by decide +kernel
theorem dX0_takeWays_41 : decode cX0_takeWays 41 = .ok (.lastore, 1) := by decide +kernel
theorem dX0_takeWays_42 : decode cX0_takeWays 42 = .ok (.iinc 2 1, 3) := by decide +kernel
theorem dX0_takeWays_45 : decode cX0_takeWays 45 = .ok (.goto (-35), 3) := by decide +kernel
theorem dX0_takeWays_48 : decode cX0_takeWays 48 = .ok (.return_, 1) := by decide +kernel
def e_X0_takeWays_39_1_L10  : Nat → Int32 → ES → Option ES
  | 0, _, _ => none
  | n + 1, x2, σ => if (eI σ 39 4) ≤ x2 then (some σ) else ((e_X1_bringsOf_1 σ x2).bind (fun r1 => if mib x2 14 = true then ((e_X1_lastsOf_1 (uL σ 40 x2.toNatClampNeg r1.toInt64) x2).bind (fun r4 => e_X0_takeWays_39_1_L10 n (x2 + 1) (uL (uL σ 40 x2.toNatClampNeg r1.toInt64) 41 x2.toNatClampNeg r4.toInt64))) else none))
set_option maxRecDepth 100000 in
set_option maxHeartbeats 4000000 in
theorem p_X0_takeWays_39_1_L10 {l : Launch} {E : MX} {out : ES}   : ∀ (n : Nat) (x2 : Int32) (σ : ES), e_X0_takeWays_39_1_L10 n x2 σ = some out → MV l E cX0_takeWays RX0 3 none 6 (82, none, mkS out) (mkS σ) 10 [(0, .ref 39), (1, .ref 1), (2, .int x2)] [] := by
  intro n
  induction n with
  | zero =>
    intro x2 σ h
    exact nomatch h
  | succ n ih =>
    intro x2 σ h
    rw [e_X0_takeWays_39_1_L10] at h
    refine mw_iload_n dX0_takeWays_10 2 rfl ?_
    refine mw_aload_n dX0_takeWays_11 0 rfl ?_
    refine ev_getI fd_RX0_27_6 dX0_takeWays_12 rfl rfl ?_
    refine mw_icmp_ge (tgt := 48) dX0_takeWays_15 (by decide) (fun hc => ?_) (fun hc => ?_)
    · have h := mit hc h
      exact mw_vret dX0_takeWays_48 rfl (ers_vm h) rfl rfl
    · have h := mie hc h
      refine mw_aload_n dX0_takeWays_18 0 rfl ?_
      refine ev_getR (q := 40) fd_RX0_9_6 dX0_takeWays_19 rfl rfl rfl ?_
      refine mw_iload_n dX0_takeWays_22 2 rfl ?_
      refine mw_aload_n dX0_takeWays_23 1 rfl ?_
      refine mw_iload_n dX0_takeWays_24 2 rfl ?_
      obtain ⟨r1, e2, h⟩ := mbd h
      refine mv_callV_i (As := [.int x2]) (ci := 0) lkV_RX0_30_yX1_bringsOf dX0_takeWays_25 (k_X1_bringsOf_1 e2) rfl rfl rfl rfl (Nat.le_of_ble_eq_true rfl) (by decide) (by decide) ?_
      refine mw_i2l dX0_takeWays_28 ?_
      obtain ⟨m3, h⟩ := mif h
      refine ev_last dX0_takeWays_29 (by decide) rfl m3 ?_
      refine mw_aload_n dX0_takeWays_30 0 rfl ?_
      refine ev_getR (q := 41) fd_RX0_15_6 dX0_takeWays_31 rfl rfl rfl ?_
      refine mw_iload_n dX0_takeWays_34 2 rfl ?_
      refine mw_aload_n dX0_takeWays_35 1 rfl ?_
      refine mw_iload_n dX0_takeWays_36 2 rfl ?_
      obtain ⟨r4, e5, h⟩ := mbd h
      refine mv_callV_i (As := [.int x2]) (ci := 0) lkV_RX0_34_yX1_lastsOf dX0_takeWays_37 (k_X1_lastsOf_1 e5) rfl rfl rfl rfl (Nat.le_of_ble_eq_true rfl) (by decide) (by decide) ?_
      refine mw_i2l dX0_takeWays_40 ?_
      refine ev_last dX0_takeWays_41 (by decide) rfl m3 ?_
      refine mw_iinc (v := (x2 + 1)) (L' := [(2, .int (x2 + 1)), (0, .ref 39), (1, .ref 1)]) dX0_takeWays_42 2 rfl rfl (by decide) rfl ?_
      refine mw_goto (tgt := 10) dX0_takeWays_45 (by decide) ?_
      exact mw_sub (L' := [(0, .ref 39), (1, .ref 1), (2, .int (x2 + 1))]) [1, 2, 0] rfl (ih _ _ h)
def e_X0_takeWays_39_1 (σ : ES) : Option ES := e_X0_takeWays_39_1_L10 mN (0 : Int32) (uI σ 39 4 (eI σ 1 2))
set_option maxRecDepth 100000 in
set_option maxHeartbeats 4000000 in
theorem k_X0_takeWays_39_1 {l : Launch} {σ : ES}  {out : ES} (h : e_X0_takeWays_39_1 σ = some out) : MK l yX0_takeWays cX0_takeWays 3 none 6 [.ref 39, .ref 1] (mkS σ) none (mkS out) := by
  unfold e_X0_takeWays_39_1 at h
  refine mw_entry (own := RX0) (ini := false) (L := [(0, .ref 39), (1, .ref 1)]) (by decide +kernel) rfl (fun h => nomatch h) rfl (Nat.le_of_ble_eq_true rfl) (Nat.le_of_ble_eq_true rfl) (fun E => ?_)
  refine mw_aload_n dX0_takeWays_0 0 rfl ?_
  refine mw_aload_n dX0_takeWays_1 1 rfl ?_
  refine ev_getI fd_RX0_21_0 dX0_takeWays_2 rfl rfl ?_
  refine ev_putI fw_RX0_27_6 dX0_takeWays_5 rfl rfl ?_
  refine mw_iconst (v := 0) dX0_takeWays_8 (by decide) ?_
  refine mw_istore_n (L' := [(2, .int (0 : Int32)), (0, .ref 39), (1, .ref 1)]) dX0_takeWays_9 rfl (by decide) rfl ?_
  exact mw_sub (L' := [(0, .ref 39), (1, .ref 1), (2, .int (0 : Int32))]) [1, 2, 0] rfl (p_X0_takeWays_39_1_L10  mN _ _ h)

theorem dX0_together_0 : decode cX0_together 0 = .ok (.lconst 0, 1) := by decide +kernel
theorem dX0_together_1 : decode cX0_together 1 = .ok (.lstore_n 3, 1) := by decide +kernel
theorem dX0_together_2 : decode cX0_together 2 = .ok (.iconst 0, 1) := by decide +kernel
theorem dX0_together_3 : decode cX0_together 3 = .ok (.istore 5, 2) := by decide +kernel
theorem dX0_together_5 : decode cX0_together 5 = .ok (.iload 5, 2) := by decide +kernel
theorem dX0_together_7 : decode cX0_together 7 = .ok (.aload_n 0, 1) := by decide +kernel
theorem dX0_together_8 : decode cX0_together 8 = .ok (.getfield 27, 3) := by decide +kernel
theorem dX0_together_11 : decode cX0_together 11 = .ok (.if_icmp .ge 25, 3) := by decide +kernel
theorem dX0_together_14 : decode cX0_together 14 = .ok (.iload_n 2, 1) := by decide +kernel
theorem dX0_together_15 : decode cX0_together 15 = .ok (.iconst 1, 1) := by decide +kernel
theorem dX0_together_16 : decode cX0_together 16 = .ok (.iload 5, 2) := by decide +kernel
theorem dX0_together_18 : decode cX0_together 18 = .ok (.ishl, 1) := by decide +kernel
theorem dX0_together_19 : decode cX0_together 19 = .ok (.iand, 1) := by decide +kernel
theorem dX0_together_20 : decode cX0_together 20 = .ok (.ifCond .eq 10, 3) := by decide +kernel
theorem dX0_together_23 : decode cX0_together 23 = .ok (.lload_n 3, 1) := by decide +kernel
theorem dX0_together_24 : decode cX0_together 24 = .ok (.aload_n 1, 1) := by decide +kernel
theorem dX0_together_25 : decode cX0_together 25 = .ok (.iload 5, 2) := by decide +kernel
theorem dX0_together_27 : decode cX0_together 27 = .ok (.laload, 1) := by decide +kernel
theorem dX0_together_28 : decode cX0_together 28 = .ok (.ladd, 1) := by decide +kernel
theorem dX0_together_29 : decode cX0_together 29 = .ok (.lstore_n 3, 1) := by decide +kernel
theorem dX0_together_30 : decode cX0_together 30 = .ok (.iinc 5 1, 3) := by decide +kernel
theorem dX0_together_33 : decode cX0_together 33 = .ok (.goto (-28), 3) := by decide +kernel
theorem dX0_together_36 : decode cX0_together 36 = .ok (.lload_n 3, 1) := by decide +kernel
theorem dX0_together_37 : decode cX0_together 37 = .ok (.lreturn, 1) := by decide +kernel
def e_X0_together_39_40_L5 (σ : ES) (a2 : Int32) : Nat → Int64 → Int32 → Option Int64
  | 0, _, _ => none
  | n + 1, x3, x5 => if (eI σ 39 4) ≤ x5 then (some x3) else (if (a2 &&& ((1 : Int32) <<< (x5 &&& 31))) = 0 then (e_X0_together_39_40_L5 σ a2 n x3 (x5 + 1)) else (if mib x5 14 = true then (e_X0_together_39_40_L5 σ a2 n (x3 + (eL σ 40 x5.toNatClampNeg)) (x5 + 1)) else none))
set_option maxRecDepth 100000 in
set_option maxHeartbeats 4000000 in
theorem p_X0_together_39_40_L5 {l : Launch} {E : MX} {out : Int64} {σ : ES} {a2 : Int32}  : ∀ (n : Nat) (x3 : Int64) (x5 : Int32), e_X0_together_39_40_L5 σ a2 n x3 x5 = some out → MV l E cX0_together RX0 6 (some .long) 1 (82, (some (.long out)), mkS σ) (mkS σ) 5 [(0, .ref 39), (1, .ref 40), (2, .int a2), (3, .long x3), (5, .int x5)] [] := by
  intro n
  induction n with
  | zero =>
    intro x3 x5 h
    exact nomatch h
  | succ n ih =>
    intro x3 x5 h
    rw [e_X0_together_39_40_L5] at h
    refine mw_iload dX0_together_5 4 rfl ?_
    refine mw_aload_n dX0_together_7 0 rfl ?_
    refine ev_getI fd_RX0_27_6 dX0_together_8 rfl rfl ?_
    refine mw_icmp_ge (tgt := 36) dX0_together_11 (by decide) (fun hc => ?_) (fun hc => ?_)
    · have h := mit hc h
      refine mw_lload_n dX0_together_36 3 rfl ?_
      exact mw_lret dX0_together_37 rfl (ers_l h) rfl rfl
    · have h := mie hc h
      refine mw_iload_n dX0_together_14 2 rfl ?_
      refine mw_iconst (v := 1) dX0_together_15 (by decide) ?_
      refine mw_iload dX0_together_16 4 rfl ?_
      refine mw_ishl dX0_together_18 ?_
      refine mw_iand dX0_together_19 ?_
      refine mw_if_eq (tgt := 30) dX0_together_20 (by decide) (fun hc => ?_) (fun hc => ?_)
      · have h := mit hc h
        refine mw_iinc (v := (x5 + 1)) (L' := [(5, .int (x5 + 1)), (0, .ref 39), (1, .ref 40), (2, .int a2), (3, .long x3)]) dX0_together_30 4 rfl rfl (by decide) rfl ?_
        refine mw_goto (tgt := 5) dX0_together_33 (by decide) ?_
        exact mw_sub (L' := [(0, .ref 39), (1, .ref 40), (2, .int a2), (3, .long x3), (5, .int (x5 + 1))]) [1, 2, 3, 4, 0] rfl (ih _ _ h)
      · have h := mie hc h
        refine mw_lload_n dX0_together_23 3 rfl ?_
        refine mw_aload_n dX0_together_24 1 rfl ?_
        refine mw_iload dX0_together_25 4 rfl ?_
        obtain ⟨m1, h⟩ := mif h
        refine ev_lald dX0_together_27 (by decide) rfl m1 ?_
        refine mw_ladd dX0_together_28 ?_
        refine mw_lstore_n (L' := [(3, .long (x3 + (eL σ 40 x5.toNatClampNeg))), (0, .ref 39), (1, .ref 40), (2, .int a2), (5, .int x5)]) dX0_together_29 rfl (by decide) rfl ?_
        refine mw_iinc (v := (x5 + 1)) (L' := [(5, .int (x5 + 1)), (3, .long (x3 + (eL σ 40 x5.toNatClampNeg))), (0, .ref 39), (1, .ref 40), (2, .int a2)]) dX0_together_30 4 rfl rfl (by decide) rfl ?_
        refine mw_goto (tgt := 5) dX0_together_33 (by decide) ?_
        exact mw_sub (L' := [(0, .ref 39), (1, .ref 40), (2, .int a2), (3, .long (x3 + (eL σ 40 x5.toNatClampNeg))), (5, .int (x5 + 1))]) [2, 3, 4, 1, 0] rfl (ih _ _ h)
def e_X0_together_39_40 (σ : ES) (a2 : Int32) : Option Int64 := e_X0_together_39_40_L5 σ a2 mN (0 : Int64) (0 : Int32)
set_option maxRecDepth 100000 in
set_option maxHeartbeats 4000000 in
theorem k_X0_together_39_40 {l : Launch} {σ : ES} {a2 : Int32} {out : Int64} (h : e_X0_together_39_40 σ a2 = some out) : MK l yX0_together cX0_together 6 (some .long) 1 [.ref 39, .ref 40, .int a2] (mkS σ) (some (.long out)) (mkS σ) := by
  unfold e_X0_together_39_40 at h
  refine mw_entry (own := RX0) (ini := false) (L := [(0, .ref 39), (1, .ref 40), (2, .int a2)]) (by decide +kernel) rfl (fun h => nomatch h) rfl (Nat.le_of_ble_eq_true rfl) (Nat.le_of_ble_eq_true rfl) (fun E => ?_)
  refine mw_lconst (v := 0) dX0_together_0 (by decide) ?_
  refine mw_lstore_n (L' := [(3, .long (0 : Int64)), (0, .ref 39), (1, .ref 40), (2, .int a2)]) dX0_together_1 rfl (by decide) rfl ?_
  refine mw_iconst (v := 0) dX0_together_2 (by decide) ?_
  refine mw_istore (L' := [(5, .int (0 : Int32)), (3, .long (0 : Int64)), (0, .ref 39), (1, .ref 40), (2, .int a2)]) dX0_together_3 (by decide) rfl ?_
  exact mw_sub (L' := [(0, .ref 39), (1, .ref 40), (2, .int a2), (3, .long (0 : Int64)), (5, .int (0 : Int32))]) [2, 3, 4, 1, 0] rfl (p_X0_together_39_40_L5  mN _ _ h)

def e_X0_together_39_41_L5 (σ : ES) (a2 : Int32) : Nat → Int64 → Int32 → Option Int64
  | 0, _, _ => none
  | n + 1, x3, x5 => if (eI σ 39 4) ≤ x5 then (some x3) else (if (a2 &&& ((1 : Int32) <<< (x5 &&& 31))) = 0 then (e_X0_together_39_41_L5 σ a2 n x3 (x5 + 1)) else (if mib x5 14 = true then (e_X0_together_39_41_L5 σ a2 n (x3 + (eL σ 41 x5.toNatClampNeg)) (x5 + 1)) else none))
set_option maxRecDepth 100000 in
set_option maxHeartbeats 4000000 in
theorem p_X0_together_39_41_L5 {l : Launch} {E : MX} {out : Int64} {σ : ES} {a2 : Int32}  : ∀ (n : Nat) (x3 : Int64) (x5 : Int32), e_X0_together_39_41_L5 σ a2 n x3 x5 = some out → MV l E cX0_together RX0 6 (some .long) 1 (82, (some (.long out)), mkS σ) (mkS σ) 5 [(0, .ref 39), (1, .ref 41), (2, .int a2), (3, .long x3), (5, .int x5)] [] := by
  intro n
  induction n with
  | zero =>
    intro x3 x5 h
    exact nomatch h
  | succ n ih =>
    intro x3 x5 h
    rw [e_X0_together_39_41_L5] at h
    refine mw_iload dX0_together_5 4 rfl ?_
    refine mw_aload_n dX0_together_7 0 rfl ?_
    refine ev_getI fd_RX0_27_6 dX0_together_8 rfl rfl ?_
    refine mw_icmp_ge (tgt := 36) dX0_together_11 (by decide) (fun hc => ?_) (fun hc => ?_)
    · have h := mit hc h
      refine mw_lload_n dX0_together_36 3 rfl ?_
      exact mw_lret dX0_together_37 rfl (ers_l h) rfl rfl
    · have h := mie hc h
      refine mw_iload_n dX0_together_14 2 rfl ?_
      refine mw_iconst (v := 1) dX0_together_15 (by decide) ?_
      refine mw_iload dX0_together_16 4 rfl ?_
      refine mw_ishl dX0_together_18 ?_
      refine mw_iand dX0_together_19 ?_
      refine mw_if_eq (tgt := 30) dX0_together_20 (by decide) (fun hc => ?_) (fun hc => ?_)
      · have h := mit hc h
        refine mw_iinc (v := (x5 + 1)) (L' := [(5, .int (x5 + 1)), (0, .ref 39), (1, .ref 41), (2, .int a2), (3, .long x3)]) dX0_together_30 4 rfl rfl (by decide) rfl ?_
        refine mw_goto (tgt := 5) dX0_together_33 (by decide) ?_
        exact mw_sub (L' := [(0, .ref 39), (1, .ref 41), (2, .int a2), (3, .long x3), (5, .int (x5 + 1))]) [1, 2, 3, 4, 0] rfl (ih _ _ h)
      · have h := mie hc h
        refine mw_lload_n dX0_together_23 3 rfl ?_
        refine mw_aload_n dX0_together_24 1 rfl ?_
        refine mw_iload dX0_together_25 4 rfl ?_
        obtain ⟨m1, h⟩ := mif h
        refine ev_lald dX0_together_27 (by decide) rfl m1 ?_
        refine mw_ladd dX0_together_28 ?_
        refine mw_lstore_n (L' := [(3, .long (x3 + (eL σ 41 x5.toNatClampNeg))), (0, .ref 39), (1, .ref 41), (2, .int a2), (5, .int x5)]) dX0_together_29 rfl (by decide) rfl ?_
        refine mw_iinc (v := (x5 + 1)) (L' := [(5, .int (x5 + 1)), (3, .long (x3 + (eL σ 41 x5.toNatClampNeg))), (0, .ref 39), (1, .ref 41), (2, .int a2)]) dX0_together_30 4 rfl rfl (by decide) rfl ?_
        refine mw_goto (tgt := 5) dX0_together_33 (by decide) ?_
        exact mw_sub (L' := [(0, .ref 39), (1, .ref 41), (2, .int a2), (3, .long (x3 + (eL σ 41 x5.toNatClampNeg))), (5, .int (x5 + 1))]) [2, 3, 4, 1, 0] rfl (ih _ _ h)
def e_X0_together_39_41 (σ : ES) (a2 : Int32) : Option Int64 := e_X0_together_39_41_L5 σ a2 mN (0 : Int64) (0 : Int32)
set_option maxRecDepth 100000 in
set_option maxHeartbeats 4000000 in
theorem k_X0_together_39_41 {l : Launch} {σ : ES} {a2 : Int32} {out : Int64} (h : e_X0_together_39_41 σ a2 = some out) : MK l yX0_together cX0_together 6 (some .long) 1 [.ref 39, .ref 41, .int a2] (mkS σ) (some (.long out)) (mkS σ) := by
  unfold e_X0_together_39_41 at h
  refine mw_entry (own := RX0) (ini := false) (L := [(0, .ref 39), (1, .ref 41), (2, .int a2)]) (by decide +kernel) rfl (fun h => nomatch h) rfl (Nat.le_of_ble_eq_true rfl) (Nat.le_of_ble_eq_true rfl) (fun E => ?_)
  refine mw_lconst (v := 0) dX0_together_0 (by decide) ?_
  refine mw_lstore_n (L' := [(3, .long (0 : Int64)), (0, .ref 39), (1, .ref 41), (2, .int a2)]) dX0_together_1 rfl (by decide) rfl ?_
  refine mw_iconst (v := 0) dX0_together_2 (by decide) ?_
  refine mw_istore (L' := [(5, .int (0 : Int32)), (3, .long (0 : Int64)), (0, .ref 39), (1, .ref 41), (2, .int a2)]) dX0_together_3 (by decide) rfl ?_
  exact mw_sub (L' := [(0, .ref 39), (1, .ref 41), (2, .int a2), (3, .long (0 : Int64)), (5, .int (0 : Int32))]) [2, 3, 4, 1, 0] rfl (p_X0_together_39_41_L5  mN _ _ h)

theorem dX0_weigh_0 : decode cX0_weigh 0 = .ok (.iconst 0, 1) := by decide +kernel
theorem dX0_weigh_1 : decode cX0_weigh 1 = .ok (.istore 5, 2) := by decide +kernel
theorem dX0_weigh_3 : decode cX0_weigh 3 = .ok (.iload 5, 2) := by decide +kernel
theorem dX0_weigh_5 : decode cX0_weigh 5 = .ok (.aload_n 0, 1) := by decide +kernel
theorem dX0_weigh_6 : decode cX0_weigh 6 = .ok (.getfield 27, 3) := by decide +kernel
theorem dX0_weigh_9 : decode cX0_weigh 9 = .ok (.if_icmp .ge 35, 3) := by decide +kernel
theorem dX0_weigh_12 : decode cX0_weigh 12 = .ok (.aload_n 0, 1) := by decide +kernel
theorem dX0_weigh_13 : decode cX0_weigh 13 = .ok (.getfield 18, 3) := by decide +kernel
theorem dX0_weigh_16 : decode cX0_weigh 16 = .ok (.iload 5, 2) := by decide +kernel
theorem dX0_weigh_18 : decode cX0_weigh 18 = .ok (.lload_n 3, 1) := by decide +kernel
theorem dX0_weigh_19 : decode cX0_weigh 19 = .ok (.aload_n 0, 1) := by decide +kernel
theorem dX0_weigh_20 : decode cX0_weigh 20 = .ok (.getfield 9, 3) := by decide +kernel
theorem dX0_weigh_23 : decode cX0_weigh 23 = .ok (.iload 5, 2) := by decide +kernel
theorem dX0_weigh_25 : decode cX0_weigh 25 = .ok (.laload, 1) := by decide +kernel
theorem dX0_weigh_26 : decode cX0_weigh 26 = .ok (.lmul, 1) := by decide +kernel
theorem dX0_weigh_27 : decode cX0_weigh 27 = .ok (.lload_n 1, 1) := by decide +kernel
theorem dX0_weigh_28 : decode cX0_weigh 28 = .ok (.aload_n 0, 1) := by decide +kernel
theorem dX0_weigh_29 : decode cX0_weigh 29 = .ok (.getfield 15, 3) := by decide +kernel
theorem dX0_weigh_32 : decode cX0_weigh 32 = .ok (.iload 5, 2) := by decide +kernel
theorem dX0_weigh_34 : decode cX0_weigh 34 = .ok (.laload, 1) := by decide +kernel
theorem dX0_weigh_35 : decode cX0_weigh 35 = .ok (.lmul, 1) := by decide +kernel
theorem dX0_weigh_36 : decode cX0_weigh 36 = .ok (.lsub, 1) := by decide +kernel
theorem dX0_weigh_37 : decode cX0_weigh 37 = .ok (.lastore, 1) := by decide +kernel
theorem dX0_weigh_38 : decode cX0_weigh 38 = .ok (.iinc 5 1, 3) := by decide +kernel
theorem dX0_weigh_41 : decode cX0_weigh 41 = .ok (.goto (-38), 3) := by decide +kernel
theorem dX0_weigh_44 : decode cX0_weigh 44 = .ok (.return_, 1) := by decide +kernel
def e_X0_weigh_39_L3 (a1 : Int64) (a3 : Int64) : Nat → Int32 → ES → Option ES
  | 0, _, _ => none
  | n + 1, x5, σ => if (eI σ 39 4) ≤ x5 then (some σ) else (if mib x5 14 = true then (e_X0_weigh_39_L3 a1 a3 n (x5 + 1) (uL σ 42 x5.toNatClampNeg ((a3 * (eL σ 40 x5.toNatClampNeg)) - (a1 * (eL σ 41 x5.toNatClampNeg))))) else none)
set_option maxRecDepth 100000 in
set_option maxHeartbeats 4000000 in
theorem p_X0_weigh_39_L3 {l : Launch} {E : MX} {out : ES} {a1 : Int64} {a3 : Int64}  : ∀ (n : Nat) (x5 : Int32) (σ : ES), e_X0_weigh_39_L3 a1 a3 n x5 σ = some out → MV l E cX0_weigh RX0 6 none 1 (82, none, mkS out) (mkS σ) 3 [(0, .ref 39), (1, .long a1), (3, .long a3), (5, .int x5)] [] := by
  intro n
  induction n with
  | zero =>
    intro x5 σ h
    exact nomatch h
  | succ n ih =>
    intro x5 σ h
    rw [e_X0_weigh_39_L3] at h
    refine mw_iload dX0_weigh_3 3 rfl ?_
    refine mw_aload_n dX0_weigh_5 0 rfl ?_
    refine ev_getI fd_RX0_27_6 dX0_weigh_6 rfl rfl ?_
    refine mw_icmp_ge (tgt := 44) dX0_weigh_9 (by decide) (fun hc => ?_) (fun hc => ?_)
    · have h := mit hc h
      exact mw_vret dX0_weigh_44 rfl (ers_vm h) rfl rfl
    · have h := mie hc h
      refine mw_aload_n dX0_weigh_12 0 rfl ?_
      refine ev_getR (q := 42) fd_RX0_18_6 dX0_weigh_13 rfl rfl rfl ?_
      refine mw_iload dX0_weigh_16 3 rfl ?_
      refine mw_lload_n dX0_weigh_18 2 rfl ?_
      refine mw_aload_n dX0_weigh_19 0 rfl ?_
      refine ev_getR (q := 40) fd_RX0_9_6 dX0_weigh_20 rfl rfl rfl ?_
      refine mw_iload dX0_weigh_23 3 rfl ?_
      obtain ⟨m1, h⟩ := mif h
      refine ev_lald dX0_weigh_25 (by decide) rfl m1 ?_
      refine mw_lmul dX0_weigh_26 ?_
      refine mw_lload_n dX0_weigh_27 1 rfl ?_
      refine mw_aload_n dX0_weigh_28 0 rfl ?_
      refine ev_getR (q := 41) fd_RX0_15_6 dX0_weigh_29 rfl rfl rfl ?_
      refine mw_iload dX0_weigh_32 3 rfl ?_
      refine ev_lald dX0_weigh_34 (by decide) rfl m1 ?_
      refine mw_lmul dX0_weigh_35 ?_
      refine mw_lsub dX0_weigh_36 ?_
      refine ev_last dX0_weigh_37 (by decide) rfl m1 ?_
      refine mw_iinc (v := (x5 + 1)) (L' := [(5, .int (x5 + 1)), (0, .ref 39), (1, .long a1), (3, .long a3)]) dX0_weigh_38 3 rfl rfl (by decide) rfl ?_
      refine mw_goto (tgt := 3) dX0_weigh_41 (by decide) ?_
      exact mw_sub (L' := [(0, .ref 39), (1, .long a1), (3, .long a3), (5, .int (x5 + 1))]) [1, 2, 3, 0] rfl (ih _ _ h)
def e_X0_weigh_39 (a1 : Int64) (a3 : Int64) (σ : ES) : Option ES := e_X0_weigh_39_L3 a1 a3 mN (0 : Int32) σ
set_option maxRecDepth 100000 in
set_option maxHeartbeats 4000000 in
theorem k_X0_weigh_39 {l : Launch} {σ : ES} {a1 : Int64} {a3 : Int64} {out : ES} (h : e_X0_weigh_39 a1 a3 σ = some out) : MK l yX0_weigh cX0_weigh 6 none 1 [.ref 39, .long a1, .long a3] (mkS σ) none (mkS out) := by
  unfold e_X0_weigh_39 at h
  refine mw_entry (own := RX0) (ini := false) (L := [(0, .ref 39), (1, .long a1), (3, .long a3)]) (by decide +kernel) rfl (fun h => nomatch h) rfl (Nat.le_of_ble_eq_true rfl) (Nat.le_of_ble_eq_true rfl) (fun E => ?_)
  refine mw_iconst (v := 0) dX0_weigh_0 (by decide) ?_
  refine mw_istore (L' := [(5, .int (0 : Int32)), (0, .ref 39), (1, .long a1), (3, .long a3)]) dX0_weigh_1 (by decide) rfl ?_
  exact mw_sub (L' := [(0, .ref 39), (1, .long a1), (3, .long a3), (5, .int (0 : Int32))]) [1, 2, 3, 0] rfl (p_X0_weigh_39_L3  mN _ _ h)

theorem dX2_apart_0 : decode cX2_apart 0 = .ok (.aload_n 0, 1) := by decide +kernel
theorem dX2_apart_1 : decode cX2_apart 1 = .ok (.getfield 9, 3) := by decide +kernel
theorem dX2_apart_4 : decode cX2_apart 4 = .ok (.iload_n 1, 1) := by decide +kernel
theorem dX2_apart_5 : decode cX2_apart 5 = .ok (.iaload, 1) := by decide +kernel
theorem dX2_apart_6 : decode cX2_apart 6 = .ok (.aload_n 0, 1) := by decide +kernel
theorem dX2_apart_7 : decode cX2_apart 7 = .ok (.getfield 9, 3) := by decide +kernel
theorem dX2_apart_10 : decode cX2_apart 10 = .ok (.iload_n 2, 1) := by decide +kernel
theorem dX2_apart_11 : decode cX2_apart 11 = .ok (.iaload, 1) := by decide +kernel
theorem dX2_apart_12 : decode cX2_apart 12 = .ok (.if_icmp .eq 7, 3) := by decide +kernel
theorem dX2_apart_15 : decode cX2_apart 15 = .ok (.iconst 1, 1) := by decide +kernel
theorem dX2_apart_16 : decode cX2_apart 16 = .ok (.goto 4, 3) := by decide +kernel
theorem dX2_apart_19 : decode cX2_apart 19 = .ok (.iconst 0, 1) := by decide +kernel
theorem dX2_apart_20 : decode cX2_apart 20 = .ok (.ireturn, 1) := by decide +kernel
def e_X2_apart_43 (σ : ES) (a1 : Int32) (a2 : Int32) : Option Int32 := if mib a1 6 = true then (if mib a2 6 = true then (if (eI σ 44 a1.toNatClampNeg) = (eI σ 44 a2.toNatClampNeg) then (some (0 : Int32)) else (some (1 : Int32))) else none) else none
set_option maxRecDepth 100000 in
set_option maxHeartbeats 4000000 in
theorem k_X2_apart_43 {l : Launch} {σ : ES} {a1 : Int32} {a2 : Int32} {out : Int32} (h : e_X2_apart_43 σ a1 a2 = some out) : MK l yX2_apart cX2_apart 3 (some .boolean) 1 [.ref 43, .int a1, .int a2] (mkS σ) (some (.int out)) (mkS σ) := by
  unfold e_X2_apart_43 at h
  refine mw_entry (own := RX2) (ini := false) (L := [(0, .ref 43), (1, .int a1), (2, .int a2)]) (by decide +kernel) rfl (fun h => nomatch h) rfl (Nat.le_of_ble_eq_true rfl) (Nat.le_of_ble_eq_true rfl) (fun E => ?_)
  refine mw_aload_n dX2_apart_0 0 rfl ?_
  refine ev_getR (q := 44) fd_RX2_9_1 dX2_apart_1 rfl rfl rfl ?_
  refine mw_iload_n dX2_apart_4 1 rfl ?_
  obtain ⟨m1, h⟩ := mif h
  refine ev_iald dX2_apart_5 (by decide) rfl m1 ?_
  refine mw_aload_n dX2_apart_6 0 rfl ?_
  refine ev_getR (q := 44) fd_RX2_9_1 dX2_apart_7 rfl rfl rfl ?_
  refine mw_iload_n dX2_apart_10 2 rfl ?_
  obtain ⟨m2, h⟩ := mif h
  refine ev_iald dX2_apart_11 (by decide) rfl m2 ?_
  refine mw_icmp_eq (tgt := 19) dX2_apart_12 (by decide) (fun hc => ?_) (fun hc => ?_)
  · have h := mit hc h
    refine mw_iconst (v := 0) dX2_apart_19 (by decide) ?_
    exact mw_zret dX2_apart_20 rfl (by decide) (ers_i h) rfl rfl
  · have h := mie hc h
    refine mw_iconst (v := 1) dX2_apart_15 (by decide) ?_
    refine mw_goto (tgt := 20) dX2_apart_16 (by decide) ?_
    exact mw_zret dX2_apart_20 rfl (by decide) (ers_i h) rfl rfl
