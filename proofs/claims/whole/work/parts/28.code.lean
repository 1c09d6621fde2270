/-! ===== methods as functions, and that the machine does so (written by gen/all.py) ===== -/
theorem dX10_nextChoice_0 : decode cX10_nextChoice 0 = .ok (.iconst (-1), 1) := by decide +kernel
theorem dX10_nextChoice_1 : decode cX10_nextChoice 1 = .ok (.istore 5, 2) := by decide +kernel
theorem dX10_nextChoice_3 : decode cX10_nextChoice 3 = .ok (.lconst 0, 1) := by decide +kernel
theorem dX10_nextChoice_4 : decode cX10_nextChoice 4 = .ok (.lstore 6, 2) := by decide +kernel
theorem dX10_nextChoice_6 : decode cX10_nextChoice 6 = .ok (.iconst 0, 1) := by decide +kernel
theorem dX10_nextChoice_7 : decode cX10_nextChoice 7 = .ok (.istore 8, 2) := by decide +kernel
theorem dX10_nextChoice_9 : decode cX10_nextChoice 9 = .ok (.iload 8, 2) := by decide +kernel
theorem dX10_nextChoice_11 : decode cX10_nextChoice 11 = .ok (.aload_n 0, 1) := by decide +kernel
theorem dX10_nextChoice_12 : decode cX10_nextChoice 12 = .ok (.invokevirtual 227, 3) := by decide +kernel
theorem dX10_nextChoice_15 : decode cX10_nextChoice 15 = .ok (.if_icmp .ge 58, 3) := by decide +kernel
theorem dX10_nextChoice_18 : decode cX10_nextChoice 18 = .ok (.aload_n 0, 1) := by decide +kernel
theorem dX10_nextChoice_19 : decode cX10_nextChoice 19 = .ok (.iload 8, 2) := by decide +kernel
theorem dX10_nextChoice_21 : decode cX10_nextChoice 21 = .ok (.invokevirtual 230, 3) := by decide +kernel
theorem dX10_nextChoice_24 : decode cX10_nextChoice 24 = .ok (.ifCond .eq 43, 3) := by decide +kernel
theorem dX10_nextChoice_27 : decode cX10_nextChoice 27 = .ok (.aload_n 0, 1) := by decide +kernel
theorem dX10_nextChoice_28 : decode cX10_nextChoice 28 = .ok (.iload 8, 2) := by decide +kernel
theorem dX10_nextChoice_30 : decode cX10_nextChoice 30 = .ok (.invokevirtual 233, 3) := by decide +kernel
theorem dX10_nextChoice_33 : decode cX10_nextChoice 33 = .ok (.lload_n 3, 1) := by decide +kernel
theorem dX10_nextChoice_34 : decode cX10_nextChoice 34 = .ok (.lmul, 1) := by decide +kernel
theorem dX10_nextChoice_35 : decode cX10_nextChoice 35 = .ok (.lload_n 1, 1) := by decide +kernel
theorem dX10_nextChoice_36 : decode cX10_nextChoice 36 = .ok (.aload_n 0, 1) := by decide +kernel
theorem dX10_nextChoice_37 : decode cX10_nextChoice 37 = .ok (.iload 8, 2) := by decide +kernel
theorem dX10_nextChoice_39 : decode cX10_nextChoice 39 = .ok (.invokevirtual 236, 3) := by decide +kernel
theorem dX10_nextChoice_42 : decode cX10_nextChoice 42 = .ok (.lmul, 1) := by decide +kernel
theorem dX10_nextChoice_43 : decode cX10_nextChoice 43 = .ok (.lsub, 1) := by decide +kernel
theorem dX10_nextChoice_44 : decode cX10_nextChoice 44 = .ok (.lstore 9, 2) := by decide +kernel
theorem dX10_nextChoice_46 : decode cX10_nextChoice 46 = .ok (.iload 5, 2) := by decide +kernel
theorem dX10_nextChoice_48 : decode cX10_nextChoice 48 = .ok (.ifCond .lt 11, 3) := by decide +kernel
theorem dX10_nextChoice_51 : decode cX10_nextChoice 51 = .ok (.lload 9, 2) := by decide +kernel
theorem dX10_nextChoice_53 : decode cX10_nextChoice 53 = .ok (.lload 6, 2) := by decide +kernel
theorem dX10_nextChoice_55 : decode cX10_nextChoice 55 = .ok (.lcmp, 1) := by decide +kernel
theorem dX10_nextChoice_56 : decode cX10_nextChoice 56 = .ok (.ifCond .le 11, 3) := by decide +kernel
theorem dX10_nextChoice_59 : decode cX10_nextChoice 59 = .ok (.iload 8, 2) := by decide +kernel
theorem dX10_nextChoice_61 : decode cX10_nextChoice 61 = .ok (.istore 5, 2) := by decide +kernel
theorem dX10_nextChoice_63 : decode cX10_nextChoice 63 = .ok (.lload 9, 2) := by decide +kernel
theorem dX10_nextChoice_65 : decode cX10_nextChoice 65 = .ok (.lstore 6, 2) := by decide +kernel
theorem dX10_nextChoice_67 : decode cX10_nextChoice 67 = .ok (.iinc 8 1, 3) := by decide +kernel
theorem dX10_nextChoice_70 : decode cX10_nextChoice 70 = .ok (.goto (-61), 3) := by decide +kernel
theorem dX10_nextChoice_73 : decode cX10_nextChoice 73 = .ok (.iload 5, 2) := by decide +kernel
theorem dX10_nextChoice_75 : decode cX10_nextChoice 75 = .ok (.ireturn, 1) := by decide +kernel
def e_X10_nextChoice_L9 (σ : ES) (a1 : Int64) (a3 : Int64) : Nat → Int32 → Int64 → Int32 → Option Int32
  | 0, _, _, _ => none
  | n + 1, x5, x6, x8 => (e_X10_allSets σ).bind (fun r1 => if r1 ≤ x8 then (some x5) else ((e_X10_isChoice σ x8).bind (fun r3 => if r3 = 0 then (e_X10_nextChoice_L9 σ a1 a3 n x5 x6 (x8 + 1)) else ((e_X10_aboveOf σ x8).bind (fun r5 => (e_X10_belowOf σ x8).bind (fun r7 => if x5 < 0 then (e_X10_nextChoice_L9 σ a1 a3 n x8 ((r5 * a3) - (a1 * r7)) (x8 + 1)) else (if ((r5 * a3) - (a1 * r7)) ≤ x6 then (e_X10_nextChoice_L9 σ a1 a3 n x5 x6 (x8 + 1)) else (e_X10_nextChoice_L9 σ a1 a3 n x8 ((r5 * a3) - (a1 * r7)) (x8 + 1)))))))))
set_option maxRecDepth 100000 in
set_option maxHeartbeats 4000000 in
theorem p_X10_nextChoice_L9 {l : Launch} {E : MX} {out : Int32} {σ : ES} {a1 : Int64} {a3 : Int64}  : ∀ (n : Nat) (x5 : Int32) (x6 : Int64) (x8 : Int32), e_X10_nextChoice_L9 σ a1 a3 n x5 x6 x8 = some out → MV l E cX10_nextChoice RX10 11 (some .int) 5 (82, (some (.int out)), mkS σ) (mkS σ) 9 [(0, .ref 69), (1, .long a1), (3, .long a3), (5, .int x5), (6, .long x6), (8, .int x8)] [] := by
  intro n
  induction n with
  | zero =>
    intro x5 x6 x8 h
    exact nomatch h
  | succ n ih =>
    intro x5 x6 x8 h
    rw [e_X10_nextChoice_L9] at h
    refine mw_iload dX10_nextChoice_9 5 rfl ?_
    refine mw_aload_n dX10_nextChoice_11 0 rfl ?_
    obtain ⟨r1, e2, h⟩ := mbd h
    refine mv_callV_i (As := []) (ci := 9) lkV_RX10_227_yX10_allSets dX10_nextChoice_12 (k_X10_allSets e2) rfl rfl rfl rfl (Nat.le_of_ble_eq_true rfl) (by decide) (by decide) ?_
    refine mw_icmp_ge (tgt := 73) dX10_nextChoice_15 (by decide) (fun hc => ?_) (fun hc => ?_)
    · have h := mit hc h
      refine mw_iload dX10_nextChoice_73 3 rfl ?_
      exact mw_iret dX10_nextChoice_75 rfl (ers_i h) rfl rfl
    · have h := mie hc h
      refine mw_aload_n dX10_nextChoice_18 0 rfl ?_
      refine mw_iload dX10_nextChoice_19 5 rfl ?_
      obtain ⟨r3, e4, h⟩ := mbd h
      refine mv_callV_i (As := [.int x8]) (ci := 9) lkV_RX10_230_yX10_isChoice dX10_nextChoice_21 (k_X10_isChoice e4) rfl rfl rfl rfl (Nat.le_of_ble_eq_true rfl) (by decide) (by decide) ?_
      refine mw_if_eq (tgt := 67) dX10_nextChoice_24 (by decide) (fun hc => ?_) (fun hc => ?_)
      · have h := mit hc h
        refine mw_iinc (v := (x8 + 1)) (L' := [(8, .int (x8 + 1)), (0, .ref 69), (1, .long a1), (3, .long a3), (5, .int x5), (6, .long x6)]) dX10_nextChoice_67 5 rfl rfl (by decide) rfl ?_
        refine mw_goto (tgt := 9) dX10_nextChoice_70 (by decide) ?_
        exact mw_sub (L' := [(0, .ref 69), (1, .long a1), (3, .long a3), (5, .int x5), (6, .long x6), (8, .int (x8 + 1))]) [1, 2, 3, 4, 5, 0] rfl (ih _ _ _ h)
      · have h := mie hc h
        refine mw_aload_n dX10_nextChoice_27 0 rfl ?_
        refine mw_iload dX10_nextChoice_28 5 rfl ?_
        obtain ⟨r5, e6, h⟩ := mbd h
        refine mv_callV_l (As := [.int x8]) (ci := 9) lkV_RX10_233_yX10_aboveOf dX10_nextChoice_30 (k_X10_aboveOf e6) rfl rfl rfl rfl (Nat.le_of_ble_eq_true rfl) (by decide) (by decide) ?_
        refine mw_lload_n dX10_nextChoice_33 2 rfl ?_
        refine mw_lmul dX10_nextChoice_34 ?_
        refine mw_lload_n dX10_nextChoice_35 1 rfl ?_
        refine mw_aload_n dX10_nextChoice_36 0 rfl ?_
        refine mw_iload dX10_nextChoice_37 5 rfl ?_
        obtain ⟨r7, e8, h⟩ := mbd h
        refine mv_callV_l (As := [.int x8]) (ci := 9) lkV_RX10_236_yX10_belowOf dX10_nextChoice_39 (k_X10_belowOf e8) rfl rfl rfl rfl (Nat.le_of_ble_eq_true rfl) (by decide) (by decide) ?_
        refine mw_lmul dX10_nextChoice_42 ?_
        refine mw_lsub dX10_nextChoice_43 ?_
        refine mw_lstore (L' := [(9, .long ((r5 * a3) - (a1 * r7))), (0, .ref 69), (1, .long a1), (3, .long a3), (5, .int x5), (6, .long x6), (8, .int x8)]) dX10_nextChoice_44 (by decide) rfl ?_
        refine mw_iload dX10_nextChoice_46 4 rfl ?_
        refine mw_if_lt (tgt := 59) dX10_nextChoice_48 (by decide) (fun hc => ?_) (fun hc => ?_)
        · have h := mit hc h
          refine mw_iload dX10_nextChoice_59 6 rfl ?_
          refine mw_istore (L' := [(5, .int x8), (9, .long ((r5 * a3) - (a1 * r7))), (0, .ref 69), (1, .long a1), (3, .long a3), (6, .long x6), (8, .int x8)]) dX10_nextChoice_61 (by decide) rfl ?_
          refine mw_lload dX10_nextChoice_63 1 rfl ?_
          refine mw_lstore (L' := [(6, .long ((r5 * a3) - (a1 * r7))), (5, .int x8), (9, .long ((r5 * a3) - (a1 * r7))), (0, .ref 69), (1, .long a1), (3, .long a3), (8, .int x8)]) dX10_nextChoice_65 (by decide) rfl ?_
          refine mw_iinc (v := (x8 + 1)) (L' := [(8, .int (x8 + 1)), (6, .long ((r5 * a3) - (a1 * r7))), (5, .int x8), (9, .long ((r5 * a3) - (a1 * r7))), (0, .ref 69), (1, .long a1), (3, .long a3)]) dX10_nextChoice_67 6 rfl rfl (by decide) rfl ?_
          refine mw_goto (tgt := 9) dX10_nextChoice_70 (by decide) ?_
          exact mw_sub (L' := [(0, .ref 69), (1, .long a1), (3, .long a3), (5, .int x8), (6, .long ((r5 * a3) - (a1 * r7))), (8, .int (x8 + 1))]) [4, 5, 6, 2, 1, 0] rfl (ih _ _ _ h)
        · have h := mie hc h
          refine mw_lload dX10_nextChoice_51 0 rfl ?_
          refine mw_lload dX10_nextChoice_53 5 rfl ?_
          refine mw_lc_le (tgt := 67) dX10_nextChoice_55 dX10_nextChoice_56 (by decide) (fun hc => ?_) (fun hc => ?_)
          · have h := mit hc h
            refine mw_iinc (v := (x8 + 1)) (L' := [(8, .int (x8 + 1)), (9, .long ((r5 * a3) - (a1 * r7))), (0, .ref 69), (1, .long a1), (3, .long a3), (5, .int x5), (6, .long x6)]) dX10_nextChoice_67 6 rfl rfl (by decide) rfl ?_
            refine mw_goto (tgt := 9) dX10_nextChoice_70 (by decide) ?_
            exact mw_sub (L' := [(0, .ref 69), (1, .long a1), (3, .long a3), (5, .int x5), (6, .long x6), (8, .int (x8 + 1))]) [2, 3, 4, 5, 6, 0] rfl (ih _ _ _ h)
          · have h := mie hc h
            refine mw_iload dX10_nextChoice_59 6 rfl ?_
            refine mw_istore (L' := [(5, .int x8), (9, .long ((r5 * a3) - (a1 * r7))), (0, .ref 69), (1, .long a1), (3, .long a3), (6, .long x6), (8, .int x8)]) dX10_nextChoice_61 (by decide) rfl ?_
            refine mw_lload dX10_nextChoice_63 1 rfl ?_
            refine mw_lstore (L' := [(6, .long ((r5 * a3) - (a1 * r7))), (5, .int x8), (9, .long ((r5 * a3) - (a1 * r7))), (0, .ref 69), (1, .long a1), (3, .long a3), (8, .int x8)]) dX10_nextChoice_65 (by decide) rfl ?_
            refine mw_iinc (v := (x8 + 1)) (L' := [(8, .int (x8 + 1)), (6, .long ((r5 * a3) - (a1 * r7))), (5, .int x8), (9, .long ((r5 * a3) - (a1 * r7))), (0, .ref 69), (1, .long a1), (3, .long a3)]) dX10_nextChoice_67 6 rfl rfl (by decide) rfl ?_
            refine mw_goto (tgt := 9) dX10_nextChoice_70 (by decide) ?_
            exact mw_sub (L' := [(0, .ref 69), (1, .long a1), (3, .long a3), (5, .int x8), (6, .long ((r5 * a3) - (a1 * r7))), (8, .int (x8 + 1))]) [4, 5, 6, 2, 1, 0] rfl (ih _ _ _ h)
def e_X10_nextChoice (σ : ES) (a1 : Int64) (a3 : Int64) : Option Int32 := e_X10_nextChoice_L9 σ a1 a3 mN (-1 : Int32) (0 : Int64) (0 : Int32)
set_option maxRecDepth 100000 in
set_option maxHeartbeats 4000000 in
theorem k_X10_nextChoice {l : Launch} {σ : ES} {a1 : Int64} {a3 : Int64} {out : Int32} (h : e_X10_nextChoice σ a1 a3 = some out) : MK l yX10_nextChoice cX10_nextChoice 11 (some .int) 5 [.ref 69, .long a1, .long a3] (mkS σ) (some (.int out)) (mkS σ) := by
  unfold e_X10_nextChoice at h
  refine mw_entry (own := RX10) (ini := false) (L := [(0, .ref 69), (1, .long a1), (3, .long a3)]) (by decide +kernel) rfl (fun h => nomatch h) rfl (Nat.le_of_ble_eq_true rfl) (Nat.le_of_ble_eq_true rfl) (fun E => ?_)
  refine mw_iconst (v := -1) dX10_nextChoice_0 (by decide) ?_
  refine mw_istore (L' := [(5, .int (-1 : Int32)), (0, .ref 69), (1, .long a1), (3, .long a3)]) dX10_nextChoice_1 (by decide) rfl ?_
  refine mw_lconst (v := 0) dX10_nextChoice_3 (by decide) ?_
  refine mw_lstore (L' := [(6, .long (0 : Int64)), (5, .int (-1 : Int32)), (0, .ref 69), (1, .long a1), (3, .long a3)]) dX10_nextChoice_4 (by decide) rfl ?_
  refine mw_iconst (v := 0) dX10_nextChoice_6 (by decide) ?_
  refine mw_istore (L' := [(8, .int (0 : Int32)), (6, .long (0 : Int64)), (5, .int (-1 : Int32)), (0, .ref 69), (1, .long a1), (3, .long a3)]) dX10_nextChoice_7 (by decide) rfl ?_
  exact mw_sub (L' := [(0, .ref 69), (1, .long a1), (3, .long a3), (5, .int (-1 : Int32)), (6, .long (0 : Int64)), (8, .int (0 : Int32))]) [3, 4, 5, 2, 1, 0] rfl (p_X10_nextChoice_L9  mN _ _ _ h)

theorem dX10_climbed_0 : decode cX10_climbed 0 = .ok (.aload_n 0, 1) := by decide +kernel
theorem dX10_climbed_1 : decode cX10_climbed 1 = .ok (.iload_n 1, 1) := by decide +kernel
theorem dX10_climbed_2 : decode cX10_climbed 2 = .ok (.invokevirtual 233, 3) := by decide +kernel
theorem dX10_climbed_5 : decode cX10_climbed 5 = .ok (.lstore_n 3, 1) := by decide +kernel
theorem dX10_climbed_6 : decode cX10_climbed 6 = .ok (.aload_n 0, 1) := by decide +kernel
theorem dX10_climbed_7 : decode cX10_climbed 7 = .ok (.iload_n 1, 1) := by decide +kernel
theorem dX10_climbed_8 : decode cX10_climbed 8 = .ok (.invokevirtual 236, 3) := by decide +kernel
theorem dX10_climbed_11 : decode cX10_climbed 11 = .ok (.lstore 5, 2) := by decide +kernel
theorem dX10_climbed_13 : decode cX10_climbed 13 = .ok (.lconst 1, 1) := by decide +kernel
theorem dX10_climbed_14 : decode cX10_climbed 14 = .ok (.lstore 7, 2) := by decide +kernel
theorem dX10_climbed_16 : decode cX10_climbed 16 = .ok (.aload_n 0, 1) := by decide +kernel
theorem dX10_climbed_17 : decode cX10_climbed 17 = .ok (.lload_n 3, 1) := by decide +kernel
theorem dX10_climbed_18 : decode cX10_climbed 18 = .ok (.lload 5, 2) := by decide +kernel
theorem dX10_climbed_20 : decode cX10_climbed 20 = .ok (.invokevirtual 239, 3) := by decide +kernel
theorem dX10_climbed_23 : decode cX10_climbed 23 = .ok (.istore 9, 2) := by decide +kernel
theorem dX10_climbed_25 : decode cX10_climbed 25 = .ok (.aload_n 0, 1) := by decide +kernel
theorem dX10_climbed_26 : decode cX10_climbed 26 = .ok (.iload 9, 2) := by decide +kernel
theorem dX10_climbed_28 : decode cX10_climbed 28 = .ok (.invokevirtual 233, 3) := by decide +kernel
theorem dX10_climbed_31 : decode cX10_climbed 31 = .ok (.lload 5, 2) := by decide +kernel
theorem dX10_climbed_33 : decode cX10_climbed 33 = .ok (.lmul, 1) := by decide +kernel
theorem dX10_climbed_34 : decode cX10_climbed 34 = .ok (.lload_n 3, 1) := by decide +kernel
theorem dX10_climbed_35 : decode cX10_climbed 35 = .ok (.aload_n 0, 1) := by decide +kernel
theorem dX10_climbed_36 : decode cX10_climbed 36 = .ok (.iload 9, 2) := by decide +kernel
theorem dX10_climbed_38 : decode cX10_climbed 38 = .ok (.invokevirtual 236, 3) := by decide +kernel
theorem dX10_climbed_41 : decode cX10_climbed 41 = .ok (.lmul, 1) := by decide +kernel
theorem dX10_climbed_42 : decode cX10_climbed 42 = .ok (.lcmp, 1) := by decide +kernel
theorem dX10_climbed_43 : decode cX10_climbed 43 = .ok (.ifCond .le 36, 3) := by decide +kernel
theorem dX10_climbed_46 : decode cX10_climbed 46 = .ok (.aload_n 0, 1) := by decide +kernel
theorem dX10_climbed_47 : decode cX10_climbed 47 = .ok (.iload 9, 2) := by decide +kernel
theorem dX10_climbed_49 : decode cX10_climbed 49 = .ok (.invokevirtual 233, 3) := by decide +kernel
theorem dX10_climbed_52 : decode cX10_climbed 52 = .ok (.lstore_n 3, 1) := by decide +kernel
theorem dX10_climbed_53 : decode cX10_climbed 53 = .ok (.aload_n 0, 1) := by decide +kernel
theorem dX10_climbed_54 : decode cX10_climbed 54 = .ok (.iload 9, 2) := by decide +kernel
theorem dX10_climbed_56 : decode cX10_climbed 56 = .ok (.invokevirtual 236, 3) := by decide +kernel
theorem dX10_climbed_59 : decode cX10_climbed 59 = .ok (.lstore 5, 2) := by decide +kernel
theorem dX10_climbed_61 : decode cX10_climbed 61 = .ok (.lload 7, 2) := by decide +kernel
theorem dX10_climbed_63 : decode cX10_climbed 63 = .ok (.lconst 1, 1) := by decide +kernel
theorem dX10_climbed_64 : decode cX10_climbed 64 = .ok (.ladd, 1) := by decide +kernel
theorem dX10_climbed_65 : decode cX10_climbed 65 = .ok (.lstore 7, 2) := by decide +kernel
theorem dX10_climbed_67 : decode cX10_climbed 67 = .ok (.aload_n 0, 1) := by decide +kernel
theorem dX10_climbed_68 : decode cX10_climbed 68 = .ok (.lload_n 3, 1) := by decide +kernel
theorem dX10_climbed_69 : decode cX10_climbed 69 = .ok (.lload 5, 2) := by decide +kernel
theorem dX10_climbed_71 : decode cX10_climbed 71 = .ok (.invokevirtual 239, 3) := by decide +kernel
theorem dX10_climbed_74 : decode cX10_climbed 74 = .ok (.istore 9, 2) := by decide +kernel
theorem dX10_climbed_76 : decode cX10_climbed 76 = .ok (.goto (-51), 3) := by decide +kernel
theorem dX10_climbed_79 : decode cX10_climbed 79 = .ok (.iload_n 2, 1) := by decide +kernel
theorem dX10_climbed_80 : decode cX10_climbed 80 = .ok (.iconst 2, 1) := by decide +kernel
theorem dX10_climbed_81 : decode cX10_climbed 81 = .ok (.if_icmp .ge 13, 3) := by decide +kernel
theorem dX10_climbed_84 : decode cX10_climbed 84 = .ok (.lload_n 3, 1) := by decide +kernel
theorem dX10_climbed_85 : decode cX10_climbed 85 = .ok (.lload 5, 2) := by decide +kernel
theorem dX10_climbed_87 : decode cX10_climbed 87 = .ok (.iload_n 2, 1) := by decide +kernel
theorem dX10_climbed_88 : decode cX10_climbed 88 = .ok (.invokestatic 173, 3) := by decide +kernel
theorem dX10_climbed_91 : decode cX10_climbed 91 = .ok (.goto 21, 3) := by decide +kernel
theorem dX10_climbed_94 : decode cX10_climbed 94 = .ok (.iload_n 2, 1) := by decide +kernel
theorem dX10_climbed_95 : decode cX10_climbed 95 = .ok (.iconst 2, 1) := by decide +kernel
theorem dX10_climbed_96 : decode cX10_climbed 96 = .ok (.if_icmp .ne 14, 3) := by decide +kernel
theorem dX10_climbed_99 : decode cX10_climbed 99 = .ok (.aload_n 0, 1) := by decide +kernel
theorem dX10_climbed_100 : decode cX10_climbed 100 = .ok (.lload_n 3, 1) := by decide +kernel
theorem dX10_climbed_101 : decode cX10_climbed 101 = .ok (.lload 5, 2) := by decide +kernel
theorem dX10_climbed_103 : decode cX10_climbed 103 = .ok (.invokevirtual 243, 3) := by decide +kernel
theorem dX10_climbed_106 : decode cX10_climbed 106 = .ok (.i2l, 1) := by decide +kernel
theorem dX10_climbed_107 : decode cX10_climbed 107 = .ok (.goto 5, 3) := by decide +kernel
theorem dX10_climbed_110 : decode cX10_climbed 110 = .ok (.lload 7, 2) := by decide +kernel
theorem dX10_climbed_112 : decode cX10_climbed 112 = .ok (.lreturn, 1) := by decide +kernel
def e_X10_climbed_L25 (σ : ES) (a1 : Int32) (a2 : Int32) : Nat → Int64 → Int64 → Int64 → Int32 → Option Int64
  | 0, _, _, _, _ => none
  | n + 1, x3, x5, x7, x9 => (e_X10_aboveOf σ x9).bind (fun r1 => (e_X10_belowOf σ x9).bind (fun r3 => if (r1 * x5) ≤ (x3 * r3) then (if (2 : Int32) ≤ a2 then (if a2 = (2 : Int32) then ((e_X10_leastLike σ x3 x5).bind (fun r5 => some r5.toInt64)) else (some x7)) else ((e_X10_lowest x3 x5 a2).bind (fun r7 => some r7))) else ((e_X10_aboveOf σ x9).bind (fun r9 => (e_X10_belowOf σ x9).bind (fun r11 => (e_X10_nextChoice σ r9 r11).bind (fun r13 => e_X10_climbed_L25 σ a1 a2 n r9 r11 (x7 + (1 : Int64)) r13))))))
set_option maxRecDepth 100000 in
set_option maxHeartbeats 4000000 in
theorem p_X10_climbed_L25 {l : Launch} {E : MX} {out : Int64} {σ : ES} {a1 : Int32} {a2 : Int32}  : ∀ (n : Nat) (x3 : Int64) (x5 : Int64) (x7 : Int64) (x9 : Int32), e_X10_climbed_L25 σ a1 a2 n x3 x5 x7 x9 = some out → MV l E cX10_climbed RX10 10 (some .long) 6 (82, (some (.long out)), mkS σ) (mkS σ) 25 [(0, .ref 69), (1, .int a1), (2, .int a2), (3, .long x3), (5, .long x5), (7, .long x7), (9, .int x9)] [] := by
  intro n
  induction n with
  | zero =>
    intro x3 x5 x7 x9 h
    exact nomatch h
  | succ n ih =>
    intro x3 x5 x7 x9 h
    rw [e_X10_climbed_L25] at h
    refine mw_aload_n dX10_climbed_25 0 rfl ?_
    refine mw_iload dX10_climbed_26 6 rfl ?_
    obtain ⟨r1, e2, h⟩ := mbd h
    refine mv_callV_l (As := [.int x9]) (ci := 9) lkV_RX10_233_yX10_aboveOf dX10_climbed_28 (k_X10_aboveOf e2) rfl rfl rfl rfl (Nat.le_of_ble_eq_true rfl) (by decide) (by decide) ?_
    refine mw_lload dX10_climbed_31 4 rfl ?_
    refine mw_lmul dX10_climbed_33 ?_
    refine mw_lload_n dX10_climbed_34 3 rfl ?_
    refine mw_aload_n dX10_climbed_35 0 rfl ?_
    refine mw_iload dX10_climbed_36 6 rfl ?_
    obtain ⟨r3, e4, h⟩ := mbd h
    refine mv_callV_l (As := [.int x9]) (ci := 9) lkV_RX10_236_yX10_belowOf dX10_climbed_38 (k_X10_belowOf e4) rfl rfl rfl rfl (Nat.le_of_ble_eq_true rfl) (by decide) (by decide) ?_
    refine mw_lmul dX10_climbed_41 ?_
    refine mw_lc_le (tgt := 79) dX10_climbed_42 dX10_climbed_43 (by decide) (fun hc => ?_) (fun hc => ?_)
    · have h := mit hc h
      refine mw_iload_n dX10_climbed_79 2 rfl ?_
      refine mw_iconst (v := 2) dX10_climbed_80 (by decide) ?_
      refine mw_icmp_ge (tgt := 94) dX10_climbed_81 (by decide) (fun hc => ?_) (fun hc => ?_)
      · have h := mit hc h
        refine mw_iload_n dX10_climbed_94 2 rfl ?_
        refine mw_iconst (v := 2) dX10_climbed_95 (by decide) ?_
        refine mw_icmp_ne (tgt := 110) dX10_climbed_96 (by decide) (fun hc => ?_) (fun hc => ?_)
        · have h := mie hc h
          refine mw_lload dX10_climbed_110 5 rfl ?_
          exact mw_lret dX10_climbed_112 rfl (ers_l h) rfl rfl
        · have h := mit hc h
          refine mw_aload_n dX10_climbed_99 0 rfl ?_
          refine mw_lload_n dX10_climbed_100 3 rfl ?_
          refine mw_lload dX10_climbed_101 4 rfl ?_
          obtain ⟨r5, e6, h⟩ := mbd h
          refine mv_callV_i (As := [.long x3, .long x5]) (ci := 9) lkV_RX10_243_yX10_leastLike dX10_climbed_103 (k_X10_leastLike e6) rfl rfl rfl rfl (Nat.le_of_ble_eq_true rfl) (by decide) (by decide) ?_
          refine mw_i2l dX10_climbed_106 ?_
          refine mw_goto (tgt := 112) dX10_climbed_107 (by decide) ?_
          exact mw_lret dX10_climbed_112 rfl (ers_l h) rfl rfl
      · have h := mie hc h
        refine mw_lload_n dX10_climbed_84 3 rfl ?_
        refine mw_lload dX10_climbed_85 4 rfl ?_
        refine mw_iload_n dX10_climbed_87 2 rfl ?_
        obtain ⟨r7, e8, h⟩ := mbd h
        refine mv_callS_l (As := [.long x3, .long x5, .int a2]) lkS_RX10_173_yX10_lowest dX10_climbed_88 (k_X10_lowest e8) rfl rfl (Nat.le_of_ble_eq_true rfl) (by decide) (by decide) ?_
        refine mw_goto (tgt := 112) dX10_climbed_91 (by decide) ?_
        exact mw_lret dX10_climbed_112 rfl (ers_l h) rfl rfl
    · have h := mie hc h
      refine mw_aload_n dX10_climbed_46 0 rfl ?_
      refine mw_iload dX10_climbed_47 6 rfl ?_
      obtain ⟨r9, e10, h⟩ := mbd h
      refine mv_callV_l (As := [.int x9]) (ci := 9) lkV_RX10_233_yX10_aboveOf dX10_climbed_49 (k_X10_aboveOf e10) rfl rfl rfl rfl (Nat.le_of_ble_eq_true rfl) (by decide) (by decide) ?_
      refine mw_lstore_n (L' := [(3, .long r9), (0, .ref 69), (1, .int a1), (2, .int a2), (5, .long x5), (7, .long x7), (9, .int x9)]) dX10_climbed_52 rfl (by decide) rfl ?_
      refine mw_aload_n dX10_climbed_53 1 rfl ?_
      refine mw_iload dX10_climbed_54 6 rfl ?_
      obtain ⟨r11, e12, h⟩ := mbd h
      refine mv_callV_l (As := [.int x9]) (ci := 9) lkV_RX10_236_yX10_belowOf dX10_climbed_56 (k_X10_belowOf e12) rfl rfl rfl rfl (Nat.le_of_ble_eq_true rfl) (by decide) (by decide) ?_
      refine mw_lstore (L' := [(5, .long r11), (3, .long r9), (0, .ref 69), (1, .int a1), (2, .int a2), (7, .long x7), (9, .int x9)]) dX10_climbed_59 (by decide) rfl ?_
      refine mw_lload dX10_climbed_61 5 rfl ?_
      refine mw_lconst (v := 1) dX10_climbed_63 (by decide) ?_
      refine mw_ladd dX10_climbed_64 ?_
      refine mw_lstore (L' := [(7, .long (x7 + (1 : Int64))), (5, .long r11), (3, .long r9), (0, .ref 69), (1, .int a1), (2, .int a2), (9, .int x9)]) dX10_climbed_65 (by decide) rfl ?_
      refine mw_aload_n dX10_climbed_67 3 rfl ?_
      refine mw_lload_n dX10_climbed_68 2 rfl ?_
      refine mw_lload dX10_climbed_69 1 rfl ?_
      obtain ⟨r13, e14, h⟩ := mbd h
      refine mv_callV_i (As := [.long r9, .long r11]) (ci := 9) lkV_RX10_239_yX10_nextChoice dX10_climbed_71 (k_X10_nextChoice e14) rfl rfl rfl rfl (Nat.le_of_ble_eq_true rfl) (by decide) (by decide) ?_
      refine mw_istore (L' := [(9, .int r13), (7, .long (x7 + (1 : Int64))), (5, .long r11), (3, .long r9), (0, .ref 69), (1, .int a1), (2, .int a2)]) dX10_climbed_74 (by decide) rfl ?_
      refine mw_goto (tgt := 25) dX10_climbed_76 (by decide) ?_
      exact mw_sub (L' := [(0, .ref 69), (1, .int a1), (2, .int a2), (3, .long r9), (5, .long r11), (7, .long (x7 + (1 : Int64))), (9, .int r13)]) [4, 5, 6, 3, 2, 1, 0] rfl (ih _ _ _ _ h)
def e_X10_climbed (σ : ES) (a1 : Int32) (a2 : Int32) : Option Int64 := (e_X10_aboveOf σ a1).bind (fun r1 => (e_X10_belowOf σ a1).bind (fun r3 => (e_X10_nextChoice σ r1 r3).bind (fun r5 => e_X10_climbed_L25 σ a1 a2 mN r1 r3 (1 : Int64) r5)))
set_option maxRecDepth 100000 in
set_option maxHeartbeats 4000000 in
theorem k_X10_climbed {l : Launch} {σ : ES} {a1 : Int32} {a2 : Int32} {out : Int64} (h : e_X10_climbed σ a1 a2 = some out) : MK l yX10_climbed cX10_climbed 10 (some .long) 6 [.ref 69, .int a1, .int a2] (mkS σ) (some (.long out)) (mkS σ) := by
  unfold e_X10_climbed at h
  refine mw_entry (own := RX10) (ini := false) (L := [(0, .ref 69), (1, .int a1), (2, .int a2)]) (by decide +kernel) rfl (fun h => nomatch h) rfl (Nat.le_of_ble_eq_true rfl) (Nat.le_of_ble_eq_true rfl) (fun E => ?_)
  refine mw_aload_n dX10_climbed_0 0 rfl ?_
  refine mw_iload_n dX10_climbed_1 1 rfl ?_
  obtain ⟨r1, e2, h⟩ := mbd h
  refine mv_callV_l (As := [.int a1]) (ci := 9) lkV_RX10_233_yX10_aboveOf dX10_climbed_2 (k_X10_aboveOf e2) rfl rfl rfl rfl (Nat.le_of_ble_eq_true rfl) (by decide) (by decide) ?_
  refine mw_lstore_n (L' := [(3, .long r1), (0, .ref 69), (1, .int a1), (2, .int a2)]) dX10_climbed_5 rfl (by decide) rfl ?_
  refine mw_aload_n dX10_climbed_6 1 rfl ?_
  refine mw_iload_n dX10_climbed_7 2 rfl ?_
  obtain ⟨r3, e4, h⟩ := mbd h
  refine mv_callV_l (As := [.int a1]) (ci := 9) lkV_RX10_236_yX10_belowOf dX10_climbed_8 (k_X10_belowOf e4) rfl rfl rfl rfl (Nat.le_of_ble_eq_true rfl) (by decide) (by decide) ?_
  refine mw_lstore (L' := [(5, .long r3), (3, .long r1), (0, .ref 69), (1, .int a1), (2, .int a2)]) dX10_climbed_11 (by decide) rfl ?_
  refine mw_lconst (v := 1) dX10_climbed_13 (by decide) ?_
  refine mw_lstore (L' := [(7, .long (1 : Int64)), (5, .long r3), (3, .long r1), (0, .ref 69), (1, .int a1), (2, .int a2)]) dX10_climbed_14 (by decide) rfl ?_
  refine mw_aload_n dX10_climbed_16 3 rfl ?_
  refine mw_lload_n dX10_climbed_17 2 rfl ?_
  refine mw_lload dX10_climbed_18 1 rfl ?_
  obtain ⟨r5, e6, h⟩ := mbd h
  refine mv_callV_i (As := [.long r1, .long r3]) (ci := 9) lkV_RX10_239_yX10_nextChoice dX10_climbed_20 (k_X10_nextChoice e6) rfl rfl rfl rfl (Nat.le_of_ble_eq_true rfl) (by decide) (by decide) ?_
  refine mw_istore (L' := [(9, .int r5), (7, .long (1 : Int64)), (5, .long r3), (3, .long r1), (0, .ref 69), (1, .int a1), (2, .int a2)]) dX10_climbed_23 (by decide) rfl ?_
  exact mw_sub (L' := [(0, .ref 69), (1, .int a1), (2, .int a2), (3, .long r1), (5, .long r3), (7, .long (1 : Int64)), (9, .int r5)]) [4, 5, 6, 3, 2, 1, 0] rfl (p_X10_climbed_L25  mN _ _ _ _ h)

theorem dX10_told_0 : decode cX10_told 0 = .ok (.aload_n 0, 1) := by decide +kernel
theorem dX10_told_1 : decode cX10_told 1 = .ok (.invokevirtual 246, 3) := by decide +kernel
theorem dX10_told_4 : decode cX10_told 4 = .ok (.istore_n 2, 1) := by decide +kernel
theorem dX10_told_5 : decode cX10_told 5 = .ok (.iload_n 2, 1) := by decide +kernel
theorem dX10_told_6 : decode cX10_told 6 = .ok (.ifCond .ge 11, 3) := by decide +kernel
theorem dX10_told_9 : decode cX10_told 9 = .ok (.aload_n 0, 1) := by decide +kernel
theorem dX10_told_10 : decode cX10_told 10 = .ok (.iconst 3, 1) := by decide +kernel
theorem dX10_told_11 : decode cX10_told 11 = .ok (.invokevirtual 165, 3) := by decide +kernel
theorem dX10_told_14 : decode cX10_told 14 = .ok (.goto 9, 3) := by decide +kernel
theorem dX10_told_17 : decode cX10_told 17 = .ok (.aload_n 0, 1) := by decide +kernel
theorem dX10_told_18 : decode cX10_told 18 = .ok (.iload_n 2, 1) := by decide +kernel
theorem dX10_told_19 : decode cX10_told 19 = .ok (.iload_n 1, 1) := by decide +kernel
theorem dX10_told_20 : decode cX10_told 20 = .ok (.invokevirtual 249, 3) := by decide +kernel
theorem dX10_told_23 : decode cX10_told 23 = .ok (.lreturn, 1) := by decide +kernel
def e_X10_told (a1 : Int32) (σ : ES) : Option (Int64 × ES) := (e_X10_leastChoice σ).bind (fun r1 => if 0 ≤ r1 then ((e_X10_climbed σ r1 a1).bind (fun r3 => some (r3, σ))) else ((e_X10_farFinds (3 : Int32) σ).bind (fun r5 => some (r5.1, r5.2))))
set_option maxRecDepth 100000 in
set_option maxHeartbeats 4000000 in
theorem k_X10_told {l : Launch} {σ : ES} {a1 : Int32} {out : (Int64 × ES)} (h : e_X10_told a1 σ = some out) : MK l yX10_told cX10_told 3 (some .long) 7 [.ref 69, .int a1] (mkS σ) (some (.long out.1)) (mkS out.2) := by
  unfold e_X10_told at h
  refine mw_entry (own := RX10) (ini := false) (L := [(0, .ref 69), (1, .int a1)]) (by decide +kernel) rfl (fun h => nomatch h) rfl (Nat.le_of_ble_eq_true rfl) (Nat.le_of_ble_eq_true rfl) (fun E => ?_)
  refine mw_aload_n dX10_told_0 0 rfl ?_
  obtain ⟨r1, e2, h⟩ := mbd h
  refine mv_callV_i (As := []) (ci := 9) lkV_RX10_246_yX10_leastChoice dX10_told_1 (k_X10_leastChoice e2) rfl rfl rfl rfl (Nat.le_of_ble_eq_true rfl) (by decide) (by decide) ?_
  refine mw_istore_n (L' := [(2, .int r1), (0, .ref 69), (1, .int a1)]) dX10_told_4 rfl (by decide) rfl ?_
  refine mw_iload_n dX10_told_5 0 rfl ?_
  refine mw_if_ge (tgt := 17) dX10_told_6 (by decide) (fun hc => ?_) (fun hc => ?_)
  · have h := mit hc h
    refine mw_aload_n dX10_told_17 1 rfl ?_
    refine mw_iload_n dX10_told_18 0 rfl ?_
    refine mw_iload_n dX10_told_19 2 rfl ?_
    obtain ⟨r3, e4, h⟩ := mbd h
    refine mv_callV_l (As := [.int r1, .int a1]) (ci := 9) lkV_RX10_249_yX10_climbed dX10_told_20 (k_X10_climbed e4) rfl rfl rfl rfl (Nat.le_of_ble_eq_true rfl) (by decide) (by decide) ?_
    exact mw_lret dX10_told_23 rfl (ers_lm h) rfl rfl
  · have h := mie hc h
    refine mw_aload_n dX10_told_9 1 rfl ?_
    refine mw_iconst (v := 3) dX10_told_10 (by decide) ?_
    obtain ⟨r5, e6, h⟩ := mbd h
    refine mv_callV_l (As := [.int (3 : Int32)]) (ci := 9) lkV_RX10_165_yX10_farFinds dX10_told_11 (k_X10_farFinds e6) rfl rfl rfl rfl (Nat.le_of_ble_eq_true rfl) (by decide) (by decide) ?_
    refine mw_goto (tgt := 23) dX10_told_14 (by decide) ?_
    exact mw_lret dX10_told_23 rfl (ers_lm h) rfl rfl

theorem dX10_tree_0 : decode cX10_tree 0 = .ok (.iload_n 1, 1) := by decide +kernel
theorem dX10_tree_1 : decode cX10_tree 1 = .ok (.i2l, 1) := by decide +kernel
theorem dX10_tree_2 : decode cX10_tree 2 = .ok (.lconst 0, 1) := by decide +kernel
theorem dX10_tree_3 : decode cX10_tree 3 = .ok (.ldc2_w 253, 3) := by decide +kernel
theorem dX10_tree_6 : decode cX10_tree 6 = .ok (.invokestatic 57, 3) := by decide +kernel
theorem dX10_tree_9 : decode cX10_tree 9 = .ok (.ifCond .ne 9, 3) := by decide +kernel
theorem dX10_tree_12 : decode cX10_tree 12 = .ok (.aload_n 0, 1) := by decide +kernel
theorem dX10_tree_13 : decode cX10_tree 13 = .ok (.iconst 0, 1) := by decide +kernel
theorem dX10_tree_14 : decode cX10_tree 14 = .ok (.invokevirtual 165, 3) := by decide +kernel
theorem dX10_tree_17 : decode cX10_tree 17 = .ok (.lreturn, 1) := by decide +kernel
theorem dX10_tree_18 : decode cX10_tree 18 = .ok (.aload_n 0, 1) := by decide +kernel
theorem dX10_tree_19 : decode cX10_tree 19 = .ok (.iconst 1, 1) := by decide +kernel
theorem dX10_tree_20 : decode cX10_tree 20 = .ok (.putfield 212, 3) := by decide +kernel
theorem dX10_tree_23 : decode cX10_tree 23 = .ok (.aload_n 0, 1) := by decide +kernel
theorem dX10_tree_24 : decode cX10_tree 24 = .ok (.iload_n 1, 1) := by decide +kernel
theorem dX10_tree_25 : decode cX10_tree 25 = .ok (.invokevirtual 255, 3) := by decide +kernel
theorem dX10_tree_28 : decode cX10_tree 28 = .ok (.lreturn, 1) := by decide +kernel
def e_X10_tree (a1 : Int32) (σ : ES) : Option (Int64 × ES) := (e_X10_in a1.toInt64 (0 : Int64) (3 : Int64)).bind (fun r1 => if r1 = 0 then ((e_X10_farFinds (0 : Int32) σ).bind (fun r5 => some (r5.1, r5.2))) else ((e_X10_told a1 (uI σ 69 16 (1 : Int32))).bind (fun r3 => some (r3.1, r3.2))))
set_option maxRecDepth 100000 in
set_option maxHeartbeats 4000000 in
theorem k_X10_tree {l : Launch} {σ : ES} {a1 : Int32} {out : (Int64 × ES)} (h : e_X10_tree a1 σ = some out) : MK l yX10_tree cX10_tree 2 (some .long) 8 [.ref 69, .int a1] (mkS σ) (some (.long out.1)) (mkS out.2) := by
  unfold e_X10_tree at h
  refine mw_entry (own := RX10) (ini := false) (L := [(0, .ref 69), (1, .int a1)]) (by decide +kernel) rfl (fun h => nomatch h) rfl (Nat.le_of_ble_eq_true rfl) (Nat.le_of_ble_eq_true rfl) (fun E => ?_)
  refine mw_iload_n dX10_tree_0 1 rfl ?_
  refine mw_i2l dX10_tree_1 ?_
  refine mw_lconst (v := 0) dX10_tree_2 (by decide) ?_
  refine mw_ldc2 dX10_tree_3 wt_697 ?_
  obtain ⟨r1, e2, h⟩ := mbd h
  refine mv_callS_i (As := [.long a1.toInt64, .long (0 : Int64), .long (3 : Int64)]) lkS_RX10_57_yX10_in dX10_tree_6 (k_X10_in e2) rfl rfl (Nat.le_of_ble_eq_true rfl) (by decide) (by decide) ?_
  refine mw_if_ne (tgt := 18) dX10_tree_9 (by decide) (fun hc => ?_) (fun hc => ?_)
  · have h := mie hc h
    refine mw_aload_n dX10_tree_18 0 rfl ?_
    refine mw_iconst (v := 1) dX10_tree_19 (by decide) ?_
    refine ev_putI fw_RX10_212_9 dX10_tree_20 rfl rfl ?_
    refine mw_aload_n dX10_tree_23 0 rfl ?_
    refine mw_iload_n dX10_tree_24 1 rfl ?_
    obtain ⟨r3, e4, h⟩ := mbd h
    refine mv_callV_l (As := [.int a1]) (ci := 9) lkV_RX10_255_yX10_told dX10_tree_25 (k_X10_told e4) rfl rfl rfl rfl (Nat.le_of_ble_eq_true rfl) (by decide) (by decide) ?_
    exact mw_lret dX10_tree_28 rfl (ers_lm h) rfl rfl
  · have h := mit hc h
    refine mw_aload_n dX10_tree_12 0 rfl ?_
    refine mw_iconst (v := 0) dX10_tree_13 (by decide) ?_
    obtain ⟨r5, e6, h⟩ := mbd h
    refine mv_callV_l (As := [.int (0 : Int32)]) (ci := 9) lkV_RX10_165_yX10_farFinds dX10_tree_14 (k_X10_farFinds e6) rfl rfl rfl rfl (Nat.le_of_ble_eq_true rfl) (by decide) (by decide) ?_
    exact mw_lret dX10_tree_17 rfl (ers_lm h) rfl rfl

theorem dX10_walk_0 : decode cX10_walk 0 = .ok (.iload_n 3, 1) := by decide +kernel
theorem dX10_walk_1 : decode cX10_walk 1 = .ok (.i2l, 1) := by decide +kernel
theorem dX10_walk_2 : decode cX10_walk 2 = .ok (.lconst 0, 1) := by decide +kernel
theorem dX10_walk_3 : decode cX10_walk 3 = .ok (.ldc2_w 253, 3) := by decide +kernel
theorem dX10_walk_6 : decode cX10_walk 6 = .ok (.invokestatic 57, 3) := by decide +kernel
theorem dX10_walk_9 : decode cX10_walk 9 = .ok (.ifCond .eq 24, 3) := by decide +kernel
theorem dX10_walk_12 : decode cX10_walk 12 = .ok (.aload_n 0, 1) := by decide +kernel
theorem dX10_walk_13 : decode cX10_walk 13 = .ok (.iload_n 1, 1) := by decide +kernel
theorem dX10_walk_14 : decode cX10_walk 14 = .ok (.invokevirtual 87, 3) := by decide +kernel
theorem dX10_walk_17 : decode cX10_walk 17 = .ok (.ifCond .eq 16, 3) := by decide +kernel
theorem dX10_walk_20 : decode cX10_walk 20 = .ok (.aload_n 0, 1) := by decide +kernel
theorem dX10_walk_21 : decode cX10_walk 21 = .ok (.iload_n 2, 1) := by decide +kernel
theorem dX10_walk_22 : decode cX10_walk 22 = .ok (.invokevirtual 87, 3) := by decide +kernel
theorem dX10_walk_25 : decode cX10_walk 25 = .ok (.ifCond .eq 8, 3) := by decide +kernel
theorem dX10_walk_28 : decode cX10_walk 28 = .ok (.iload_n 1, 1) := by decide +kernel
theorem dX10_walk_29 : decode cX10_walk 29 = .ok (.iload_n 2, 1) := by decide +kernel
theorem dX10_walk_30 : decode cX10_walk 30 = .ok (.if_icmp .lt 9, 3) := by decide +kernel
theorem dX10_walk_33 : decode cX10_walk 33 = .ok (.aload_n 0, 1) := by decide +kernel
theorem dX10_walk_34 : decode cX10_walk 34 = .ok (.iconst 0, 1) := by decide +kernel
theorem dX10_walk_35 : decode cX10_walk 35 = .ok (.invokevirtual 165, 3) := by decide +kernel
theorem dX10_walk_38 : decode cX10_walk 38 = .ok (.lreturn, 1) := by decide +kernel
theorem dX10_walk_39 : decode cX10_walk 39 = .ok (.aload_n 0, 1) := by decide +kernel
theorem dX10_walk_40 : decode cX10_walk 40 = .ok (.iconst 3, 1) := by decide +kernel
theorem dX10_walk_41 : decode cX10_walk 41 = .ok (.putfield 212, 3) := by decide +kernel
theorem dX10_walk_44 : decode cX10_walk 44 = .ok (.aload_n 0, 1) := by decide +kernel
theorem dX10_walk_45 : decode cX10_walk 45 = .ok (.iload_n 1, 1) := by decide +kernel
theorem dX10_walk_46 : decode cX10_walk 46 = .ok (.putfield 206, 3) := by decide +kernel
theorem dX10_walk_49 : decode cX10_walk 49 = .ok (.aload_n 0, 1) := by decide +kernel
theorem dX10_walk_50 : decode cX10_walk 50 = .ok (.iload_n 2, 1) := by decide +kernel
theorem dX10_walk_51 : decode cX10_walk 51 = .ok (.putfield 209, 3) := by decide +kernel
theorem dX10_walk_54 : decode cX10_walk 54 = .ok (.aload_n 0, 1) := by decide +kernel
theorem dX10_walk_55 : decode cX10_walk 55 = .ok (.iload_n 3, 1) := by decide +kernel
theorem dX10_walk_56 : decode cX10_walk 56 = .ok (.invokevirtual 255, 3) := by decide +kernel
theorem dX10_walk_59 : decode cX10_walk 59 = .ok (.lreturn, 1) := by decide +kernel
def e_X10_walk (a1 : Int32) (a2 : Int32) (a3 : Int32) (σ : ES) : Option (Int64 × ES) := (e_X10_in a3.toInt64 (0 : Int64) (3 : Int64)).bind (fun r1 => if r1 = 0 then ((e_X10_farFinds (0 : Int32) σ).bind (fun r3 => some (r3.1, r3.2))) else ((e_X10_isPlace σ a1).bind (fun r5 => if r5 = 0 then ((e_X10_farFinds (0 : Int32) σ).bind (fun r7 => some (r7.1, r7.2))) else ((e_X10_isPlace σ a2).bind (fun r9 => if r9 = 0 then ((e_X10_farFinds (0 : Int32) σ).bind (fun r11 => some (r11.1, r11.2))) else (if a1 < a2 then ((e_X10_told a3 (uI (uI (uI σ 69 16 (3 : Int32)) 69 17 a1) 69 18 a2)).bind (fun r13 => some (r13.1, r13.2))) else ((e_X10_farFinds (0 : Int32) σ).bind (fun r15 => some (r15.1, r15.2)))))))))
set_option maxRecDepth 100000 in
set_option maxHeartbeats 4000000 in
theorem k_X10_walk {l : Launch} {σ : ES} {a1 : Int32} {a2 : Int32} {a3 : Int32} {out : (Int64 × ES)} (h : e_X10_walk a1 a2 a3 σ = some out) : MK l yX10_walk cX10_walk 4 (some .long) 8 [.ref 69, .int a1, .int a2, .int a3] (mkS σ) (some (.long out.1)) (mkS out.2) := by
  unfold e_X10_walk at h
  refine mw_entry (own := RX10) (ini := false) (L := [(0, .ref 69), (1, .int a1), (2, .int a2), (3, .int a3)]) (by decide +kernel) rfl (fun h => nomatch h) rfl (Nat.le_of_ble_eq_true rfl) (Nat.le_of_ble_eq_true rfl) (fun E => ?_)
  refine mw_iload_n dX10_walk_0 3 rfl ?_
  refine mw_i2l dX10_walk_1 ?_
  refine mw_lconst (v := 0) dX10_walk_2 (by decide) ?_
  refine mw_ldc2 dX10_walk_3 wt_697 ?_
  obtain ⟨r1, e2, h⟩ := mbd h
  refine mv_callS_i (As := [.long a3.toInt64, .long (0 : Int64), .long (3 : Int64)]) lkS_RX10_57_yX10_in dX10_walk_6 (k_X10_in e2) rfl rfl (Nat.le_of_ble_eq_true rfl) (by decide) (by decide) ?_
  refine mw_if_eq (tgt := 33) dX10_walk_9 (by decide) (fun hc => ?_) (fun hc => ?_)
  · have h := mit hc h
    refine mw_aload_n dX10_walk_33 0 rfl ?_
    refine mw_iconst (v := 0) dX10_walk_34 (by decide) ?_
    obtain ⟨r3, e4, h⟩ := mbd h
    refine mv_callV_l (As := [.int (0 : Int32)]) (ci := 9) lkV_RX10_165_yX10_farFinds dX10_walk_35 (k_X10_farFinds e4) rfl rfl rfl rfl (Nat.le_of_ble_eq_true rfl) (by decide) (by decide) ?_
    exact mw_lret dX10_walk_38 rfl (ers_lm h) rfl rfl
  · have h := mie hc h
    refine mw_aload_n dX10_walk_12 0 rfl ?_
    refine mw_iload_n dX10_walk_13 1 rfl ?_
    obtain ⟨r5, e6, h⟩ := mbd h
    refine mv_callV_i (As := [.int a1]) (ci := 9) lkV_RX10_87_yX10_isPlace dX10_walk_14 (k_X10_isPlace e6) rfl rfl rfl rfl (Nat.le_of_ble_eq_true rfl) (by decide) (by decide) ?_
    refine mw_if_eq (tgt := 33) dX10_walk_17 (by decide) (fun hc => ?_) (fun hc => ?_)
    · have h := mit hc h
      refine mw_aload_n dX10_walk_33 0 rfl ?_
      refine mw_iconst (v := 0) dX10_walk_34 (by decide) ?_
      obtain ⟨r7, e8, h⟩ := mbd h
      refine mv_callV_l (As := [.int (0 : Int32)]) (ci := 9) lkV_RX10_165_yX10_farFinds dX10_walk_35 (k_X10_farFinds e8) rfl rfl rfl rfl (Nat.le_of_ble_eq_true rfl) (by decide) (by decide) ?_
      exact mw_lret dX10_walk_38 rfl (ers_lm h) rfl rfl
    · have h := mie hc h
      refine mw_aload_n dX10_walk_20 0 rfl ?_
      refine mw_iload_n dX10_walk_21 2 rfl ?_
      obtain ⟨r9, e10, h⟩ := mbd h
      refine mv_callV_i (As := [.int a2]) (ci := 9) lkV_RX10_87_yX10_isPlace dX10_walk_22 (k_X10_isPlace e10) rfl rfl rfl rfl (Nat.le_of_ble_eq_true rfl) (by decide) (by decide) ?_
      refine mw_if_eq (tgt := 33) dX10_walk_25 (by decide) (fun hc => ?_) (fun hc => ?_)
      · have h := mit hc h
        refine mw_aload_n dX10_walk_33 0 rfl ?_
        refine mw_iconst (v := 0) dX10_walk_34 (by decide) ?_
        obtain ⟨r11, e12, h⟩ := mbd h
        refine mv_callV_l (As := [.int (0 : Int32)]) (ci := 9) lkV_RX10_165_yX10_farFinds dX10_walk_35 (k_X10_farFinds e12) rfl rfl rfl rfl (Nat.le_of_ble_eq_true rfl) (by decide) (by decide) ?_
        exact mw_lret dX10_walk_38 rfl (ers_lm h) rfl rfl
      · have h := mie hc h
        refine mw_iload_n dX10_walk_28 1 rfl ?_
        refine mw_iload_n dX10_walk_29 2 rfl ?_
        refine mw_icmp_lt (tgt := 39) dX10_walk_30 (by decide) (fun hc => ?_) (fun hc => ?_)
        · have h := mit hc h
          refine mw_aload_n dX10_walk_39 0 rfl ?_
          refine mw_iconst (v := 3) dX10_walk_40 (by decide) ?_
          refine ev_putI fw_RX10_212_9 dX10_walk_41 rfl rfl ?_
          refine mw_aload_n dX10_walk_44 0 rfl ?_
          refine mw_iload_n dX10_walk_45 1 rfl ?_
          refine ev_putI fw_RX10_206_9 dX10_walk_46 rfl rfl ?_
          refine mw_aload_n dX10_walk_49 0 rfl ?_
          refine mw_iload_n dX10_walk_50 2 rfl ?_
          refine ev_putI fw_RX10_209_9 dX10_walk_51 rfl rfl ?_
          refine mw_aload_n dX10_walk_54 0 rfl ?_
          refine mw_iload_n dX10_walk_55 3 rfl ?_
          obtain ⟨r13, e14, h⟩ := mbd h
          refine mv_callV_l (As := [.int a3]) (ci := 9) lkV_RX10_255_yX10_told dX10_walk_56 (k_X10_told e14) rfl rfl rfl rfl (Nat.le_of_ble_eq_true rfl) (by decide) (by decide) ?_
          exact mw_lret dX10_walk_59 rfl (ers_lm h) rfl rfl
        · have h := mie hc h
          refine mw_aload_n dX10_walk_33 0 rfl ?_
          refine mw_iconst (v := 0) dX10_walk_34 (by decide) ?_
          obtain ⟨r15, e16, h⟩ := mbd h
          refine mv_callV_l (As := [.int (0 : Int32)]) (ci := 9) lkV_RX10_165_yX10_farFinds dX10_walk_35 (k_X10_farFinds e16) rfl rfl rfl rfl (Nat.le_of_ble_eq_true rfl) (by decide) (by decide) ?_
          exact mw_lret dX10_walk_38 rfl (ers_lm h) rfl rfl

theorem dX10_load_0 : decode cX10_load 0 = .ok (.iload_n 2, 1) := by decide +kernel
theorem dX10_load_1 : decode cX10_load 1 = .ok (.i2l, 1) := by decide +kernel
theorem dX10_load_2 : decode cX10_load 2 = .ok (.lconst 0, 1) := by decide +kernel
theorem dX10_load_3 : decode cX10_load 3 = .ok (.ldc2_w 253, 3) := by decide +kernel
theorem dX10_load_6 : decode cX10_load 6 = .ok (.invokestatic 57, 3) := by decide +kernel
theorem dX10_load_9 : decode cX10_load 9 = .ok (.ifCond .eq 17, 3) := by decide +kernel
theorem dX10_load_12 : decode cX10_load 12 = .ok (.iload_n 1, 1) := by decide +kernel
theorem dX10_load_13 : decode cX10_load 13 = .ok (.i2l, 1) := by decide +kernel
theorem dX10_load_14 : decode cX10_load 14 = .ok (.lconst 1, 1) := by decide +kernel
theorem dX10_load_15 : decode cX10_load 15 = .ok (.aload_n 0, 1) := by decide +kernel
theorem dX10_load_16 : decode cX10_load 16 = .ok (.getfield 117, 3) := by decide +kernel
theorem dX10_load_19 : decode cX10_load 19 = .ok (.i2l, 1) := by decide +kernel
theorem dX10_load_20 : decode cX10_load 20 = .ok (.invokestatic 57, 3) := by decide +kernel
theorem dX10_load_23 : decode cX10_load 23 = .ok (.ifCond .ne 9, 3) := by decide +kernel
theorem dX10_load_26 : decode cX10_load 26 = .ok (.aload_n 0, 1) := by decide +kernel
theorem dX10_load_27 : decode cX10_load 27 = .ok (.iconst 0, 1) := by decide +kernel
theorem dX10_load_28 : decode cX10_load 28 = .ok (.invokevirtual 165, 3) := by decide +kernel
theorem dX10_load_31 : decode cX10_load 31 = .ok (.lreturn, 1) := by decide +kernel
theorem dX10_load_32 : decode cX10_load 32 = .ok (.aload_n 0, 1) := by decide +kernel
theorem dX10_load_33 : decode cX10_load 33 = .ok (.iconst 2, 1) := by decide +kernel
theorem dX10_load_34 : decode cX10_load 34 = .ok (.putfield 212, 3) := by decide +kernel
theorem dX10_load_37 : decode cX10_load 37 = .ok (.aload_n 0, 1) := by decide +kernel
theorem dX10_load_38 : decode cX10_load 38 = .ok (.iload_n 1, 1) := by decide +kernel
theorem dX10_load_39 : decode cX10_load 39 = .ok (.putfield 215, 3) := by decide +kernel
theorem dX10_load_42 : decode cX10_load 42 = .ok (.aload_n 0, 1) := by decide +kernel
theorem dX10_load_43 : decode cX10_load 43 = .ok (.iload_n 2, 1) := by decide +kernel
theorem dX10_load_44 : decode cX10_load 44 = .ok (.invokevirtual 255, 3) := by decide +kernel
theorem dX10_load_47 : decode cX10_load 47 = .ok (.lreturn, 1) := by decide +kernel
def e_X10_load (a1 : Int32) (a2 : Int32) (σ : ES) : Option (Int64 × ES) := (e_X10_in a2.toInt64 (0 : Int64) (3 : Int64)).bind (fun r1 => if r1 = 0 then ((e_X10_farFinds (0 : Int32) σ).bind (fun r3 => some (r3.1, r3.2))) else ((e_X10_in a1.toInt64 (1 : Int64) ((eI σ 69 5).toInt64)).bind (fun r5 => if r5 = 0 then ((e_X10_farFinds (0 : Int32) σ).bind (fun r9 => some (r9.1, r9.2))) else ((e_X10_told a2 (uI (uI σ 69 16 (2 : Int32)) 69 19 a1)).bind (fun r7 => some (r7.1, r7.2))))))
set_option maxRecDepth 100000 in
set_option maxHeartbeats 4000000 in
theorem k_X10_load {l : Launch} {σ : ES} {a1 : Int32} {a2 : Int32} {out : (Int64 × ES)} (h : e_X10_load a1 a2 σ = some out) : MK l yX10_load cX10_load 3 (some .long) 8 [.ref 69, .int a1, .int a2] (mkS σ) (some (.long out.1)) (mkS out.2) := by
  unfold e_X10_load at h
  refine mw_entry (own := RX10) (ini := false) (L := [(0, .ref 69), (1, .int a1), (2, .int a2)]) (by decide +kernel) rfl (fun h => nomatch h) rfl (Nat.le_of_ble_eq_true rfl) (Nat.le_of_ble_eq_true rfl) (fun E => ?_)
  refine mw_iload_n dX10_load_0 2 rfl ?_
  refine mw_i2l dX10_load_1 ?_
  refine mw_lconst (v := 0) dX10_load_2 (by decide) ?_
  refine mw_ldc2 dX10_load_3 wt_697 ?_
  obtain ⟨r1, e2, h⟩ := mbd h
  refine mv_callS_i (As := [.long a2.toInt64, .long (0 : Int64), .long (3 : Int64)]) lkS_RX10_57_yX10_in dX10_load_6 (k_X10_in e2) rfl rfl (Nat.le_of_ble_eq_true rfl) (by decide) (by decide) ?_
  refine mw_if_eq (tgt := 26) dX10_load_9 (by decide) (fun hc => ?_) (fun hc => ?_)
  · have h := mit hc h
    refine mw_aload_n dX10_load_26 0 rfl ?_
    refine mw_iconst (v := 0) dX10_load_27 (by decide) ?_
    obtain ⟨r3, e4, h⟩ := mbd h
    refine mv_callV_l (As := [.int (0 : Int32)]) (ci := 9) lkV_RX10_165_yX10_farFinds dX10_load_28 (k_X10_farFinds e4) rfl rfl rfl rfl (Nat.le_of_ble_eq_true rfl) (by decide) (by decide) ?_
    exact mw_lret dX10_load_31 rfl (ers_lm h) rfl rfl
  · have h := mie hc h
    refine mw_iload_n dX10_load_12 1 rfl ?_
    refine mw_i2l dX10_load_13 ?_
    refine mw_lconst (v := 1) dX10_load_14 (by decide) ?_
    refine mw_aload_n dX10_load_15 0 rfl ?_
    refine ev_getI fd_RX10_117_9 dX10_load_16 rfl rfl ?_
    refine mw_i2l dX10_load_19 ?_
    obtain ⟨r5, e6, h⟩ := mbd h
    refine mv_callS_i (As := [.long a1.toInt64, .long (1 : Int64), .long (eI σ 69 5).toInt64]) lkS_RX10_57_yX10_in dX10_load_20 (k_X10_in e6) rfl rfl (Nat.le_of_ble_eq_true rfl) (by decide) (by decide) ?_
    refine mw_if_ne (tgt := 32) dX10_load_23 (by decide) (fun hc => ?_) (fun hc => ?_)
    · have h := mie hc h
      refine mw_aload_n dX10_load_32 0 rfl ?_
      refine mw_iconst (v := 2) dX10_load_33 (by decide) ?_
      refine ev_putI fw_RX10_212_9 dX10_load_34 rfl rfl ?_
      refine mw_aload_n dX10_load_37 0 rfl ?_
      refine mw_iload_n dX10_load_38 1 rfl ?_
      refine ev_putI fw_RX10_215_9 dX10_load_39 rfl rfl ?_
      refine mw_aload_n dX10_load_42 0 rfl ?_
      refine mw_iload_n dX10_load_43 2 rfl ?_
      obtain ⟨r7, e8, h⟩ := mbd h
      refine mv_callV_l (As := [.int a2]) (ci := 9) lkV_RX10_255_yX10_told dX10_load_44 (k_X10_told e8) rfl rfl rfl rfl (Nat.le_of_ble_eq_true rfl) (by decide) (by decide) ?_
      exact mw_lret dX10_load_47 rfl (ers_lm h) rfl rfl
    · have h := mit hc h
      refine mw_aload_n dX10_load_26 0 rfl ?_
      refine mw_iconst (v := 0) dX10_load_27 (by decide) ?_
      obtain ⟨r9, e10, h⟩ := mbd h
      refine mv_callV_l (As := [.int (0 : Int32)]) (ci := 9) lkV_RX10_165_yX10_farFinds dX10_load_28 (k_X10_farFinds e10) rfl rfl rfl rfl (Nat.le_of_ble_eq_true rfl) (by decide) (by decide) ?_
      exact mw_lret dX10_load_31 rfl (ers_lm h) rfl rfl

theorem dX10_ratio_0 : decode cX10_ratio 0 = .ok (.iload_n 1, 1) := by decide +kernel
theorem dX10_ratio_1 : decode cX10_ratio 1 = .ok (.i2l, 1) := by decide +kernel
theorem dX10_ratio_2 : decode cX10_ratio 2 = .ok (.lconst 0, 1) := by decide +kernel
theorem dX10_ratio_3 : decode cX10_ratio 3 = .ok (.ldc2_w 77, 3) := by decide +kernel
theorem dX10_ratio_6 : decode cX10_ratio 6 = .ok (.invokestatic 57, 3) := by decide +kernel
theorem dX10_ratio_9 : decode cX10_ratio 9 = .ok (.ifCond .eq 13, 3) := by decide +kernel
theorem dX10_ratio_12 : decode cX10_ratio 12 = .ok (.iload_n 3, 1) := by decide +kernel
theorem dX10_ratio_13 : decode cX10_ratio 13 = .ok (.i2l, 1) := by decide +kernel
theorem dX10_ratio_14 : decode cX10_ratio 14 = .ok (.lconst 0, 1) := by decide +kernel
theorem dX10_ratio_15 : decode cX10_ratio 15 = .ok (.lconst 1, 1) := by decide +kernel
theorem dX10_ratio_16 : decode cX10_ratio 16 = .ok (.invokestatic 57, 3) := by decide +kernel
theorem dX10_ratio_19 : decode cX10_ratio 19 = .ok (.ifCond .ne 9, 3) := by decide +kernel
theorem dX10_ratio_22 : decode cX10_ratio 22 = .ok (.aload_n 0, 1) := by decide +kernel
theorem dX10_ratio_23 : decode cX10_ratio 23 = .ok (.iconst 0, 1) := by decide +kernel
theorem dX10_ratio_24 : decode cX10_ratio 24 = .ok (.invokevirtual 165, 3) := by decide +kernel
theorem dX10_ratio_27 : decode cX10_ratio 27 = .ok (.lreturn, 1) := by decide +kernel
theorem dX10_ratio_28 : decode cX10_ratio 28 = .ok (.aload_n 0, 1) := by decide +kernel
theorem dX10_ratio_29 : decode cX10_ratio 29 = .ok (.iload_n 1, 1) := by decide +kernel
theorem dX10_ratio_30 : decode cX10_ratio 30 = .ok (.putfield 212, 3) := by decide +kernel
theorem dX10_ratio_33 : decode cX10_ratio 33 = .ok (.aload_n 0, 1) := by decide +kernel
theorem dX10_ratio_34 : decode cX10_ratio 34 = .ok (.iload_n 2, 1) := by decide +kernel
theorem dX10_ratio_35 : decode cX10_ratio 35 = .ok (.invokestatic 203, 3) := by decide +kernel
theorem dX10_ratio_38 : decode cX10_ratio 38 = .ok (.putfield 215, 3) := by decide +kernel
theorem dX10_ratio_41 : decode cX10_ratio 41 = .ok (.iload_n 2, 1) := by decide +kernel
theorem dX10_ratio_42 : decode cX10_ratio 42 = .ok (.i2l, 1) := by decide +kernel
theorem dX10_ratio_43 : decode cX10_ratio 43 = .ok (.lconst 1, 1) := by decide +kernel
theorem dX10_ratio_44 : decode cX10_ratio 44 = .ok (.aload_n 0, 1) := by decide +kernel
theorem dX10_ratio_45 : decode cX10_ratio 45 = .ok (.invokevirtual 227, 3) := by decide +kernel
theorem dX10_ratio_48 : decode cX10_ratio 48 = .ok (.iconst 1, 1) := by decide +kernel
theorem dX10_ratio_49 : decode cX10_ratio 49 = .ok (.isub, 1) := by decide +kernel
theorem dX10_ratio_50 : decode cX10_ratio 50 = .ok (.i2l, 1) := by decide +kernel
theorem dX10_ratio_51 : decode cX10_ratio 51 = .ok (.invokestatic 57, 3) := by decide +kernel
theorem dX10_ratio_54 : decode cX10_ratio 54 = .ok (.ifCond .eq 11, 3) := by decide +kernel
theorem dX10_ratio_57 : decode cX10_ratio 57 = .ok (.aload_n 0, 1) := by decide +kernel
theorem dX10_ratio_58 : decode cX10_ratio 58 = .ok (.iload_n 2, 1) := by decide +kernel
theorem dX10_ratio_59 : decode cX10_ratio 59 = .ok (.invokevirtual 230, 3) := by decide +kernel
theorem dX10_ratio_62 : decode cX10_ratio 62 = .ok (.ifCond .ne 9, 3) := by decide +kernel
theorem dX10_ratio_65 : decode cX10_ratio 65 = .ok (.aload_n 0, 1) := by decide +kernel
theorem dX10_ratio_66 : decode cX10_ratio 66 = .ok (.iconst 4, 1) := by decide +kernel
theorem dX10_ratio_67 : decode cX10_ratio 67 = .ok (.invokevirtual 165, 3) := by decide +kernel
theorem dX10_ratio_70 : decode cX10_ratio 70 = .ok (.lreturn, 1) := by decide +kernel
theorem dX10_ratio_71 : decode cX10_ratio 71 = .ok (.aload_n 0, 1) := by decide +kernel
theorem dX10_ratio_72 : decode cX10_ratio 72 = .ok (.iload_n 2, 1) := by decide +kernel
theorem dX10_ratio_73 : decode cX10_ratio 73 = .ok (.invokevirtual 233, 3) := by decide +kernel
theorem dX10_ratio_76 : decode cX10_ratio 76 = .ok (.aload_n 0, 1) := by decide +kernel
theorem dX10_ratio_77 : decode cX10_ratio 77 = .ok (.iload_n 2, 1) := by decide +kernel
theorem dX10_ratio_78 : decode cX10_ratio 78 = .ok (.invokevirtual 236, 3) := by decide +kernel
theorem dX10_ratio_81 : decode cX10_ratio 81 = .ok (.iload_n 3, 1) := by decide +kernel
theorem dX10_ratio_82 : decode cX10_ratio 82 = .ok (.invokestatic 173, 3) := by decide +kernel
theorem dX10_ratio_85 : decode cX10_ratio 85 = .ok (.lreturn, 1) := by decide +kernel
def e_X10_ratio (a1 : Int32) (a2 : Int32) (a3 : Int32) (σ : ES) : Option (Int64 × ES) := (e_X10_in a1.toInt64 (0 : Int64) (2 : Int64)).bind (fun r1 => if r1 = 0 then ((e_X10_farFinds (0 : Int32) σ).bind (fun r3 => some (r3.1, r3.2))) else ((e_X10_in a3.toInt64 (0 : Int64) (1 : Int64)).bind (fun r5 => if r5 = 0 then ((e_X10_farFinds (0 : Int32) σ).bind (fun r25 => some (r25.1, r25.2))) else ((e_X10_bits a2).bind (fun r7 => (e_X10_allSets (uI (uI σ 69 16 a1) 69 19 r7)).bind (fun r9 => (e_X10_in a2.toInt64 (1 : Int64) ((r9 - (1 : Int32)).toInt64)).bind (fun r11 => if r11 = 0 then ((e_X10_farFinds (4 : Int32) (uI (uI σ 69 16 a1) 69 19 r7)).bind (fun r13 => some (r13.1, r13.2))) else ((e_X10_isChoice (uI (uI σ 69 16 a1) 69 19 r7) a2).bind (fun r15 => if r15 = 0 then ((e_X10_farFinds (4 : Int32) (uI (uI σ 69 16 a1) 69 19 r7)).bind (fun r23 => some (r23.1, r23.2))) else ((e_X10_aboveOf (uI (uI σ 69 16 a1) 69 19 r7) a2).bind (fun r17 => (e_X10_belowOf (uI (uI σ 69 16 a1) 69 19 r7) a2).bind (fun r19 => (e_X10_lowest r17 r19 a3).bind (fun r21 => some (r21, (uI (uI σ 69 16 a1) 69 19 r7)))))))))))))))
set_option maxRecDepth 100000 in
set_option maxHeartbeats 4000000 in
theorem k_X10_ratio {l : Launch} {σ : ES} {a1 : Int32} {a2 : Int32} {a3 : Int32} {out : (Int64 × ES)} (h : e_X10_ratio a1 a2 a3 σ = some out) : MK l yX10_ratio cX10_ratio 4 (some .long) 5 [.ref 69, .int a1, .int a2, .int a3] (mkS σ) (some (.long out.1)) (mkS out.2) := by
  unfold e_X10_ratio at h
  refine mw_entry (own := RX10) (ini := false) (L := [(0, .ref 69), (1, .int a1), (2, .int a2), (3, .int a3)]) (by decide +kernel) rfl (fun h => nomatch h) rfl (Nat.le_of_ble_eq_true rfl) (Nat.le_of_ble_eq_true rfl) (fun E => ?_)
  refine mw_iload_n dX10_ratio_0 1 rfl ?_
  refine mw_i2l dX10_ratio_1 ?_
  refine mw_lconst (v := 0) dX10_ratio_2 (by decide) ?_
  refine mw_ldc2 dX10_ratio_3 wt_589 ?_
  obtain ⟨r1, e2, h⟩ := mbd h
  refine mv_callS_i (As := [.long a1.toInt64, .long (0 : Int64), .long (2 : Int64)]) lkS_RX10_57_yX10_in dX10_ratio_6 (k_X10_in e2) rfl rfl (Nat.le_of_ble_eq_true rfl) (by decide) (by decide) ?_
  refine mw_if_eq (tgt := 22) dX10_ratio_9 (by decide) (fun hc => ?_) (fun hc => ?_)
  · have h := mit hc h
    refine mw_aload_n dX10_ratio_22 0 rfl ?_
    refine mw_iconst (v := 0) dX10_ratio_23 (by decide) ?_
    obtain ⟨r3, e4, h⟩ := mbd h
    refine mv_callV_l (As := [.int (0 : Int32)]) (ci := 9) lkV_RX10_165_yX10_farFinds dX10_ratio_24 (k_X10_farFinds e4) rfl rfl rfl rfl (Nat.le_of_ble_eq_true rfl) (by decide) (by decide) ?_
    exact mw_lret dX10_ratio_27 rfl (ers_lm h) rfl rfl
  · have h := mie hc h
    refine mw_iload_n dX10_ratio_12 3 rfl ?_
    refine mw_i2l dX10_ratio_13 ?_
    refine mw_lconst (v := 0) dX10_ratio_14 (by decide) ?_
    refine mw_lconst (v := 1) dX10_ratio_15 (by decide) ?_
    obtain ⟨r5, e6, h⟩ := mbd h
    refine mv_callS_i (As := [.long a3.toInt64, .long (0 : Int64), .long (1 : Int64)]) lkS_RX10_57_yX10_in dX10_ratio_16 (k_X10_in e6) rfl rfl (Nat.le_of_ble_eq_true rfl) (by decide) (by decide) ?_
    refine mw_if_ne (tgt := 28) dX10_ratio_19 (by decide) (fun hc => ?_) (fun hc => ?_)
    · have h := mie hc h
      refine mw_aload_n dX10_ratio_28 0 rfl ?_
      refine mw_iload_n dX10_ratio_29 1 rfl ?_
      refine ev_putI fw_RX10_212_9 dX10_ratio_30 rfl rfl ?_
      refine mw_aload_n dX10_ratio_33 0 rfl ?_
      refine mw_iload_n dX10_ratio_34 2 rfl ?_
      obtain ⟨r7, e8, h⟩ := mbd h
      refine mv_callS_i (As := [.int a2]) lkS_RX10_203_yX10_bits dX10_ratio_35 (k_X10_bits e8) rfl rfl (Nat.le_of_ble_eq_true rfl) (by decide) (by decide) ?_
      refine ev_putI fw_RX10_215_9 dX10_ratio_38 rfl rfl ?_
      refine mw_iload_n dX10_ratio_41 2 rfl ?_
      refine mw_i2l dX10_ratio_42 ?_
      refine mw_lconst (v := 1) dX10_ratio_43 (by decide) ?_
      refine mw_aload_n dX10_ratio_44 0 rfl ?_
      obtain ⟨r9, e10, h⟩ := mbd h
      refine mv_callV_i (As := []) (ci := 9) lkV_RX10_227_yX10_allSets dX10_ratio_45 (k_X10_allSets e10) rfl rfl rfl rfl (Nat.le_of_ble_eq_true rfl) (by decide) (by decide) ?_
      refine mw_iconst (v := 1) dX10_ratio_48 (by decide) ?_
      refine mw_isub dX10_ratio_49 ?_
      refine mw_i2l dX10_ratio_50 ?_
      obtain ⟨r11, e12, h⟩ := mbd h
      refine mv_callS_i (As := [.long a2.toInt64, .long (1 : Int64), .long (r9 - (1 : Int32)).toInt64]) lkS_RX10_57_yX10_in dX10_ratio_51 (k_X10_in e12) rfl rfl (Nat.le_of_ble_eq_true rfl) (by decide) (by decide) ?_
      refine mw_if_eq (tgt := 65) dX10_ratio_54 (by decide) (fun hc => ?_) (fun hc => ?_)
      · have h := mit hc h
        refine mw_aload_n dX10_ratio_65 0 rfl ?_
        refine mw_iconst (v := 4) dX10_ratio_66 (by decide) ?_
        obtain ⟨r13, e14, h⟩ := mbd h
        refine mv_callV_l (As := [.int (4 : Int32)]) (ci := 9) lkV_RX10_165_yX10_farFinds dX10_ratio_67 (k_X10_farFinds e14) rfl rfl rfl rfl (Nat.le_of_ble_eq_true rfl) (by decide) (by decide) ?_
        exact mw_lret dX10_ratio_70 rfl (ers_lm h) rfl rfl
      · have h := mie hc h
        refine mw_aload_n dX10_ratio_57 0 rfl ?_
        refine mw_iload_n dX10_ratio_58 2 rfl ?_
        obtain ⟨r15, e16, h⟩ := mbd h
        refine mv_callV_i (As := [.int a2]) (ci := 9) lkV_RX10_230_yX10_isChoice dX10_ratio_59 (k_X10_isChoice e16) rfl rfl rfl rfl (Nat.le_of_ble_eq_true rfl) (by decide) (by decide) ?_
        refine mw_if_ne (tgt := 71) dX10_ratio_62 (by decide) (fun hc => ?_) (fun hc => ?_)
        · have h := mie hc h
          refine mw_aload_n dX10_ratio_71 0 rfl ?_
          refine mw_iload_n dX10_ratio_72 2 rfl ?_
          obtain ⟨r17, e18, h⟩ := mbd h
          refine mv_callV_l (As := [.int a2]) (ci := 9) lkV_RX10_233_yX10_aboveOf dX10_ratio_73 (k_X10_aboveOf e18) rfl rfl rfl rfl (Nat.le_of_ble_eq_true rfl) (by decide) (by decide) ?_
          refine mw_aload_n dX10_ratio_76 0 rfl ?_
          refine mw_iload_n dX10_ratio_77 2 rfl ?_
          obtain ⟨r19, e20, h⟩ := mbd h
          refine mv_callV_l (As := [.int a2]) (ci := 9) lkV_RX10_236_yX10_belowOf dX10_ratio_78 (k_X10_belowOf e20) rfl rfl rfl rfl (Nat.le_of_ble_eq_true rfl) (by decide) (by decide) ?_
          refine mw_iload_n dX10_ratio_81 3 rfl ?_
          obtain ⟨r21, e22, h⟩ := mbd h
          refine mv_callS_l (As := [.long r17, .long r19, .int a3]) lkS_RX10_173_yX10_lowest dX10_ratio_82 (k_X10_lowest e22) rfl rfl (Nat.le_of_ble_eq_true rfl) (by decide) (by decide) ?_
          exact mw_lret dX10_ratio_85 rfl (ers_lm h) rfl rfl
        · have h := mit hc h
          refine mw_aload_n dX10_ratio_65 0 rfl ?_
          refine mw_iconst (v := 4) dX10_ratio_66 (by decide) ?_
          obtain ⟨r23, e24, h⟩ := mbd h
          refine mv_callV_l (As := [.int (4 : Int32)]) (ci := 9) lkV_RX10_165_yX10_farFinds dX10_ratio_67 (k_X10_farFinds e24) rfl rfl rfl rfl (Nat.le_of_ble_eq_true rfl) (by decide) (by decide) ?_
          exact mw_lret dX10_ratio_70 rfl (ers_lm h) rfl rfl
    · have h := mit hc h
      refine mw_aload_n dX10_ratio_22 0 rfl ?_
      refine mw_iconst (v := 0) dX10_ratio_23 (by decide) ?_
      obtain ⟨r25, e26, h⟩ := mbd h
      refine mv_callV_l (As := [.int (0 : Int32)]) (ci := 9) lkV_RX10_165_yX10_farFinds dX10_ratio_24 (k_X10_farFinds e26) rfl rfl rfl rfl (Nat.le_of_ble_eq_true rfl) (by decide) (by decide) ?_
      exact mw_lret dX10_ratio_27 rfl (ers_lm h) rfl rfl

theorem dX10_isSheet_0 : decode cX10_isSheet 0 = .ok (.iload_n 0, 1) := by decide +kernel
theorem dX10_isSheet_1 : decode cX10_isSheet 1 = .ok (.i2l, 1) := by decide +kernel
theorem dX10_isSheet_2 : decode cX10_isSheet 2 = .ok (.lconst 0, 1) := by decide +kernel
theorem dX10_isSheet_3 : decode cX10_isSheet 3 = .ok (.ldc2_w 253, 3) := by decide +kernel
theorem dX10_isSheet_6 : decode cX10_isSheet 6 = .ok (.invokestatic 57, 3) := by decide +kernel
theorem dX10_isSheet_9 : decode cX10_isSheet 9 = .ok (.ireturn, 1) := by decide +kernel
def e_X10_isSheet (a0 : Int32) : Option Int32 := (e_X10_in a0.toInt64 (0 : Int64) (3 : Int64)).bind (fun r1 => if r1 = 0 ∨ r1 = 1 then (some r1) else none)
set_option maxRecDepth 100000 in
set_option maxHeartbeats 4000000 in
theorem k_X10_isSheet {l : Launch} {σ : ES} {a0 : Int32} {out : Int32} (h : e_X10_isSheet a0 = some out) : MK l yX10_isSheet cX10_isSheet 1 (some .boolean) 2 [.int a0] (mkS σ) (some (.int out)) (mkS σ) := by
  unfold e_X10_isSheet at h
  refine mw_entry (own := RX10) (ini := false) (L := [(0, .int a0)]) (by decide +kernel) rfl (fun h => nomatch h) rfl (Nat.le_of_ble_eq_true rfl) (Nat.le_of_ble_eq_true rfl) (fun E => ?_)
  refine mw_iload_n dX10_isSheet_0 0 rfl ?_
  refine mw_i2l dX10_isSheet_1 ?_
  refine mw_lconst (v := 0) dX10_isSheet_2 (by decide) ?_
  refine mw_ldc2 dX10_isSheet_3 wt_697 ?_
  obtain ⟨r1, e2, h⟩ := mbd h
  refine mv_callS_i (As := [.long a0.toInt64, .long (0 : Int64), .long (3 : Int64)]) lkS_RX10_57_yX10_in dX10_isSheet_6 (k_X10_in e2) rfl rfl (Nat.le_of_ble_eq_true rfl) (by decide) (by decide) ?_
  obtain ⟨m3, h⟩ := mif h
  exact mw_zret dX10_isSheet_9 rfl m3 (ers_i h) rfl rfl

theorem dX10_wrong_0 : decode cX10_wrong 0 = .ok (.iload_n 1, 1) := by decide +kernel
theorem dX10_wrong_1 : decode cX10_wrong 1 = .ok (.invokestatic 258, 3) := by decide +kernel
theorem dX10_wrong_4 : decode cX10_wrong 4 = .ok (.ifCond .ne 5, 3) := by decide +kernel
theorem dX10_wrong_7 : decode cX10_wrong 7 = .ok (.iconst 0, 1) := by decide +kernel
theorem dX10_wrong_8 : decode cX10_wrong 8 = .ok (.ireturn, 1) := by decide +kernel
theorem dX10_wrong_9 : decode cX10_wrong 9 = .ok (.aload_n 0, 1) := by decide +kernel
theorem dX10_wrong_10 : decode cX10_wrong 10 = .ok (.getfield 32, 3) := by decide +kernel
theorem dX10_wrong_13 : decode cX10_wrong 13 = .ok (.iload_n 1, 1) := by decide +kernel
theorem dX10_wrong_14 : decode cX10_wrong 14 = .ok (.iaload, 1) := by decide +kernel
theorem dX10_wrong_15 : decode cX10_wrong 15 = .ok (.ifCond .ne 5, 3) := by decide +kernel
theorem dX10_wrong_18 : decode cX10_wrong 18 = .ok (.iconst 5, 1) := by decide +kernel
theorem dX10_wrong_19 : decode cX10_wrong 19 = .ok (.ireturn, 1) := by decide +kernel
theorem dX10_wrong_20 : decode cX10_wrong 20 = .ok (.iload_n 2, 1) := by decide +kernel
theorem dX10_wrong_21 : decode cX10_wrong 21 = .ok (.i2l, 1) := by decide +kernel
theorem dX10_wrong_22 : decode cX10_wrong 22 = .ok (.lconst 0, 1) := by decide +kernel
theorem dX10_wrong_23 : decode cX10_wrong 23 = .ok (.aload_n 0, 1) := by decide +kernel
theorem dX10_wrong_24 : decode cX10_wrong 24 = .ok (.getfield 35, 3) := by decide +kernel
theorem dX10_wrong_27 : decode cX10_wrong 27 = .ok (.iload_n 1, 1) := by decide +kernel
theorem dX10_wrong_28 : decode cX10_wrong 28 = .ok (.iaload, 1) := by decide +kernel
theorem dX10_wrong_29 : decode cX10_wrong 29 = .ok (.iconst 2, 1) := by decide +kernel
theorem dX10_wrong_30 : decode cX10_wrong 30 = .ok (.isub, 1) := by decide +kernel
theorem dX10_wrong_31 : decode cX10_wrong 31 = .ok (.i2l, 1) := by decide +kernel
theorem dX10_wrong_32 : decode cX10_wrong 32 = .ok (.invokestatic 57, 3) := by decide +kernel
theorem dX10_wrong_35 : decode cX10_wrong 35 = .ok (.ifCond .eq 21, 3) := by decide +kernel
theorem dX10_wrong_38 : decode cX10_wrong 38 = .ok (.iload_n 3, 1) := by decide +kernel
theorem dX10_wrong_39 : decode cX10_wrong 39 = .ok (.i2l, 1) := by decide +kernel
theorem dX10_wrong_40 : decode cX10_wrong 40 = .ok (.lconst 0, 1) := by decide +kernel
theorem dX10_wrong_41 : decode cX10_wrong 41 = .ok (.aload_n 0, 1) := by decide +kernel
theorem dX10_wrong_42 : decode cX10_wrong 42 = .ok (.getfield 35, 3) := by decide +kernel
theorem dX10_wrong_45 : decode cX10_wrong 45 = .ok (.iload_n 1, 1) := by decide +kernel
theorem dX10_wrong_46 : decode cX10_wrong 46 = .ok (.iaload, 1) := by decide +kernel
theorem dX10_wrong_47 : decode cX10_wrong 47 = .ok (.iconst 2, 1) := by decide +kernel
theorem dX10_wrong_48 : decode cX10_wrong 48 = .ok (.isub, 1) := by decide +kernel
theorem dX10_wrong_49 : decode cX10_wrong 49 = .ok (.i2l, 1) := by decide +kernel
theorem dX10_wrong_50 : decode cX10_wrong 50 = .ok (.invokestatic 57, 3) := by decide +kernel
theorem dX10_wrong_53 : decode cX10_wrong 53 = .ok (.ifCond .ne 5, 3) := by decide +kernel
theorem dX10_wrong_56 : decode cX10_wrong 56 = .ok (.iconst 0, 1) := by decide +kernel
theorem dX10_wrong_57 : decode cX10_wrong 57 = .ok (.ireturn, 1) := by decide +kernel
theorem dX10_wrong_58 : decode cX10_wrong 58 = .ok (.aload_n 0, 1) := by decide +kernel
theorem dX10_wrong_59 : decode cX10_wrong 59 = .ok (.getfield 38, 3) := by decide +kernel
theorem dX10_wrong_62 : decode cX10_wrong 62 = .ok (.bipush 40, 2) := by decide +kernel
theorem dX10_wrong_64 : decode cX10_wrong 64 = .ok (.iload_n 1, 1) := by decide +kernel
theorem dX10_wrong_65 : decode cX10_wrong 65 = .ok (.imul, 1) := by decide +kernel
theorem dX10_wrong_66 : decode cX10_wrong 66 = .ok (.iload_n 2, 1) := by decide +kernel
theorem dX10_wrong_67 : decode cX10_wrong 67 = .ok (.iadd, 1) := by decide +kernel
theorem dX10_wrong_68 : decode cX10_wrong 68 = .ok (.iconst 1, 1) := by decide +kernel
theorem dX10_wrong_69 : decode cX10_wrong 69 = .ok (.iadd, 1) := by decide +kernel
theorem dX10_wrong_70 : decode cX10_wrong 70 = .ok (.laload, 1) := by decide +kernel
theorem dX10_wrong_71 : decode cX10_wrong 71 = .ok (.lconst 0, 1) := by decide +kernel
theorem dX10_wrong_72 : decode cX10_wrong 72 = .ok (.lcmp, 1) := by decide +kernel
theorem dX10_wrong_73 : decode cX10_wrong 73 = .ok (.ifCond .eq 21, 3) := by decide +kernel
theorem dX10_wrong_76 : decode cX10_wrong 76 = .ok (.aload_n 0, 1) := by decide +kernel
theorem dX10_wrong_77 : decode cX10_wrong 77 = .ok (.getfield 38, 3) := by decide +kernel
theorem dX10_wrong_80 : decode cX10_wrong 80 = .ok (.bipush 40, 2) := by decide +kernel
theorem dX10_wrong_82 : decode cX10_wrong 82 = .ok (.iload_n 1, 1) := by decide +kernel
theorem dX10_wrong_83 : decode cX10_wrong 83 = .ok (.imul, 1) := by decide +kernel
theorem dX10_wrong_84 : decode cX10_wrong 84 = .ok (.iload_n 3, 1) := by decide +kernel
theorem dX10_wrong_85 : decode cX10_wrong 85 = .ok (.iadd, 1) := by decide +kernel
theorem dX10_wrong_86 : decode cX10_wrong 86 = .ok (.iconst 1, 1) := by decide +kernel
theorem dX10_wrong_87 : decode cX10_wrong 87 = .ok (.iadd, 1) := by decide +kernel
theorem dX10_wrong_88 : decode cX10_wrong 88 = .ok (.laload, 1) := by decide +kernel
theorem dX10_wrong_89 : decode cX10_wrong 89 = .ok (.lconst 0, 1) := by decide +kernel
theorem dX10_wrong_90 : decode cX10_wrong 90 = .ok (.lcmp, 1) := by decide +kernel
theorem dX10_wrong_91 : decode cX10_wrong 91 = .ok (.ifCond .ne 8, 3) := by decide +kernel
theorem dX10_wrong_94 : decode cX10_wrong 94 = .ok (.bipush 7, 2) := by decide +kernel
theorem dX10_wrong_96 : decode cX10_wrong 96 = .ok (.goto 4, 3) := by decide +kernel
theorem dX10_wrong_99 : decode cX10_wrong 99 = .ok (.iconst (-1), 1) := by decide +kernel
theorem dX10_wrong_100 : decode cX10_wrong 100 = .ok (.ireturn, 1) := by decide +kernel
def e_X10_wrong (σ : ES) (a1 : Int32) (a2 : Int32) (a3 : Int32) : Option Int32 := (e_X10_isSheet a1).bind (fun r1 => if r1 = 0 then (some (0 : Int32)) else (if mib a1 4 = true then (if (eI σ 75 a1.toNatClampNeg) = 0 then (some (5 : Int32)) else ((e_X10_in a2.toInt64 (0 : Int64) (((eI σ 76 a1.toNatClampNeg) - (2 : Int32)).toInt64)).bind (fun r4 => if r4 = 0 then (some (0 : Int32)) else ((e_X10_in a3.toInt64 (0 : Int64) (((eI σ 76 a1.toNatClampNeg) - (2 : Int32)).toInt64)).bind (fun r6 => if r6 = 0 then (some (0 : Int32)) else (if mib ((((40 : Int32) * a1) + a2) + (1 : Int32)) 160 = true then (if (eL σ 77 ((((40 : Int32) * a1) + a2) + (1 : Int32)).toNatClampNeg) = (0 : Int64) then (some (7 : Int32)) else (if mib ((((40 : Int32) * a1) + a3) + (1 : Int32)) 160 = true then (if (eL σ 77 ((((40 : Int32) * a1) + a3) + (1 : Int32)).toNatClampNeg) = (0 : Int64) then (some (7 : Int32)) else (some (-1 : Int32))) else none)) else none)))))) else none))
set_option maxRecDepth 100000 in
set_option maxHeartbeats 4000000 in
theorem k_X10_wrong {l : Launch} {σ : ES} {a1 : Int32} {a2 : Int32} {a3 : Int32} {out : Int32} (h : e_X10_wrong σ a1 a2 a3 = some out) : MK l yX10_wrong cX10_wrong 4 (some .int) 3 [.ref 69, .int a1, .int a2, .int a3] (mkS σ) (some (.int out)) (mkS σ) := by
  unfold e_X10_wrong at h
  refine mw_entry (own := RX10) (ini := false) (L := [(0, .ref 69), (1, .int a1), (2, .int a2), (3, .int a3)]) (by decide +kernel) rfl (fun h => nomatch h) rfl (Nat.le_of_ble_eq_true rfl) (Nat.le_of_ble_eq_true rfl) (fun E => ?_)
  refine mw_iload_n dX10_wrong_0 1 rfl ?_
  obtain ⟨r1, e2, h⟩ := mbd h
  refine mv_callS_i (As := [.int a1]) lkS_RX10_258_yX10_isSheet dX10_wrong_1 (k_X10_isSheet e2) rfl rfl (Nat.le_of_ble_eq_true rfl) (by decide) (by decide) ?_
  refine mw_if_ne (tgt := 9) dX10_wrong_4 (by decide) (fun hc => ?_) (fun hc => ?_)
  · have h := mie hc h
    refine mw_aload_n dX10_wrong_9 0 rfl ?_
    refine ev_getR (q := 75) fd_RX10_32_9 dX10_wrong_10 rfl rfl rfl ?_
    refine mw_iload_n dX10_wrong_13 1 rfl ?_
    obtain ⟨m3, h⟩ := mif h
    refine ev_iald dX10_wrong_14 (by decide) rfl m3 ?_
    refine mw_if_ne (tgt := 20) dX10_wrong_15 (by decide) (fun hc => ?_) (fun hc => ?_)
    · have h := mie hc h
      refine mw_iload_n dX10_wrong_20 2 rfl ?_
      refine mw_i2l dX10_wrong_21 ?_
      refine mw_lconst (v := 0) dX10_wrong_22 (by decide) ?_
      refine mw_aload_n dX10_wrong_23 0 rfl ?_
      refine ev_getR (q := 76) fd_RX10_35_9 dX10_wrong_24 rfl rfl rfl ?_
      refine mw_iload_n dX10_wrong_27 1 rfl ?_
      refine ev_iald dX10_wrong_28 (by decide) rfl m3 ?_
      refine mw_iconst (v := 2) dX10_wrong_29 (by decide) ?_
      refine mw_isub dX10_wrong_30 ?_
      refine mw_i2l dX10_wrong_31 ?_
      obtain ⟨r4, e5, h⟩ := mbd h
      refine mv_callS_i (As := [.long a2.toInt64, .long (0 : Int64), .long ((eI σ 76 a1.toNatClampNeg) - (2 : Int32)).toInt64]) lkS_RX10_57_yX10_in dX10_wrong_32 (k_X10_in e5) rfl rfl (Nat.le_of_ble_eq_true rfl) (by decide) (by decide) ?_
      refine mw_if_eq (tgt := 56) dX10_wrong_35 (by decide) (fun hc => ?_) (fun hc => ?_)
      · have h := mit hc h
        refine mw_iconst (v := 0) dX10_wrong_56 (by decide) ?_
        exact mw_iret dX10_wrong_57 rfl (ers_i h) rfl rfl
      · have h := mie hc h
        refine mw_iload_n dX10_wrong_38 3 rfl ?_
        refine mw_i2l dX10_wrong_39 ?_
        refine mw_lconst (v := 0) dX10_wrong_40 (by decide) ?_
        refine mw_aload_n dX10_wrong_41 0 rfl ?_
        refine ev_getR (q := 76) fd_RX10_35_9 dX10_wrong_42 rfl rfl rfl ?_
        refine mw_iload_n dX10_wrong_45 1 rfl ?_
        refine ev_iald dX10_wrong_46 (by decide) rfl m3 ?_
        refine mw_iconst (v := 2) dX10_wrong_47 (by decide) ?_
        refine mw_isub dX10_wrong_48 ?_
        refine mw_i2l dX10_wrong_49 ?_
        obtain ⟨r6, e7, h⟩ := mbd h
        refine mv_callS_i (As := [.long a3.toInt64, .long (0 : Int64), .long ((eI σ 76 a1.toNatClampNeg) - (2 : Int32)).toInt64]) lkS_RX10_57_yX10_in dX10_wrong_50 (k_X10_in e7) rfl rfl (Nat.le_of_ble_eq_true rfl) (by decide) (by decide) ?_
        refine mw_if_ne (tgt := 58) dX10_wrong_53 (by decide) (fun hc => ?_) (fun hc => ?_)
        · have h := mie hc h
          refine mw_aload_n dX10_wrong_58 0 rfl ?_
          refine ev_getR (q := 77) fd_RX10_38_9 dX10_wrong_59 rfl rfl rfl ?_
          refine mw_bipush (v := 40) dX10_wrong_62 (by decide) ?_
          refine mw_iload_n dX10_wrong_64 1 rfl ?_
          refine mw_imul dX10_wrong_65 ?_
          refine mw_iload_n dX10_wrong_66 2 rfl ?_
          refine mw_iadd dX10_wrong_67 ?_
          refine mw_iconst (v := 1) dX10_wrong_68 (by decide) ?_
          refine mw_iadd dX10_wrong_69 ?_
          obtain ⟨m8, h⟩ := mif h
          refine ev_lald dX10_wrong_70 (by decide) rfl m8 ?_
          refine mw_lconst (v := 0) dX10_wrong_71 (by decide) ?_
          refine mw_lc_eq (tgt := 94) dX10_wrong_72 dX10_wrong_73 (by decide) (fun hc => ?_) (fun hc => ?_)
          · have h := mit hc h
            refine mw_bipush (v := 7) dX10_wrong_94 (by decide) ?_
            refine mw_goto (tgt := 100) dX10_wrong_96 (by decide) ?_
            exact mw_iret dX10_wrong_100 rfl (ers_i h) rfl rfl
          · have h := mie hc h
            refine mw_aload_n dX10_wrong_76 0 rfl ?_
            refine ev_getR (q := 77) fd_RX10_38_9 dX10_wrong_77 rfl rfl rfl ?_
            refine mw_bipush (v := 40) dX10_wrong_80 (by decide) ?_
            refine mw_iload_n dX10_wrong_82 1 rfl ?_
            refine mw_imul dX10_wrong_83 ?_
            refine mw_iload_n dX10_wrong_84 3 rfl ?_
            refine mw_iadd dX10_wrong_85 ?_
            refine mw_iconst (v := 1) dX10_wrong_86 (by decide) ?_
            refine mw_iadd dX10_wrong_87 ?_
            obtain ⟨m9, h⟩ := mif h
            refine ev_lald dX10_wrong_88 (by decide) rfl m9 ?_
            refine mw_lconst (v := 0) dX10_wrong_89 (by decide) ?_
            refine mw_lc_ne (tgt := 99) dX10_wrong_90 dX10_wrong_91 (by decide) (fun hc => ?_) (fun hc => ?_)
            · have h := mie hc h
              refine mw_iconst (v := -1) dX10_wrong_99 (by decide) ?_
              exact mw_iret dX10_wrong_100 rfl (ers_i h) rfl rfl
            · have h := mit hc h
              refine mw_bipush (v := 7) dX10_wrong_94 (by decide) ?_
              refine mw_goto (tgt := 100) dX10_wrong_96 (by decide) ?_
              exact mw_iret dX10_wrong_100 rfl (ers_i h) rfl rfl
        · have h := mit hc h
          refine mw_iconst (v := 0) dX10_wrong_56 (by decide) ?_
          exact mw_iret dX10_wrong_57 rfl (ers_i h) rfl rfl
    · have h := mit hc h
      refine mw_iconst (v := 5) dX10_wrong_18 (by decide) ?_
      exact mw_iret dX10_wrong_19 rfl (ers_i h) rfl rfl
  · have h := mit hc h
    refine mw_iconst (v := 0) dX10_wrong_7 (by decide) ?_
    exact mw_iret dX10_wrong_8 rfl (ers_i h) rfl rfl

theorem dX10_compare_0 : decode cX10_compare 0 = .ok (.aload_n 0, 1) := by decide +kernel
theorem dX10_compare_1 : decode cX10_compare 1 = .ok (.iload_n 1, 1) := by decide +kernel
theorem dX10_compare_2 : decode cX10_compare 2 = .ok (.iload_n 2, 1) := by decide +kernel
theorem dX10_compare_3 : decode cX10_compare 3 = .ok (.iload_n 3, 1) := by decide +kernel
theorem dX10_compare_4 : decode cX10_compare 4 = .ok (.invokevirtual 261, 3) := by decide +kernel
theorem dX10_compare_7 : decode cX10_compare 7 = .ok (.istore 4, 2) := by decide +kernel
theorem dX10_compare_9 : decode cX10_compare 9 = .ok (.iload 4, 2) := by decide +kernel
theorem dX10_compare_11 : decode cX10_compare 11 = .ok (.ifCond .lt 10, 3) := by decide +kernel
theorem dX10_compare_14 : decode cX10_compare 14 = .ok (.aload_n 0, 1) := by decide +kernel
theorem dX10_compare_15 : decode cX10_compare 15 = .ok (.iload 4, 2) := by decide +kernel
theorem dX10_compare_17 : decode cX10_compare 17 = .ok (.invokevirtual 81, 3) := by decide +kernel
theorem dX10_compare_20 : decode cX10_compare 20 = .ok (.ireturn, 1) := by decide +kernel
theorem dX10_compare_21 : decode cX10_compare 21 = .ok (.bipush 40, 2) := by decide +kernel
theorem dX10_compare_23 : decode cX10_compare 23 = .ok (.iload_n 1, 1) := by decide +kernel
theorem dX10_compare_24 : decode cX10_compare 24 = .ok (.imul, 1) := by decide +kernel
theorem dX10_compare_25 : decode cX10_compare 25 = .ok (.iload_n 2, 1) := by decide +kernel
theorem dX10_compare_26 : decode cX10_compare 26 = .ok (.iadd, 1) := by decide +kernel
theorem dX10_compare_27 : decode cX10_compare 27 = .ok (.istore 5, 2) := by decide +kernel
theorem dX10_compare_29 : decode cX10_compare 29 = .ok (.bipush 40, 2) := by decide +kernel
theorem dX10_compare_31 : decode cX10_compare 31 = .ok (.iload_n 1, 1) := by decide +kernel
theorem dX10_compare_32 : decode cX10_compare 32 = .ok (.imul, 1) := by decide +kernel
theorem dX10_compare_33 : decode cX10_compare 33 = .ok (.iload_n 3, 1) := by decide +kernel
theorem dX10_compare_34 : decode cX10_compare 34 = .ok (.iadd, 1) := by decide +kernel
theorem dX10_compare_35 : decode cX10_compare 35 = .ok (.istore 6, 2) := by decide +kernel
theorem dX10_compare_37 : decode cX10_compare 37 = .ok (.aload_n 0, 1) := by decide +kernel
theorem dX10_compare_38 : decode cX10_compare 38 = .ok (.iconst 1, 1) := by decide +kernel
theorem dX10_compare_39 : decode cX10_compare 39 = .ok (.putfield 183, 3) := by decide +kernel
theorem dX10_compare_42 : decode cX10_compare 42 = .ok (.aload_n 0, 1) := by decide +kernel
theorem dX10_compare_43 : decode cX10_compare 43 = .ok (.aload_n 0, 1) := by decide +kernel
theorem dX10_compare_44 : decode cX10_compare 44 = .ok (.getfield 38, 3) := by decide +kernel
theorem dX10_compare_47 : decode cX10_compare 47 = .ok (.iload 5, 2) := by decide +kernel
theorem dX10_compare_49 : decode cX10_compare 49 = .ok (.laload, 1) := by decide +kernel
theorem dX10_compare_50 : decode cX10_compare 50 = .ok (.aload_n 0, 1) := by decide +kernel
theorem dX10_compare_51 : decode cX10_compare 51 = .ok (.getfield 38, 3) := by decide +kernel
theorem dX10_compare_54 : decode cX10_compare 54 = .ok (.iload 6, 2) := by decide +kernel
theorem dX10_compare_56 : decode cX10_compare 56 = .ok (.iconst 1, 1) := by decide +kernel
theorem dX10_compare_57 : decode cX10_compare 57 = .ok (.iadd, 1) := by decide +kernel
theorem dX10_compare_58 : decode cX10_compare 58 = .ok (.laload, 1) := by decide +kernel
theorem dX10_compare_59 : decode cX10_compare 59 = .ok (.invokevirtual 186, 3) := by decide +kernel
theorem dX10_compare_62 : decode cX10_compare 62 = .ok (.lstore 7, 2) := by decide +kernel
theorem dX10_compare_64 : decode cX10_compare 64 = .ok (.aload_n 0, 1) := by decide +kernel
theorem dX10_compare_65 : decode cX10_compare 65 = .ok (.aload_n 0, 1) := by decide +kernel
theorem dX10_compare_66 : decode cX10_compare 66 = .ok (.getfield 38, 3) := by decide +kernel
theorem dX10_compare_69 : decode cX10_compare 69 = .ok (.iload 6, 2) := by decide +kernel
theorem dX10_compare_71 : decode cX10_compare 71 = .ok (.laload, 1) := by decide +kernel
theorem dX10_compare_72 : decode cX10_compare 72 = .ok (.aload_n 0, 1) := by decide +kernel
theorem dX10_compare_73 : decode cX10_compare 73 = .ok (.getfield 38, 3) := by decide +kernel
theorem dX10_compare_76 : decode cX10_compare 76 = .ok (.iload 5, 2) := by decide +kernel
theorem dX10_compare_78 : decode cX10_compare 78 = .ok (.iconst 1, 1) := by decide +kernel
theorem dX10_compare_79 : decode cX10_compare 79 = .ok (.iadd, 1) := by decide +kernel
theorem dX10_compare_80 : decode cX10_compare 80 = .ok (.laload, 1) := by decide +kernel
theorem dX10_compare_81 : decode cX10_compare 81 = .ok (.invokevirtual 186, 3) := by decide +kernel
theorem dX10_compare_84 : decode cX10_compare 84 = .ok (.lstore 9, 2) := by decide +kernel
theorem dX10_compare_86 : decode cX10_compare 86 = .ok (.aload_n 0, 1) := by decide +kernel
theorem dX10_compare_87 : decode cX10_compare 87 = .ok (.getfield 183, 3) := by decide +kernel
theorem dX10_compare_90 : decode cX10_compare 90 = .ok (.ifCond .ne 10, 3) := by decide +kernel
theorem dX10_compare_93 : decode cX10_compare 93 = .ok (.aload_n 0, 1) := by decide +kernel
theorem dX10_compare_94 : decode cX10_compare 94 = .ok (.bipush 8, 2) := by decide +kernel
theorem dX10_compare_96 : decode cX10_compare 96 = .ok (.invokevirtual 81, 3) := by decide +kernel
theorem dX10_compare_99 : decode cX10_compare 99 = .ok (.ireturn, 1) := by decide +kernel
theorem dX10_compare_100 : decode cX10_compare 100 = .ok (.lload 7, 2) := by decide +kernel
theorem dX10_compare_102 : decode cX10_compare 102 = .ok (.lload 9, 2) := by decide +kernel
theorem dX10_compare_104 : decode cX10_compare 104 = .ok (.lcmp, 1) := by decide +kernel
theorem dX10_compare_105 : decode cX10_compare 105 = .ok (.ifCond .ge 7, 3) := by decide +kernel
theorem dX10_compare_108 : decode cX10_compare 108 = .ok (.iconst (-1), 1) := by decide +kernel
theorem dX10_compare_109 : decode cX10_compare 109 = .ok (.goto 16, 3) := by decide +kernel
theorem dX10_compare_112 : decode cX10_compare 112 = .ok (.lload 7, 2) := by decide +kernel
theorem dX10_compare_114 : decode cX10_compare 114 = .ok (.lload 9, 2) := by decide +kernel
theorem dX10_compare_116 : decode cX10_compare 116 = .ok (.lcmp, 1) := by decide +kernel
theorem dX10_compare_117 : decode cX10_compare 117 = .ok (.ifCond .le 7, 3) := by decide +kernel
theorem dX10_compare_120 : decode cX10_compare 120 = .ok (.iconst 1, 1) := by decide +kernel
theorem dX10_compare_121 : decode cX10_compare 121 = .ok (.goto 4, 3) := by decide +kernel
theorem dX10_compare_124 : decode cX10_compare 124 = .ok (.iconst 0, 1) := by decide +kernel
theorem dX10_compare_125 : decode cX10_compare 125 = .ok (.istore 11, 2) := by decide +kernel
theorem dX10_compare_127 : decode cX10_compare 127 = .ok (.aload_n 0, 1) := by decide +kernel
theorem dX10_compare_128 : decode cX10_compare 128 = .ok (.getfield 38, 3) := by decide +kernel
theorem dX10_compare_131 : decode cX10_compare 131 = .ok (.iload 5, 2) := by decide +kernel
theorem dX10_compare_133 : decode cX10_compare 133 = .ok (.iconst 1, 1) := by decide +kernel
theorem dX10_compare_134 : decode cX10_compare 134 = .ok (.iadd, 1) := by decide +kernel
theorem dX10_compare_135 : decode cX10_compare 135 = .ok (.laload, 1) := by decide +kernel
theorem dX10_compare_136 : decode cX10_compare 136 = .ok (.lconst 0, 1) := by decide +kernel
theorem dX10_compare_137 : decode cX10_compare 137 = .ok (.lcmp, 1) := by decide +kernel
theorem dX10_compare_138 : decode cX10_compare 138 = .ok (.ifCond .ge 7, 3) := by decide +kernel
theorem dX10_compare_141 : decode cX10_compare 141 = .ok (.iconst 1, 1) := by decide +kernel
theorem dX10_compare_142 : decode cX10_compare 142 = .ok (.goto 4, 3) := by decide +kernel
theorem dX10_compare_145 : decode cX10_compare 145 = .ok (.iconst 0, 1) := by decide +kernel
theorem dX10_compare_146 : decode cX10_compare 146 = .ok (.aload_n 0, 1) := by decide +kernel
theorem dX10_compare_147 : decode cX10_compare 147 = .ok (.getfield 38, 3) := by decide +kernel
theorem dX10_compare_150 : decode cX10_compare 150 = .ok (.iload 6, 2) := by decide +kernel
theorem dX10_compare_152 : decode cX10_compare 152 = .ok (.iconst 1, 1) := by decide +kernel
theorem dX10_compare_153 : decode cX10_compare 153 = .ok (.iadd, 1) := by decide +kernel
theorem dX10_compare_154 : decode cX10_compare 154 = .ok (.laload, 1) := by decide +kernel
theorem dX10_compare_155 : decode cX10_compare 155 = .ok (.lconst 0, 1) := by decide +kernel
theorem dX10_compare_156 : decode cX10_compare 156 = .ok (.lcmp, 1) := by decide +kernel
theorem dX10_compare_157 : decode cX10_compare 157 = .ok (.ifCond .ge 7, 3) := by decide +kernel
theorem dX10_compare_160 : decode cX10_compare 160 = .ok (.iconst 1, 1) := by decide +kernel
theorem dX10_compare_161 : decode cX10_compare 161 = .ok (.goto 4, 3) := by decide +kernel
theorem dX10_compare_164 : decode cX10_compare 164 = .ok (.iconst 0, 1) := by decide +kernel
theorem dX10_compare_165 : decode cX10_compare 165 = .ok (.if_icmp .ne 8, 3) := by decide +kernel
theorem dX10_compare_168 : decode cX10_compare 168 = .ok (.iload 11, 2) := by decide +kernel
theorem dX10_compare_170 : decode cX10_compare 170 = .ok (.goto 6, 3) := by decide +kernel
theorem dX10_compare_173 : decode cX10_compare 173 = .ok (.iload 11, 2) := by decide +kernel
theorem dX10_compare_175 : decode cX10_compare 175 = .ok (.ineg, 1) := by decide +kernel
theorem dX10_compare_176 : decode cX10_compare 176 = .ok (.ireturn, 1) := by decide +kernel
def e_X10_compare_J146 (a1 : Int32) (a2 : Int32) (a3 : Int32) (x6 : Int32) (x11 : Int32) (s0 : Int32) (σ : ES) : Option (Int32 × ES) := if mib (x6 + (1 : Int32)) 160 = true then (if (0 : Int64) ≤ (eL σ 77 (x6 + (1 : Int32)).toNatClampNeg) then (if s0 = (0 : Int32) then (some (x11, σ)) else (some ((-x11), σ))) else (if s0 = (1 : Int32) then (some (x11, σ)) else (some ((-x11), σ)))) else none
set_option maxRecDepth 100000 in
set_option maxHeartbeats 4000000 in
theorem p_X10_compare_J146 {l : Launch} {E : MX} {out : (Int32 × ES)} {a1 : Int32} {a2 : Int32} {a3 : Int32}  {x6 : Int32} {x11 : Int32} {s0 : Int32} {σ : ES} (h : e_X10_compare_J146 a1 a2 a3 x6 x11 s0 σ = some out) : MV l E cX10_compare RX10 12 (some .int) 4 (82, (some (.int out.1)), mkS out.2) (mkS σ) 146 [(0, .ref 69), (1, .int a1), (2, .int a2), (3, .int a3), (6, .int x6), (11, .int x11)] [.int s0] := by
  unfold e_X10_compare_J146 at h
  refine mw_aload_n dX10_compare_146 0 rfl ?_
  refine ev_getR (q := 77) fd_RX10_38_9 dX10_compare_147 rfl rfl rfl ?_
  refine mw_iload dX10_compare_150 4 rfl ?_
  refine mw_iconst (v := 1) dX10_compare_152 (by decide) ?_
  refine mw_iadd dX10_compare_153 ?_
  obtain ⟨m1, h⟩ := mif h
  refine ev_lald dX10_compare_154 (by decide) rfl m1 ?_
  refine mw_lconst (v := 0) dX10_compare_155 (by decide) ?_
  refine mw_lc_ge (tgt := 164) dX10_compare_156 dX10_compare_157 (by decide) (fun hc => ?_) (fun hc => ?_)
  · have h := mit hc h
    refine mw_iconst (v := 0) dX10_compare_164 (by decide) ?_
    refine mw_icmp_ne (tgt := 173) dX10_compare_165 (by decide) (fun hc => ?_) (fun hc => ?_)
    · have h := mie hc h
      refine mw_iload dX10_compare_173 5 rfl ?_
      refine mw_ineg dX10_compare_175 ?_
      exact mw_iret dX10_compare_176 rfl (ers_im h) rfl rfl
    · have h := mit hc h
      refine mw_iload dX10_compare_168 5 rfl ?_
      refine mw_goto (tgt := 176) dX10_compare_170 (by decide) ?_
      exact mw_iret dX10_compare_176 rfl (ers_im h) rfl rfl
  · have h := mie hc h
    refine mw_iconst (v := 1) dX10_compare_160 (by decide) ?_
    refine mw_goto (tgt := 165) dX10_compare_161 (by decide) ?_
    refine mw_icmp_ne (tgt := 173) dX10_compare_165 (by decide) (fun hc => ?_) (fun hc => ?_)
    · have h := mie hc h
      refine mw_iload dX10_compare_173 5 rfl ?_
      refine mw_ineg dX10_compare_175 ?_
      exact mw_iret dX10_compare_176 rfl (ers_im h) rfl rfl
    · have h := mit hc h
      refine mw_iload dX10_compare_168 5 rfl ?_
      refine mw_goto (tgt := 176) dX10_compare_170 (by decide) ?_
      exact mw_iret dX10_compare_176 rfl (ers_im h) rfl rfl
def e_X10_compare_J125 (a1 : Int32) (a2 : Int32) (a3 : Int32) (x5 : Int32) (x6 : Int32) (s0 : Int32) (σ : ES) : Option (Int32 × ES) := if mib (x5 + (1 : Int32)) 160 = true then (if (0 : Int64) ≤ (eL σ 77 (x5 + (1 : Int32)).toNatClampNeg) then (e_X10_compare_J146 a1 a2 a3 x6 s0 (0 : Int32) σ) else (e_X10_compare_J146 a1 a2 a3 x6 s0 (1 : Int32) σ)) else none
set_option maxRecDepth 100000 in
set_option maxHeartbeats 4000000 in
theorem p_X10_compare_J125 {l : Launch} {E : MX} {out : (Int32 × ES)} {a1 : Int32} {a2 : Int32} {a3 : Int32}  {x5 : Int32} {x6 : Int32} {s0 : Int32} {σ : ES} (h : e_X10_compare_J125 a1 a2 a3 x5 x6 s0 σ = some out) : MV l E cX10_compare RX10 12 (some .int) 4 (82, (some (.int out.1)), mkS out.2) (mkS σ) 125 [(0, .ref 69), (1, .int a1), (2, .int a2), (3, .int a3), (5, .int x5), (6, .int x6)] [.int s0] := by
  unfold e_X10_compare_J125 at h
  refine mw_istore (L' := [(11, .int s0), (0, .ref 69), (1, .int a1), (2, .int a2), (3, .int a3), (5, .int x5), (6, .int x6)]) dX10_compare_125 (by decide) rfl ?_
  refine mw_aload_n dX10_compare_127 1 rfl ?_
  refine ev_getR (q := 77) fd_RX10_38_9 dX10_compare_128 rfl rfl rfl ?_
  refine mw_iload dX10_compare_131 5 rfl ?_
  refine mw_iconst (v := 1) dX10_compare_133 (by decide) ?_
  refine mw_iadd dX10_compare_134 ?_
  obtain ⟨m1, h⟩ := mif h
  refine ev_lald dX10_compare_135 (by decide) rfl m1 ?_
  refine mw_lconst (v := 0) dX10_compare_136 (by decide) ?_
  refine mw_lc_ge (tgt := 145) dX10_compare_137 dX10_compare_138 (by decide) (fun hc => ?_) (fun hc => ?_)
  · have h := mit hc h
    refine mw_iconst (v := 0) dX10_compare_145 (by decide) ?_
    exact mw_sub (L' := [(0, .ref 69), (1, .int a1), (2, .int a2), (3, .int a3), (6, .int x6), (11, .int s0)]) [1, 2, 3, 4, 6, 0] rfl (p_X10_compare_J146  h)
  · have h := mie hc h
    refine mw_iconst (v := 1) dX10_compare_141 (by decide) ?_
    refine mw_goto (tgt := 146) dX10_compare_142 (by decide) ?_
    exact mw_sub (L' := [(0, .ref 69), (1, .int a1), (2, .int a2), (3, .int a3), (6, .int x6), (11, .int s0)]) [1, 2, 3, 4, 6, 0] rfl (p_X10_compare_J146  h)
def e_X10_compare (a1 : Int32) (a2 : Int32) (a3 : Int32) (σ : ES) : Option (Int32 × ES) := (e_X10_wrong σ a1 a2 a3).bind (fun r1 => if r1 < 0 then (if mib (((40 : Int32) * a1) + a2) 160 = true then (if mib ((((40 : Int32) * a1) + a3) + (1 : Int32)) 160 = true then ((e_X10_product (eL (uI σ 69 15 (1 : Int32)) 77 (((40 : Int32) * a1) + a2).toNatClampNeg) (eL (uI σ 69 15 (1 : Int32)) 77 ((((40 : Int32) * a1) + a3) + (1 : Int32)).toNatClampNeg) (uI σ 69 15 (1 : Int32))).bind (fun r5 => if mib (((40 : Int32) * a1) + a3) 160 = true then (if mib ((((40 : Int32) * a1) + a2) + (1 : Int32)) 160 = true then ((e_X10_product (eL r5.2 77 (((40 : Int32) * a1) + a3).toNatClampNeg) (eL r5.2 77 ((((40 : Int32) * a1) + a2) + (1 : Int32)).toNatClampNeg) r5.2).bind (fun r9 => if (eI r9.2 69 15) = 0 then ((e_X10_finds (8 : Int32) r9.2).bind (fun r11 => some (r11.1, r11.2))) else (if r9.1 ≤ r5.1 then (if r5.1 ≤ r9.1 then (e_X10_compare_J125 a1 a2 a3 (((40 : Int32) * a1) + a2) (((40 : Int32) * a1) + a3) (0 : Int32) r9.2) else (e_X10_compare_J125 a1 a2 a3 (((40 : Int32) * a1) + a2) (((40 : Int32) * a1) + a3) (1 : Int32) r9.2)) else (e_X10_compare_J125 a1 a2 a3 (((40 : Int32) * a1) + a2) (((40 : Int32) * a1) + a3) (-1 : Int32) r9.2)))) else none) else none)) else none) else none) else ((e_X10_finds r1 σ).bind (fun r13 => some (r13.1, r13.2))))
set_option maxRecDepth 100000 in
set_option maxHeartbeats 4000000 in
theorem k_X10_compare {l : Launch} {σ : ES} {a1 : Int32} {a2 : Int32} {a3 : Int32} {out : (Int32 × ES)} (h : e_X10_compare a1 a2 a3 σ = some out) : MK l yX10_compare cX10_compare 12 (some .int) 4 [.ref 69, .int a1, .int a2, .int a3] (mkS σ) (some (.int out.1)) (mkS out.2) := by
  unfold e_X10_compare at h
  refine mw_entry (own := RX10) (ini := false) (L := [(0, .ref 69), (1, .int a1), (2, .int a2), (3, .int a3)]) (by decide +kernel) rfl (fun h => nomatch h) rfl (Nat.le_of_ble_eq_true rfl) (Nat.le_of_ble_eq_true rfl) (fun E => ?_)
  refine mw_aload_n dX10_compare_0 0 rfl ?_
  refine mw_iload_n dX10_compare_1 1 rfl ?_
  refine mw_iload_n dX10_compare_2 2 rfl ?_
  refine mw_iload_n dX10_compare_3 3 rfl ?_
  obtain ⟨r1, e2, h⟩ := mbd h
  refine mv_callV_i (As := [.int a1, .int a2, .int a3]) (ci := 9) lkV_RX10_261_yX10_wrong dX10_compare_4 (k_X10_wrong e2) rfl rfl rfl rfl (Nat.le_of_ble_eq_true rfl) (by decide) (by decide) ?_
  refine mw_istore (L' := [(4, .int r1), (0, .ref 69), (1, .int a1), (2, .int a2), (3, .int a3)]) dX10_compare_7 (by decide) rfl ?_
  refine mw_iload dX10_compare_9 0 rfl ?_
  refine mw_if_lt (tgt := 21) dX10_compare_11 (by decide) (fun hc => ?_) (fun hc => ?_)
  · have h := mit hc h
    refine mw_bipush (v := 40) dX10_compare_21 (by decide) ?_
    refine mw_iload_n dX10_compare_23 2 rfl ?_
    refine mw_imul dX10_compare_24 ?_
    refine mw_iload_n dX10_compare_25 3 rfl ?_
    refine mw_iadd dX10_compare_26 ?_
    refine mw_istore (L' := [(5, .int (((40 : Int32) * a1) + a2)), (4, .int r1), (0, .ref 69), (1, .int a1), (2, .int a2), (3, .int a3)]) dX10_compare_27 (by decide) rfl ?_
    refine mw_bipush (v := 40) dX10_compare_29 (by decide) ?_
    refine mw_iload_n dX10_compare_31 3 rfl ?_
    refine mw_imul dX10_compare_32 ?_
    refine mw_iload_n dX10_compare_33 5 rfl ?_
    refine mw_iadd dX10_compare_34 ?_
    refine mw_istore (L' := [(6, .int (((40 : Int32) * a1) + a3)), (5, .int (((40 : Int32) * a1) + a2)), (4, .int r1), (0, .ref 69), (1, .int a1), (2, .int a2), (3, .int a3)]) dX10_compare_35 (by decide) rfl ?_
    refine mw_aload_n dX10_compare_37 3 rfl ?_
    refine mw_iconst (v := 1) dX10_compare_38 (by decide) ?_
    refine ev_putZ fw_RX10_183_9 dX10_compare_39 rfl rfl (by decide) ?_
    refine mw_aload_n dX10_compare_42 3 rfl ?_
    refine mw_aload_n dX10_compare_43 3 rfl ?_
    refine ev_getR (q := 77) fd_RX10_38_9 dX10_compare_44 rfl rfl rfl ?_
    refine mw_iload dX10_compare_47 1 rfl ?_
    obtain ⟨m3, h⟩ := mif h
    refine ev_lald dX10_compare_49 (by decide) rfl m3 ?_
    refine mw_aload_n dX10_compare_50 3 rfl ?_
    refine ev_getR (q := 77) fd_RX10_38_9 dX10_compare_51 rfl rfl rfl ?_
    refine mw_iload dX10_compare_54 0 rfl ?_
    refine mw_iconst (v := 1) dX10_compare_56 (by decide) ?_
    refine mw_iadd dX10_compare_57 ?_
    obtain ⟨m4, h⟩ := mif h
    refine ev_lald dX10_compare_58 (by decide) rfl m4 ?_
    obtain ⟨r5, e6, h⟩ := mbd h
    refine mv_callV_l (As := [.long (eL (uI σ 69 15 (1 : Int32)) 77 (((40 : Int32) * a1) + a2).toNatClampNeg), .long (eL (uI σ 69 15 (1 : Int32)) 77 ((((40 : Int32) * a1) + a3) + (1 : Int32)).toNatClampNeg)]) (ci := 9) lkV_RX10_186_yX10_product dX10_compare_59 (k_X10_product e6) rfl rfl rfl rfl (Nat.le_of_ble_eq_true rfl) (by decide) (by decide) ?_
    refine mw_lstore (L' := [(7, .long r5.1), (6, .int (((40 : Int32) * a1) + a3)), (5, .int (((40 : Int32) * a1) + a2)), (4, .int r1), (0, .ref 69), (1, .int a1), (2, .int a2), (3, .int a3)]) dX10_compare_62 (by decide) rfl ?_
    refine mw_aload_n dX10_compare_64 4 rfl ?_
    refine mw_aload_n dX10_compare_65 4 rfl ?_
    refine ev_getR (q := 77) fd_RX10_38_9 dX10_compare_66 rfl rfl rfl ?_
    refine mw_iload dX10_compare_69 1 rfl ?_
    obtain ⟨m7, h⟩ := mif h
    refine ev_lald dX10_compare_71 (by decide) rfl m7 ?_
    refine mw_aload_n dX10_compare_72 4 rfl ?_
    refine ev_getR (q := 77) fd_RX10_38_9 dX10_compare_73 rfl rfl rfl ?_
    refine mw_iload dX10_compare_76 2 rfl ?_
    refine mw_iconst (v := 1) dX10_compare_78 (by decide) ?_
    refine mw_iadd dX10_compare_79 ?_
    obtain ⟨m8, h⟩ := mif h
    refine ev_lald dX10_compare_80 (by decide) rfl m8 ?_
    obtain ⟨r9, e10, h⟩ := mbd h
    refine mv_callV_l (As := [.long (eL r5.2 77 (((40 : Int32) * a1) + a3).toNatClampNeg), .long (eL r5.2 77 ((((40 : Int32) * a1) + a2) + (1 : Int32)).toNatClampNeg)]) (ci := 9) lkV_RX10_186_yX10_product dX10_compare_81 (k_X10_product e10) rfl rfl rfl rfl (Nat.le_of_ble_eq_true rfl) (by decide) (by decide) ?_
    refine mw_lstore (L' := [(9, .long r9.1), (7, .long r5.1), (6, .int (((40 : Int32) * a1) + a3)), (5, .int (((40 : Int32) * a1) + a2)), (4, .int r1), (0, .ref 69), (1, .int a1), (2, .int a2), (3, .int a3)]) dX10_compare_84 (by decide) rfl ?_
    refine mw_aload_n dX10_compare_86 5 rfl ?_
    refine ev_getZ fd_RX10_183_9 dX10_compare_87 rfl rfl ?_
    refine mw_if_ne (tgt := 100) dX10_compare_90 (by decide) (fun hc => ?_) (fun hc => ?_)
    · have h := mie hc h
      refine mw_lload dX10_compare_100 1 rfl ?_
      refine mw_lload dX10_compare_102 0 rfl ?_
      refine mw_lc_ge (tgt := 112) dX10_compare_104 dX10_compare_105 (by decide) (fun hc => ?_) (fun hc => ?_)
      · have h := mit hc h
        refine mw_lload dX10_compare_112 1 rfl ?_
        refine mw_lload dX10_compare_114 0 rfl ?_
        refine mw_lc_le (tgt := 124) dX10_compare_116 dX10_compare_117 (by decide) (fun hc => ?_) (fun hc => ?_)
        · have h := mit hc h
          refine mw_iconst (v := 0) dX10_compare_124 (by decide) ?_
          exact mw_sub (L' := [(0, .ref 69), (1, .int a1), (2, .int a2), (3, .int a3), (5, .int (((40 : Int32) * a1) + a2)), (6, .int (((40 : Int32) * a1) + a3))]) [5, 6, 7, 8, 3, 2] rfl (p_X10_compare_J125  h)
        · have h := mie hc h
          refine mw_iconst (v := 1) dX10_compare_120 (by decide) ?_
          refine mw_goto (tgt := 125) dX10_compare_121 (by decide) ?_
          exact mw_sub (L' := [(0, .ref 69), (1, .int a1), (2, .int a2), (3, .int a3), (5, .int (((40 : Int32) * a1) + a2)), (6, .int (((40 : Int32) * a1) + a3))]) [5, 6, 7, 8, 3, 2] rfl (p_X10_compare_J125  h)
      · have h := mie hc h
        refine mw_iconst (v := -1) dX10_compare_108 (by decide) ?_
        refine mw_goto (tgt := 125) dX10_compare_109 (by decide) ?_
        exact mw_sub (L' := [(0, .ref 69), (1, .int a1), (2, .int a2), (3, .int a3), (5, .int (((40 : Int32) * a1) + a2)), (6, .int (((40 : Int32) * a1) + a3))]) [5, 6, 7, 8, 3, 2] rfl (p_X10_compare_J125  h)
    · have h := mit hc h
      refine mw_aload_n dX10_compare_93 5 rfl ?_
      refine mw_bipush (v := 8) dX10_compare_94 (by decide) ?_
      obtain ⟨r11, e12, h⟩ := mbd h
      refine mv_callV_i (As := [.int (8 : Int32)]) (ci := 9) lkV_RX10_81_yX10_finds dX10_compare_96 (k_X10_finds e12) rfl rfl rfl rfl (Nat.le_of_ble_eq_true rfl) (by decide) (by decide) ?_
      exact mw_iret dX10_compare_99 rfl (ers_im h) rfl rfl
  · have h := mie hc h
    refine mw_aload_n dX10_compare_14 1 rfl ?_
    refine mw_iload dX10_compare_15 0 rfl ?_
    obtain ⟨r13, e14, h⟩ := mbd h
    refine mv_callV_i (As := [.int r1]) (ci := 9) lkV_RX10_81_yX10_finds dX10_compare_17 (k_X10_finds e14) rfl rfl rfl rfl (Nat.le_of_ble_eq_true rfl) (by decide) (by decide) ?_
    exact mw_iret dX10_compare_20 rfl (ers_im h) rfl rfl

theorem dX10_narrow_0 : decode cX10_narrow 0 = .ok (.iload_n 0, 1) := by decide +kernel
theorem dX10_narrow_1 : decode cX10_narrow 1 = .ok (.bipush 16, 2) := by decide +kernel
theorem dX10_narrow_3 : decode cX10_narrow 3 = .ok (.if_icmp .ne 10, 3) := by decide +kernel
theorem dX10_narrow_6 : decode cX10_narrow 6 = .ok (.lload_n 1, 1) := by decide +kernel
theorem dX10_narrow_7 : decode cX10_narrow 7 = .ok (.l2i, 1) := by decide +kernel
theorem dX10_narrow_8 : decode cX10_narrow 8 = .ok (.i2s, 1) := by decide +kernel
theorem dX10_narrow_9 : decode cX10_narrow 9 = .ok (.i2l, 1) := by decide +kernel
theorem dX10_narrow_10 : decode cX10_narrow 10 = .ok (.goto 16, 3) := by decide +kernel
theorem dX10_narrow_13 : decode cX10_narrow 13 = .ok (.iload_n 0, 1) := by decide +kernel
theorem dX10_narrow_14 : decode cX10_narrow 14 = .ok (.bipush 32, 2) := by decide +kernel
theorem dX10_narrow_16 : decode cX10_narrow 16 = .ok (.if_icmp .ne 9, 3) := by decide +kernel
theorem dX10_narrow_19 : decode cX10_narrow 19 = .ok (.lload_n 1, 1) := by decide +kernel
theorem dX10_narrow_20 : decode cX10_narrow 20 = .ok (.l2i, 1) := by decide +kernel
theorem dX10_narrow_21 : decode cX10_narrow 21 = .ok (.i2l, 1) := by decide +kernel
theorem dX10_narrow_22 : decode cX10_narrow 22 = .ok (.goto 4, 3) := by decide +kernel
theorem dX10_narrow_25 : decode cX10_narrow 25 = .ok (.lload_n 1, 1) := by decide +kernel
theorem dX10_narrow_26 : decode cX10_narrow 26 = .ok (.lreturn, 1) := by decide +kernel
def e_X10_narrow (a0 : Int32) (a1 : Int64) : Option Int64 := if a0 = (16 : Int32) then (some a1.toInt32.toInt16.toInt32.toInt64) else (if a0 = (32 : Int32) then (some a1.toInt32.toInt64) else (some a1))
set_option maxRecDepth 100000 in
set_option maxHeartbeats 4000000 in
theorem k_X10_narrow {l : Launch} {σ : ES} {a0 : Int32} {a1 : Int64} {out : Int64} (h : e_X10_narrow a0 a1 = some out) : MK l yX10_narrow cX10_narrow 3 (some .long) 1 [.int a0, .long a1] (mkS σ) (some (.long out)) (mkS σ) := by
  unfold e_X10_narrow at h
  refine mw_entry (own := RX10) (ini := false) (L := [(0, .int a0), (1, .long a1)]) (by decide +kernel) rfl (fun h => nomatch h) rfl (Nat.le_of_ble_eq_true rfl) (Nat.le_of_ble_eq_true rfl) (fun E => ?_)
  refine mw_iload_n dX10_narrow_0 0 rfl ?_
  refine mw_bipush (v := 16) dX10_narrow_1 (by decide) ?_
  refine mw_icmp_ne (tgt := 13) dX10_narrow_3 (by decide) (fun hc => ?_) (fun hc => ?_)
  · have h := mie hc h
    refine mw_iload_n dX10_narrow_13 0 rfl ?_
    refine mw_bipush (v := 32) dX10_narrow_14 (by decide) ?_
    refine mw_icmp_ne (tgt := 25) dX10_narrow_16 (by decide) (fun hc => ?_) (fun hc => ?_)
    · have h := mie hc h
      refine mw_lload_n dX10_narrow_25 1 rfl ?_
      exact mw_lret dX10_narrow_26 rfl (ers_l h) rfl rfl
    · have h := mit hc h
      refine mw_lload_n dX10_narrow_19 1 rfl ?_
      refine mw_l2i dX10_narrow_20 ?_
      refine mw_i2l dX10_narrow_21 ?_
      refine mw_goto (tgt := 26) dX10_narrow_22 (by decide) ?_
      exact mw_lret dX10_narrow_26 rfl (ers_l h) rfl rfl
  · have h := mit hc h
    refine mw_lload_n dX10_narrow_6 1 rfl ?_
    refine mw_l2i dX10_narrow_7 ?_
    refine mw_i2s dX10_narrow_8 ?_
    refine mw_i2l dX10_narrow_9 ?_
    refine mw_goto (tgt := 26) dX10_narrow_10 (by decide) ?_
    exact mw_lret dX10_narrow_26 rfl (ers_l h) rfl rfl

theorem dX10_reduce_0 : decode cX10_reduce 0 = .ok (.aload_n 0, 1) := by decide +kernel
theorem dX10_reduce_1 : decode cX10_reduce 1 = .ok (.iload_n 1, 1) := by decide +kernel
theorem dX10_reduce_2 : decode cX10_reduce 2 = .ok (.iload_n 2, 1) := by decide +kernel
theorem dX10_reduce_3 : decode cX10_reduce 3 = .ok (.iload_n 2, 1) := by decide +kernel
theorem dX10_reduce_4 : decode cX10_reduce 4 = .ok (.invokevirtual 261, 3) := by decide +kernel
theorem dX10_reduce_7 : decode cX10_reduce 7 = .ok (.istore_n 3, 1) := by decide +kernel
theorem dX10_reduce_8 : decode cX10_reduce 8 = .ok (.iload_n 3, 1) := by decide +kernel
theorem dX10_reduce_9 : decode cX10_reduce 9 = .ok (.ifCond .lt 9, 3) := by decide +kernel
theorem dX10_reduce_12 : decode cX10_reduce 12 = .ok (.aload_n 0, 1) := by decide +kernel
theorem dX10_reduce_13 : decode cX10_reduce 13 = .ok (.iload_n 3, 1) := by decide +kernel
theorem dX10_reduce_14 : decode cX10_reduce 14 = .ok (.invokevirtual 165, 3) := by decide +kernel
theorem dX10_reduce_17 : decode cX10_reduce 17 = .ok (.lreturn, 1) := by decide +kernel
theorem dX10_reduce_18 : decode cX10_reduce 18 = .ok (.bipush 40, 2) := by decide +kernel
theorem dX10_reduce_20 : decode cX10_reduce 20 = .ok (.iload_n 1, 1) := by decide +kernel
theorem dX10_reduce_21 : decode cX10_reduce 21 = .ok (.imul, 1) := by decide +kernel
theorem dX10_reduce_22 : decode cX10_reduce 22 = .ok (.iload_n 2, 1) := by decide +kernel
theorem dX10_reduce_23 : decode cX10_reduce 23 = .ok (.iadd, 1) := by decide +kernel
theorem dX10_reduce_24 : decode cX10_reduce 24 = .ok (.istore 4, 2) := by decide +kernel
theorem dX10_reduce_26 : decode cX10_reduce 26 = .ok (.aload_n 0, 1) := by decide +kernel
theorem dX10_reduce_27 : decode cX10_reduce 27 = .ok (.getfield 38, 3) := by decide +kernel
theorem dX10_reduce_30 : decode cX10_reduce 30 = .ok (.iload 4, 2) := by decide +kernel
theorem dX10_reduce_32 : decode cX10_reduce 32 = .ok (.laload, 1) := by decide +kernel
theorem dX10_reduce_33 : decode cX10_reduce 33 = .ok (.lstore 5, 2) := by decide +kernel
theorem dX10_reduce_35 : decode cX10_reduce 35 = .ok (.aload_n 0, 1) := by decide +kernel
theorem dX10_reduce_36 : decode cX10_reduce 36 = .ok (.getfield 38, 3) := by decide +kernel
theorem dX10_reduce_39 : decode cX10_reduce 39 = .ok (.iload 4, 2) := by decide +kernel
theorem dX10_reduce_41 : decode cX10_reduce 41 = .ok (.iconst 1, 1) := by decide +kernel
theorem dX10_reduce_42 : decode cX10_reduce 42 = .ok (.iadd, 1) := by decide +kernel
theorem dX10_reduce_43 : decode cX10_reduce 43 = .ok (.laload, 1) := by decide +kernel
theorem dX10_reduce_44 : decode cX10_reduce 44 = .ok (.lstore 7, 2) := by decide +kernel
theorem dX10_reduce_46 : decode cX10_reduce 46 = .ok (.lload 5, 2) := by decide +kernel
theorem dX10_reduce_48 : decode cX10_reduce 48 = .ok (.lconst 0, 1) := by decide +kernel
theorem dX10_reduce_49 : decode cX10_reduce 49 = .ok (.lcmp, 1) := by decide +kernel
theorem dX10_reduce_50 : decode cX10_reduce 50 = .ok (.ifCond .le 9, 3) := by decide +kernel
theorem dX10_reduce_53 : decode cX10_reduce 53 = .ok (.lload 5, 2) := by decide +kernel
theorem dX10_reduce_55 : decode cX10_reduce 55 = .ok (.lneg, 1) := by decide +kernel
theorem dX10_reduce_56 : decode cX10_reduce 56 = .ok (.goto 5, 3) := by decide +kernel
theorem dX10_reduce_59 : decode cX10_reduce 59 = .ok (.lload 5, 2) := by decide +kernel
theorem dX10_reduce_61 : decode cX10_reduce 61 = .ok (.lstore 9, 2) := by decide +kernel
theorem dX10_reduce_63 : decode cX10_reduce 63 = .ok (.lload 7, 2) := by decide +kernel
theorem dX10_reduce_65 : decode cX10_reduce 65 = .ok (.lconst 0, 1) := by decide +kernel
theorem dX10_reduce_66 : decode cX10_reduce 66 = .ok (.lcmp, 1) := by decide +kernel
theorem dX10_reduce_67 : decode cX10_reduce 67 = .ok (.ifCond .le 9, 3) := by decide +kernel
theorem dX10_reduce_70 : decode cX10_reduce 70 = .ok (.lload 7, 2) := by decide +kernel
theorem dX10_reduce_72 : decode cX10_reduce 72 = .ok (.lneg, 1) := by decide +kernel
theorem dX10_reduce_73 : decode cX10_reduce 73 = .ok (.goto 5, 3) := by decide +kernel
theorem dX10_reduce_76 : decode cX10_reduce 76 = .ok (.lload 7, 2) := by decide +kernel
theorem dX10_reduce_78 : decode cX10_reduce 78 = .ok (.lstore 11, 2) := by decide +kernel
theorem dX10_reduce_80 : decode cX10_reduce 80 = .ok (.lload 11, 2) := by decide +kernel
theorem dX10_reduce_82 : decode cX10_reduce 82 = .ok (.lconst 0, 1) := by decide +kernel
theorem dX10_reduce_83 : decode cX10_reduce 83 = .ok (.lcmp, 1) := by decide +kernel
theorem dX10_reduce_84 : decode cX10_reduce 84 = .ok (.ifCond .eq 21, 3) := by decide +kernel
theorem dX10_reduce_87 : decode cX10_reduce 87 = .ok (.lload 9, 2) := by decide +kernel
theorem dX10_reduce_89 : decode cX10_reduce 89 = .ok (.lload 11, 2) := by decide +kernel
theorem dX10_reduce_91 : decode cX10_reduce 91 = .ok (.lrem, 1) := by decide +kernel
theorem dX10_reduce_92 : decode cX10_reduce 92 = .ok (.lstore 13, 2) := by decide +kernel
theorem dX10_reduce_94 : decode cX10_reduce 94 = .ok (.lload 11, 2) := by decide +kernel
theorem dX10_reduce_96 : decode cX10_reduce 96 = .ok (.lstore 9, 2) := by decide +kernel
theorem dX10_reduce_98 : decode cX10_reduce 98 = .ok (.lload 13, 2) := by decide +kernel
theorem dX10_reduce_100 : decode cX10_reduce 100 = .ok (.lstore 11, 2) := by decide +kernel
theorem dX10_reduce_102 : decode cX10_reduce 102 = .ok (.goto (-22), 3) := by decide +kernel
theorem dX10_reduce_105 : decode cX10_reduce 105 = .ok (.lload 9, 2) := by decide +kernel
theorem dX10_reduce_107 : decode cX10_reduce 107 = .ok (.ldc2_w 177, 3) := by decide +kernel
theorem dX10_reduce_110 : decode cX10_reduce 110 = .ok (.lcmp, 1) := by decide +kernel
theorem dX10_reduce_111 : decode cX10_reduce 111 = .ok (.ifCond .ne 10, 3) := by decide +kernel
theorem dX10_reduce_114 : decode cX10_reduce 114 = .ok (.aload_n 0, 1) := by decide +kernel
theorem dX10_reduce_115 : decode cX10_reduce 115 = .ok (.bipush 8, 2) := by decide +kernel
theorem dX10_reduce_117 : decode cX10_reduce 117 = .ok (.invokevirtual 165, 3) := by decide +kernel
theorem dX10_reduce_120 : decode cX10_reduce 120 = .ok (.lreturn, 1) := by decide +kernel
theorem dX10_reduce_121 : decode cX10_reduce 121 = .ok (.lload 9, 2) := by decide +kernel
theorem dX10_reduce_123 : decode cX10_reduce 123 = .ok (.lneg, 1) := by decide +kernel
theorem dX10_reduce_124 : decode cX10_reduce 124 = .ok (.lstore 13, 2) := by decide +kernel
theorem dX10_reduce_126 : decode cX10_reduce 126 = .ok (.lload 5, 2) := by decide +kernel
theorem dX10_reduce_128 : decode cX10_reduce 128 = .ok (.lload 13, 2) := by decide +kernel
theorem dX10_reduce_130 : decode cX10_reduce 130 = .ok (.ldiv, 1) := by decide +kernel
theorem dX10_reduce_131 : decode cX10_reduce 131 = .ok (.lstore 15, 2) := by decide +kernel
theorem dX10_reduce_133 : decode cX10_reduce 133 = .ok (.lload 7, 2) := by decide +kernel
theorem dX10_reduce_135 : decode cX10_reduce 135 = .ok (.lload 13, 2) := by decide +kernel
theorem dX10_reduce_137 : decode cX10_reduce 137 = .ok (.ldiv, 1) := by decide +kernel
theorem dX10_reduce_138 : decode cX10_reduce 138 = .ok (.lstore 17, 2) := by decide +kernel
theorem dX10_reduce_140 : decode cX10_reduce 140 = .ok (.lload 7, 2) := by decide +kernel
theorem dX10_reduce_142 : decode cX10_reduce 142 = .ok (.lconst 0, 1) := by decide +kernel
theorem dX10_reduce_143 : decode cX10_reduce 143 = .ok (.lcmp, 1) := by decide +kernel
theorem dX10_reduce_144 : decode cX10_reduce 144 = .ok (.ifCond .ge 28, 3) := by decide +kernel
theorem dX10_reduce_147 : decode cX10_reduce 147 = .ok (.lload 15, 2) := by decide +kernel
theorem dX10_reduce_149 : decode cX10_reduce 149 = .ok (.ldc2_w 177, 3) := by decide +kernel
theorem dX10_reduce_152 : decode cX10_reduce 152 = .ok (.lcmp, 1) := by decide +kernel
theorem dX10_reduce_153 : decode cX10_reduce 153 = .ok (.ifCond .eq 12, 3) := by decide +kernel
theorem dX10_reduce_156 : decode cX10_reduce 156 = .ok (.lload 17, 2) := by decide +kernel
theorem dX10_reduce_158 : decode cX10_reduce 158 = .ok (.ldc2_w 177, 3) := by decide +kernel
theorem dX10_reduce_161 : decode cX10_reduce 161 = .ok (.lcmp, 1) := by decide +kernel
theorem dX10_reduce_162 : decode cX10_reduce 162 = .ok (.ifCond .ne 10, 3) := by decide +kernel
theorem dX10_reduce_165 : decode cX10_reduce 165 = .ok (.aload_n 0, 1) := by decide +kernel
theorem dX10_reduce_166 : decode cX10_reduce 166 = .ok (.bipush 8, 2) := by decide +kernel
theorem dX10_reduce_168 : decode cX10_reduce 168 = .ok (.invokevirtual 165, 3) := by decide +kernel
theorem dX10_reduce_171 : decode cX10_reduce 171 = .ok (.lreturn, 1) := by decide +kernel
theorem dX10_reduce_172 : decode cX10_reduce 172 = .ok (.aload_n 0, 1) := by decide +kernel
theorem dX10_reduce_173 : decode cX10_reduce 173 = .ok (.getfield 38, 3) := by decide +kernel
theorem dX10_reduce_176 : decode cX10_reduce 176 = .ok (.iload 4, 2) := by decide +kernel
theorem dX10_reduce_178 : decode cX10_reduce 178 = .ok (.aload_n 0, 1) := by decide +kernel
theorem dX10_reduce_179 : decode cX10_reduce 179 = .ok (.getfield 32, 3) := by decide +kernel
theorem dX10_reduce_182 : decode cX10_reduce 182 = .ok (.iload_n 1, 1) := by decide +kernel
theorem dX10_reduce_183 : decode cX10_reduce 183 = .ok (.iaload, 1) := by decide +kernel
theorem dX10_reduce_184 : decode cX10_reduce 184 = .ok (.lload 7, 2) := by decide +kernel
theorem dX10_reduce_186 : decode cX10_reduce 186 = .ok (.lconst 0, 1) := by decide +kernel
theorem dX10_reduce_187 : decode cX10_reduce 187 = .ok (.lcmp, 1) := by decide +kernel
theorem dX10_reduce_188 : decode cX10_reduce 188 = .ok (.ifCond .ge 9, 3) := by decide +kernel
theorem dX10_reduce_191 : decode cX10_reduce 191 = .ok (.lload 15, 2) := by decide +kernel
theorem dX10_reduce_193 : decode cX10_reduce 193 = .ok (.lneg, 1) := by decide +kernel
theorem dX10_reduce_194 : decode cX10_reduce 194 = .ok (.goto 5, 3) := by decide +kernel
theorem dX10_reduce_197 : decode cX10_reduce 197 = .ok (.lload 15, 2) := by decide +kernel
theorem dX10_reduce_199 : decode cX10_reduce 199 = .ok (.invokestatic 265, 3) := by decide +kernel
theorem dX10_reduce_202 : decode cX10_reduce 202 = .ok (.lastore, 1) := by decide +kernel
theorem dX10_reduce_203 : decode cX10_reduce 203 = .ok (.aload_n 0, 1) := by decide +kernel
theorem dX10_reduce_204 : decode cX10_reduce 204 = .ok (.getfield 38, 3) := by decide +kernel
theorem dX10_reduce_207 : decode cX10_reduce 207 = .ok (.iload 4, 2) := by decide +kernel
theorem dX10_reduce_209 : decode cX10_reduce 209 = .ok (.iconst 1, 1) := by decide +kernel
theorem dX10_reduce_210 : decode cX10_reduce 210 = .ok (.iadd, 1) := by decide +kernel
theorem dX10_reduce_211 : decode cX10_reduce 211 = .ok (.aload_n 0, 1) := by decide +kernel
theorem dX10_reduce_212 : decode cX10_reduce 212 = .ok (.getfield 32, 3) := by decide +kernel
theorem dX10_reduce_215 : decode cX10_reduce 215 = .ok (.iload_n 1, 1) := by decide +kernel
theorem dX10_reduce_216 : decode cX10_reduce 216 = .ok (.iaload, 1) := by decide +kernel
theorem dX10_reduce_217 : decode cX10_reduce 217 = .ok (.lload 7, 2) := by decide +kernel
theorem dX10_reduce_219 : decode cX10_reduce 219 = .ok (.lconst 0, 1) := by decide +kernel
theorem dX10_reduce_220 : decode cX10_reduce 220 = .ok (.lcmp, 1) := by decide +kernel
theorem dX10_reduce_221 : decode cX10_reduce 221 = .ok (.ifCond .ge 9, 3) := by decide +kernel
theorem dX10_reduce_224 : decode cX10_reduce 224 = .ok (.lload 17, 2) := by decide +kernel
theorem dX10_reduce_226 : decode cX10_reduce 226 = .ok (.lneg, 1) := by decide +kernel
theorem dX10_reduce_227 : decode cX10_reduce 227 = .ok (.goto 5, 3) := by decide +kernel
theorem dX10_reduce_230 : decode cX10_reduce 230 = .ok (.lload 17, 2) := by decide +kernel
theorem dX10_reduce_232 : decode cX10_reduce 232 = .ok (.invokestatic 265, 3) := by decide +kernel
theorem dX10_reduce_235 : decode cX10_reduce 235 = .ok (.lastore, 1) := by decide +kernel
theorem dX10_reduce_236 : decode cX10_reduce 236 = .ok (.lload 13, 2) := by decide +kernel
theorem dX10_reduce_238 : decode cX10_reduce 238 = .ok (.lreturn, 1) := by decide +kernel
def e_X10_reduce_J199 (a1 : Int32) (a2 : Int32) (x4 : Int32) (x7 : Int64) (x13 : Int64) (x17 : Int64) (s1 : Int32) (s2 : Int32) (s3 : Int64) (σ : ES) : Option (Int64 × ES) := (e_X10_narrow s2 s3).bind (fun r1 => if mib s1 160 = true then (if mib a1 4 = true then (if (0 : Int64) ≤ x7 then ((e_X10_narrow (eI (uL σ 77 s1.toNatClampNeg r1) 75 a1.toNatClampNeg) x17).bind (fun r5 => if mib (x4 + (1 : Int32)) 160 = true then (some (x13, (uL (uL σ 77 s1.toNatClampNeg r1) 77 (x4 + (1 : Int32)).toNatClampNeg r5))) else none)) else ((e_X10_narrow (eI (uL σ 77 s1.toNatClampNeg r1) 75 a1.toNatClampNeg) (-x17)).bind (fun r8 => if mib (x4 + (1 : Int32)) 160 = true then (some (x13, (uL (uL σ 77 s1.toNatClampNeg r1) 77 (x4 + (1 : Int32)).toNatClampNeg r8))) else none))) else none) else none)
set_option maxRecDepth 100000 in
set_option maxHeartbeats 4000000 in
theorem p_X10_reduce_J199 {l : Launch} {E : MX} {out : (Int64 × ES)} {a1 : Int32} {a2 : Int32}  {x4 : Int32} {x7 : Int64} {x13 : Int64} {x17 : Int64} {s1 : Int32} {s2 : Int32} {s3 : Int64} {σ : ES} (h : e_X10_reduce_J199 a1 a2 x4 x7 x13 x17 s1 s2 s3 σ = some out) : MV l E cX10_reduce RX10 19 (some .long) 4 (82, (some (.long out.1)), mkS out.2) (mkS σ) 199 [(0, .ref 69), (1, .int a1), (2, .int a2), (4, .int x4), (7, .long x7), (13, .long x13), (17, .long x17)] [.long s3, .int s2, .int s1, .ref 77] := by
  unfold e_X10_reduce_J199 at h
  obtain ⟨r1, e2, h⟩ := mbd h
  refine mv_callS_l (As := [.int s2, .long s3]) lkS_RX10_265_yX10_narrow dX10_reduce_199 (k_X10_narrow e2) rfl rfl (Nat.le_of_ble_eq_true rfl) (by decide) (by decide) ?_
  obtain ⟨m3, h⟩ := mif h
  refine ev_last dX10_reduce_202 (by decide) rfl m3 ?_
  refine mw_aload_n dX10_reduce_203 0 rfl ?_
  refine ev_getR (q := 77) fd_RX10_38_9 dX10_reduce_204 rfl rfl rfl ?_
  refine mw_iload dX10_reduce_207 3 rfl ?_
  refine mw_iconst (v := 1) dX10_reduce_209 (by decide) ?_
  refine mw_iadd dX10_reduce_210 ?_
  refine mw_aload_n dX10_reduce_211 0 rfl ?_
  refine ev_getR (q := 75) fd_RX10_32_9 dX10_reduce_212 rfl rfl rfl ?_
  refine mw_iload_n dX10_reduce_215 1 rfl ?_
  obtain ⟨m4, h⟩ := mif h
  refine ev_iald dX10_reduce_216 (by decide) rfl m4 ?_
  refine mw_lload dX10_reduce_217 4 rfl ?_
  refine mw_lconst (v := 0) dX10_reduce_219 (by decide) ?_
  refine mw_lc_ge (tgt := 230) dX10_reduce_220 dX10_reduce_221 (by decide) (fun hc => ?_) (fun hc => ?_)
  · have h := mit hc h
    refine mw_lload dX10_reduce_230 6 rfl ?_
    obtain ⟨r5, e6, h⟩ := mbd h
    refine mv_callS_l (As := [.int (eI (uL σ 77 s1.toNatClampNeg r1) 75 a1.toNatClampNeg), .long x17]) lkS_RX10_265_yX10_narrow dX10_reduce_232 (k_X10_narrow e6) rfl rfl (Nat.le_of_ble_eq_true rfl) (by decide) (by decide) ?_
    obtain ⟨m7, h⟩ := mif h
    refine ev_last dX10_reduce_235 (by decide) rfl m7 ?_
    refine mw_lload dX10_reduce_236 5 rfl ?_
    exact mw_lret dX10_reduce_238 rfl (ers_lm h) rfl rfl
  · have h := mie hc h
    refine mw_lload dX10_reduce_224 6 rfl ?_
    refine mw_lneg dX10_reduce_226 ?_
    refine mw_goto (tgt := 232) dX10_reduce_227 (by decide) ?_
    obtain ⟨r8, e9, h⟩ := mbd h
    refine mv_callS_l (As := [.int (eI (uL σ 77 s1.toNatClampNeg r1) 75 a1.toNatClampNeg), .long (-x17)]) lkS_RX10_265_yX10_narrow dX10_reduce_232 (k_X10_narrow e9) rfl rfl (Nat.le_of_ble_eq_true rfl) (by decide) (by decide) ?_
    obtain ⟨m10, h⟩ := mif h
    refine ev_last dX10_reduce_235 (by decide) rfl m10 ?_
    refine mw_lload dX10_reduce_236 5 rfl ?_
    exact mw_lret dX10_reduce_238 rfl (ers_lm h) rfl rfl
def e_X10_reduce_J172 (a1 : Int32) (a2 : Int32) (x4 : Int32) (x7 : Int64) (x13 : Int64) (x15 : Int64) (x17 : Int64) (σ : ES) : Option (Int64 × ES) := if mib a1 4 = true then (if (0 : Int64) ≤ x7 then (e_X10_reduce_J199 a1 a2 x4 x7 x13 x17 x4 (eI σ 75 a1.toNatClampNeg) x15 σ) else (e_X10_reduce_J199 a1 a2 x4 x7 x13 x17 x4 (eI σ 75 a1.toNatClampNeg) (-x15) σ)) else none
set_option maxRecDepth 100000 in
set_option maxHeartbeats 4000000 in
theorem p_X10_reduce_J172 {l : Launch} {E : MX} {out : (Int64 × ES)} {a1 : Int32} {a2 : Int32}  {x4 : Int32} {x7 : Int64} {x13 : Int64} {x15 : Int64} {x17 : Int64} {σ : ES} (h : e_X10_reduce_J172 a1 a2 x4 x7 x13 x15 x17 σ = some out) : MV l E cX10_reduce RX10 19 (some .long) 4 (82, (some (.long out.1)), mkS out.2) (mkS σ) 172 [(0, .ref 69), (1, .int a1), (2, .int a2), (4, .int x4), (7, .long x7), (13, .long x13), (15, .long x15), (17, .long x17)] [] := by
  unfold e_X10_reduce_J172 at h
  refine mw_aload_n dX10_reduce_172 0 rfl ?_
  refine ev_getR (q := 77) fd_RX10_38_9 dX10_reduce_173 rfl rfl rfl ?_
  refine mw_iload dX10_reduce_176 3 rfl ?_
  refine mw_aload_n dX10_reduce_178 0 rfl ?_
  refine ev_getR (q := 75) fd_RX10_32_9 dX10_reduce_179 rfl rfl rfl ?_
  refine mw_iload_n dX10_reduce_182 1 rfl ?_
  obtain ⟨m1, h⟩ := mif h
  refine ev_iald dX10_reduce_183 (by decide) rfl m1 ?_
  refine mw_lload dX10_reduce_184 4 rfl ?_
  refine mw_lconst (v := 0) dX10_reduce_186 (by decide) ?_
  refine mw_lc_ge (tgt := 197) dX10_reduce_187 dX10_reduce_188 (by decide) (fun hc => ?_) (fun hc => ?_)
  · have h := mit hc h
    refine mw_lload dX10_reduce_197 6 rfl ?_
    exact mw_sub (L' := [(0, .ref 69), (1, .int a1), (2, .int a2), (4, .int x4), (7, .long x7), (13, .long x13), (17, .long x17)]) [0, 1, 2, 3, 4, 5, 7] rfl (p_X10_reduce_J199  h)
  · have h := mie hc h
    refine mw_lload dX10_reduce_191 6 rfl ?_
    refine mw_lneg dX10_reduce_193 ?_
    refine mw_goto (tgt := 199) dX10_reduce_194 (by decide) ?_
    exact mw_sub (L' := [(0, .ref 69), (1, .int a1), (2, .int a2), (4, .int x4), (7, .long x7), (13, .long x13), (17, .long x17)]) [0, 1, 2, 3, 4, 5, 7] rfl (p_X10_reduce_J199  h)
def e_X10_reduce_L80 (a1 : Int32) (a2 : Int32) : Nat → Int32 → Int64 → Int64 → Int64 → Int64 → ES → Option (Int64 × ES)
  | 0, _, _, _, _, _, _ => none
  | n + 1, x4, x5, x7, x9, x11, σ => if x11 = (0 : Int64) then (if x9 = (-9223372036854775808 : Int64) then ((e_X10_farFinds (8 : Int32) σ).bind (fun r7 => some (r7.1, r7.2))) else (if (-x9) = 0 then none else (if (-x9) = 0 then none else (if (0 : Int64) ≤ x7 then (e_X10_reduce_J172 a1 a2 x4 x7 (-x9) (x5 / (-x9)) (x7 / (-x9)) σ) else (if (x5 / (-x9)) = (-9223372036854775808 : Int64) then ((e_X10_farFinds (8 : Int32) σ).bind (fun r3 => some (r3.1, r3.2))) else (if (x7 / (-x9)) = (-9223372036854775808 : Int64) then ((e_X10_farFinds (8 : Int32) σ).bind (fun r5 => some (r5.1, r5.2))) else (e_X10_reduce_J172 a1 a2 x4 x7 (-x9) (x5 / (-x9)) (x7 / (-x9)) σ))))))) else (if x11 = 0 then none else (e_X10_reduce_L80 a1 a2 n x4 x5 x7 x11 (x9 - x9 / x11 * x11) σ))
set_option maxRecDepth 100000 in
set_option maxHeartbeats 4000000 in
theorem p_X10_reduce_L80 {l : Launch} {E : MX} {out : (Int64 × ES)} {a1 : Int32} {a2 : Int32}  : ∀ (n : Nat) (x4 : Int32) (x5 : Int64) (x7 : Int64) (x9 : Int64) (x11 : Int64) (σ : ES), e_X10_reduce_L80 a1 a2 n x4 x5 x7 x9 x11 σ = some out → MV l E cX10_reduce RX10 19 (some .long) 4 (82, (some (.long out.1)), mkS out.2) (mkS σ) 80 [(0, .ref 69), (1, .int a1), (2, .int a2), (4, .int x4), (5, .long x5), (7, .long x7), (9, .long x9), (11, .long x11)] [] := by
  intro n
  induction n with
  | zero =>
    intro x4 x5 x7 x9 x11 σ h
    exact nomatch h
  | succ n ih =>
    intro x4 x5 x7 x9 x11 σ h
    rw [e_X10_reduce_L80] at h
    refine mw_lload dX10_reduce_80 7 rfl ?_
    refine mw_lconst (v := 0) dX10_reduce_82 (by decide) ?_
    refine mw_lc_eq (tgt := 105) dX10_reduce_83 dX10_reduce_84 (by decide) (fun hc => ?_) (fun hc => ?_)
    · have h := mit hc h
      refine mw_lload dX10_reduce_105 6 rfl ?_
      refine mw_ldc2 dX10_reduce_107 wt_676 ?_
      refine mw_lc_ne (tgt := 121) dX10_reduce_110 dX10_reduce_111 (by decide) (fun hc => ?_) (fun hc => ?_)
      · have h := mie hc h
        refine mw_lload dX10_reduce_121 6 rfl ?_
        refine mw_lneg dX10_reduce_123 ?_
        refine mw_lstore (L' := [(13, .long (-x9)), (0, .ref 69), (1, .int a1), (2, .int a2), (4, .int x4), (5, .long x5), (7, .long x7), (9, .long x9), (11, .long x11)]) dX10_reduce_124 (by decide) rfl ?_
        refine mw_lload dX10_reduce_126 5 rfl ?_
        refine mw_lload dX10_reduce_128 0 rfl ?_
        obtain ⟨m1, h⟩ := mnf h
        refine mw_ldiv dX10_reduce_130 m1 ?_
        refine mw_lstore (L' := [(15, .long (x5 / (-x9))), (13, .long (-x9)), (0, .ref 69), (1, .int a1), (2, .int a2), (4, .int x4), (5, .long x5), (7, .long x7), (9, .long x9), (11, .long x11)]) dX10_reduce_131 (by decide) rfl ?_
        refine mw_lload dX10_reduce_133 7 rfl ?_
        refine mw_lload dX10_reduce_135 1 rfl ?_
        obtain ⟨m2, h⟩ := mnf h
        refine mw_ldiv dX10_reduce_137 m2 ?_
        refine mw_lstore (L' := [(17, .long (x7 / (-x9))), (15, .long (x5 / (-x9))), (13, .long (-x9)), (0, .ref 69), (1, .int a1), (2, .int a2), (4, .int x4), (5, .long x5), (7, .long x7), (9, .long x9), (11, .long x11)]) dX10_reduce_138 (by decide) rfl ?_
        refine mw_lload dX10_reduce_140 8 rfl ?_
        refine mw_lconst (v := 0) dX10_reduce_142 (by decide) ?_
        refine mw_lc_ge (tgt := 172) dX10_reduce_143 dX10_reduce_144 (by decide) (fun hc => ?_) (fun hc => ?_)
        · have h := mit hc h
          exact mw_sub (L' := [(0, .ref 69), (1, .int a1), (2, .int a2), (4, .int x4), (7, .long x7), (13, .long (-x9)), (15, .long (x5 / (-x9))), (17, .long (x7 / (-x9)))]) [3, 4, 5, 6, 8, 2, 1, 0] rfl (p_X10_reduce_J172  h)
        · have h := mie hc h
          refine mw_lload dX10_reduce_147 1 rfl ?_
          refine mw_ldc2 dX10_reduce_149 wt_676 ?_
          refine mw_lc_eq (tgt := 165) dX10_reduce_152 dX10_reduce_153 (by decide) (fun hc => ?_) (fun hc => ?_)
          · have h := mit hc h
            refine mw_aload_n dX10_reduce_165 3 rfl ?_
            refine mw_bipush (v := 8) dX10_reduce_166 (by decide) ?_
            obtain ⟨r3, e4, h⟩ := mbd h
            refine mv_callV_l (As := [.int (8 : Int32)]) (ci := 9) lkV_RX10_165_yX10_farFinds dX10_reduce_168 (k_X10_farFinds e4) rfl rfl rfl rfl (Nat.le_of_ble_eq_true rfl) (by decide) (by decide) ?_
            exact mw_lret dX10_reduce_171 rfl (ers_lm h) rfl rfl
          · have h := mie hc h
            refine mw_lload dX10_reduce_156 0 rfl ?_
            refine mw_ldc2 dX10_reduce_158 wt_676 ?_
            refine mw_lc_ne (tgt := 172) dX10_reduce_161 dX10_reduce_162 (by decide) (fun hc => ?_) (fun hc => ?_)
            · have h := mie hc h
              exact mw_sub (L' := [(0, .ref 69), (1, .int a1), (2, .int a2), (4, .int x4), (7, .long x7), (13, .long (-x9)), (15, .long (x5 / (-x9))), (17, .long (x7 / (-x9)))]) [3, 4, 5, 6, 8, 2, 1, 0] rfl (p_X10_reduce_J172  h)
            · have h := mit hc h
              refine mw_aload_n dX10_reduce_165 3 rfl ?_
              refine mw_bipush (v := 8) dX10_reduce_166 (by decide) ?_
              obtain ⟨r5, e6, h⟩ := mbd h
              refine mv_callV_l (As := [.int (8 : Int32)]) (ci := 9) lkV_RX10_165_yX10_farFinds dX10_reduce_168 (k_X10_farFinds e6) rfl rfl rfl rfl (Nat.le_of_ble_eq_true rfl) (by decide) (by decide) ?_
              exact mw_lret dX10_reduce_171 rfl (ers_lm h) rfl rfl
      · have h := mit hc h
        refine mw_aload_n dX10_reduce_114 0 rfl ?_
        refine mw_bipush (v := 8) dX10_reduce_115 (by decide) ?_
        obtain ⟨r7, e8, h⟩ := mbd h
        refine mv_callV_l (As := [.int (8 : Int32)]) (ci := 9) lkV_RX10_165_yX10_farFinds dX10_reduce_117 (k_X10_farFinds e8) rfl rfl rfl rfl (Nat.le_of_ble_eq_true rfl) (by decide) (by decide) ?_
        exact mw_lret dX10_reduce_120 rfl (ers_lm h) rfl rfl
    · have h := mie hc h
      refine mw_lload dX10_reduce_87 6 rfl ?_
      refine mw_lload dX10_reduce_89 7 rfl ?_
      obtain ⟨m9, h⟩ := mnf h
      refine mw_lrem dX10_reduce_91 m9 ?_
      refine mw_lstore (L' := [(13, .long (x9 - x9 / x11 * x11)), (0, .ref 69), (1, .int a1), (2, .int a2), (4, .int x4), (5, .long x5), (7, .long x7), (9, .long x9), (11, .long x11)]) dX10_reduce_92 (by decide) rfl ?_
      refine mw_lload dX10_reduce_94 8 rfl ?_
      refine mw_lstore (L' := [(9, .long x11), (13, .long (x9 - x9 / x11 * x11)), (0, .ref 69), (1, .int a1), (2, .int a2), (4, .int x4), (5, .long x5), (7, .long x7), (11, .long x11)]) dX10_reduce_96 (by decide) rfl ?_
      refine mw_lload dX10_reduce_98 1 rfl ?_
      refine mw_lstore (L' := [(11, .long (x9 - x9 / x11 * x11)), (9, .long x11), (13, .long (x9 - x9 / x11 * x11)), (0, .ref 69), (1, .int a1), (2, .int a2), (4, .int x4), (5, .long x5), (7, .long x7)]) dX10_reduce_100 (by decide) rfl ?_
      refine mw_goto (tgt := 80) dX10_reduce_102 (by decide) ?_
      exact mw_sub (L' := [(0, .ref 69), (1, .int a1), (2, .int a2), (4, .int x4), (5, .long x5), (7, .long x7), (9, .long x11), (11, .long (x9 - x9 / x11 * x11))]) [3, 4, 5, 6, 7, 8, 1, 0] rfl (ih _ _ _ _ _ _ h)
def e_X10_reduce_J61 (a1 : Int32) (a2 : Int32) (x4 : Int32) (x5 : Int64) (x7 : Int64) (s0 : Int64) (σ : ES) : Option (Int64 × ES) := if x7 ≤ (0 : Int64) then (e_X10_reduce_L80 a1 a2 mN x4 x5 x7 s0 x7 σ) else (e_X10_reduce_L80 a1 a2 mN x4 x5 x7 s0 (-x7) σ)
set_option maxRecDepth 100000 in
set_option maxHeartbeats 4000000 in
theorem p_X10_reduce_J61 {l : Launch} {E : MX} {out : (Int64 × ES)} {a1 : Int32} {a2 : Int32}  {x4 : Int32} {x5 : Int64} {x7 : Int64} {s0 : Int64} {σ : ES} (h : e_X10_reduce_J61 a1 a2 x4 x5 x7 s0 σ = some out) : MV l E cX10_reduce RX10 19 (some .long) 4 (82, (some (.long out.1)), mkS out.2) (mkS σ) 61 [(0, .ref 69), (1, .int a1), (2, .int a2), (4, .int x4), (5, .long x5), (7, .long x7)] [.long s0] := by
  unfold e_X10_reduce_J61 at h
  refine mw_lstore (L' := [(9, .long s0), (0, .ref 69), (1, .int a1), (2, .int a2), (4, .int x4), (5, .long x5), (7, .long x7)]) dX10_reduce_61 (by decide) rfl ?_
  refine mw_lload dX10_reduce_63 6 rfl ?_
  refine mw_lconst (v := 0) dX10_reduce_65 (by decide) ?_
  refine mw_lc_le (tgt := 76) dX10_reduce_66 dX10_reduce_67 (by decide) (fun hc => ?_) (fun hc => ?_)
  · have h := mit hc h
    refine mw_lload dX10_reduce_76 6 rfl ?_
    refine mw_lstore (L' := [(11, .long x7), (9, .long s0), (0, .ref 69), (1, .int a1), (2, .int a2), (4, .int x4), (5, .long x5), (7, .long x7)]) dX10_reduce_78 (by decide) rfl ?_
    exact mw_sub (L' := [(0, .ref 69), (1, .int a1), (2, .int a2), (4, .int x4), (5, .long x5), (7, .long x7), (9, .long s0), (11, .long x7)]) [2, 3, 4, 5, 6, 7, 1, 0] rfl (p_X10_reduce_L80  mN _ _ _ _ _ _ h)
  · have h := mie hc h
    refine mw_lload dX10_reduce_70 6 rfl ?_
    refine mw_lneg dX10_reduce_72 ?_
    refine mw_goto (tgt := 78) dX10_reduce_73 (by decide) ?_
    refine mw_lstore (L' := [(11, .long (-x7)), (9, .long s0), (0, .ref 69), (1, .int a1), (2, .int a2), (4, .int x4), (5, .long x5), (7, .long x7)]) dX10_reduce_78 (by decide) rfl ?_
    exact mw_sub (L' := [(0, .ref 69), (1, .int a1), (2, .int a2), (4, .int x4), (5, .long x5), (7, .long x7), (9, .long s0), (11, .long (-x7))]) [2, 3, 4, 5, 6, 7, 1, 0] rfl (p_X10_reduce_L80  mN _ _ _ _ _ _ h)
def e_X10_reduce (a1 : Int32) (a2 : Int32) (σ : ES) : Option (Int64 × ES) := (e_X10_wrong σ a1 a2 a2).bind (fun r1 => if r1 < 0 then (if mib (((40 : Int32) * a1) + a2) 160 = true then (if mib ((((40 : Int32) * a1) + a2) + (1 : Int32)) 160 = true then (if (eL σ 77 (((40 : Int32) * a1) + a2).toNatClampNeg) ≤ (0 : Int64) then (e_X10_reduce_J61 a1 a2 (((40 : Int32) * a1) + a2) (eL σ 77 (((40 : Int32) * a1) + a2).toNatClampNeg) (eL σ 77 ((((40 : Int32) * a1) + a2) + (1 : Int32)).toNatClampNeg) (eL σ 77 (((40 : Int32) * a1) + a2).toNatClampNeg) σ) else (e_X10_reduce_J61 a1 a2 (((40 : Int32) * a1) + a2) (eL σ 77 (((40 : Int32) * a1) + a2).toNatClampNeg) (eL σ 77 ((((40 : Int32) * a1) + a2) + (1 : Int32)).toNatClampNeg) (-(eL σ 77 (((40 : Int32) * a1) + a2).toNatClampNeg)) σ)) else none) else none) else ((e_X10_farFinds r1 σ).bind (fun r5 => some (r5.1, r5.2))))
set_option maxRecDepth 100000 in
set_option maxHeartbeats 4000000 in
theorem k_X10_reduce {l : Launch} {σ : ES} {a1 : Int32} {a2 : Int32} {out : (Int64 × ES)} (h : e_X10_reduce a1 a2 σ = some out) : MK l yX10_reduce cX10_reduce 19 (some .long) 4 [.ref 69, .int a1, .int a2] (mkS σ) (some (.long out.1)) (mkS out.2) := by
  unfold e_X10_reduce at h
  refine mw_entry (own := RX10) (ini := false) (L := [(0, .ref 69), (1, .int a1), (2, .int a2)]) (by decide +kernel) rfl (fun h => nomatch h) rfl (Nat.le_of_ble_eq_true rfl) (Nat.le_of_ble_eq_true rfl) (fun E => ?_)
  refine mw_aload_n dX10_reduce_0 0 rfl ?_
  refine mw_iload_n dX10_reduce_1 1 rfl ?_
  refine mw_iload_n dX10_reduce_2 2 rfl ?_
  refine mw_iload_n dX10_reduce_3 2 rfl ?_
  obtain ⟨r1, e2, h⟩ := mbd h
  refine mv_callV_i (As := [.int a1, .int a2, .int a2]) (ci := 9) lkV_RX10_261_yX10_wrong dX10_reduce_4 (k_X10_wrong e2) rfl rfl rfl rfl (Nat.le_of_ble_eq_true rfl) (by decide) (by decide) ?_
  refine mw_istore_n (L' := [(3, .int r1), (0, .ref 69), (1, .int a1), (2, .int a2)]) dX10_reduce_7 rfl (by decide) rfl ?_
  refine mw_iload_n dX10_reduce_8 0 rfl ?_
  refine mw_if_lt (tgt := 18) dX10_reduce_9 (by decide) (fun hc => ?_) (fun hc => ?_)
  · have h := mit hc h
    refine mw_bipush (v := 40) dX10_reduce_18 (by decide) ?_
    refine mw_iload_n dX10_reduce_20 2 rfl ?_
    refine mw_imul dX10_reduce_21 ?_
    refine mw_iload_n dX10_reduce_22 3 rfl ?_
    refine mw_iadd dX10_reduce_23 ?_
    refine mw_istore (L' := [(4, .int (((40 : Int32) * a1) + a2)), (3, .int r1), (0, .ref 69), (1, .int a1), (2, .int a2)]) dX10_reduce_24 (by decide) rfl ?_
    refine mw_aload_n dX10_reduce_26 2 rfl ?_
    refine ev_getR (q := 77) fd_RX10_38_9 dX10_reduce_27 rfl rfl rfl ?_
    refine mw_iload dX10_reduce_30 0 rfl ?_
    obtain ⟨m3, h⟩ := mif h
    refine ev_lald dX10_reduce_32 (by decide) rfl m3 ?_
    refine mw_lstore (L' := [(5, .long (eL σ 77 (((40 : Int32) * a1) + a2).toNatClampNeg)), (4, .int (((40 : Int32) * a1) + a2)), (3, .int r1), (0, .ref 69), (1, .int a1), (2, .int a2)]) dX10_reduce_33 (by decide) rfl ?_
    refine mw_aload_n dX10_reduce_35 3 rfl ?_
    refine ev_getR (q := 77) fd_RX10_38_9 dX10_reduce_36 rfl rfl rfl ?_
    refine mw_iload dX10_reduce_39 1 rfl ?_
    refine mw_iconst (v := 1) dX10_reduce_41 (by decide) ?_
    refine mw_iadd dX10_reduce_42 ?_
    obtain ⟨m4, h⟩ := mif h
    refine ev_lald dX10_reduce_43 (by decide) rfl m4 ?_
    refine mw_lstore (L' := [(7, .long (eL σ 77 ((((40 : Int32) * a1) + a2) + (1 : Int32)).toNatClampNeg)), (5, .long (eL σ 77 (((40 : Int32) * a1) + a2).toNatClampNeg)), (4, .int (((40 : Int32) * a1) + a2)), (3, .int r1), (0, .ref 69), (1, .int a1), (2, .int a2)]) dX10_reduce_44 (by decide) rfl ?_
    refine mw_lload dX10_reduce_46 1 rfl ?_
    refine mw_lconst (v := 0) dX10_reduce_48 (by decide) ?_
    refine mw_lc_le (tgt := 59) dX10_reduce_49 dX10_reduce_50 (by decide) (fun hc => ?_) (fun hc => ?_)
    · have h := mit hc h
      refine mw_lload dX10_reduce_59 1 rfl ?_
      exact mw_sub (L' := [(0, .ref 69), (1, .int a1), (2, .int a2), (4, .int (((40 : Int32) * a1) + a2)), (5, .long (eL σ 77 (((40 : Int32) * a1) + a2).toNatClampNeg)), (7, .long (eL σ 77 ((((40 : Int32) * a1) + a2) + (1 : Int32)).toNatClampNeg))]) [4, 5, 6, 2, 1, 0] rfl (p_X10_reduce_J61  h)
    · have h := mie hc h
      refine mw_lload dX10_reduce_53 1 rfl ?_
      refine mw_lneg dX10_reduce_55 ?_
      refine mw_goto (tgt := 61) dX10_reduce_56 (by decide) ?_
      exact mw_sub (L' := [(0, .ref 69), (1, .int a1), (2, .int a2), (4, .int (((40 : Int32) * a1) + a2)), (5, .long (eL σ 77 (((40 : Int32) * a1) + a2).toNatClampNeg)), (7, .long (eL σ 77 ((((40 : Int32) * a1) + a2) + (1 : Int32)).toNatClampNeg))]) [4, 5, 6, 2, 1, 0] rfl (p_X10_reduce_J61  h)
  · have h := mie hc h
    refine mw_aload_n dX10_reduce_12 1 rfl ?_
    refine mw_iload_n dX10_reduce_13 0 rfl ?_
    obtain ⟨r5, e6, h⟩ := mbd h
    refine mv_callV_l (As := [.int r1]) (ci := 9) lkV_RX10_165_yX10_farFinds dX10_reduce_14 (k_X10_farFinds e6) rfl rfl rfl rfl (Nat.le_of_ble_eq_true rfl) (by decide) (by decide) ?_
    exact mw_lret dX10_reduce_17 rfl (ers_lm h) rfl rfl

theorem dX10_sum_0 : decode cX10_sum 0 = .ok (.lload_n 1, 1) := by decide +kernel
theorem dX10_sum_1 : decode cX10_sum 1 = .ok (.lload_n 3, 1) := by decide +kernel
theorem dX10_sum_2 : decode cX10_sum 2 = .ok (.ladd, 1) := by decide +kernel
theorem dX10_sum_3 : decode cX10_sum 3 = .ok (.lstore 5, 2) := by decide +kernel
theorem dX10_sum_5 : decode cX10_sum 5 = .ok (.aload_n 0, 1) := by decide +kernel
theorem dX10_sum_6 : decode cX10_sum 6 = .ok (.aload_n 0, 1) := by decide +kernel
theorem dX10_sum_7 : decode cX10_sum 7 = .ok (.getfield 183, 3) := by decide +kernel
theorem dX10_sum_10 : decode cX10_sum 10 = .ok (.ifCond .eq 58, 3) := by decide +kernel
theorem dX10_sum_13 : decode cX10_sum 13 = .ok (.lload_n 1, 1) := by decide +kernel
theorem dX10_sum_14 : decode cX10_sum 14 = .ok (.lconst 0, 1) := by decide +kernel
theorem dX10_sum_15 : decode cX10_sum 15 = .ok (.lcmp, 1) := by decide +kernel
theorem dX10_sum_16 : decode cX10_sum 16 = .ok (.ifCond .lt 7, 3) := by decide +kernel
theorem dX10_sum_19 : decode cX10_sum 19 = .ok (.iconst 1, 1) := by decide +kernel
theorem dX10_sum_20 : decode cX10_sum 20 = .ok (.goto 4, 3) := by decide +kernel
theorem dX10_sum_23 : decode cX10_sum 23 = .ok (.iconst 0, 1) := by decide +kernel
theorem dX10_sum_24 : decode cX10_sum 24 = .ok (.lload_n 3, 1) := by decide +kernel
theorem dX10_sum_25 : decode cX10_sum 25 = .ok (.lconst 0, 1) := by decide +kernel
theorem dX10_sum_26 : decode cX10_sum 26 = .ok (.lcmp, 1) := by decide +kernel
theorem dX10_sum_27 : decode cX10_sum 27 = .ok (.ifCond .lt 7, 3) := by decide +kernel
theorem dX10_sum_30 : decode cX10_sum 30 = .ok (.iconst 1, 1) := by decide +kernel
theorem dX10_sum_31 : decode cX10_sum 31 = .ok (.goto 4, 3) := by decide +kernel
theorem dX10_sum_34 : decode cX10_sum 34 = .ok (.iconst 0, 1) := by decide +kernel
theorem dX10_sum_35 : decode cX10_sum 35 = .ok (.if_icmp .ne 29, 3) := by decide +kernel
theorem dX10_sum_38 : decode cX10_sum 38 = .ok (.lload 5, 2) := by decide +kernel
theorem dX10_sum_40 : decode cX10_sum 40 = .ok (.lconst 0, 1) := by decide +kernel
theorem dX10_sum_41 : decode cX10_sum 41 = .ok (.lcmp, 1) := by decide +kernel
theorem dX10_sum_42 : decode cX10_sum 42 = .ok (.ifCond .lt 7, 3) := by decide +kernel
theorem dX10_sum_45 : decode cX10_sum 45 = .ok (.iconst 1, 1) := by decide +kernel
theorem dX10_sum_46 : decode cX10_sum 46 = .ok (.goto 4, 3) := by decide +kernel
theorem dX10_sum_49 : decode cX10_sum 49 = .ok (.iconst 0, 1) := by decide +kernel
theorem dX10_sum_50 : decode cX10_sum 50 = .ok (.lload_n 1, 1) := by decide +kernel
theorem dX10_sum_51 : decode cX10_sum 51 = .ok (.lconst 0, 1) := by decide +kernel
theorem dX10_sum_52 : decode cX10_sum 52 = .ok (.lcmp, 1) := by decide +kernel
theorem dX10_sum_53 : decode cX10_sum 53 = .ok (.ifCond .lt 7, 3) := by decide +kernel
theorem dX10_sum_56 : decode cX10_sum 56 = .ok (.iconst 1, 1) := by decide +kernel
theorem dX10_sum_57 : decode cX10_sum 57 = .ok (.goto 4, 3) := by decide +kernel
theorem dX10_sum_60 : decode cX10_sum 60 = .ok (.iconst 0, 1) := by decide +kernel
theorem dX10_sum_61 : decode cX10_sum 61 = .ok (.if_icmp .ne 7, 3) := by decide +kernel
theorem dX10_sum_64 : decode cX10_sum 64 = .ok (.iconst 1, 1) := by decide +kernel
theorem dX10_sum_65 : decode cX10_sum 65 = .ok (.goto 4, 3) := by decide +kernel
theorem dX10_sum_68 : decode cX10_sum 68 = .ok (.iconst 0, 1) := by decide +kernel
theorem dX10_sum_69 : decode cX10_sum 69 = .ok (.putfield 183, 3) := by decide +kernel
theorem dX10_sum_72 : decode cX10_sum 72 = .ok (.lload 5, 2) := by decide +kernel
theorem dX10_sum_74 : decode cX10_sum 74 = .ok (.lreturn, 1) := by decide +kernel
def e_X10_sum_J61 (a1 : Int64) (a3 : Int64) (x5 : Int64) (s1 : Int32) (s2 : Int32) (σ : ES) : Option (Int64 × ES) := if s1 = s2 then (some (x5, (uI σ 69 15 (1 : Int32)))) else (some (x5, (uI σ 69 15 (0 : Int32))))
set_option maxRecDepth 100000 in
set_option maxHeartbeats 4000000 in
theorem p_X10_sum_J61 {l : Launch} {E : MX} {out : (Int64 × ES)} {a1 : Int64} {a3 : Int64}  {x5 : Int64} {s1 : Int32} {s2 : Int32} {σ : ES} (h : e_X10_sum_J61 a1 a3 x5 s1 s2 σ = some out) : MV l E cX10_sum RX10 7 (some .long) 1 (82, (some (.long out.1)), mkS out.2) (mkS σ) 61 [(0, .ref 69), (1, .long a1), (3, .long a3), (5, .long x5)] [.int s2, .int s1, .ref 69] := by
  unfold e_X10_sum_J61 at h
  refine mw_icmp_ne (tgt := 68) dX10_sum_61 (by decide) (fun hc => ?_) (fun hc => ?_)
  · have h := mie hc h
    refine mw_iconst (v := 0) dX10_sum_68 (by decide) ?_
    refine ev_putZ fw_RX10_183_9 dX10_sum_69 rfl rfl (by decide) ?_
    refine mw_lload dX10_sum_72 3 rfl ?_
    exact mw_lret dX10_sum_74 rfl (ers_lm h) rfl rfl
  · have h := mit hc h
    refine mw_iconst (v := 1) dX10_sum_64 (by decide) ?_
    refine mw_goto (tgt := 69) dX10_sum_65 (by decide) ?_
    refine ev_putZ fw_RX10_183_9 dX10_sum_69 rfl rfl (by decide) ?_
    refine mw_lload dX10_sum_72 3 rfl ?_
    exact mw_lret dX10_sum_74 rfl (ers_lm h) rfl rfl
def e_X10_sum_J50 (a1 : Int64) (a3 : Int64) (x5 : Int64) (s1 : Int32) (σ : ES) : Option (Int64 × ES) := if a1 < (0 : Int64) then (e_X10_sum_J61 a1 a3 x5 s1 (0 : Int32) σ) else (e_X10_sum_J61 a1 a3 x5 s1 (1 : Int32) σ)
set_option maxRecDepth 100000 in
set_option maxHeartbeats 4000000 in
theorem p_X10_sum_J50 {l : Launch} {E : MX} {out : (Int64 × ES)} {a1 : Int64} {a3 : Int64}  {x5 : Int64} {s1 : Int32} {σ : ES} (h : e_X10_sum_J50 a1 a3 x5 s1 σ = some out) : MV l E cX10_sum RX10 7 (some .long) 1 (82, (some (.long out.1)), mkS out.2) (mkS σ) 50 [(0, .ref 69), (1, .long a1), (3, .long a3), (5, .long x5)] [.int s1, .ref 69] := by
  unfold e_X10_sum_J50 at h
  refine mw_lload_n dX10_sum_50 1 rfl ?_
  refine mw_lconst (v := 0) dX10_sum_51 (by decide) ?_
  refine mw_lc_lt (tgt := 60) dX10_sum_52 dX10_sum_53 (by decide) (fun hc => ?_) (fun hc => ?_)
  · have h := mit hc h
    refine mw_iconst (v := 0) dX10_sum_60 (by decide) ?_
    exact mw_sub (L' := [(0, .ref 69), (1, .long a1), (3, .long a3), (5, .long x5)]) [0, 1, 2, 3] rfl (p_X10_sum_J61  h)
  · have h := mie hc h
    refine mw_iconst (v := 1) dX10_sum_56 (by decide) ?_
    refine mw_goto (tgt := 61) dX10_sum_57 (by decide) ?_
    exact mw_sub (L' := [(0, .ref 69), (1, .long a1), (3, .long a3), (5, .long x5)]) [0, 1, 2, 3] rfl (p_X10_sum_J61  h)
def e_X10_sum_J35 (a1 : Int64) (a3 : Int64) (x5 : Int64) (s1 : Int32) (s2 : Int32) (σ : ES) : Option (Int64 × ES) := if s1 = s2 then (if x5 < (0 : Int64) then (e_X10_sum_J50 a1 a3 x5 (0 : Int32) σ) else (e_X10_sum_J50 a1 a3 x5 (1 : Int32) σ)) else (some (x5, (uI σ 69 15 (1 : Int32))))
set_option maxRecDepth 100000 in
set_option maxHeartbeats 4000000 in
theorem p_X10_sum_J35 {l : Launch} {E : MX} {out : (Int64 × ES)} {a1 : Int64} {a3 : Int64}  {x5 : Int64} {s1 : Int32} {s2 : Int32} {σ : ES} (h : e_X10_sum_J35 a1 a3 x5 s1 s2 σ = some out) : MV l E cX10_sum RX10 7 (some .long) 1 (82, (some (.long out.1)), mkS out.2) (mkS σ) 35 [(0, .ref 69), (1, .long a1), (3, .long a3), (5, .long x5)] [.int s2, .int s1, .ref 69] := by
  unfold e_X10_sum_J35 at h
  refine mw_icmp_ne (tgt := 64) dX10_sum_35 (by decide) (fun hc => ?_) (fun hc => ?_)
  · have h := mie hc h
    refine mw_iconst (v := 1) dX10_sum_64 (by decide) ?_
    refine mw_goto (tgt := 69) dX10_sum_65 (by decide) ?_
    refine ev_putZ fw_RX10_183_9 dX10_sum_69 rfl rfl (by decide) ?_
    refine mw_lload dX10_sum_72 3 rfl ?_
    exact mw_lret dX10_sum_74 rfl (ers_lm h) rfl rfl
  · have h := mit hc h
    refine mw_lload dX10_sum_38 3 rfl ?_
    refine mw_lconst (v := 0) dX10_sum_40 (by decide) ?_
    refine mw_lc_lt (tgt := 49) dX10_sum_41 dX10_sum_42 (by decide) (fun hc => ?_) (fun hc => ?_)
    · have h := mit hc h
      refine mw_iconst (v := 0) dX10_sum_49 (by decide) ?_
      exact mw_sub (L' := [(0, .ref 69), (1, .long a1), (3, .long a3), (5, .long x5)]) [0, 1, 2, 3] rfl (p_X10_sum_J50  h)
    · have h := mie hc h
      refine mw_iconst (v := 1) dX10_sum_45 (by decide) ?_
      refine mw_goto (tgt := 50) dX10_sum_46 (by decide) ?_
      exact mw_sub (L' := [(0, .ref 69), (1, .long a1), (3, .long a3), (5, .long x5)]) [0, 1, 2, 3] rfl (p_X10_sum_J50  h)
def e_X10_sum_J24 (a1 : Int64) (a3 : Int64) (x5 : Int64) (s1 : Int32) (σ : ES) : Option (Int64 × ES) := if a3 < (0 : Int64) then (e_X10_sum_J35 a1 a3 x5 s1 (0 : Int32) σ) else (e_X10_sum_J35 a1 a3 x5 s1 (1 : Int32) σ)
set_option maxRecDepth 100000 in
set_option maxHeartbeats 4000000 in
theorem p_X10_sum_J24 {l : Launch} {E : MX} {out : (Int64 × ES)} {a1 : Int64} {a3 : Int64}  {x5 : Int64} {s1 : Int32} {σ : ES} (h : e_X10_sum_J24 a1 a3 x5 s1 σ = some out) : MV l E cX10_sum RX10 7 (some .long) 1 (82, (some (.long out.1)), mkS out.2) (mkS σ) 24 [(0, .ref 69), (1, .long a1), (3, .long a3), (5, .long x5)] [.int s1, .ref 69] := by
  unfold e_X10_sum_J24 at h
  refine mw_lload_n dX10_sum_24 2 rfl ?_
  refine mw_lconst (v := 0) dX10_sum_25 (by decide) ?_
  refine mw_lc_lt (tgt := 34) dX10_sum_26 dX10_sum_27 (by decide) (fun hc => ?_) (fun hc => ?_)
  · have h := mit hc h
    refine mw_iconst (v := 0) dX10_sum_34 (by decide) ?_
    exact mw_sub (L' := [(0, .ref 69), (1, .long a1), (3, .long a3), (5, .long x5)]) [0, 1, 2, 3] rfl (p_X10_sum_J35  h)
  · have h := mie hc h
    refine mw_iconst (v := 1) dX10_sum_30 (by decide) ?_
    refine mw_goto (tgt := 35) dX10_sum_31 (by decide) ?_
    exact mw_sub (L' := [(0, .ref 69), (1, .long a1), (3, .long a3), (5, .long x5)]) [0, 1, 2, 3] rfl (p_X10_sum_J35  h)
def e_X10_sum (a1 : Int64) (a3 : Int64) (σ : ES) : Option (Int64 × ES) := if (eI σ 69 15) = 0 then (some ((a1 + a3), (uI σ 69 15 (0 : Int32)))) else (if a1 < (0 : Int64) then (e_X10_sum_J24 a1 a3 (a1 + a3) (0 : Int32) σ) else (e_X10_sum_J24 a1 a3 (a1 + a3) (1 : Int32) σ))
set_option maxRecDepth 100000 in
set_option maxHeartbeats 4000000 in
theorem k_X10_sum {l : Launch} {σ : ES} {a1 : Int64} {a3 : Int64} {out : (Int64 × ES)} (h : e_X10_sum a1 a3 σ = some out) : MK l yX10_sum cX10_sum 7 (some .long) 1 [.ref 69, .long a1, .long a3] (mkS σ) (some (.long out.1)) (mkS out.2) := by
  unfold e_X10_sum at h
  refine mw_entry (own := RX10) (ini := false) (L := [(0, .ref 69), (1, .long a1), (3, .long a3)]) (by decide +kernel) rfl (fun h => nomatch h) rfl (Nat.le_of_ble_eq_true rfl) (Nat.le_of_ble_eq_true rfl) (fun E => ?_)
  refine mw_lload_n dX10_sum_0 1 rfl ?_
  refine mw_lload_n dX10_sum_1 2 rfl ?_
  refine mw_ladd dX10_sum_2 ?_
  refine mw_lstore (L' := [(5, .long (a1 + a3)), (0, .ref 69), (1, .long a1), (3, .long a3)]) dX10_sum_3 (by decide) rfl ?_
  refine mw_aload_n dX10_sum_5 1 rfl ?_
  refine mw_aload_n dX10_sum_6 1 rfl ?_
  refine ev_getZ fd_RX10_183_9 dX10_sum_7 rfl rfl ?_
  refine mw_if_eq (tgt := 68) dX10_sum_10 (by decide) (fun hc => ?_) (fun hc => ?_)
  · have h := mit hc h
    refine mw_iconst (v := 0) dX10_sum_68 (by decide) ?_
    refine ev_putZ fw_RX10_183_9 dX10_sum_69 rfl rfl (by decide) ?_
    refine mw_lload dX10_sum_72 0 rfl ?_
    exact mw_lret dX10_sum_74 rfl (ers_lm h) rfl rfl
  · have h := mie hc h
    refine mw_lload_n dX10_sum_13 2 rfl ?_
    refine mw_lconst (v := 0) dX10_sum_14 (by decide) ?_
    refine mw_lc_lt (tgt := 23) dX10_sum_15 dX10_sum_16 (by decide) (fun hc => ?_) (fun hc => ?_)
    · have h := mit hc h
      refine mw_iconst (v := 0) dX10_sum_23 (by decide) ?_
      exact mw_sub (L' := [(0, .ref 69), (1, .long a1), (3, .long a3), (5, .long (a1 + a3))]) [1, 2, 3, 0] rfl (p_X10_sum_J24  h)
    · have h := mie hc h
      refine mw_iconst (v := 1) dX10_sum_19 (by decide) ?_
      refine mw_goto (tgt := 24) dX10_sum_20 (by decide) ?_
      exact mw_sub (L' := [(0, .ref 69), (1, .long a1), (3, .long a3), (5, .long (a1 + a3))]) [1, 2, 3, 0] rfl (p_X10_sum_J24  h)

theorem dX10_add_0 : decode cX10_add 0 = .ok (.aload_n 0, 1) := by decide +kernel
theorem dX10_add_1 : decode cX10_add 1 = .ok (.iload_n 1, 1) := by decide +kernel
theorem dX10_add_2 : decode cX10_add 2 = .ok (.iload_n 2, 1) := by decide +kernel
theorem dX10_add_3 : decode cX10_add 3 = .ok (.iload_n 3, 1) := by decide +kernel
theorem dX10_add_4 : decode cX10_add 4 = .ok (.invokevirtual 261, 3) := by decide +kernel
theorem dX10_add_7 : decode cX10_add 7 = .ok (.istore 4, 2) := by decide +kernel
theorem dX10_add_9 : decode cX10_add 9 = .ok (.iload 4, 2) := by decide +kernel
theorem dX10_add_11 : decode cX10_add 11 = .ok (.ifCond .lt 10, 3) := by decide +kernel
theorem dX10_add_14 : decode cX10_add 14 = .ok (.aload_n 0, 1) := by decide +kernel
theorem dX10_add_15 : decode cX10_add 15 = .ok (.iload 4, 2) := by decide +kernel
theorem dX10_add_17 : decode cX10_add 17 = .ok (.invokevirtual 81, 3) := by decide +kernel
theorem dX10_add_20 : decode cX10_add 20 = .ok (.ireturn, 1) := by decide +kernel
theorem dX10_add_21 : decode cX10_add 21 = .ok (.bipush 40, 2) := by decide +kernel
theorem dX10_add_23 : decode cX10_add 23 = .ok (.iload_n 1, 1) := by decide +kernel
theorem dX10_add_24 : decode cX10_add 24 = .ok (.imul, 1) := by decide +kernel
theorem dX10_add_25 : decode cX10_add 25 = .ok (.iload_n 2, 1) := by decide +kernel
theorem dX10_add_26 : decode cX10_add 26 = .ok (.iadd, 1) := by decide +kernel
theorem dX10_add_27 : decode cX10_add 27 = .ok (.istore 5, 2) := by decide +kernel
theorem dX10_add_29 : decode cX10_add 29 = .ok (.bipush 40, 2) := by decide +kernel
theorem dX10_add_31 : decode cX10_add 31 = .ok (.iload_n 1, 1) := by decide +kernel
theorem dX10_add_32 : decode cX10_add 32 = .ok (.imul, 1) := by decide +kernel
theorem dX10_add_33 : decode cX10_add 33 = .ok (.iload_n 3, 1) := by decide +kernel
theorem dX10_add_34 : decode cX10_add 34 = .ok (.iadd, 1) := by decide +kernel
theorem dX10_add_35 : decode cX10_add 35 = .ok (.istore 6, 2) := by decide +kernel
theorem dX10_add_37 : decode cX10_add 37 = .ok (.aload_n 0, 1) := by decide +kernel
theorem dX10_add_38 : decode cX10_add 38 = .ok (.iconst 1, 1) := by decide +kernel
theorem dX10_add_39 : decode cX10_add 39 = .ok (.putfield 183, 3) := by decide +kernel
theorem dX10_add_42 : decode cX10_add 42 = .ok (.aload_n 0, 1) := by decide +kernel
theorem dX10_add_43 : decode cX10_add 43 = .ok (.aload_n 0, 1) := by decide +kernel
theorem dX10_add_44 : decode cX10_add 44 = .ok (.getfield 38, 3) := by decide +kernel
theorem dX10_add_47 : decode cX10_add 47 = .ok (.iload 5, 2) := by decide +kernel
theorem dX10_add_49 : decode cX10_add 49 = .ok (.laload, 1) := by decide +kernel
theorem dX10_add_50 : decode cX10_add 50 = .ok (.aload_n 0, 1) := by decide +kernel
theorem dX10_add_51 : decode cX10_add 51 = .ok (.getfield 38, 3) := by decide +kernel
theorem dX10_add_54 : decode cX10_add 54 = .ok (.iload 6, 2) := by decide +kernel
theorem dX10_add_56 : decode cX10_add 56 = .ok (.iconst 1, 1) := by decide +kernel
theorem dX10_add_57 : decode cX10_add 57 = .ok (.iadd, 1) := by decide +kernel
theorem dX10_add_58 : decode cX10_add 58 = .ok (.laload, 1) := by decide +kernel
theorem dX10_add_59 : decode cX10_add 59 = .ok (.invokevirtual 186, 3) := by decide +kernel
theorem dX10_add_62 : decode cX10_add 62 = .ok (.lstore 7, 2) := by decide +kernel
theorem dX10_add_64 : decode cX10_add 64 = .ok (.aload_n 0, 1) := by decide +kernel
theorem dX10_add_65 : decode cX10_add 65 = .ok (.aload_n 0, 1) := by decide +kernel
theorem dX10_add_66 : decode cX10_add 66 = .ok (.getfield 38, 3) := by decide +kernel
theorem dX10_add_69 : decode cX10_add 69 = .ok (.iload 6, 2) := by decide +kernel
theorem dX10_add_71 : decode cX10_add 71 = .ok (.laload, 1) := by decide +kernel
theorem dX10_add_72 : decode cX10_add 72 = .ok (.aload_n 0, 1) := by decide +kernel
theorem dX10_add_73 : decode cX10_add 73 = .ok (.getfield 38, 3) := by decide +kernel
theorem dX10_add_76 : decode cX10_add 76 = .ok (.iload 5, 2) := by decide +kernel
theorem dX10_add_78 : decode cX10_add 78 = .ok (.iconst 1, 1) := by decide +kernel
theorem dX10_add_79 : decode cX10_add 79 = .ok (.iadd, 1) := by decide +kernel
theorem dX10_add_80 : decode cX10_add 80 = .ok (.laload, 1) := by decide +kernel
theorem dX10_add_81 : decode cX10_add 81 = .ok (.invokevirtual 186, 3) := by decide +kernel
theorem dX10_add_84 : decode cX10_add 84 = .ok (.lstore 9, 2) := by decide +kernel
theorem dX10_add_86 : decode cX10_add 86 = .ok (.aload_n 0, 1) := by decide +kernel
theorem dX10_add_87 : decode cX10_add 87 = .ok (.lload 7, 2) := by decide +kernel
theorem dX10_add_89 : decode cX10_add 89 = .ok (.lload 9, 2) := by decide +kernel
theorem dX10_add_91 : decode cX10_add 91 = .ok (.invokevirtual 269, 3) := by decide +kernel
theorem dX10_add_94 : decode cX10_add 94 = .ok (.lstore 11, 2) := by decide +kernel
theorem dX10_add_96 : decode cX10_add 96 = .ok (.aload_n 0, 1) := by decide +kernel
theorem dX10_add_97 : decode cX10_add 97 = .ok (.aload_n 0, 1) := by decide +kernel
theorem dX10_add_98 : decode cX10_add 98 = .ok (.getfield 38, 3) := by decide +kernel
theorem dX10_add_101 : decode cX10_add 101 = .ok (.iload 5, 2) := by decide +kernel
theorem dX10_add_103 : decode cX10_add 103 = .ok (.iconst 1, 1) := by decide +kernel
theorem dX10_add_104 : decode cX10_add 104 = .ok (.iadd, 1) := by decide +kernel
theorem dX10_add_105 : decode cX10_add 105 = .ok (.laload, 1) := by decide +kernel
theorem dX10_add_106 : decode cX10_add 106 = .ok (.aload_n 0, 1) := by decide +kernel
theorem dX10_add_107 : decode cX10_add 107 = .ok (.getfield 38, 3) := by decide +kernel
theorem dX10_add_110 : decode cX10_add 110 = .ok (.iload 6, 2) := by decide +kernel
theorem dX10_add_112 : decode cX10_add 112 = .ok (.iconst 1, 1) := by decide +kernel
theorem dX10_add_113 : decode cX10_add 113 = .ok (.iadd, 1) := by decide +kernel
theorem dX10_add_114 : decode cX10_add 114 = .ok (.laload, 1) := by decide +kernel
theorem dX10_add_115 : decode cX10_add 115 = .ok (.invokevirtual 186, 3) := by decide +kernel
theorem dX10_add_118 : decode cX10_add 118 = .ok (.lstore 13, 2) := by decide +kernel
theorem dX10_add_120 : decode cX10_add 120 = .ok (.aload_n 0, 1) := by decide +kernel
theorem dX10_add_121 : decode cX10_add 121 = .ok (.getfield 183, 3) := by decide +kernel
theorem dX10_add_124 : decode cX10_add 124 = .ok (.ifCond .ne 10, 3) := by decide +kernel
theorem dX10_add_127 : decode cX10_add 127 = .ok (.aload_n 0, 1) := by decide +kernel
theorem dX10_add_128 : decode cX10_add 128 = .ok (.bipush 8, 2) := by decide +kernel
theorem dX10_add_130 : decode cX10_add 130 = .ok (.invokevirtual 81, 3) := by decide +kernel
theorem dX10_add_133 : decode cX10_add 133 = .ok (.ireturn, 1) := by decide +kernel
theorem dX10_add_134 : decode cX10_add 134 = .ok (.aload_n 0, 1) := by decide +kernel
theorem dX10_add_135 : decode cX10_add 135 = .ok (.getfield 38, 3) := by decide +kernel
theorem dX10_add_138 : decode cX10_add 138 = .ok (.iload 5, 2) := by decide +kernel
theorem dX10_add_140 : decode cX10_add 140 = .ok (.aload_n 0, 1) := by decide +kernel
theorem dX10_add_141 : decode cX10_add 141 = .ok (.getfield 32, 3) := by decide +kernel
theorem dX10_add_144 : decode cX10_add 144 = .ok (.iload_n 1, 1) := by decide +kernel
theorem dX10_add_145 : decode cX10_add 145 = .ok (.iaload, 1) := by decide +kernel
theorem dX10_add_146 : decode cX10_add 146 = .ok (.lload 11, 2) := by decide +kernel
theorem dX10_add_148 : decode cX10_add 148 = .ok (.invokestatic 265, 3) := by decide +kernel
theorem dX10_add_151 : decode cX10_add 151 = .ok (.lastore, 1) := by decide +kernel
theorem dX10_add_152 : decode cX10_add 152 = .ok (.aload_n 0, 1) := by decide +kernel
theorem dX10_add_153 : decode cX10_add 153 = .ok (.getfield 38, 3) := by decide +kernel
theorem dX10_add_156 : decode cX10_add 156 = .ok (.iload 5, 2) := by decide +kernel
theorem dX10_add_158 : decode cX10_add 158 = .ok (.iconst 1, 1) := by decide +kernel
theorem dX10_add_159 : decode cX10_add 159 = .ok (.iadd, 1) := by decide +kernel
theorem dX10_add_160 : decode cX10_add 160 = .ok (.aload_n 0, 1) := by decide +kernel
theorem dX10_add_161 : decode cX10_add 161 = .ok (.getfield 32, 3) := by decide +kernel
theorem dX10_add_164 : decode cX10_add 164 = .ok (.iload_n 1, 1) := by decide +kernel
theorem dX10_add_165 : decode cX10_add 165 = .ok (.iaload, 1) := by decide +kernel
theorem dX10_add_166 : decode cX10_add 166 = .ok (.lload 13, 2) := by decide +kernel
theorem dX10_add_168 : decode cX10_add 168 = .ok (.invokestatic 265, 3) := by decide +kernel
theorem dX10_add_171 : decode cX10_add 171 = .ok (.lastore, 1) := by decide +kernel
theorem dX10_add_172 : decode cX10_add 172 = .ok (.iconst 1, 1) := by decide +kernel
theorem dX10_add_173 : decode cX10_add 173 = .ok (.ireturn, 1) := by decide +kernel
def e_X10_add (a1 : Int32) (a2 : Int32) (a3 : Int32) (σ : ES) : Option (Int32 × ES) := (e_X10_wrong σ a1 a2 a3).bind (fun r1 => if r1 < 0 then (if mib (((40 : Int32) * a1) + a2) 160 = true then (if mib ((((40 : Int32) * a1) + a3) + (1 : Int32)) 160 = true then ((e_X10_product (eL (uI σ 69 15 (1 : Int32)) 77 (((40 : Int32) * a1) + a2).toNatClampNeg) (eL (uI σ 69 15 (1 : Int32)) 77 ((((40 : Int32) * a1) + a3) + (1 : Int32)).toNatClampNeg) (uI σ 69 15 (1 : Int32))).bind (fun r5 => if mib (((40 : Int32) * a1) + a3) 160 = true then (if mib ((((40 : Int32) * a1) + a2) + (1 : Int32)) 160 = true then ((e_X10_product (eL r5.2 77 (((40 : Int32) * a1) + a3).toNatClampNeg) (eL r5.2 77 ((((40 : Int32) * a1) + a2) + (1 : Int32)).toNatClampNeg) r5.2).bind (fun r9 => (e_X10_sum r5.1 r9.1 r9.2).bind (fun r11 => (e_X10_product (eL r11.2 77 ((((40 : Int32) * a1) + a2) + (1 : Int32)).toNatClampNeg) (eL r11.2 77 ((((40 : Int32) * a1) + a3) + (1 : Int32)).toNatClampNeg) r11.2).bind (fun r13 => if (eI r13.2 69 15) = 0 then ((e_X10_finds (8 : Int32) r13.2).bind (fun r20 => some (r20.1, r20.2))) else (if mib a1 4 = true then ((e_X10_narrow (eI r13.2 75 a1.toNatClampNeg) r11.1).bind (fun r16 => (e_X10_narrow (eI (uL r13.2 77 (((40 : Int32) * a1) + a2).toNatClampNeg r16) 75 a1.toNatClampNeg) r13.1).bind (fun r18 => some ((1 : Int32), (uL (uL r13.2 77 (((40 : Int32) * a1) + a2).toNatClampNeg r16) 77 ((((40 : Int32) * a1) + a2) + (1 : Int32)).toNatClampNeg r18))))) else none))))) else none) else none)) else none) else none) else ((e_X10_finds r1 σ).bind (fun r22 => some (r22.1, r22.2))))
set_option maxRecDepth 100000 in
set_option maxHeartbeats 4000000 in
theorem k_X10_add {l : Launch} {σ : ES} {a1 : Int32} {a2 : Int32} {a3 : Int32} {out : (Int32 × ES)} (h : e_X10_add a1 a2 a3 σ = some out) : MK l yX10_add cX10_add 15 (some .int) 4 [.ref 69, .int a1, .int a2, .int a3] (mkS σ) (some (.int out.1)) (mkS out.2) := by
  unfold e_X10_add at h
  refine mw_entry (own := RX10) (ini := false) (L := [(0, .ref 69), (1, .int a1), (2, .int a2), (3, .int a3)]) (by decide +kernel) rfl (fun h => nomatch h) rfl (Nat.le_of_ble_eq_true rfl) (Nat.le_of_ble_eq_true rfl) (fun E => ?_)
  refine mw_aload_n dX10_add_0 0 rfl ?_
  refine mw_iload_n dX10_add_1 1 rfl ?_
  refine mw_iload_n dX10_add_2 2 rfl ?_
  refine mw_iload_n dX10_add_3 3 rfl ?_
  obtain ⟨r1, e2, h⟩ := mbd h
  refine mv_callV_i (As := [.int a1, .int a2, .int a3]) (ci := 9) lkV_RX10_261_yX10_wrong dX10_add_4 (k_X10_wrong e2) rfl rfl rfl rfl (Nat.le_of_ble_eq_true rfl) (by decide) (by decide) ?_
  refine mw_istore (L' := [(4, .int r1), (0, .ref 69), (1, .int a1), (2, .int a2), (3, .int a3)]) dX10_add_7 (by decide) rfl ?_
  refine mw_iload dX10_add_9 0 rfl ?_
  refine mw_if_lt (tgt := 21) dX10_add_11 (by decide) (fun hc => ?_) (fun hc => ?_)
  · have h := mit hc h
    refine mw_bipush (v := 40) dX10_add_21 (by decide) ?_
    refine mw_iload_n dX10_add_23 2 rfl ?_
    refine mw_imul dX10_add_24 ?_
    refine mw_iload_n dX10_add_25 3 rfl ?_
    refine mw_iadd dX10_add_26 ?_
    refine mw_istore (L' := [(5, .int (((40 : Int32) * a1) + a2)), (4, .int r1), (0, .ref 69), (1, .int a1), (2, .int a2), (3, .int a3)]) dX10_add_27 (by decide) rfl ?_
    refine mw_bipush (v := 40) dX10_add_29 (by decide) ?_
    refine mw_iload_n dX10_add_31 3 rfl ?_
    refine mw_imul dX10_add_32 ?_
    refine mw_iload_n dX10_add_33 5 rfl ?_
    refine mw_iadd dX10_add_34 ?_
    refine mw_istore (L' := [(6, .int (((40 : Int32) * a1) + a3)), (5, .int (((40 : Int32) * a1) + a2)), (4, .int r1), (0, .ref 69), (1, .int a1), (2, .int a2), (3, .int a3)]) dX10_add_35 (by decide) rfl ?_
    refine mw_aload_n dX10_add_37 3 rfl ?_
    refine mw_iconst (v := 1) dX10_add_38 (by decide) ?_
    refine ev_putZ fw_RX10_183_9 dX10_add_39 rfl rfl (by decide) ?_
    refine mw_aload_n dX10_add_42 3 rfl ?_
    refine mw_aload_n dX10_add_43 3 rfl ?_
    refine ev_getR (q := 77) fd_RX10_38_9 dX10_add_44 rfl rfl rfl ?_
    refine mw_iload dX10_add_47 1 rfl ?_
    obtain ⟨m3, h⟩ := mif h
    refine ev_lald dX10_add_49 (by decide) rfl m3 ?_
    refine mw_aload_n dX10_add_50 3 rfl ?_
    refine ev_getR (q := 77) fd_RX10_38_9 dX10_add_51 rfl rfl rfl ?_
    refine mw_iload dX10_add_54 0 rfl ?_
    refine mw_iconst (v := 1) dX10_add_56 (by decide) ?_
    refine mw_iadd dX10_add_57 ?_
    obtain ⟨m4, h⟩ := mif h
    refine ev_lald dX10_add_58 (by decide) rfl m4 ?_
    obtain ⟨r5, e6, h⟩ := mbd h
    refine mv_callV_l (As := [.long (eL (uI σ 69 15 (1 : Int32)) 77 (((40 : Int32) * a1) + a2).toNatClampNeg), .long (eL (uI σ 69 15 (1 : Int32)) 77 ((((40 : Int32) * a1) + a3) + (1 : Int32)).toNatClampNeg)]) (ci := 9) lkV_RX10_186_yX10_product dX10_add_59 (k_X10_product e6) rfl rfl rfl rfl (Nat.le_of_ble_eq_true rfl) (by decide) (by decide) ?_
    refine mw_lstore (L' := [(7, .long r5.1), (6, .int (((40 : Int32) * a1) + a3)), (5, .int (((40 : Int32) * a1) + a2)), (4, .int r1), (0, .ref 69), (1, .int a1), (2, .int a2), (3, .int a3)]) dX10_add_62 (by decide) rfl ?_
    refine mw_aload_n dX10_add_64 4 rfl ?_
    refine mw_aload_n dX10_add_65 4 rfl ?_
    refine ev_getR (q := 77) fd_RX10_38_9 dX10_add_66 rfl rfl rfl ?_
    refine mw_iload dX10_add_69 1 rfl ?_
    obtain ⟨m7, h⟩ := mif h
    refine ev_lald dX10_add_71 (by decide) rfl m7 ?_
    refine mw_aload_n dX10_add_72 4 rfl ?_
    refine ev_getR (q := 77) fd_RX10_38_9 dX10_add_73 rfl rfl rfl ?_
    refine mw_iload dX10_add_76 2 rfl ?_
    refine mw_iconst (v := 1) dX10_add_78 (by decide) ?_
    refine mw_iadd dX10_add_79 ?_
    obtain ⟨m8, h⟩ := mif h
    refine ev_lald dX10_add_80 (by decide) rfl m8 ?_
    obtain ⟨r9, e10, h⟩ := mbd h
    refine mv_callV_l (As := [.long (eL r5.2 77 (((40 : Int32) * a1) + a3).toNatClampNeg), .long (eL r5.2 77 ((((40 : Int32) * a1) + a2) + (1 : Int32)).toNatClampNeg)]) (ci := 9) lkV_RX10_186_yX10_product dX10_add_81 (k_X10_product e10) rfl rfl rfl rfl (Nat.le_of_ble_eq_true rfl) (by decide) (by decide) ?_
    refine mw_lstore (L' := [(9, .long r9.1), (7, .long r5.1), (6, .int (((40 : Int32) * a1) + a3)), (5, .int (((40 : Int32) * a1) + a2)), (4, .int r1), (0, .ref 69), (1, .int a1), (2, .int a2), (3, .int a3)]) dX10_add_84 (by decide) rfl ?_
    refine mw_aload_n dX10_add_86 5 rfl ?_
    refine mw_lload dX10_add_87 1 rfl ?_
    refine mw_lload dX10_add_89 0 rfl ?_
    obtain ⟨r11, e12, h⟩ := mbd h
    refine mv_callV_l (As := [.long r5.1, .long r9.1]) (ci := 9) lkV_RX10_269_yX10_sum dX10_add_91 (k_X10_sum e12) rfl rfl rfl rfl (Nat.le_of_ble_eq_true rfl) (by decide) (by decide) ?_
    refine mw_lstore (L' := [(11, .long r11.1), (9, .long r9.1), (7, .long r5.1), (6, .int (((40 : Int32) * a1) + a3)), (5, .int (((40 : Int32) * a1) + a2)), (4, .int r1), (0, .ref 69), (1, .int a1), (2, .int a2), (3, .int a3)]) dX10_add_94 (by decide) rfl ?_
    refine mw_aload_n dX10_add_96 6 rfl ?_
    refine mw_aload_n dX10_add_97 6 rfl ?_
    refine ev_getR (q := 77) fd_RX10_38_9 dX10_add_98 rfl rfl rfl ?_
    refine mw_iload dX10_add_101 4 rfl ?_
    refine mw_iconst (v := 1) dX10_add_103 (by decide) ?_
    refine mw_iadd dX10_add_104 ?_
    refine ev_lald dX10_add_105 (by decide) rfl m8 ?_
    refine mw_aload_n dX10_add_106 6 rfl ?_
    refine ev_getR (q := 77) fd_RX10_38_9 dX10_add_107 rfl rfl rfl ?_
    refine mw_iload dX10_add_110 3 rfl ?_
    refine mw_iconst (v := 1) dX10_add_112 (by decide) ?_
    refine mw_iadd dX10_add_113 ?_
    refine ev_lald dX10_add_114 (by decide) rfl m4 ?_
    obtain ⟨r13, e14, h⟩ := mbd h
    refine mv_callV_l (As := [.long (eL r11.2 77 ((((40 : Int32) * a1) + a2) + (1 : Int32)).toNatClampNeg), .long (eL r11.2 77 ((((40 : Int32) * a1) + a3) + (1 : Int32)).toNatClampNeg)]) (ci := 9) lkV_RX10_186_yX10_product dX10_add_115 (k_X10_product e14) rfl rfl rfl rfl (Nat.le_of_ble_eq_true rfl) (by decide) (by decide) ?_
    refine mw_lstore (L' := [(13, .long r13.1), (11, .long r11.1), (9, .long r9.1), (7, .long r5.1), (6, .int (((40 : Int32) * a1) + a3)), (5, .int (((40 : Int32) * a1) + a2)), (4, .int r1), (0, .ref 69), (1, .int a1), (2, .int a2), (3, .int a3)]) dX10_add_118 (by decide) rfl ?_
    refine mw_aload_n dX10_add_120 7 rfl ?_
    refine ev_getZ fd_RX10_183_9 dX10_add_121 rfl rfl ?_
    refine mw_if_ne (tgt := 134) dX10_add_124 (by decide) (fun hc => ?_) (fun hc => ?_)
    · have h := mie hc h
      refine mw_aload_n dX10_add_134 7 rfl ?_
      refine ev_getR (q := 77) fd_RX10_38_9 dX10_add_135 rfl rfl rfl ?_
      refine mw_iload dX10_add_138 5 rfl ?_
      refine mw_aload_n dX10_add_140 7 rfl ?_
      refine ev_getR (q := 75) fd_RX10_32_9 dX10_add_141 rfl rfl rfl ?_
      refine mw_iload_n dX10_add_144 8 rfl ?_
      obtain ⟨m15, h⟩ := mif h
      refine ev_iald dX10_add_145 (by decide) rfl m15 ?_
      refine mw_lload dX10_add_146 1 rfl ?_
      obtain ⟨r16, e17, h⟩ := mbd h
      refine mv_callS_l (As := [.int (eI r13.2 75 a1.toNatClampNeg), .long r11.1]) lkS_RX10_265_yX10_narrow dX10_add_148 (k_X10_narrow e17) rfl rfl (Nat.le_of_ble_eq_true rfl) (by decide) (by decide) ?_
      refine ev_last dX10_add_151 (by decide) rfl m3 ?_
      refine mw_aload_n dX10_add_152 7 rfl ?_
      refine ev_getR (q := 77) fd_RX10_38_9 dX10_add_153 rfl rfl rfl ?_
      refine mw_iload dX10_add_156 5 rfl ?_
      refine mw_iconst (v := 1) dX10_add_158 (by decide) ?_
      refine mw_iadd dX10_add_159 ?_
      refine mw_aload_n dX10_add_160 7 rfl ?_
      refine ev_getR (q := 75) fd_RX10_32_9 dX10_add_161 rfl rfl rfl ?_
      refine mw_iload_n dX10_add_164 8 rfl ?_
      refine ev_iald dX10_add_165 (by decide) rfl m15 ?_
      refine mw_lload dX10_add_166 0 rfl ?_
      obtain ⟨r18, e19, h⟩ := mbd h
      refine mv_callS_l (As := [.int (eI (uL r13.2 77 (((40 : Int32) * a1) + a2).toNatClampNeg r16) 75 a1.toNatClampNeg), .long r13.1]) lkS_RX10_265_yX10_narrow dX10_add_168 (k_X10_narrow e19) rfl rfl (Nat.le_of_ble_eq_true rfl) (by decide) (by decide) ?_
      refine ev_last dX10_add_171 (by decide) rfl m8 ?_
      refine mw_iconst (v := 1) dX10_add_172 (by decide) ?_
      exact mw_iret dX10_add_173 rfl (ers_im h) rfl rfl
    · have h := mit hc h
      refine mw_aload_n dX10_add_127 7 rfl ?_
      refine mw_bipush (v := 8) dX10_add_128 (by decide) ?_
      obtain ⟨r20, e21, h⟩ := mbd h
      refine mv_callV_i (As := [.int (8 : Int32)]) (ci := 9) lkV_RX10_81_yX10_finds dX10_add_130 (k_X10_finds e21) rfl rfl rfl rfl (Nat.le_of_ble_eq_true rfl) (by decide) (by decide) ?_
      exact mw_iret dX10_add_133 rfl (ers_im h) rfl rfl
  · have h := mie hc h
    refine mw_aload_n dX10_add_14 1 rfl ?_
    refine mw_iload dX10_add_15 0 rfl ?_
    obtain ⟨r22, e23, h⟩ := mbd h
    refine mv_callV_i (As := [.int r1]) (ci := 9) lkV_RX10_81_yX10_finds dX10_add_17 (k_X10_finds e23) rfl rfl rfl rfl (Nat.le_of_ble_eq_true rfl) (by decide) (by decide) ?_
    exact mw_iret dX10_add_20 rfl (ers_im h) rfl rfl

theorem dX10_feed_0 : decode cX10_feed 0 = .ok (.iload_n 2, 1) := by decide +kernel
theorem dX10_feed_1 : decode cX10_feed 1 = .ok (.i2l, 1) := by decide +kernel
theorem dX10_feed_2 : decode cX10_feed 2 = .ok (.lconst 1, 1) := by decide +kernel
theorem dX10_feed_3 : decode cX10_feed 3 = .ok (.ldc2_w 272, 3) := by decide +kernel
theorem dX10_feed_6 : decode cX10_feed 6 = .ok (.invokestatic 57, 3) := by decide +kernel
theorem dX10_feed_9 : decode cX10_feed 9 = .ok (.ifCond .ne 9, 3) := by decide +kernel
theorem dX10_feed_12 : decode cX10_feed 12 = .ok (.aload_n 0, 1) := by decide +kernel
theorem dX10_feed_13 : decode cX10_feed 13 = .ok (.iconst 0, 1) := by decide +kernel
theorem dX10_feed_14 : decode cX10_feed 14 = .ok (.invokevirtual 81, 3) := by decide +kernel
theorem dX10_feed_17 : decode cX10_feed 17 = .ok (.ireturn, 1) := by decide +kernel
theorem dX10_feed_18 : decode cX10_feed 18 = .ok (.aload_n 0, 1) := by decide +kernel
theorem dX10_feed_19 : decode cX10_feed 19 = .ok (.getfield 274, 3) := by decide +kernel
theorem dX10_feed_22 : decode cX10_feed 22 = .ok (.iload_n 2, 1) := by decide +kernel
theorem dX10_feed_23 : decode cX10_feed 23 = .ok (.iadd, 1) := by decide +kernel
theorem dX10_feed_24 : decode cX10_feed 24 = .ok (.bipush 120, 2) := by decide +kernel
theorem dX10_feed_26 : decode cX10_feed 26 = .ok (.if_icmp .le 9, 3) := by decide +kernel
theorem dX10_feed_29 : decode cX10_feed 29 = .ok (.aload_n 0, 1) := by decide +kernel
theorem dX10_feed_30 : decode cX10_feed 30 = .ok (.iconst 1, 1) := by decide +kernel
theorem dX10_feed_31 : decode cX10_feed 31 = .ok (.invokevirtual 81, 3) := by decide +kernel
theorem dX10_feed_34 : decode cX10_feed 34 = .ok (.ireturn, 1) := by decide +kernel
theorem dX10_feed_35 : decode cX10_feed 35 = .ok (.iload_n 2, 1) := by decide +kernel
theorem dX10_feed_36 : decode cX10_feed 36 = .ok (.iconst 1, 1) := by decide +kernel
theorem dX10_feed_37 : decode cX10_feed 37 = .ok (.isub, 1) := by decide +kernel
theorem dX10_feed_38 : decode cX10_feed 38 = .ok (.istore_n 3, 1) := by decide +kernel
theorem dX10_feed_39 : decode cX10_feed 39 = .ok (.iload_n 3, 1) := by decide +kernel
theorem dX10_feed_40 : decode cX10_feed 40 = .ok (.ifCond .lt 38, 3) := by decide +kernel
theorem dX10_feed_43 : decode cX10_feed 43 = .ok (.aload_n 0, 1) := by decide +kernel
theorem dX10_feed_44 : decode cX10_feed 44 = .ok (.getfield 44, 3) := by decide +kernel
theorem dX10_feed_47 : decode cX10_feed 47 = .ok (.aload_n 0, 1) := by decide +kernel
theorem dX10_feed_48 : decode cX10_feed 48 = .ok (.getfield 274, 3) := by decide +kernel
theorem dX10_feed_51 : decode cX10_feed 51 = .ok (.iload_n 1, 1) := by decide +kernel
theorem dX10_feed_52 : decode cX10_feed 52 = .ok (.bipush 8, 2) := by decide +kernel
theorem dX10_feed_54 : decode cX10_feed 54 = .ok (.iload_n 3, 1) := by decide +kernel
theorem dX10_feed_55 : decode cX10_feed 55 = .ok (.imul, 1) := by decide +kernel
theorem dX10_feed_56 : decode cX10_feed 56 = .ok (.ishr, 1) := by decide +kernel
theorem dX10_feed_57 : decode cX10_feed 57 = .ok (.sipush 255, 3) := by decide +kernel
theorem dX10_feed_60 : decode cX10_feed 60 = .ok (.iand, 1) := by decide +kernel
theorem dX10_feed_61 : decode cX10_feed 61 = .ok (.iastore, 1) := by decide +kernel
theorem dX10_feed_62 : decode cX10_feed 62 = .ok (.aload_n 0, 1) := by decide +kernel
theorem dX10_feed_63 : decode cX10_feed 63 = .ok (.dup, 1) := by decide +kernel
theorem dX10_feed_64 : decode cX10_feed 64 = .ok (.getfield 274, 3) := by decide +kernel
theorem dX10_feed_67 : decode cX10_feed 67 = .ok (.iconst 1, 1) := by decide +kernel
theorem dX10_feed_68 : decode cX10_feed 68 = .ok (.iadd, 1) := by decide +kernel
theorem dX10_feed_69 : decode cX10_feed 69 = .ok (.putfield 274, 3) := by decide +kernel
theorem dX10_feed_72 : decode cX10_feed 72 = .ok (.iinc 3 (-1), 3) := by decide +kernel
theorem dX10_feed_75 : decode cX10_feed 75 = .ok (.goto (-36), 3) := by decide +kernel
theorem dX10_feed_78 : decode cX10_feed 78 = .ok (.aload_n 0, 1) := by decide +kernel
theorem dX10_feed_79 : decode cX10_feed 79 = .ok (.getfield 274, 3) := by decide +kernel
theorem dX10_feed_82 : decode cX10_feed 82 = .ok (.ireturn, 1) := by decide +kernel
def e_X10_feed_L39 (a1 : Int32) (a2 : Int32) : Nat → Int32 → ES → Option (Int32 × ES)
  | 0, _, _ => none
  | n + 1, x3, σ => if x3 < 0 then (some ((eI σ 69 25), σ)) else (if mib (eI σ 69 25) 120 = true then (e_X10_feed_L39 a1 a2 n (x3 + (-1)) (uI (uI σ 79 (eI σ 69 25).toNatClampNeg ((a1 >>> (((8 : Int32) * x3) &&& 31)) &&& (255 : Int32))) 69 25 ((eI (uI σ 79 (eI σ 69 25).toNatClampNeg ((a1 >>> (((8 : Int32) * x3) &&& 31)) &&& (255 : Int32))) 69 25) + (1 : Int32)))) else none)
set_option maxRecDepth 100000 in
set_option maxHeartbeats 4000000 in
theorem p_X10_feed_L39 {l : Launch} {E : MX} {out : (Int32 × ES)} {a1 : Int32} {a2 : Int32}  : ∀ (n : Nat) (x3 : Int32) (σ : ES), e_X10_feed_L39 a1 a2 n x3 σ = some out → MV l E cX10_feed RX10 4 (some .int) 2 (82, (some (.int out.1)), mkS out.2) (mkS σ) 39 [(0, .ref 69), (1, .int a1), (2, .int a2), (3, .int x3)] [] := by
  intro n
  induction n with
  | zero =>
    intro x3 σ h
    exact nomatch h
  | succ n ih =>
    intro x3 σ h
    rw [e_X10_feed_L39] at h
    refine mw_iload_n dX10_feed_39 3 rfl ?_
    refine mw_if_lt (tgt := 78) dX10_feed_40 (by decide) (fun hc => ?_) (fun hc => ?_)
    · have h := mit hc h
      refine mw_aload_n dX10_feed_78 0 rfl ?_
      refine ev_getI fd_RX10_274_9 dX10_feed_79 rfl rfl ?_
      exact mw_iret dX10_feed_82 rfl (ers_im h) rfl rfl
    · have h := mie hc h
      refine mw_aload_n dX10_feed_43 0 rfl ?_
      refine ev_getR (q := 79) fd_RX10_44_9 dX10_feed_44 rfl rfl rfl ?_
      refine mw_aload_n dX10_feed_47 0 rfl ?_
      refine ev_getI fd_RX10_274_9 dX10_feed_48 rfl rfl ?_
      refine mw_iload_n dX10_feed_51 1 rfl ?_
      refine mw_bipush (v := 8) dX10_feed_52 (by decide) ?_
      refine mw_iload_n dX10_feed_54 3 rfl ?_
      refine mw_imul dX10_feed_55 ?_
      refine mw_ishr dX10_feed_56 ?_
      refine mw_sipush (v := 255) dX10_feed_57 (by decide) ?_
      refine mw_iand dX10_feed_60 ?_
      obtain ⟨m1, h⟩ := mif h
      refine ev_iast dX10_feed_61 (by decide) rfl m1 ?_
      refine mw_aload_n dX10_feed_62 0 rfl ?_
      refine mw_dup dX10_feed_63 rfl ?_
      refine ev_getI fd_RX10_274_9 dX10_feed_64 rfl rfl ?_
      refine mw_iconst (v := 1) dX10_feed_67 (by decide) ?_
      refine mw_iadd dX10_feed_68 ?_
      refine ev_putI fw_RX10_274_9 dX10_feed_69 rfl rfl ?_
      refine mw_iinc (v := (x3 + (-1))) (L' := [(3, .int (x3 + (-1))), (0, .ref 69), (1, .int a1), (2, .int a2)]) dX10_feed_72 3 rfl rfl (by decide) rfl ?_
      refine mw_goto (tgt := 39) dX10_feed_75 (by decide) ?_
      exact mw_sub (L' := [(0, .ref 69), (1, .int a1), (2, .int a2), (3, .int (x3 + (-1)))]) [1, 2, 3, 0] rfl (ih _ _ h)
def e_X10_feed (a1 : Int32) (a2 : Int32) (σ : ES) : Option (Int32 × ES) := (e_X10_in a2.toInt64 (1 : Int64) (4 : Int64)).bind (fun r1 => if r1 = 0 then ((e_X10_finds (0 : Int32) σ).bind (fun r5 => some (r5.1, r5.2))) else (if ((eI σ 69 25) + a2) ≤ (120 : Int32) then (e_X10_feed_L39 a1 a2 mN (a2 - (1 : Int32)) σ) else ((e_X10_finds (1 : Int32) σ).bind (fun r3 => some (r3.1, r3.2)))))
set_option maxRecDepth 100000 in
set_option maxHeartbeats 4000000 in
theorem k_X10_feed {l : Launch} {σ : ES} {a1 : Int32} {a2 : Int32} {out : (Int32 × ES)} (h : e_X10_feed a1 a2 σ = some out) : MK l yX10_feed cX10_feed 4 (some .int) 2 [.ref 69, .int a1, .int a2] (mkS σ) (some (.int out.1)) (mkS out.2) := by
  unfold e_X10_feed at h
  refine mw_entry (own := RX10) (ini := false) (L := [(0, .ref 69), (1, .int a1), (2, .int a2)]) (by decide +kernel) rfl (fun h => nomatch h) rfl (Nat.le_of_ble_eq_true rfl) (Nat.le_of_ble_eq_true rfl) (fun E => ?_)
  refine mw_iload_n dX10_feed_0 2 rfl ?_
  refine mw_i2l dX10_feed_1 ?_
  refine mw_lconst (v := 1) dX10_feed_2 (by decide) ?_
  refine mw_ldc2 dX10_feed_3 wt_776 ?_
  obtain ⟨r1, e2, h⟩ := mbd h
  refine mv_callS_i (As := [.long a2.toInt64, .long (1 : Int64), .long (4 : Int64)]) lkS_RX10_57_yX10_in dX10_feed_6 (k_X10_in e2) rfl rfl (Nat.le_of_ble_eq_true rfl) (by decide) (by decide) ?_
  refine mw_if_ne (tgt := 18) dX10_feed_9 (by decide) (fun hc => ?_) (fun hc => ?_)
  · have h := mie hc h
    refine mw_aload_n dX10_feed_18 0 rfl ?_
    refine ev_getI fd_RX10_274_9 dX10_feed_19 rfl rfl ?_
    refine mw_iload_n dX10_feed_22 2 rfl ?_
    refine mw_iadd dX10_feed_23 ?_
    refine mw_bipush (v := 120) dX10_feed_24 (by decide) ?_
    refine mw_icmp_le (tgt := 35) dX10_feed_26 (by decide) (fun hc => ?_) (fun hc => ?_)
    · have h := mit hc h
      refine mw_iload_n dX10_feed_35 2 rfl ?_
      refine mw_iconst (v := 1) dX10_feed_36 (by decide) ?_
      refine mw_isub dX10_feed_37 ?_
      refine mw_istore_n (L' := [(3, .int (a2 - (1 : Int32))), (0, .ref 69), (1, .int a1), (2, .int a2)]) dX10_feed_38 rfl (by decide) rfl ?_
      exact mw_sub (L' := [(0, .ref 69), (1, .int a1), (2, .int a2), (3, .int (a2 - (1 : Int32)))]) [1, 2, 3, 0] rfl (p_X10_feed_L39  mN _ _ h)
    · have h := mie hc h
      refine mw_aload_n dX10_feed_29 0 rfl ?_
      refine mw_iconst (v := 1) dX10_feed_30 (by decide) ?_
      obtain ⟨r3, e4, h⟩ := mbd h
      refine mv_callV_i (As := [.int (1 : Int32)]) (ci := 9) lkV_RX10_81_yX10_finds dX10_feed_31 (k_X10_finds e4) rfl rfl rfl rfl (Nat.le_of_ble_eq_true rfl) (by decide) (by decide) ?_
      exact mw_iret dX10_feed_34 rfl (ers_im h) rfl rfl
  · have h := mit hc h
    refine mw_aload_n dX10_feed_12 0 rfl ?_
    refine mw_iconst (v := 0) dX10_feed_13 (by decide) ?_
    obtain ⟨r5, e6, h⟩ := mbd h
    refine mv_callV_i (As := [.int (0 : Int32)]) (ci := 9) lkV_RX10_81_yX10_finds dX10_feed_14 (k_X10_finds e6) rfl rfl rfl rfl (Nat.le_of_ble_eq_true rfl) (by decide) (by decide) ?_
    exact mw_iret dX10_feed_17 rfl (ers_im h) rfl rfl

theorem dX10_wipe_0 : decode cX10_wipe 0 = .ok (.aload_n 0, 1) := by decide +kernel
theorem dX10_wipe_1 : decode cX10_wipe 1 = .ok (.getfield 274, 3) := by decide +kernel
theorem dX10_wipe_4 : decode cX10_wipe 4 = .ok (.istore_n 1, 1) := by decide +kernel
theorem dX10_wipe_5 : decode cX10_wipe 5 = .ok (.aload_n 0, 1) := by decide +kernel
theorem dX10_wipe_6 : decode cX10_wipe 6 = .ok (.iconst 0, 1) := by decide +kernel
theorem dX10_wipe_7 : decode cX10_wipe 7 = .ok (.putfield 274, 3) := by decide +kernel
theorem dX10_wipe_10 : decode cX10_wipe 10 = .ok (.iload_n 1, 1) := by decide +kernel
theorem dX10_wipe_11 : decode cX10_wipe 11 = .ok (.ireturn, 1) := by decide +kernel
def e_X10_wipe (σ : ES) : Option (Int32 × ES) := some ((eI σ 69 25), (uI σ 69 25 (0 : Int32)))
set_option maxRecDepth 100000 in
set_option maxHeartbeats 4000000 in
theorem k_X10_wipe {l : Launch} {σ : ES}  {out : (Int32 × ES)} (h : e_X10_wipe σ = some out) : MK l yX10_wipe cX10_wipe 2 (some .int) 1 [.ref 69] (mkS σ) (some (.int out.1)) (mkS out.2) := by
  unfold e_X10_wipe at h
  refine mw_entry (own := RX10) (ini := false) (L := [(0, .ref 69)]) (by decide +kernel) rfl (fun h => nomatch h) rfl (Nat.le_of_ble_eq_true rfl) (Nat.le_of_ble_eq_true rfl) (fun E => ?_)
  refine mw_aload_n dX10_wipe_0 0 rfl ?_
  refine ev_getI fd_RX10_274_9 dX10_wipe_1 rfl rfl ?_
  refine mw_istore_n (L' := [(1, .int (eI σ 69 25)), (0, .ref 69)]) dX10_wipe_4 rfl (by decide) rfl ?_
  refine mw_aload_n dX10_wipe_5 1 rfl ?_
  refine mw_iconst (v := 0) dX10_wipe_6 (by decide) ?_
  refine ev_putI fw_RX10_274_9 dX10_wipe_7 rfl rfl ?_
  refine mw_iload_n dX10_wipe_10 0 rfl ?_
  exact mw_iret dX10_wipe_11 rfl (ers_im h) rfl rfl

theorem dX10_byteAt_0 : decode cX10_byteAt 0 = .ok (.iload_n 1, 1) := by decide +kernel
theorem dX10_byteAt_1 : decode cX10_byteAt 1 = .ok (.aload_n 0, 1) := by decide +kernel
theorem dX10_byteAt_2 : decode cX10_byteAt 2 = .ok (.getfield 274, 3) := by decide +kernel
theorem dX10_byteAt_5 : decode cX10_byteAt 5 = .ok (.if_icmp .ge 12, 3) := by decide +kernel
theorem dX10_byteAt_8 : decode cX10_byteAt 8 = .ok (.aload_n 0, 1) := by decide +kernel
theorem dX10_byteAt_9 : decode cX10_byteAt 9 = .ok (.getfield 44, 3) := by decide +kernel
theorem dX10_byteAt_12 : decode cX10_byteAt 12 = .ok (.iload_n 1, 1) := by decide +kernel
theorem dX10_byteAt_13 : decode cX10_byteAt 13 = .ok (.iaload, 1) := by decide +kernel
theorem dX10_byteAt_14 : decode cX10_byteAt 14 = .ok (.goto 4, 3) := by decide +kernel
theorem dX10_byteAt_17 : decode cX10_byteAt 17 = .ok (.iconst (-1), 1) := by decide +kernel
theorem dX10_byteAt_18 : decode cX10_byteAt 18 = .ok (.ireturn, 1) := by decide +kernel
def e_X10_byteAt (σ : ES) (a1 : Int32) : Option Int32 := if (eI σ 69 25) ≤ a1 then (some (-1 : Int32)) else (if mib a1 120 = true then (some (eI σ 79 a1.toNatClampNeg)) else none)
set_option maxRecDepth 100000 in
set_option maxHeartbeats 4000000 in
theorem k_X10_byteAt {l : Launch} {σ : ES} {a1 : Int32} {out : Int32} (h : e_X10_byteAt σ a1 = some out) : MK l yX10_byteAt cX10_byteAt 2 (some .int) 1 [.ref 69, .int a1] (mkS σ) (some (.int out)) (mkS σ) := by
  unfold e_X10_byteAt at h
  refine mw_entry (own := RX10) (ini := false) (L := [(0, .ref 69), (1, .int a1)]) (by decide +kernel) rfl (fun h => nomatch h) rfl (Nat.le_of_ble_eq_true rfl) (Nat.le_of_ble_eq_true rfl) (fun E => ?_)
  refine mw_iload_n dX10_byteAt_0 1 rfl ?_
  refine mw_aload_n dX10_byteAt_1 0 rfl ?_
  refine ev_getI fd_RX10_274_9 dX10_byteAt_2 rfl rfl ?_
  refine mw_icmp_ge (tgt := 17) dX10_byteAt_5 (by decide) (fun hc => ?_) (fun hc => ?_)
  · have h := mit hc h
    refine mw_iconst (v := -1) dX10_byteAt_17 (by decide) ?_
    exact mw_iret dX10_byteAt_18 rfl (ers_i h) rfl rfl
  · have h := mie hc h
    refine mw_aload_n dX10_byteAt_8 0 rfl ?_
    refine ev_getR (q := 79) fd_RX10_44_9 dX10_byteAt_9 rfl rfl rfl ?_
    refine mw_iload_n dX10_byteAt_12 1 rfl ?_
    obtain ⟨m1, h⟩ := mif h
    refine ev_iald dX10_byteAt_13 (by decide) rfl m1 ?_
    refine mw_goto (tgt := 18) dX10_byteAt_14 (by decide) ?_
    exact mw_iret dX10_byteAt_18 rfl (ers_i h) rfl rfl

theorem dX10_isWordFrom_0 : decode cX10_isWordFrom 0 = .ok (.aload_n 0, 1) := by decide +kernel
theorem dX10_isWordFrom_1 : decode cX10_isWordFrom 1 = .ok (.getfield 277, 3) := by decide +kernel
theorem dX10_isWordFrom_4 : decode cX10_isWordFrom 4 = .ok (.aload_n 0, 1) := by decide +kernel
theorem dX10_isWordFrom_5 : decode cX10_isWordFrom 5 = .ok (.getfield 280, 3) := by decide +kernel
theorem dX10_isWordFrom_8 : decode cX10_isWordFrom 8 = .ok (.isub, 1) := by decide +kernel
theorem dX10_isWordFrom_9 : decode cX10_isWordFrom 9 = .ok (.bipush 8, 2) := by decide +kernel
theorem dX10_isWordFrom_11 : decode cX10_isWordFrom 11 = .ok (.if_icmp .gt 7, 3) := by decide +kernel
theorem dX10_isWordFrom_14 : decode cX10_isWordFrom 14 = .ok (.iconst 1, 1) := by decide +kernel
theorem dX10_isWordFrom_15 : decode cX10_isWordFrom 15 = .ok (.goto 4, 3) := by decide +kernel
theorem dX10_isWordFrom_18 : decode cX10_isWordFrom 18 = .ok (.iconst 0, 1) := by decide +kernel
theorem dX10_isWordFrom_19 : decode cX10_isWordFrom 19 = .ok (.istore_n 2, 1) := by decide +kernel
theorem dX10_isWordFrom_20 : decode cX10_isWordFrom 20 = .ok (.iconst 0, 1) := by decide +kernel
theorem dX10_isWordFrom_21 : decode cX10_isWordFrom 21 = .ok (.istore_n 3, 1) := by decide +kernel
theorem dX10_isWordFrom_22 : decode cX10_isWordFrom 22 = .ok (.iload_n 3, 1) := by decide +kernel
theorem dX10_isWordFrom_23 : decode cX10_isWordFrom 23 = .ok (.bipush 8, 2) := by decide +kernel
theorem dX10_isWordFrom_25 : decode cX10_isWordFrom 25 = .ok (.if_icmp .ge 61, 3) := by decide +kernel
theorem dX10_isWordFrom_28 : decode cX10_isWordFrom 28 = .ok (.iload_n 2, 1) := by decide +kernel
theorem dX10_isWordFrom_29 : decode cX10_isWordFrom 29 = .ok (.ifCond .eq 57, 3) := by decide +kernel
theorem dX10_isWordFrom_32 : decode cX10_isWordFrom 32 = .ok (.aload_n 0, 1) := by decide +kernel
theorem dX10_isWordFrom_33 : decode cX10_isWordFrom 33 = .ok (.getfield 47, 3) := by decide +kernel
theorem dX10_isWordFrom_36 : decode cX10_isWordFrom 36 = .ok (.bipush 8, 2) := by decide +kernel
theorem dX10_isWordFrom_38 : decode cX10_isWordFrom 38 = .ok (.iload_n 1, 1) := by decide +kernel
theorem dX10_isWordFrom_39 : decode cX10_isWordFrom 39 = .ok (.imul, 1) := by decide +kernel
theorem dX10_isWordFrom_40 : decode cX10_isWordFrom 40 = .ok (.iload_n 3, 1) := by decide +kernel
theorem dX10_isWordFrom_41 : decode cX10_isWordFrom 41 = .ok (.iadd, 1) := by decide +kernel
theorem dX10_isWordFrom_42 : decode cX10_isWordFrom 42 = .ok (.caload, 1) := by decide +kernel
theorem dX10_isWordFrom_43 : decode cX10_isWordFrom 43 = .ok (.aload_n 0, 1) := by decide +kernel
theorem dX10_isWordFrom_44 : decode cX10_isWordFrom 44 = .ok (.getfield 280, 3) := by decide +kernel
theorem dX10_isWordFrom_47 : decode cX10_isWordFrom 47 = .ok (.iload_n 3, 1) := by decide +kernel
theorem dX10_isWordFrom_48 : decode cX10_isWordFrom 48 = .ok (.iadd, 1) := by decide +kernel
theorem dX10_isWordFrom_49 : decode cX10_isWordFrom 49 = .ok (.aload_n 0, 1) := by decide +kernel
theorem dX10_isWordFrom_50 : decode cX10_isWordFrom 50 = .ok (.getfield 277, 3) := by decide +kernel
theorem dX10_isWordFrom_53 : decode cX10_isWordFrom 53 = .ok (.if_icmp .ge 16, 3) := by decide +kernel
theorem dX10_isWordFrom_56 : decode cX10_isWordFrom 56 = .ok (.aload_n 0, 1) := by decide +kernel
theorem dX10_isWordFrom_57 : decode cX10_isWordFrom 57 = .ok (.aload_n 0, 1) := by decide +kernel
theorem dX10_isWordFrom_58 : decode cX10_isWordFrom 58 = .ok (.getfield 280, 3) := by decide +kernel
theorem dX10_isWordFrom_61 : decode cX10_isWordFrom 61 = .ok (.iload_n 3, 1) := by decide +kernel
theorem dX10_isWordFrom_62 : decode cX10_isWordFrom 62 = .ok (.iadd, 1) := by decide +kernel
theorem dX10_isWordFrom_63 : decode cX10_isWordFrom 63 = .ok (.invokevirtual 283, 3) := by decide +kernel
theorem dX10_isWordFrom_66 : decode cX10_isWordFrom 66 = .ok (.goto 5, 3) := by decide +kernel
theorem dX10_isWordFrom_69 : decode cX10_isWordFrom 69 = .ok (.bipush 32, 2) := by decide +kernel
theorem dX10_isWordFrom_71 : decode cX10_isWordFrom 71 = .ok (.if_icmp .ne 7, 3) := by decide +kernel
theorem dX10_isWordFrom_74 : decode cX10_isWordFrom 74 = .ok (.iconst 1, 1) := by decide +kernel
theorem dX10_isWordFrom_75 : decode cX10_isWordFrom 75 = .ok (.goto 4, 3) := by decide +kernel
theorem dX10_isWordFrom_78 : decode cX10_isWordFrom 78 = .ok (.iconst 0, 1) := by decide +kernel
theorem dX10_isWordFrom_79 : decode cX10_isWordFrom 79 = .ok (.istore_n 2, 1) := by decide +kernel
theorem dX10_isWordFrom_80 : decode cX10_isWordFrom 80 = .ok (.iinc 3 1, 3) := by decide +kernel
theorem dX10_isWordFrom_83 : decode cX10_isWordFrom 83 = .ok (.goto (-61), 3) := by decide +kernel
theorem dX10_isWordFrom_86 : decode cX10_isWordFrom 86 = .ok (.iload_n 2, 1) := by decide +kernel
theorem dX10_isWordFrom_87 : decode cX10_isWordFrom 87 = .ok (.ireturn, 1) := by decide +kernel
def e_X10_isWordFrom_J71 (σ : ES) (a1 : Int32) (k22 : Int32 → Int32 → Option Int32) (x3 : Int32) (s0 : Int32) (s1 : Int32) : Option Int32 := if s0 = s1 then (k22 (1 : Int32) (x3 + 1)) else (k22 (0 : Int32) (x3 + 1))
set_option maxRecDepth 100000 in
set_option maxHeartbeats 4000000 in
theorem p_X10_isWordFrom_J71 {l : Launch} {E : MX} {out : Int32} {σ : ES} {a1 : Int32} {k22 : Int32 → Int32 → Option Int32} (hk22 : ∀ (z0 : Int32) (z1 : Int32), k22 z0 z1 = some out → MV l E cX10_isWordFrom RX10 4 (some .boolean) 2 (82, (some (.int out)), mkS σ) (mkS σ) 22 [(0, .ref 69), (1, .int a1), (2, .int z0), (3, .int z1)] []) {x3 : Int32} {s0 : Int32} {s1 : Int32} (h : e_X10_isWordFrom_J71 σ a1 k22 x3 s0 s1 = some out) : MV l E cX10_isWordFrom RX10 4 (some .boolean) 2 (82, (some (.int out)), mkS σ) (mkS σ) 71 [(0, .ref 69), (1, .int a1), (3, .int x3)] [.int s1, .int s0] := by
  unfold e_X10_isWordFrom_J71 at h
  refine mw_icmp_ne (tgt := 78) dX10_isWordFrom_71 (by decide) (fun hc => ?_) (fun hc => ?_)
  · have h := mie hc h
    refine mw_iconst (v := 0) dX10_isWordFrom_78 (by decide) ?_
    refine mw_istore_n (L' := [(2, .int (0 : Int32)), (0, .ref 69), (1, .int a1), (3, .int x3)]) dX10_isWordFrom_79 rfl (by decide) rfl ?_
    refine mw_iinc (v := (x3 + 1)) (L' := [(3, .int (x3 + 1)), (2, .int (0 : Int32)), (0, .ref 69), (1, .int a1)]) dX10_isWordFrom_80 3 rfl rfl (by decide) rfl ?_
    refine mw_goto (tgt := 22) dX10_isWordFrom_83 (by decide) ?_
    exact mw_sub (L' := [(0, .ref 69), (1, .int a1), (2, .int (0 : Int32)), (3, .int (x3 + 1))]) [2, 3, 1, 0] rfl (hk22 _ _ h)
  · have h := mit hc h
    refine mw_iconst (v := 1) dX10_isWordFrom_74 (by decide) ?_
    refine mw_goto (tgt := 79) dX10_isWordFrom_75 (by decide) ?_
    refine mw_istore_n (L' := [(2, .int (1 : Int32)), (0, .ref 69), (1, .int a1), (3, .int x3)]) dX10_isWordFrom_79 rfl (by decide) rfl ?_
    refine mw_iinc (v := (x3 + 1)) (L' := [(3, .int (x3 + 1)), (2, .int (1 : Int32)), (0, .ref 69), (1, .int a1)]) dX10_isWordFrom_80 3 rfl rfl (by decide) rfl ?_
    refine mw_goto (tgt := 22) dX10_isWordFrom_83 (by decide) ?_
    exact mw_sub (L' := [(0, .ref 69), (1, .int a1), (2, .int (1 : Int32)), (3, .int (x3 + 1))]) [2, 3, 1, 0] rfl (hk22 _ _ h)
def e_X10_isWordFrom_L22 (σ : ES) (a1 : Int32) : Nat → Int32 → Int32 → Option Int32
  | 0, _, _ => none
  | n + 1, x2, x3 => if (8 : Int32) ≤ x3 then (if x2 = 0 ∨ x2 = 1 then (some x2) else none) else (if x2 = 0 then (if x2 = 0 ∨ x2 = 1 then (some x2) else none) else (if mib (((8 : Int32) * a1) + x3) 104 = true then (if (eI σ 69 26) ≤ ((eI σ 69 27) + x3) then (e_X10_isWordFrom_J71 σ a1 (e_X10_isWordFrom_L22 σ a1 n) x3 (eI σ 80 (((8 : Int32) * a1) + x3).toNatClampNeg) (32 : Int32)) else ((e_X10_byteAt σ ((eI σ 69 27) + x3)).bind (fun r4 => e_X10_isWordFrom_J71 σ a1 (e_X10_isWordFrom_L22 σ a1 n) x3 (eI σ 80 (((8 : Int32) * a1) + x3).toNatClampNeg) r4))) else none))
set_option maxRecDepth 100000 in
set_option maxHeartbeats 4000000 in
theorem p_X10_isWordFrom_L22 {l : Launch} {E : MX} {out : Int32} {σ : ES} {a1 : Int32}  : ∀ (n : Nat) (x2 : Int32) (x3 : Int32), e_X10_isWordFrom_L22 σ a1 n x2 x3 = some out → MV l E cX10_isWordFrom RX10 4 (some .boolean) 2 (82, (some (.int out)), mkS σ) (mkS σ) 22 [(0, .ref 69), (1, .int a1), (2, .int x2), (3, .int x3)] [] := by
  intro n
  induction n with
  | zero =>
    intro x2 x3 h
    exact nomatch h
  | succ n ih =>
    intro x2 x3 h
    rw [e_X10_isWordFrom_L22] at h
    refine mw_iload_n dX10_isWordFrom_22 3 rfl ?_
    refine mw_bipush (v := 8) dX10_isWordFrom_23 (by decide) ?_
    refine mw_icmp_ge (tgt := 86) dX10_isWordFrom_25 (by decide) (fun hc => ?_) (fun hc => ?_)
    · have h := mit hc h
      refine mw_iload_n dX10_isWordFrom_86 2 rfl ?_
      obtain ⟨m1, h⟩ := mif h
      exact mw_zret dX10_isWordFrom_87 rfl m1 (ers_i h) rfl rfl
    · have h := mie hc h
      refine mw_iload_n dX10_isWordFrom_28 2 rfl ?_
      refine mw_if_eq (tgt := 86) dX10_isWordFrom_29 (by decide) (fun hc => ?_) (fun hc => ?_)
      · have h := mit hc h
        refine mw_iload_n dX10_isWordFrom_86 2 rfl ?_
        obtain ⟨m2, h⟩ := mif h
        exact mw_zret dX10_isWordFrom_87 rfl m2 (ers_i h) rfl rfl
      · have h := mie hc h
        refine mw_aload_n dX10_isWordFrom_32 0 rfl ?_
        refine ev_getR (q := 80) fd_RX10_47_9 dX10_isWordFrom_33 rfl rfl rfl ?_
        refine mw_bipush (v := 8) dX10_isWordFrom_36 (by decide) ?_
        refine mw_iload_n dX10_isWordFrom_38 1 rfl ?_
        refine mw_imul dX10_isWordFrom_39 ?_
        refine mw_iload_n dX10_isWordFrom_40 3 rfl ?_
        refine mw_iadd dX10_isWordFrom_41 ?_
        obtain ⟨m3, h⟩ := mif h
        refine ev_cald dX10_isWordFrom_42 (by decide) rfl m3 ?_
        refine mw_aload_n dX10_isWordFrom_43 0 rfl ?_
        refine ev_getI fd_RX10_280_9 dX10_isWordFrom_44 rfl rfl ?_
        refine mw_iload_n dX10_isWordFrom_47 3 rfl ?_
        refine mw_iadd dX10_isWordFrom_48 ?_
        refine mw_aload_n dX10_isWordFrom_49 0 rfl ?_
        refine ev_getI fd_RX10_277_9 dX10_isWordFrom_50 rfl rfl ?_
        refine mw_icmp_ge (tgt := 69) dX10_isWordFrom_53 (by decide) (fun hc => ?_) (fun hc => ?_)
        · have h := mit hc h
          refine mw_bipush (v := 32) dX10_isWordFrom_69 (by decide) ?_
          exact mw_sub (L' := [(0, .ref 69), (1, .int a1), (3, .int x3)]) [0, 1, 3] rfl (p_X10_isWordFrom_J71 ih h)
        · have h := mie hc h
          refine mw_aload_n dX10_isWordFrom_56 0 rfl ?_
          refine mw_aload_n dX10_isWordFrom_57 0 rfl ?_
          refine ev_getI fd_RX10_280_9 dX10_isWordFrom_58 rfl rfl ?_
          refine mw_iload_n dX10_isWordFrom_61 3 rfl ?_
          refine mw_iadd dX10_isWordFrom_62 ?_
          obtain ⟨r4, e5, h⟩ := mbd h
          refine mv_callV_i (As := [.int ((eI σ 69 27) + x3)]) (ci := 9) lkV_RX10_283_yX10_byteAt dX10_isWordFrom_63 (k_X10_byteAt e5) rfl rfl rfl rfl (Nat.le_of_ble_eq_true rfl) (by decide) (by decide) ?_
          refine mw_goto (tgt := 71) dX10_isWordFrom_66 (by decide) ?_
          exact mw_sub (L' := [(0, .ref 69), (1, .int a1), (3, .int x3)]) [0, 1, 3] rfl (p_X10_isWordFrom_J71 ih h)
def e_X10_isWordFrom (σ : ES) (a1 : Int32) : Option Int32 := if (8 : Int32) < ((eI σ 69 26) - (eI σ 69 27)) then (e_X10_isWordFrom_L22 σ a1 mN (0 : Int32) (0 : Int32)) else (e_X10_isWordFrom_L22 σ a1 mN (1 : Int32) (0 : Int32))
set_option maxRecDepth 100000 in
set_option maxHeartbeats 4000000 in
theorem k_X10_isWordFrom {l : Launch} {σ : ES} {a1 : Int32} {out : Int32} (h : e_X10_isWordFrom σ a1 = some out) : MK l yX10_isWordFrom cX10_isWordFrom 4 (some .boolean) 2 [.ref 69, .int a1] (mkS σ) (some (.int out)) (mkS σ) := by
  unfold e_X10_isWordFrom at h
  refine mw_entry (own := RX10) (ini := false) (L := [(0, .ref 69), (1, .int a1)]) (by decide +kernel) rfl (fun h => nomatch h) rfl (Nat.le_of_ble_eq_true rfl) (Nat.le_of_ble_eq_true rfl) (fun E => ?_)
  refine mw_aload_n dX10_isWordFrom_0 0 rfl ?_
  refine ev_getI fd_RX10_277_9 dX10_isWordFrom_1 rfl rfl ?_
  refine mw_aload_n dX10_isWordFrom_4 0 rfl ?_
  refine ev_getI fd_RX10_280_9 dX10_isWordFrom_5 rfl rfl ?_
  refine mw_isub dX10_isWordFrom_8 ?_
  refine mw_bipush (v := 8) dX10_isWordFrom_9 (by decide) ?_
  refine mw_icmp_gt (tgt := 18) dX10_isWordFrom_11 (by decide) (fun hc => ?_) (fun hc => ?_)
  · have h := mit hc h
    refine mw_iconst (v := 0) dX10_isWordFrom_18 (by decide) ?_
    refine mw_istore_n (L' := [(2, .int (0 : Int32)), (0, .ref 69), (1, .int a1)]) dX10_isWordFrom_19 rfl (by decide) rfl ?_
    refine mw_iconst (v := 0) dX10_isWordFrom_20 (by decide) ?_
    refine mw_istore_n (L' := [(3, .int (0 : Int32)), (2, .int (0 : Int32)), (0, .ref 69), (1, .int a1)]) dX10_isWordFrom_21 rfl (by decide) rfl ?_
    exact mw_sub (L' := [(0, .ref 69), (1, .int a1), (2, .int (0 : Int32)), (3, .int (0 : Int32))]) [2, 3, 1, 0] rfl (p_X10_isWordFrom_L22  mN _ _ h)
  · have h := mie hc h
    refine mw_iconst (v := 1) dX10_isWordFrom_14 (by decide) ?_
    refine mw_goto (tgt := 19) dX10_isWordFrom_15 (by decide) ?_
    refine mw_istore_n (L' := [(2, .int (1 : Int32)), (0, .ref 69), (1, .int a1)]) dX10_isWordFrom_19 rfl (by decide) rfl ?_
    refine mw_iconst (v := 0) dX10_isWordFrom_20 (by decide) ?_
    refine mw_istore_n (L' := [(3, .int (0 : Int32)), (2, .int (1 : Int32)), (0, .ref 69), (1, .int a1)]) dX10_isWordFrom_21 rfl (by decide) rfl ?_
    exact mw_sub (L' := [(0, .ref 69), (1, .int a1), (2, .int (1 : Int32)), (3, .int (0 : Int32))]) [2, 3, 1, 0] rfl (p_X10_isWordFrom_L22  mN _ _ h)

theorem dX10_next_0 : decode cX10_next 0 = .ok (.aload_n 0, 1) := by decide +kernel
theorem dX10_next_1 : decode cX10_next 1 = .ok (.aload_n 0, 1) := by decide +kernel
theorem dX10_next_2 : decode cX10_next 2 = .ok (.getfield 277, 3) := by decide +kernel
theorem dX10_next_5 : decode cX10_next 5 = .ok (.invokevirtual 283, 3) := by decide +kernel
theorem dX10_next_8 : decode cX10_next 8 = .ok (.bipush 32, 2) := by decide +kernel
theorem dX10_next_10 : decode cX10_next 10 = .ok (.if_icmp .ne 16, 3) := by decide +kernel
theorem dX10_next_13 : decode cX10_next 13 = .ok (.aload_n 0, 1) := by decide +kernel
theorem dX10_next_14 : decode cX10_next 14 = .ok (.dup, 1) := by decide +kernel
theorem dX10_next_15 : decode cX10_next 15 = .ok (.getfield 277, 3) := by decide +kernel
theorem dX10_next_18 : decode cX10_next 18 = .ok (.iconst 1, 1) := by decide +kernel
theorem dX10_next_19 : decode cX10_next 19 = .ok (.iadd, 1) := by decide +kernel
theorem dX10_next_20 : decode cX10_next 20 = .ok (.putfield 277, 3) := by decide +kernel
theorem dX10_next_23 : decode cX10_next 23 = .ok (.goto (-23), 3) := by decide +kernel
theorem dX10_next_26 : decode cX10_next 26 = .ok (.aload_n 0, 1) := by decide +kernel
theorem dX10_next_27 : decode cX10_next 27 = .ok (.aload_n 0, 1) := by decide +kernel
theorem dX10_next_28 : decode cX10_next 28 = .ok (.getfield 277, 3) := by decide +kernel
theorem dX10_next_31 : decode cX10_next 31 = .ok (.putfield 280, 3) := by decide +kernel
theorem dX10_next_34 : decode cX10_next 34 = .ok (.aload_n 0, 1) := by decide +kernel
theorem dX10_next_35 : decode cX10_next 35 = .ok (.aload_n 0, 1) := by decide +kernel
theorem dX10_next_36 : decode cX10_next 36 = .ok (.getfield 277, 3) := by decide +kernel
theorem dX10_next_39 : decode cX10_next 39 = .ok (.invokevirtual 283, 3) := by decide +kernel
theorem dX10_next_42 : decode cX10_next 42 = .ok (.istore_n 1, 1) := by decide +kernel
theorem dX10_next_43 : decode cX10_next 43 = .ok (.aload_n 0, 1) := by decide +kernel
theorem dX10_next_44 : decode cX10_next 44 = .ok (.iload_n 1, 1) := by decide +kernel
theorem dX10_next_45 : decode cX10_next 45 = .ok (.ifCond .ge 7, 3) := by decide +kernel
theorem dX10_next_48 : decode cX10_next 48 = .ok (.iconst (-1), 1) := by decide +kernel
theorem dX10_next_49 : decode cX10_next 49 = .ok (.goto 15, 3) := by decide +kernel
theorem dX10_next_52 : decode cX10_next 52 = .ok (.iload_n 1, 1) := by decide +kernel
theorem dX10_next_53 : decode cX10_next 53 = .ok (.bipush 59, 2) := by decide +kernel
theorem dX10_next_55 : decode cX10_next 55 = .ok (.if_icmp .ne 7, 3) := by decide +kernel
theorem dX10_next_58 : decode cX10_next 58 = .ok (.iconst 0, 1) := by decide +kernel
theorem dX10_next_59 : decode cX10_next 59 = .ok (.goto 5, 3) := by decide +kernel
theorem dX10_next_62 : decode cX10_next 62 = .ok (.bipush (-2), 2) := by decide +kernel
theorem dX10_next_64 : decode cX10_next 64 = .ok (.putfield 286, 3) := by decide +kernel
theorem dX10_next_67 : decode cX10_next 67 = .ok (.iload_n 1, 1) := by decide +kernel
theorem dX10_next_68 : decode cX10_next 68 = .ok (.i2l, 1) := by decide +kernel
theorem dX10_next_69 : decode cX10_next 69 = .ok (.ldc2_w 289, 3) := by decide +kernel
theorem dX10_next_72 : decode cX10_next 72 = .ok (.ldc2_w 291, 3) := by decide +kernel
theorem dX10_next_75 : decode cX10_next 75 = .ok (.invokestatic 57, 3) := by decide +kernel
theorem dX10_next_78 : decode cX10_next 78 = .ok (.ifCond .eq 77, 3) := by decide +kernel
theorem dX10_next_81 : decode cX10_next 81 = .ok (.aload_n 0, 1) := by decide +kernel
theorem dX10_next_82 : decode cX10_next 82 = .ok (.aload_n 0, 1) := by decide +kernel
theorem dX10_next_83 : decode cX10_next 83 = .ok (.getfield 277, 3) := by decide +kernel
theorem dX10_next_86 : decode cX10_next 86 = .ok (.invokevirtual 283, 3) := by decide +kernel
theorem dX10_next_89 : decode cX10_next 89 = .ok (.i2l, 1) := by decide +kernel
theorem dX10_next_90 : decode cX10_next 90 = .ok (.ldc2_w 289, 3) := by decide +kernel
theorem dX10_next_93 : decode cX10_next 93 = .ok (.ldc2_w 291, 3) := by decide +kernel
theorem dX10_next_96 : decode cX10_next 96 = .ok (.invokestatic 57, 3) := by decide +kernel
theorem dX10_next_99 : decode cX10_next 99 = .ok (.ifCond .eq 16, 3) := by decide +kernel
theorem dX10_next_102 : decode cX10_next 102 = .ok (.aload_n 0, 1) := by decide +kernel
theorem dX10_next_103 : decode cX10_next 103 = .ok (.dup, 1) := by decide +kernel
theorem dX10_next_104 : decode cX10_next 104 = .ok (.getfield 277, 3) := by decide +kernel
theorem dX10_next_107 : decode cX10_next 107 = .ok (.iconst 1, 1) := by decide +kernel
theorem dX10_next_108 : decode cX10_next 108 = .ok (.iadd, 1) := by decide +kernel
theorem dX10_next_109 : decode cX10_next 109 = .ok (.putfield 277, 3) := by decide +kernel
theorem dX10_next_112 : decode cX10_next 112 = .ok (.goto (-31), 3) := by decide +kernel
theorem dX10_next_115 : decode cX10_next 115 = .ok (.iconst 0, 1) := by decide +kernel
theorem dX10_next_116 : decode cX10_next 116 = .ok (.istore_n 2, 1) := by decide +kernel
theorem dX10_next_117 : decode cX10_next 117 = .ok (.iload_n 2, 1) := by decide +kernel
theorem dX10_next_118 : decode cX10_next 118 = .ok (.bipush 13, 2) := by decide +kernel
theorem dX10_next_120 : decode cX10_next 120 = .ok (.if_icmp .ge 32, 3) := by decide +kernel
theorem dX10_next_123 : decode cX10_next 123 = .ok (.aload_n 0, 1) := by decide +kernel
theorem dX10_next_124 : decode cX10_next 124 = .ok (.aload_n 0, 1) := by decide +kernel
theorem dX10_next_125 : decode cX10_next 125 = .ok (.iload_n 2, 1) := by decide +kernel
theorem dX10_next_126 : decode cX10_next 126 = .ok (.invokevirtual 293, 3) := by decide +kernel
theorem dX10_next_129 : decode cX10_next 129 = .ok (.ifCond .eq 10, 3) := by decide +kernel
theorem dX10_next_132 : decode cX10_next 132 = .ok (.bipush 10, 2) := by decide +kernel
theorem dX10_next_134 : decode cX10_next 134 = .ok (.iload_n 2, 1) := by decide +kernel
theorem dX10_next_135 : decode cX10_next 135 = .ok (.iadd, 1) := by decide +kernel
theorem dX10_next_136 : decode cX10_next 136 = .ok (.goto 7, 3) := by decide +kernel
theorem dX10_next_139 : decode cX10_next 139 = .ok (.aload_n 0, 1) := by decide +kernel
theorem dX10_next_140 : decode cX10_next 140 = .ok (.getfield 286, 3) := by decide +kernel
theorem dX10_next_143 : decode cX10_next 143 = .ok (.putfield 286, 3) := by decide +kernel
theorem dX10_next_146 : decode cX10_next 146 = .ok (.iinc 2 1, 3) := by decide +kernel
theorem dX10_next_149 : decode cX10_next 149 = .ok (.goto (-32), 3) := by decide +kernel
theorem dX10_next_152 : decode cX10_next 152 = .ok (.goto 133, 3) := by decide +kernel
theorem dX10_next_155 : decode cX10_next 155 = .ok (.iload_n 1, 1) := by decide +kernel
theorem dX10_next_156 : decode cX10_next 156 = .ok (.i2l, 1) := by decide +kernel
theorem dX10_next_157 : decode cX10_next 157 = .ok (.ldc2_w 296, 3) := by decide +kernel
theorem dX10_next_160 : decode cX10_next 160 = .ok (.ldc2_w 298, 3) := by decide +kernel
theorem dX10_next_163 : decode cX10_next 163 = .ok (.invokestatic 57, 3) := by decide +kernel
theorem dX10_next_166 : decode cX10_next 166 = .ok (.ifCond .eq 105, 3) := by decide +kernel
theorem dX10_next_169 : decode cX10_next 169 = .ok (.aload_n 0, 1) := by decide +kernel
theorem dX10_next_170 : decode cX10_next 170 = .ok (.iconst 0, 1) := by decide +kernel
theorem dX10_next_171 : decode cX10_next 171 = .ok (.putfield 300, 3) := by decide +kernel
theorem dX10_next_174 : decode cX10_next 174 = .ok (.aload_n 0, 1) := by decide +kernel
theorem dX10_next_175 : decode cX10_next 175 = .ok (.aload_n 0, 1) := by decide +kernel
theorem dX10_next_176 : decode cX10_next 176 = .ok (.getfield 277, 3) := by decide +kernel
theorem dX10_next_179 : decode cX10_next 179 = .ok (.invokevirtual 283, 3) := by decide +kernel
theorem dX10_next_182 : decode cX10_next 182 = .ok (.i2l, 1) := by decide +kernel
theorem dX10_next_183 : decode cX10_next 183 = .ok (.ldc2_w 296, 3) := by decide +kernel
theorem dX10_next_186 : decode cX10_next 186 = .ok (.ldc2_w 298, 3) := by decide +kernel
theorem dX10_next_189 : decode cX10_next 189 = .ok (.invokestatic 57, 3) := by decide +kernel
theorem dX10_next_192 : decode cX10_next 192 = .ok (.ifCond .eq 56, 3) := by decide +kernel
theorem dX10_next_195 : decode cX10_next 195 = .ok (.aload_n 0, 1) := by decide +kernel
theorem dX10_next_196 : decode cX10_next 196 = .ok (.aload_n 0, 1) := by decide +kernel
theorem dX10_next_197 : decode cX10_next 197 = .ok (.getfield 300, 3) := by decide +kernel
theorem dX10_next_200 : decode cX10_next 200 = .ok (.ldc_w 303, 3) := by decide +kernel
theorem dX10_next_203 : decode cX10_next 203 = .ok (.if_icmp .le 10, 3) := by decide +kernel
theorem dX10_next_206 : decode cX10_next 206 = .ok (.aload_n 0, 1) := by decide +kernel
theorem dX10_next_207 : decode cX10_next 207 = .ok (.getfield 300, 3) := by decide +kernel
theorem dX10_next_210 : decode cX10_next 210 = .ok (.goto 22, 3) := by decide +kernel
theorem dX10_next_213 : decode cX10_next 213 = .ok (.bipush 10, 2) := by decide +kernel
theorem dX10_next_215 : decode cX10_next 215 = .ok (.aload_n 0, 1) := by decide +kernel
theorem dX10_next_216 : decode cX10_next 216 = .ok (.getfield 300, 3) := by decide +kernel
theorem dX10_next_219 : decode cX10_next 219 = .ok (.imul, 1) := by decide +kernel
theorem dX10_next_220 : decode cX10_next 220 = .ok (.aload_n 0, 1) := by decide +kernel
theorem dX10_next_221 : decode cX10_next 221 = .ok (.aload_n 0, 1) := by decide +kernel
theorem dX10_next_222 : decode cX10_next 222 = .ok (.getfield 277, 3) := by decide +kernel
theorem dX10_next_225 : decode cX10_next 225 = .ok (.invokevirtual 283, 3) := by decide +kernel
theorem dX10_next_228 : decode cX10_next 228 = .ok (.iadd, 1) := by decide +kernel
theorem dX10_next_229 : decode cX10_next 229 = .ok (.bipush 48, 2) := by decide +kernel
theorem dX10_next_231 : decode cX10_next 231 = .ok (.isub, 1) := by decide +kernel
theorem dX10_next_232 : decode cX10_next 232 = .ok (.putfield 300, 3) := by decide +kernel
theorem dX10_next_235 : decode cX10_next 235 = .ok (.aload_n 0, 1) := by decide +kernel
theorem dX10_next_236 : decode cX10_next 236 = .ok (.dup, 1) := by decide +kernel
theorem dX10_next_237 : decode cX10_next 237 = .ok (.getfield 277, 3) := by decide +kernel
theorem dX10_next_240 : decode cX10_next 240 = .ok (.iconst 1, 1) := by decide +kernel
theorem dX10_next_241 : decode cX10_next 241 = .ok (.iadd, 1) := by decide +kernel
theorem dX10_next_242 : decode cX10_next 242 = .ok (.putfield 277, 3) := by decide +kernel
theorem dX10_next_245 : decode cX10_next 245 = .ok (.goto (-71), 3) := by decide +kernel
theorem dX10_next_248 : decode cX10_next 248 = .ok (.aload_n 0, 1) := by decide +kernel
theorem dX10_next_249 : decode cX10_next 249 = .ok (.aload_n 0, 1) := by decide +kernel
theorem dX10_next_250 : decode cX10_next 250 = .ok (.getfield 300, 3) := by decide +kernel
theorem dX10_next_253 : decode cX10_next 253 = .ok (.ldc_w 303, 3) := by decide +kernel
theorem dX10_next_256 : decode cX10_next 256 = .ok (.if_icmp .le 8, 3) := by decide +kernel
theorem dX10_next_259 : decode cX10_next 259 = .ok (.bipush (-2), 2) := by decide +kernel
theorem dX10_next_261 : decode cX10_next 261 = .ok (.goto 4, 3) := by decide +kernel
theorem dX10_next_264 : decode cX10_next 264 = .ok (.iconst 1, 1) := by decide +kernel
theorem dX10_next_265 : decode cX10_next 265 = .ok (.putfield 286, 3) := by decide +kernel
theorem dX10_next_268 : decode cX10_next 268 = .ok (.goto 17, 3) := by decide +kernel
theorem dX10_next_271 : decode cX10_next 271 = .ok (.iload_n 1, 1) := by decide +kernel
theorem dX10_next_272 : decode cX10_next 272 = .ok (.ifCond .lt 13, 3) := by decide +kernel
theorem dX10_next_275 : decode cX10_next 275 = .ok (.aload_n 0, 1) := by decide +kernel
theorem dX10_next_276 : decode cX10_next 276 = .ok (.dup, 1) := by decide +kernel
theorem dX10_next_277 : decode cX10_next 277 = .ok (.getfield 277, 3) := by decide +kernel
theorem dX10_next_280 : decode cX10_next 280 = .ok (.iconst 1, 1) := by decide +kernel
theorem dX10_next_281 : decode cX10_next 281 = .ok (.iadd, 1) := by decide +kernel
theorem dX10_next_282 : decode cX10_next 282 = .ok (.putfield 277, 3) := by decide +kernel
theorem dX10_next_285 : decode cX10_next 285 = .ok (.return_, 1) := by decide +kernel
def e_X10_next_L117  : Nat → Int32 → ES → Option ES
  | 0, _, _ => none
  | n + 1, x2, σ => if (13 : Int32) ≤ x2 then (some σ) else ((e_X10_isWordFrom σ x2).bind (fun r1 => if r1 = 0 then (e_X10_next_L117 n (x2 + 1) (uI σ 69 28 (eI σ 69 28))) else (e_X10_next_L117 n (x2 + 1) (uI σ 69 28 ((10 : Int32) + x2)))))
set_option maxRecDepth 100000 in
set_option maxHeartbeats 4000000 in
theorem p_X10_next_L117 {l : Launch} {E : MX} {out : ES}   : ∀ (n : Nat) (x2 : Int32) (σ : ES), e_X10_next_L117 n x2 σ = some out → MV l E cX10_next RX10 3 none 3 (82, none, mkS out) (mkS σ) 117 [(0, .ref 69), (2, .int x2)] [] := by
  intro n
  induction n with
  | zero =>
    intro x2 σ h
    exact nomatch h
  | succ n ih =>
    intro x2 σ h
    rw [e_X10_next_L117] at h
    refine mw_iload_n dX10_next_117 1 rfl ?_
    refine mw_bipush (v := 13) dX10_next_118 (by decide) ?_
    refine mw_icmp_ge (tgt := 152) dX10_next_120 (by decide) (fun hc => ?_) (fun hc => ?_)
    · have h := mit hc h
      refine mw_goto (tgt := 285) dX10_next_152 (by decide) ?_
      exact mw_vret dX10_next_285 rfl (ers_vm h) rfl rfl
    · have h := mie hc h
      refine mw_aload_n dX10_next_123 0 rfl ?_
      refine mw_aload_n dX10_next_124 0 rfl ?_
      refine mw_iload_n dX10_next_125 1 rfl ?_
      obtain ⟨r1, e2, h⟩ := mbd h
      refine mv_callV_i (As := [.int x2]) (ci := 9) lkV_RX10_293_yX10_isWordFrom dX10_next_126 (k_X10_isWordFrom e2) rfl rfl rfl rfl (Nat.le_of_ble_eq_true rfl) (by decide) (by decide) ?_
      refine mw_if_eq (tgt := 139) dX10_next_129 (by decide) (fun hc => ?_) (fun hc => ?_)
      · have h := mit hc h
        refine mw_aload_n dX10_next_139 0 rfl ?_
        refine ev_getI fd_RX10_286_9 dX10_next_140 rfl rfl ?_
        refine ev_putI fw_RX10_286_9 dX10_next_143 rfl rfl ?_
        refine mw_iinc (v := (x2 + 1)) (L' := [(2, .int (x2 + 1)), (0, .ref 69)]) dX10_next_146 1 rfl rfl (by decide) rfl ?_
        refine mw_goto (tgt := 117) dX10_next_149 (by decide) ?_
        exact mw_sub (L' := [(0, .ref 69), (2, .int (x2 + 1))]) [1, 0] rfl (ih _ _ h)
      · have h := mie hc h
        refine mw_bipush (v := 10) dX10_next_132 (by decide) ?_
        refine mw_iload_n dX10_next_134 1 rfl ?_
        refine mw_iadd dX10_next_135 ?_
        refine mw_goto (tgt := 143) dX10_next_136 (by decide) ?_
        refine ev_putI fw_RX10_286_9 dX10_next_143 rfl rfl ?_
        refine mw_iinc (v := (x2 + 1)) (L' := [(2, .int (x2 + 1)), (0, .ref 69)]) dX10_next_146 1 rfl rfl (by decide) rfl ?_
        refine mw_goto (tgt := 117) dX10_next_149 (by decide) ?_
        exact mw_sub (L' := [(0, .ref 69), (2, .int (x2 + 1))]) [1, 0] rfl (ih _ _ h)
def e_X10_next_L81  : Nat → ES → Option ES
  | 0, _ => none
  | n + 1, σ => (e_X10_byteAt σ (eI σ 69 26)).bind (fun r1 => (e_X10_in r1.toInt64 (97 : Int64) (122 : Int64)).bind (fun r3 => if r3 = 0 then (e_X10_next_L117 mN (0 : Int32) σ) else (e_X10_next_L81 n (uI σ 69 26 ((eI σ 69 26) + (1 : Int32))))))
set_option maxRecDepth 100000 in
set_option maxHeartbeats 4000000 in
theorem p_X10_next_L81 {l : Launch} {E : MX} {out : ES}   : ∀ (n : Nat) (σ : ES), e_X10_next_L81 n σ = some out → MV l E cX10_next RX10 3 none 3 (82, none, mkS out) (mkS σ) 81 [(0, .ref 69)] [] := by
  intro n
  induction n with
  | zero =>
    intro σ h
    exact nomatch h
  | succ n ih =>
    intro σ h
    rw [e_X10_next_L81] at h
    refine mw_aload_n dX10_next_81 0 rfl ?_
    refine mw_aload_n dX10_next_82 0 rfl ?_
    refine ev_getI fd_RX10_277_9 dX10_next_83 rfl rfl ?_
    obtain ⟨r1, e2, h⟩ := mbd h
    refine mv_callV_i (As := [.int (eI σ 69 26)]) (ci := 9) lkV_RX10_283_yX10_byteAt dX10_next_86 (k_X10_byteAt e2) rfl rfl rfl rfl (Nat.le_of_ble_eq_true rfl) (by decide) (by decide) ?_
    refine mw_i2l dX10_next_89 ?_
    refine mw_ldc2 dX10_next_90 wt_793 ?_
    refine mw_ldc2 dX10_next_93 wt_794 ?_
    obtain ⟨r3, e4, h⟩ := mbd h
    refine mv_callS_i (As := [.long r1.toInt64, .long (97 : Int64), .long (122 : Int64)]) lkS_RX10_57_yX10_in dX10_next_96 (k_X10_in e4) rfl rfl (Nat.le_of_ble_eq_true rfl) (by decide) (by decide) ?_
    refine mw_if_eq (tgt := 115) dX10_next_99 (by decide) (fun hc => ?_) (fun hc => ?_)
    · have h := mit hc h
      refine mw_iconst (v := 0) dX10_next_115 (by decide) ?_
      refine mw_istore_n (L' := [(2, .int (0 : Int32)), (0, .ref 69)]) dX10_next_116 rfl (by decide) rfl ?_
      exact mw_sub (L' := [(0, .ref 69), (2, .int (0 : Int32))]) [1, 0] rfl (p_X10_next_L117  mN _ _ h)
    · have h := mie hc h
      refine mw_aload_n dX10_next_102 0 rfl ?_
      refine mw_dup dX10_next_103 rfl ?_
      refine ev_getI fd_RX10_277_9 dX10_next_104 rfl rfl ?_
      refine mw_iconst (v := 1) dX10_next_107 (by decide) ?_
      refine mw_iadd dX10_next_108 ?_
      refine ev_putI fw_RX10_277_9 dX10_next_109 rfl rfl ?_
      refine mw_goto (tgt := 81) dX10_next_112 (by decide) ?_
      exact mw_sub (L' := [(0, .ref 69)]) [0] rfl (ih _ h)
def e_X10_next_J232 (k174 : ES → Option ES) (s1 : Int32) (σ : ES) : Option ES := k174 (uI (uI σ 69 29 s1) 69 26 ((eI (uI σ 69 29 s1) 69 26) + (1 : Int32)))
set_option maxRecDepth 100000 in
set_option maxHeartbeats 4000000 in
theorem p_X10_next_J232 {l : Launch} {E : MX} {out : ES} {k174 : ES → Option ES} (hk174 : ∀  (τ : ES), k174 τ = some out → MV l E cX10_next RX10 3 none 3 (82, none, mkS out) (mkS τ) 174 [(0, .ref 69)] []) {s1 : Int32} {σ : ES} (h : e_X10_next_J232 k174 s1 σ = some out) : MV l E cX10_next RX10 3 none 3 (82, none, mkS out) (mkS σ) 232 [(0, .ref 69)] [.int s1, .ref 69] := by
  unfold e_X10_next_J232 at h
  refine ev_putI fw_RX10_300_9 dX10_next_232 rfl rfl ?_
  refine mw_aload_n dX10_next_235 0 rfl ?_
  refine mw_dup dX10_next_236 rfl ?_
  refine ev_getI fd_RX10_277_9 dX10_next_237 rfl rfl ?_
  refine mw_iconst (v := 1) dX10_next_240 (by decide) ?_
  refine mw_iadd dX10_next_241 ?_
  refine ev_putI fw_RX10_277_9 dX10_next_242 rfl rfl ?_
  refine mw_goto (tgt := 174) dX10_next_245 (by decide) ?_
  exact mw_sub (L' := [(0, .ref 69)]) [0] rfl (hk174 _ h)
def e_X10_next_L174  : Nat → ES → Option ES
  | 0, _ => none
  | n + 1, σ => (e_X10_byteAt σ (eI σ 69 26)).bind (fun r1 => (e_X10_in r1.toInt64 (48 : Int64) (57 : Int64)).bind (fun r3 => if r3 = 0 then (if (eI σ 69 29) ≤ (999999 : Int32) then (some (uI σ 69 28 (1 : Int32))) else (some (uI σ 69 28 (-2 : Int32)))) else (if (eI σ 69 29) ≤ (999999 : Int32) then ((e_X10_byteAt σ (eI σ 69 26)).bind (fun r5 => e_X10_next_J232 (e_X10_next_L174 n) ((((10 : Int32) * (eI σ 69 29)) + r5) - (48 : Int32)) σ)) else (e_X10_next_J232 (e_X10_next_L174 n) (eI σ 69 29) σ))))
set_option maxRecDepth 100000 in
set_option maxHeartbeats 4000000 in
theorem p_X10_next_L174 {l : Launch} {E : MX} {out : ES}   : ∀ (n : Nat) (σ : ES), e_X10_next_L174 n σ = some out → MV l E cX10_next RX10 3 none 3 (82, none, mkS out) (mkS σ) 174 [(0, .ref 69)] [] := by
  intro n
  induction n with
  | zero =>
    intro σ h
    exact nomatch h
  | succ n ih =>
    intro σ h
    rw [e_X10_next_L174] at h
    refine mw_aload_n dX10_next_174 0 rfl ?_
    refine mw_aload_n dX10_next_175 0 rfl ?_
    refine ev_getI fd_RX10_277_9 dX10_next_176 rfl rfl ?_
    obtain ⟨r1, e2, h⟩ := mbd h
    refine mv_callV_i (As := [.int (eI σ 69 26)]) (ci := 9) lkV_RX10_283_yX10_byteAt dX10_next_179 (k_X10_byteAt e2) rfl rfl rfl rfl (Nat.le_of_ble_eq_true rfl) (by decide) (by decide) ?_
    refine mw_i2l dX10_next_182 ?_
    refine mw_ldc2 dX10_next_183 wt_796 ?_
    refine mw_ldc2 dX10_next_186 wt_797 ?_
    obtain ⟨r3, e4, h⟩ := mbd h
    refine mv_callS_i (As := [.long r1.toInt64, .long (48 : Int64), .long (57 : Int64)]) lkS_RX10_57_yX10_in dX10_next_189 (k_X10_in e4) rfl rfl (Nat.le_of_ble_eq_true rfl) (by decide) (by decide) ?_
    refine mw_if_eq (tgt := 248) dX10_next_192 (by decide) (fun hc => ?_) (fun hc => ?_)
    · have h := mit hc h
      refine mw_aload_n dX10_next_248 0 rfl ?_
      refine mw_aload_n dX10_next_249 0 rfl ?_
      refine ev_getI fd_RX10_300_9 dX10_next_250 rfl rfl ?_
      refine mw_ldcw dX10_next_253 wt_798 ?_
      refine mw_icmp_le (tgt := 264) dX10_next_256 (by decide) (fun hc => ?_) (fun hc => ?_)
      · have h := mit hc h
        refine mw_iconst (v := 1) dX10_next_264 (by decide) ?_
        refine ev_putI fw_RX10_286_9 dX10_next_265 rfl rfl ?_
        refine mw_goto (tgt := 285) dX10_next_268 (by decide) ?_
        exact mw_vret dX10_next_285 rfl (ers_vm h) rfl rfl
      · have h := mie hc h
        refine mw_bipush (v := -2) dX10_next_259 (by decide) ?_
        refine mw_goto (tgt := 265) dX10_next_261 (by decide) ?_
        refine ev_putI fw_RX10_286_9 dX10_next_265 rfl rfl ?_
        refine mw_goto (tgt := 285) dX10_next_268 (by decide) ?_
        exact mw_vret dX10_next_285 rfl (ers_vm h) rfl rfl
    · have h := mie hc h
      refine mw_aload_n dX10_next_195 0 rfl ?_
      refine mw_aload_n dX10_next_196 0 rfl ?_
      refine ev_getI fd_RX10_300_9 dX10_next_197 rfl rfl ?_
      refine mw_ldcw dX10_next_200 wt_798 ?_
      refine mw_icmp_le (tgt := 213) dX10_next_203 (by decide) (fun hc => ?_) (fun hc => ?_)
      · have h := mit hc h
        refine mw_bipush (v := 10) dX10_next_213 (by decide) ?_
        refine mw_aload_n dX10_next_215 0 rfl ?_
        refine ev_getI fd_RX10_300_9 dX10_next_216 rfl rfl ?_
        refine mw_imul dX10_next_219 ?_
        refine mw_aload_n dX10_next_220 0 rfl ?_
        refine mw_aload_n dX10_next_221 0 rfl ?_
        refine ev_getI fd_RX10_277_9 dX10_next_222 rfl rfl ?_
        obtain ⟨r5, e6, h⟩ := mbd h
        refine mv_callV_i (As := [.int (eI σ 69 26)]) (ci := 9) lkV_RX10_283_yX10_byteAt dX10_next_225 (k_X10_byteAt e6) rfl rfl rfl rfl (Nat.le_of_ble_eq_true rfl) (by decide) (by decide) ?_
        refine mw_iadd dX10_next_228 ?_
        refine mw_bipush (v := 48) dX10_next_229 (by decide) ?_
        refine mw_isub dX10_next_231 ?_
        exact mw_sub (L' := [(0, .ref 69)]) [0] rfl (p_X10_next_J232 ih h)
      · have h := mie hc h
        refine mw_aload_n dX10_next_206 0 rfl ?_
        refine ev_getI fd_RX10_300_9 dX10_next_207 rfl rfl ?_
        refine mw_goto (tgt := 232) dX10_next_210 (by decide) ?_
        exact mw_sub (L' := [(0, .ref 69)]) [0] rfl (p_X10_next_J232 ih h)
def e_X10_next_J64 (x1 : Int32) (s1 : Int32) (σ : ES) : Option ES := (e_X10_in x1.toInt64 (97 : Int64) (122 : Int64)).bind (fun r1 => if r1 = 0 then ((e_X10_in x1.toInt64 (48 : Int64) (57 : Int64)).bind (fun r3 => if r3 = 0 then (if x1 < 0 then (some (uI σ 69 28 s1)) else (some (uI (uI σ 69 28 s1) 69 26 ((eI (uI σ 69 28 s1) 69 26) + (1 : Int32))))) else (e_X10_next_L174 mN (uI (uI σ 69 28 s1) 69 29 (0 : Int32))))) else (e_X10_next_L81 mN (uI σ 69 28 s1)))
set_option maxRecDepth 100000 in
set_option maxHeartbeats 4000000 in
theorem p_X10_next_J64 {l : Launch} {E : MX} {out : ES}   {x1 : Int32} {s1 : Int32} {σ : ES} (h : e_X10_next_J64 x1 s1 σ = some out) : MV l E cX10_next RX10 3 none 3 (82, none, mkS out) (mkS σ) 64 [(0, .ref 69), (1, .int x1)] [.int s1, .ref 69] := by
  unfold e_X10_next_J64 at h
  refine ev_putI fw_RX10_286_9 dX10_next_64 rfl rfl ?_
  refine mw_iload_n dX10_next_67 1 rfl ?_
  refine mw_i2l dX10_next_68 ?_
  refine mw_ldc2 dX10_next_69 wt_793 ?_
  refine mw_ldc2 dX10_next_72 wt_794 ?_
  obtain ⟨r1, e2, h⟩ := mbd h
  refine mv_callS_i (As := [.long x1.toInt64, .long (97 : Int64), .long (122 : Int64)]) lkS_RX10_57_yX10_in dX10_next_75 (k_X10_in e2) rfl rfl (Nat.le_of_ble_eq_true rfl) (by decide) (by decide) ?_
  refine mw_if_eq (tgt := 155) dX10_next_78 (by decide) (fun hc => ?_) (fun hc => ?_)
  · have h := mit hc h
    refine mw_iload_n dX10_next_155 1 rfl ?_
    refine mw_i2l dX10_next_156 ?_
    refine mw_ldc2 dX10_next_157 wt_796 ?_
    refine mw_ldc2 dX10_next_160 wt_797 ?_
    obtain ⟨r3, e4, h⟩ := mbd h
    refine mv_callS_i (As := [.long x1.toInt64, .long (48 : Int64), .long (57 : Int64)]) lkS_RX10_57_yX10_in dX10_next_163 (k_X10_in e4) rfl rfl (Nat.le_of_ble_eq_true rfl) (by decide) (by decide) ?_
    refine mw_if_eq (tgt := 271) dX10_next_166 (by decide) (fun hc => ?_) (fun hc => ?_)
    · have h := mit hc h
      refine mw_iload_n dX10_next_271 1 rfl ?_
      refine mw_if_lt (tgt := 285) dX10_next_272 (by decide) (fun hc => ?_) (fun hc => ?_)
      · have h := mit hc h
        exact mw_vret dX10_next_285 rfl (ers_vm h) rfl rfl
      · have h := mie hc h
        refine mw_aload_n dX10_next_275 0 rfl ?_
        refine mw_dup dX10_next_276 rfl ?_
        refine ev_getI fd_RX10_277_9 dX10_next_277 rfl rfl ?_
        refine mw_iconst (v := 1) dX10_next_280 (by decide) ?_
        refine mw_iadd dX10_next_281 ?_
        refine ev_putI fw_RX10_277_9 dX10_next_282 rfl rfl ?_
        exact mw_vret dX10_next_285 rfl (ers_vm h) rfl rfl
    · have h := mie hc h
      refine mw_aload_n dX10_next_169 0 rfl ?_
      refine mw_iconst (v := 0) dX10_next_170 (by decide) ?_
      refine ev_putI fw_RX10_300_9 dX10_next_171 rfl rfl ?_
      exact mw_sub (L' := [(0, .ref 69)]) [0] rfl (p_X10_next_L174  mN _ h)
  · have h := mie hc h
    exact mw_sub (L' := [(0, .ref 69)]) [0] rfl (p_X10_next_L81  mN _ h)
def e_X10_next_L0  : Nat → ES → Option ES
  | 0, _ => none
  | n + 1, σ => (e_X10_byteAt σ (eI σ 69 26)).bind (fun r1 => if r1 = (32 : Int32) then (e_X10_next_L0 n (uI σ 69 26 ((eI σ 69 26) + (1 : Int32)))) else ((e_X10_byteAt (uI σ 69 27 (eI σ 69 26)) (eI (uI σ 69 27 (eI σ 69 26)) 69 26)).bind (fun r3 => if 0 ≤ r3 then (if r3 = (59 : Int32) then (e_X10_next_J64 r3 (0 : Int32) (uI σ 69 27 (eI σ 69 26))) else (e_X10_next_J64 r3 (-2 : Int32) (uI σ 69 27 (eI σ 69 26)))) else (e_X10_next_J64 r3 (-1 : Int32) (uI σ 69 27 (eI σ 69 26))))))
set_option maxRecDepth 100000 in
set_option maxHeartbeats 4000000 in
theorem p_X10_next_L0 {l : Launch} {E : MX} {out : ES}   : ∀ (n : Nat) (σ : ES), e_X10_next_L0 n σ = some out → MV l E cX10_next RX10 3 none 3 (82, none, mkS out) (mkS σ) 0 [(0, .ref 69)] [] := by
  intro n
  induction n with
  | zero =>
    intro σ h
    exact nomatch h
  | succ n ih =>
    intro σ h
    rw [e_X10_next_L0] at h
    refine mw_aload_n dX10_next_0 0 rfl ?_
    refine mw_aload_n dX10_next_1 0 rfl ?_
    refine ev_getI fd_RX10_277_9 dX10_next_2 rfl rfl ?_
    obtain ⟨r1, e2, h⟩ := mbd h
    refine mv_callV_i (As := [.int (eI σ 69 26)]) (ci := 9) lkV_RX10_283_yX10_byteAt dX10_next_5 (k_X10_byteAt e2) rfl rfl rfl rfl (Nat.le_of_ble_eq_true rfl) (by decide) (by decide) ?_
    refine mw_bipush (v := 32) dX10_next_8 (by decide) ?_
    refine mw_icmp_ne (tgt := 26) dX10_next_10 (by decide) (fun hc => ?_) (fun hc => ?_)
    · have h := mie hc h
      refine mw_aload_n dX10_next_26 0 rfl ?_
      refine mw_aload_n dX10_next_27 0 rfl ?_
      refine ev_getI fd_RX10_277_9 dX10_next_28 rfl rfl ?_
      refine ev_putI fw_RX10_280_9 dX10_next_31 rfl rfl ?_
      refine mw_aload_n dX10_next_34 0 rfl ?_
      refine mw_aload_n dX10_next_35 0 rfl ?_
      refine ev_getI fd_RX10_277_9 dX10_next_36 rfl rfl ?_
      obtain ⟨r3, e4, h⟩ := mbd h
      refine mv_callV_i (As := [.int (eI (uI σ 69 27 (eI σ 69 26)) 69 26)]) (ci := 9) lkV_RX10_283_yX10_byteAt dX10_next_39 (k_X10_byteAt e4) rfl rfl rfl rfl (Nat.le_of_ble_eq_true rfl) (by decide) (by decide) ?_
      refine mw_istore_n (L' := [(1, .int r3), (0, .ref 69)]) dX10_next_42 rfl (by decide) rfl ?_
      refine mw_aload_n dX10_next_43 1 rfl ?_
      refine mw_iload_n dX10_next_44 0 rfl ?_
      refine mw_if_ge (tgt := 52) dX10_next_45 (by decide) (fun hc => ?_) (fun hc => ?_)
      · have h := mit hc h
        refine mw_iload_n dX10_next_52 0 rfl ?_
        refine mw_bipush (v := 59) dX10_next_53 (by decide) ?_
        refine mw_icmp_ne (tgt := 62) dX10_next_55 (by decide) (fun hc => ?_) (fun hc => ?_)
        · have h := mie hc h
          refine mw_bipush (v := -2) dX10_next_62 (by decide) ?_
          exact mw_sub (L' := [(0, .ref 69), (1, .int r3)]) [1, 0] rfl (p_X10_next_J64  h)
        · have h := mit hc h
          refine mw_iconst (v := 0) dX10_next_58 (by decide) ?_
          refine mw_goto (tgt := 64) dX10_next_59 (by decide) ?_
          exact mw_sub (L' := [(0, .ref 69), (1, .int r3)]) [1, 0] rfl (p_X10_next_J64  h)
      · have h := mie hc h
        refine mw_iconst (v := -1) dX10_next_48 (by decide) ?_
        refine mw_goto (tgt := 64) dX10_next_49 (by decide) ?_
        exact mw_sub (L' := [(0, .ref 69), (1, .int r3)]) [1, 0] rfl (p_X10_next_J64  h)
    · have h := mit hc h
      refine mw_aload_n dX10_next_13 0 rfl ?_
      refine mw_dup dX10_next_14 rfl ?_
      refine ev_getI fd_RX10_277_9 dX10_next_15 rfl rfl ?_
      refine mw_iconst (v := 1) dX10_next_18 (by decide) ?_
      refine mw_iadd dX10_next_19 ?_
      refine ev_putI fw_RX10_277_9 dX10_next_20 rfl rfl ?_
      refine mw_goto (tgt := 0) dX10_next_23 (by decide) ?_
      exact mw_sub (L' := [(0, .ref 69)]) [0] rfl (ih _ h)
def e_X10_next (σ : ES) : Option ES := (e_X10_byteAt σ (eI σ 69 26)).bind (fun r1 => if r1 = (32 : Int32) then (e_X10_next_L0 mN (uI σ 69 26 ((eI σ 69 26) + (1 : Int32)))) else ((e_X10_byteAt (uI σ 69 27 (eI σ 69 26)) (eI (uI σ 69 27 (eI σ 69 26)) 69 26)).bind (fun r3 => if 0 ≤ r3 then (if r3 = (59 : Int32) then (e_X10_next_J64 r3 (0 : Int32) (uI σ 69 27 (eI σ 69 26))) else (e_X10_next_J64 r3 (-2 : Int32) (uI σ 69 27 (eI σ 69 26)))) else (e_X10_next_J64 r3 (-1 : Int32) (uI σ 69 27 (eI σ 69 26))))))
set_option maxRecDepth 100000 in
set_option maxHeartbeats 4000000 in
theorem k_X10_next {l : Launch} {σ : ES}  {out : ES} (h : e_X10_next σ = some out) : MK l yX10_next cX10_next 3 none 3 [.ref 69] (mkS σ) none (mkS out) := by
  unfold e_X10_next at h
  refine mw_entry (own := RX10) (ini := false) (L := [(0, .ref 69)]) (by decide +kernel) rfl (fun h => nomatch h) rfl (Nat.le_of_ble_eq_true rfl) (Nat.le_of_ble_eq_true rfl) (fun E => ?_)
  refine mw_aload_n dX10_next_0 0 rfl ?_
  refine mw_aload_n dX10_next_1 0 rfl ?_
  refine ev_getI fd_RX10_277_9 dX10_next_2 rfl rfl ?_
  obtain ⟨r1, e2, h⟩ := mbd h
  refine mv_callV_i (As := [.int (eI σ 69 26)]) (ci := 9) lkV_RX10_283_yX10_byteAt dX10_next_5 (k_X10_byteAt e2) rfl rfl rfl rfl (Nat.le_of_ble_eq_true rfl) (by decide) (by decide) ?_
  refine mw_bipush (v := 32) dX10_next_8 (by decide) ?_
  refine mw_icmp_ne (tgt := 26) dX10_next_10 (by decide) (fun hc => ?_) (fun hc => ?_)
  · have h := mie hc h
    refine mw_aload_n dX10_next_26 0 rfl ?_
    refine mw_aload_n dX10_next_27 0 rfl ?_
    refine ev_getI fd_RX10_277_9 dX10_next_28 rfl rfl ?_
    refine ev_putI fw_RX10_280_9 dX10_next_31 rfl rfl ?_
    refine mw_aload_n dX10_next_34 0 rfl ?_
    refine mw_aload_n dX10_next_35 0 rfl ?_
    refine ev_getI fd_RX10_277_9 dX10_next_36 rfl rfl ?_
    obtain ⟨r3, e4, h⟩ := mbd h
    refine mv_callV_i (As := [.int (eI (uI σ 69 27 (eI σ 69 26)) 69 26)]) (ci := 9) lkV_RX10_283_yX10_byteAt dX10_next_39 (k_X10_byteAt e4) rfl rfl rfl rfl (Nat.le_of_ble_eq_true rfl) (by decide) (by decide) ?_
    refine mw_istore_n (L' := [(1, .int r3), (0, .ref 69)]) dX10_next_42 rfl (by decide) rfl ?_
    refine mw_aload_n dX10_next_43 1 rfl ?_
    refine mw_iload_n dX10_next_44 0 rfl ?_
    refine mw_if_ge (tgt := 52) dX10_next_45 (by decide) (fun hc => ?_) (fun hc => ?_)
    · have h := mit hc h
      refine mw_iload_n dX10_next_52 0 rfl ?_
      refine mw_bipush (v := 59) dX10_next_53 (by decide) ?_
      refine mw_icmp_ne (tgt := 62) dX10_next_55 (by decide) (fun hc => ?_) (fun hc => ?_)
      · have h := mie hc h
        refine mw_bipush (v := -2) dX10_next_62 (by decide) ?_
        exact mw_sub (L' := [(0, .ref 69), (1, .int r3)]) [1, 0] rfl (p_X10_next_J64  h)
      · have h := mit hc h
        refine mw_iconst (v := 0) dX10_next_58 (by decide) ?_
        refine mw_goto (tgt := 64) dX10_next_59 (by decide) ?_
        exact mw_sub (L' := [(0, .ref 69), (1, .int r3)]) [1, 0] rfl (p_X10_next_J64  h)
    · have h := mie hc h
      refine mw_iconst (v := -1) dX10_next_48 (by decide) ?_
      refine mw_goto (tgt := 64) dX10_next_49 (by decide) ?_
      exact mw_sub (L' := [(0, .ref 69), (1, .int r3)]) [1, 0] rfl (p_X10_next_J64  h)
  · have h := mit hc h
    refine mw_aload_n dX10_next_13 0 rfl ?_
    refine mw_dup dX10_next_14 rfl ?_
    refine ev_getI fd_RX10_277_9 dX10_next_15 rfl rfl ?_
    refine mw_iconst (v := 1) dX10_next_18 (by decide) ?_
    refine mw_iadd dX10_next_19 ?_
    refine ev_putI fw_RX10_277_9 dX10_next_20 rfl rfl ?_
    refine mw_goto (tgt := 0) dX10_next_23 (by decide) ?_
    exact mw_sub (L' := [(0, .ref 69)]) [0] rfl (p_X10_next_L0  mN _ h)

theorem dX10_takesNumber_0 : decode cX10_takesNumber 0 = .ok (.aload_n 0, 1) := by decide +kernel
theorem dX10_takesNumber_1 : decode cX10_takesNumber 1 = .ok (.getfield 286, 3) := by decide +kernel
theorem dX10_takesNumber_4 : decode cX10_takesNumber 4 = .ok (.iconst 1, 1) := by decide +kernel
theorem dX10_takesNumber_5 : decode cX10_takesNumber 5 = .ok (.if_icmp .ne 18, 3) := by decide +kernel
theorem dX10_takesNumber_8 : decode cX10_takesNumber 8 = .ok (.aload_n 0, 1) := by decide +kernel
theorem dX10_takesNumber_9 : decode cX10_takesNumber 9 = .ok (.getfield 300, 3) := by decide +kernel
theorem dX10_takesNumber_12 : decode cX10_takesNumber 12 = .ok (.i2l, 1) := by decide +kernel
theorem dX10_takesNumber_13 : decode cX10_takesNumber 13 = .ok (.iload_n 1, 1) := by decide +kernel
theorem dX10_takesNumber_14 : decode cX10_takesNumber 14 = .ok (.i2l, 1) := by decide +kernel
theorem dX10_takesNumber_15 : decode cX10_takesNumber 15 = .ok (.iload_n 2, 1) := by decide +kernel
theorem dX10_takesNumber_16 : decode cX10_takesNumber 16 = .ok (.i2l, 1) := by decide +kernel
theorem dX10_takesNumber_17 : decode cX10_takesNumber 17 = .ok (.invokestatic 57, 3) := by decide +kernel
theorem dX10_takesNumber_20 : decode cX10_takesNumber 20 = .ok (.ifCond .ne 5, 3) := by decide +kernel
theorem dX10_takesNumber_23 : decode cX10_takesNumber 23 = .ok (.iconst 0, 1) := by decide +kernel
theorem dX10_takesNumber_24 : decode cX10_takesNumber 24 = .ok (.ireturn, 1) := by decide +kernel
theorem dX10_takesNumber_25 : decode cX10_takesNumber 25 = .ok (.aload_n 0, 1) := by decide +kernel
theorem dX10_takesNumber_26 : decode cX10_takesNumber 26 = .ok (.aload_n 0, 1) := by decide +kernel
theorem dX10_takesNumber_27 : decode cX10_takesNumber 27 = .ok (.getfield 300, 3) := by decide +kernel
theorem dX10_takesNumber_30 : decode cX10_takesNumber 30 = .ok (.putfield 304, 3) := by decide +kernel
theorem dX10_takesNumber_33 : decode cX10_takesNumber 33 = .ok (.aload_n 0, 1) := by decide +kernel
theorem dX10_takesNumber_34 : decode cX10_takesNumber 34 = .ok (.invokevirtual 307, 3) := by decide +kernel
theorem dX10_takesNumber_37 : decode cX10_takesNumber 37 = .ok (.iconst 1, 1) := by decide +kernel
theorem dX10_takesNumber_38 : decode cX10_takesNumber 38 = .ok (.ireturn, 1) := by decide +kernel
def e_X10_takesNumber (a1 : Int32) (a2 : Int32) (σ : ES) : Option (Int32 × ES) := if (eI σ 69 28) = (1 : Int32) then ((e_X10_in ((eI σ 69 29).toInt64) a1.toInt64 a2.toInt64).bind (fun r1 => if r1 = 0 then (some ((0 : Int32), σ)) else ((e_X10_next (uI σ 69 30 (eI σ 69 29))).bind (fun r3 => some ((1 : Int32), r3))))) else (some ((0 : Int32), σ))
set_option maxRecDepth 100000 in
set_option maxHeartbeats 4000000 in
theorem k_X10_takesNumber {l : Launch} {σ : ES} {a1 : Int32} {a2 : Int32} {out : (Int32 × ES)} (h : e_X10_takesNumber a1 a2 σ = some out) : MK l yX10_takesNumber cX10_takesNumber 3 (some .boolean) 4 [.ref 69, .int a1, .int a2] (mkS σ) (some (.int out.1)) (mkS out.2) := by
  unfold e_X10_takesNumber at h
  refine mw_entry (own := RX10) (ini := false) (L := [(0, .ref 69), (1, .int a1), (2, .int a2)]) (by decide +kernel) rfl (fun h => nomatch h) rfl (Nat.le_of_ble_eq_true rfl) (Nat.le_of_ble_eq_true rfl) (fun E => ?_)
  refine mw_aload_n dX10_takesNumber_0 0 rfl ?_
  refine ev_getI fd_RX10_286_9 dX10_takesNumber_1 rfl rfl ?_
  refine mw_iconst (v := 1) dX10_takesNumber_4 (by decide) ?_
  refine mw_icmp_ne (tgt := 23) dX10_takesNumber_5 (by decide) (fun hc => ?_) (fun hc => ?_)
  · have h := mie hc h
    refine mw_iconst (v := 0) dX10_takesNumber_23 (by decide) ?_
    exact mw_zret dX10_takesNumber_24 rfl (by decide) (ers_im h) rfl rfl
  · have h := mit hc h
    refine mw_aload_n dX10_takesNumber_8 0 rfl ?_
    refine ev_getI fd_RX10_300_9 dX10_takesNumber_9 rfl rfl ?_
    refine mw_i2l dX10_takesNumber_12 ?_
    refine mw_iload_n dX10_takesNumber_13 1 rfl ?_
    refine mw_i2l dX10_takesNumber_14 ?_
    refine mw_iload_n dX10_takesNumber_15 2 rfl ?_
    refine mw_i2l dX10_takesNumber_16 ?_
    obtain ⟨r1, e2, h⟩ := mbd h
    refine mv_callS_i (As := [.long (eI σ 69 29).toInt64, .long a1.toInt64, .long a2.toInt64]) lkS_RX10_57_yX10_in dX10_takesNumber_17 (k_X10_in e2) rfl rfl (Nat.le_of_ble_eq_true rfl) (by decide) (by decide) ?_
    refine mw_if_ne (tgt := 25) dX10_takesNumber_20 (by decide) (fun hc => ?_) (fun hc => ?_)
    · have h := mie hc h
      refine mw_aload_n dX10_takesNumber_25 0 rfl ?_
      refine mw_aload_n dX10_takesNumber_26 0 rfl ?_
      refine ev_getI fd_RX10_300_9 dX10_takesNumber_27 rfl rfl ?_
      refine ev_putI fw_RX10_304_9 dX10_takesNumber_30 rfl rfl ?_
      refine mw_aload_n dX10_takesNumber_33 0 rfl ?_
      obtain ⟨r3, e4, h⟩ := mbd h
      refine mv_callV_v (As := []) (ci := 9) lkV_RX10_307_yX10_next dX10_takesNumber_34 (k_X10_next e4) rfl rfl rfl rfl (Nat.le_of_ble_eq_true rfl) (by decide) (by decide) ?_
      refine mw_iconst (v := 1) dX10_takesNumber_37 (by decide) ?_
      exact mw_zret dX10_takesNumber_38 rfl (by decide) (ers_im h) rfl rfl
    · have h := mit hc h
      refine mw_iconst (v := 0) dX10_takesNumber_23 (by decide) ?_
      exact mw_zret dX10_takesNumber_24 rfl (by decide) (ers_im h) rfl rfl
