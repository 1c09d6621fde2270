/-! ===== methods as functions, and that the machine does so (written by gen/all.py) ===== -/
theorem dX6_takeDigits_0 : decode cX6_takeDigits 0 = .ok (.aload_n 0, 1) := by decide +kernel
theorem dX6_takeDigits_1 : decode cX6_takeDigits 1 = .ok (.iconst 0, 1) := by decide +kernel
theorem dX6_takeDigits_2 : decode cX6_takeDigits 2 = .ok (.putfield 74, 3) := by decide +kernel
theorem dX6_takeDigits_5 : decode cX6_takeDigits 5 = .ok (.aload_n 0, 1) := by decide +kernel
theorem dX6_takeDigits_6 : decode cX6_takeDigits 6 = .ok (.getfield 23, 3) := by decide +kernel
theorem dX6_takeDigits_9 : decode cX6_takeDigits 9 = .ok (.aload_n 0, 1) := by decide +kernel
theorem dX6_takeDigits_10 : decode cX6_takeDigits 10 = .ok (.getfield 15, 3) := by decide +kernel
theorem dX6_takeDigits_13 : decode cX6_takeDigits 13 = .ok (.if_icmp .ge 60, 3) := by decide +kernel
theorem dX6_takeDigits_16 : decode cX6_takeDigits 16 = .ok (.aload_n 0, 1) := by decide +kernel
theorem dX6_takeDigits_17 : decode cX6_takeDigits 17 = .ok (.getfield 9, 3) := by decide +kernel
theorem dX6_takeDigits_20 : decode cX6_takeDigits 20 = .ok (.aload_n 0, 1) := by decide +kernel
theorem dX6_takeDigits_21 : decode cX6_takeDigits 21 = .ok (.getfield 23, 3) := by decide +kernel
theorem dX6_takeDigits_24 : decode cX6_takeDigits 24 = .ok (.iaload, 1) := by decide +kernel
theorem dX6_takeDigits_25 : decode cX6_takeDigits 25 = .ok (.invokestatic 138, 3) := by decide +kernel
theorem dX6_takeDigits_28 : decode cX6_takeDigits 28 = .ok (.ifCond .eq 45, 3) := by decide +kernel
theorem dX6_takeDigits_31 : decode cX6_takeDigits 31 = .ok (.aload_n 0, 1) := by decide +kernel
theorem dX6_takeDigits_32 : decode cX6_takeDigits 32 = .ok (.aload_n 0, 1) := by decide +kernel
theorem dX6_takeDigits_33 : decode cX6_takeDigits 33 = .ok (.getfield 74, 3) := by decide +kernel
theorem dX6_takeDigits_36 : decode cX6_takeDigits 36 = .ok (.bipush 10, 2) := by decide +kernel
theorem dX6_takeDigits_38 : decode cX6_takeDigits 38 = .ok (.imul, 1) := by decide +kernel
theorem dX6_takeDigits_39 : decode cX6_takeDigits 39 = .ok (.aload_n 0, 1) := by decide +kernel
theorem dX6_takeDigits_40 : decode cX6_takeDigits 40 = .ok (.getfield 9, 3) := by decide +kernel
theorem dX6_takeDigits_43 : decode cX6_takeDigits 43 = .ok (.aload_n 0, 1) := by decide +kernel
theorem dX6_takeDigits_44 : decode cX6_takeDigits 44 = .ok (.getfield 23, 3) := by decide +kernel
theorem dX6_takeDigits_47 : decode cX6_takeDigits 47 = .ok (.iaload, 1) := by decide +kernel
theorem dX6_takeDigits_48 : decode cX6_takeDigits 48 = .ok (.iadd, 1) := by decide +kernel
theorem dX6_takeDigits_49 : decode cX6_takeDigits 49 = .ok (.bipush 48, 2) := by decide +kernel
theorem dX6_takeDigits_51 : decode cX6_takeDigits 51 = .ok (.isub, 1) := by decide +kernel
theorem dX6_takeDigits_52 : decode cX6_takeDigits 52 = .ok (.ldc 144, 2) := by decide +kernel
theorem dX6_takeDigits_54 : decode cX6_takeDigits 54 = .ok (.invokestatic 145, 3) := by decide +kernel
theorem dX6_takeDigits_57 : decode cX6_takeDigits 57 = .ok (.putfield 74, 3) := by decide +kernel
theorem dX6_takeDigits_60 : decode cX6_takeDigits 60 = .ok (.aload_n 0, 1) := by decide +kernel
theorem dX6_takeDigits_61 : decode cX6_takeDigits 61 = .ok (.dup, 1) := by decide +kernel
theorem dX6_takeDigits_62 : decode cX6_takeDigits 62 = .ok (.getfield 23, 3) := by decide +kernel
theorem dX6_takeDigits_65 : decode cX6_takeDigits 65 = .ok (.iconst 1, 1) := by decide +kernel
theorem dX6_takeDigits_66 : decode cX6_takeDigits 66 = .ok (.iadd, 1) := by decide +kernel
theorem dX6_takeDigits_67 : decode cX6_takeDigits 67 = .ok (.putfield 23, 3) := by decide +kernel
theorem dX6_takeDigits_70 : decode cX6_takeDigits 70 = .ok (.goto (-65), 3) := by decide +kernel
theorem dX6_takeDigits_73 : decode cX6_takeDigits 73 = .ok (.return_, 1) := by decide +kernel
def e_X6_takeDigits_L5  : Nat → ES → Option ES
  | 0, _ => none
  | n + 1, σ => if (eI σ 57 0) ≤ (eI σ 57 5) then (some σ) else (if mib (eI σ 57 5) 120 = true then ((e_X6_isDigit (eI σ 58 (eI σ 57 5).toNatClampNeg)).bind (fun r2 => if r2 = 0 then (some σ) else (e_X6_takeDigits_L5 n (uI (uI σ 57 6 (if (1000000 : Int32) < ((((eI σ 57 6) * (10 : Int32)) + (eI σ 58 (eI σ 57 5).toNatClampNeg)) - (48 : Int32)) then (1000000 : Int32) else ((((eI σ 57 6) * (10 : Int32)) + (eI σ 58 (eI σ 57 5).toNatClampNeg)) - (48 : Int32)))) 57 5 ((eI (uI σ 57 6 (if (1000000 : Int32) < ((((eI σ 57 6) * (10 : Int32)) + (eI σ 58 (eI σ 57 5).toNatClampNeg)) - (48 : Int32)) then (1000000 : Int32) else ((((eI σ 57 6) * (10 : Int32)) + (eI σ 58 (eI σ 57 5).toNatClampNeg)) - (48 : Int32)))) 57 5) + (1 : Int32)))))) else none)
set_option maxRecDepth 100000 in
set_option maxHeartbeats 4000000 in
theorem p_X6_takeDigits_L5 {l : Launch} {E : MX} {out : ES}   : ∀ (n : Nat) (σ : ES), e_X6_takeDigits_L5 n σ = some out → MV l E cX6_takeDigits RX6 1 none 2 (82, none, mkS out) (mkS σ) 5 [(0, .ref 57)] [] := by
  intro n
  induction n with
  | zero =>
    intro σ h
    exact nomatch h
  | succ n ih =>
    intro σ h
    rw [e_X6_takeDigits_L5] at h
    refine mw_aload_n dX6_takeDigits_5 0 rfl ?_
    refine ev_getI fd_RX6_23_5 dX6_takeDigits_6 rfl rfl ?_
    refine mw_aload_n dX6_takeDigits_9 0 rfl ?_
    refine ev_getI fd_RX6_15_5 dX6_takeDigits_10 rfl rfl ?_
    refine mw_icmp_ge (tgt := 73) dX6_takeDigits_13 (by decide) (fun hc => ?_) (fun hc => ?_)
    · have h := mit hc h
      exact mw_vret dX6_takeDigits_73 rfl (ers_vm h) rfl rfl
    · have h := mie hc h
      refine mw_aload_n dX6_takeDigits_16 0 rfl ?_
      refine ev_getR (q := 58) fd_RX6_9_5 dX6_takeDigits_17 rfl rfl rfl ?_
      refine mw_aload_n dX6_takeDigits_20 0 rfl ?_
      refine ev_getI fd_RX6_23_5 dX6_takeDigits_21 rfl rfl ?_
      obtain ⟨m1, h⟩ := mif h
      refine ev_iald dX6_takeDigits_24 (by decide) rfl m1 ?_
      obtain ⟨r2, e3, h⟩ := mbd h
      refine mv_callS_i (As := [.int (eI σ 58 (eI σ 57 5).toNatClampNeg)]) lkS_RX6_138_yX6_isDigit dX6_takeDigits_25 (k_X6_isDigit e3) rfl rfl (Nat.le_of_ble_eq_true rfl) (by decide) (by decide) ?_
      refine mw_if_eq (tgt := 73) dX6_takeDigits_28 (by decide) (fun hc => ?_) (fun hc => ?_)
      · have h := mit hc h
        exact mw_vret dX6_takeDigits_73 rfl (ers_vm h) rfl rfl
      · have h := mie hc h
        refine mw_aload_n dX6_takeDigits_31 0 rfl ?_
        refine mw_aload_n dX6_takeDigits_32 0 rfl ?_
        refine ev_getI fd_RX6_74_5 dX6_takeDigits_33 rfl rfl ?_
        refine mw_bipush (v := 10) dX6_takeDigits_36 (by decide) ?_
        refine mw_imul dX6_takeDigits_38 ?_
        refine mw_aload_n dX6_takeDigits_39 0 rfl ?_
        refine ev_getR (q := 58) fd_RX6_9_5 dX6_takeDigits_40 rfl rfl rfl ?_
        refine mw_aload_n dX6_takeDigits_43 0 rfl ?_
        refine ev_getI fd_RX6_23_5 dX6_takeDigits_44 rfl rfl ?_
        refine ev_iald dX6_takeDigits_47 (by decide) rfl m1 ?_
        refine mw_iadd dX6_takeDigits_48 ?_
        refine mw_bipush (v := 48) dX6_takeDigits_49 (by decide) ?_
        refine mw_isub dX6_takeDigits_51 ?_
        refine mw_ldc dX6_takeDigits_52 wt_521 ?_
        refine mv_mini dX6_takeDigits_54 wt_522 wt_523 wt_173 wt_524 (by decide) (Nat.le_of_ble_eq_true rfl) ?_
        refine ev_putI fw_RX6_74_5 dX6_takeDigits_57 rfl rfl ?_
        refine mw_aload_n dX6_takeDigits_60 0 rfl ?_
        refine mw_dup dX6_takeDigits_61 rfl ?_
        refine ev_getI fd_RX6_23_5 dX6_takeDigits_62 rfl rfl ?_
        refine mw_iconst (v := 1) dX6_takeDigits_65 (by decide) ?_
        refine mw_iadd dX6_takeDigits_66 ?_
        refine ev_putI fw_RX6_23_5 dX6_takeDigits_67 rfl rfl ?_
        refine mw_goto (tgt := 5) dX6_takeDigits_70 (by decide) ?_
        exact mw_sub (L' := [(0, .ref 57)]) [0] rfl (ih _ h)
def e_X6_takeDigits (σ : ES) : Option ES := e_X6_takeDigits_L5 mN (uI σ 57 6 (0 : Int32))
set_option maxRecDepth 100000 in
set_option maxHeartbeats 4000000 in
theorem k_X6_takeDigits {l : Launch} {σ : ES}  {out : ES} (h : e_X6_takeDigits σ = some out) : MK l yX6_takeDigits cX6_takeDigits 1 none 2 [.ref 57] (mkS σ) none (mkS out) := by
  unfold e_X6_takeDigits at h
  refine mw_entry (own := RX6) (ini := false) (L := [(0, .ref 57)]) (by decide +kernel) rfl (fun h => nomatch h) rfl (Nat.le_of_ble_eq_true rfl) (Nat.le_of_ble_eq_true rfl) (fun E => ?_)
  refine mw_aload_n dX6_takeDigits_0 0 rfl ?_
  refine mw_iconst (v := 0) dX6_takeDigits_1 (by decide) ?_
  refine ev_putI fw_RX6_74_5 dX6_takeDigits_2 rfl rfl ?_
  exact mw_sub (L' := [(0, .ref 57)]) [0] rfl (p_X6_takeDigits_L5  mN _ h)

theorem dX6_next_0 : decode cX6_next 0 = .ok (.aload_n 0, 1) := by decide +kernel
theorem dX6_next_1 : decode cX6_next 1 = .ok (.getfield 23, 3) := by decide +kernel
theorem dX6_next_4 : decode cX6_next 4 = .ok (.aload_n 0, 1) := by decide +kernel
theorem dX6_next_5 : decode cX6_next 5 = .ok (.getfield 15, 3) := by decide +kernel
theorem dX6_next_8 : decode cX6_next 8 = .ok (.if_icmp .ge 30, 3) := by decide +kernel
theorem dX6_next_11 : decode cX6_next 11 = .ok (.aload_n 0, 1) := by decide +kernel
theorem dX6_next_12 : decode cX6_next 12 = .ok (.getfield 9, 3) := by decide +kernel
theorem dX6_next_15 : decode cX6_next 15 = .ok (.aload_n 0, 1) := by decide +kernel
theorem dX6_next_16 : decode cX6_next 16 = .ok (.getfield 23, 3) := by decide +kernel
theorem dX6_next_19 : decode cX6_next 19 = .ok (.iaload, 1) := by decide +kernel
theorem dX6_next_20 : decode cX6_next 20 = .ok (.bipush 32, 2) := by decide +kernel
theorem dX6_next_22 : decode cX6_next 22 = .ok (.if_icmp .ne 16, 3) := by decide +kernel
theorem dX6_next_25 : decode cX6_next 25 = .ok (.aload_n 0, 1) := by decide +kernel
theorem dX6_next_26 : decode cX6_next 26 = .ok (.dup, 1) := by decide +kernel
theorem dX6_next_27 : decode cX6_next 27 = .ok (.getfield 23, 3) := by decide +kernel
theorem dX6_next_30 : decode cX6_next 30 = .ok (.iconst 1, 1) := by decide +kernel
theorem dX6_next_31 : decode cX6_next 31 = .ok (.iadd, 1) := by decide +kernel
theorem dX6_next_32 : decode cX6_next 32 = .ok (.putfield 23, 3) := by decide +kernel
theorem dX6_next_35 : decode cX6_next 35 = .ok (.goto (-35), 3) := by decide +kernel
theorem dX6_next_38 : decode cX6_next 38 = .ok (.aload_n 0, 1) := by decide +kernel
theorem dX6_next_39 : decode cX6_next 39 = .ok (.aload_n 0, 1) := by decide +kernel
theorem dX6_next_40 : decode cX6_next 40 = .ok (.getfield 23, 3) := by decide +kernel
theorem dX6_next_43 : decode cX6_next 43 = .ok (.putfield 33, 3) := by decide +kernel
theorem dX6_next_46 : decode cX6_next 46 = .ok (.aload_n 0, 1) := by decide +kernel
theorem dX6_next_47 : decode cX6_next 47 = .ok (.getfield 33, 3) := by decide +kernel
theorem dX6_next_50 : decode cX6_next 50 = .ok (.aload_n 0, 1) := by decide +kernel
theorem dX6_next_51 : decode cX6_next 51 = .ok (.getfield 15, 3) := by decide +kernel
theorem dX6_next_54 : decode cX6_next 54 = .ok (.if_icmp .lt 11, 3) := by decide +kernel
theorem dX6_next_57 : decode cX6_next 57 = .ok (.aload_n 0, 1) := by decide +kernel
theorem dX6_next_58 : decode cX6_next 58 = .ok (.iconst 0, 1) := by decide +kernel
theorem dX6_next_59 : decode cX6_next 59 = .ok (.putfield 36, 3) := by decide +kernel
theorem dX6_next_62 : decode cX6_next 62 = .ok (.goto 122, 3) := by decide +kernel
theorem dX6_next_65 : decode cX6_next 65 = .ok (.aload_n 0, 1) := by decide +kernel
theorem dX6_next_66 : decode cX6_next 66 = .ok (.getfield 9, 3) := by decide +kernel
theorem dX6_next_69 : decode cX6_next 69 = .ok (.aload_n 0, 1) := by decide +kernel
theorem dX6_next_70 : decode cX6_next 70 = .ok (.getfield 33, 3) := by decide +kernel
theorem dX6_next_73 : decode cX6_next 73 = .ok (.iaload, 1) := by decide +kernel
theorem dX6_next_74 : decode cX6_next 74 = .ok (.invokestatic 135, 3) := by decide +kernel
theorem dX6_next_77 : decode cX6_next 77 = .ok (.ifCond .eq 47, 3) := by decide +kernel
theorem dX6_next_80 : decode cX6_next 80 = .ok (.aload_n 0, 1) := by decide +kernel
theorem dX6_next_81 : decode cX6_next 81 = .ok (.iconst 1, 1) := by decide +kernel
theorem dX6_next_82 : decode cX6_next 82 = .ok (.putfield 36, 3) := by decide +kernel
theorem dX6_next_85 : decode cX6_next 85 = .ok (.aload_n 0, 1) := by decide +kernel
theorem dX6_next_86 : decode cX6_next 86 = .ok (.getfield 23, 3) := by decide +kernel
theorem dX6_next_89 : decode cX6_next 89 = .ok (.aload_n 0, 1) := by decide +kernel
theorem dX6_next_90 : decode cX6_next 90 = .ok (.getfield 15, 3) := by decide +kernel
theorem dX6_next_93 : decode cX6_next 93 = .ok (.if_icmp .ge 91, 3) := by decide +kernel
theorem dX6_next_96 : decode cX6_next 96 = .ok (.aload_n 0, 1) := by decide +kernel
theorem dX6_next_97 : decode cX6_next 97 = .ok (.getfield 9, 3) := by decide +kernel
theorem dX6_next_100 : decode cX6_next 100 = .ok (.aload_n 0, 1) := by decide +kernel
theorem dX6_next_101 : decode cX6_next 101 = .ok (.getfield 23, 3) := by decide +kernel
theorem dX6_next_104 : decode cX6_next 104 = .ok (.iaload, 1) := by decide +kernel
theorem dX6_next_105 : decode cX6_next 105 = .ok (.invokestatic 135, 3) := by decide +kernel
theorem dX6_next_108 : decode cX6_next 108 = .ok (.ifCond .eq 76, 3) := by decide +kernel
theorem dX6_next_111 : decode cX6_next 111 = .ok (.aload_n 0, 1) := by decide +kernel
theorem dX6_next_112 : decode cX6_next 112 = .ok (.dup, 1) := by decide +kernel
theorem dX6_next_113 : decode cX6_next 113 = .ok (.getfield 23, 3) := by decide +kernel
theorem dX6_next_116 : decode cX6_next 116 = .ok (.iconst 1, 1) := by decide +kernel
theorem dX6_next_117 : decode cX6_next 117 = .ok (.iadd, 1) := by decide +kernel
theorem dX6_next_118 : decode cX6_next 118 = .ok (.putfield 23, 3) := by decide +kernel
theorem dX6_next_121 : decode cX6_next 121 = .ok (.goto (-36), 3) := by decide +kernel
theorem dX6_next_124 : decode cX6_next 124 = .ok (.aload_n 0, 1) := by decide +kernel
theorem dX6_next_125 : decode cX6_next 125 = .ok (.getfield 9, 3) := by decide +kernel
theorem dX6_next_128 : decode cX6_next 128 = .ok (.aload_n 0, 1) := by decide +kernel
theorem dX6_next_129 : decode cX6_next 129 = .ok (.getfield 33, 3) := by decide +kernel
theorem dX6_next_132 : decode cX6_next 132 = .ok (.iaload, 1) := by decide +kernel
theorem dX6_next_133 : decode cX6_next 133 = .ok (.invokestatic 138, 3) := by decide +kernel
theorem dX6_next_136 : decode cX6_next 136 = .ok (.ifCond .eq 15, 3) := by decide +kernel
theorem dX6_next_139 : decode cX6_next 139 = .ok (.aload_n 0, 1) := by decide +kernel
theorem dX6_next_140 : decode cX6_next 140 = .ok (.iconst 2, 1) := by decide +kernel
theorem dX6_next_141 : decode cX6_next 141 = .ok (.putfield 36, 3) := by decide +kernel
theorem dX6_next_144 : decode cX6_next 144 = .ok (.aload_n 0, 1) := by decide +kernel
theorem dX6_next_145 : decode cX6_next 145 = .ok (.invokevirtual 141, 3) := by decide +kernel
theorem dX6_next_148 : decode cX6_next 148 = .ok (.goto 36, 3) := by decide +kernel
theorem dX6_next_151 : decode cX6_next 151 = .ok (.aload_n 0, 1) := by decide +kernel
theorem dX6_next_152 : decode cX6_next 152 = .ok (.aload_n 0, 1) := by decide +kernel
theorem dX6_next_153 : decode cX6_next 153 = .ok (.getfield 9, 3) := by decide +kernel
theorem dX6_next_156 : decode cX6_next 156 = .ok (.aload_n 0, 1) := by decide +kernel
theorem dX6_next_157 : decode cX6_next 157 = .ok (.getfield 33, 3) := by decide +kernel
theorem dX6_next_160 : decode cX6_next 160 = .ok (.iaload, 1) := by decide +kernel
theorem dX6_next_161 : decode cX6_next 161 = .ok (.bipush 59, 2) := by decide +kernel
theorem dX6_next_163 : decode cX6_next 163 = .ok (.if_icmp .ne 7, 3) := by decide +kernel
theorem dX6_next_166 : decode cX6_next 166 = .ok (.iconst 3, 1) := by decide +kernel
theorem dX6_next_167 : decode cX6_next 167 = .ok (.goto 4, 3) := by decide +kernel
theorem dX6_next_170 : decode cX6_next 170 = .ok (.iconst 4, 1) := by decide +kernel
theorem dX6_next_171 : decode cX6_next 171 = .ok (.putfield 36, 3) := by decide +kernel
theorem dX6_next_174 : decode cX6_next 174 = .ok (.aload_n 0, 1) := by decide +kernel
theorem dX6_next_175 : decode cX6_next 175 = .ok (.dup, 1) := by decide +kernel
theorem dX6_next_176 : decode cX6_next 176 = .ok (.getfield 23, 3) := by decide +kernel
theorem dX6_next_179 : decode cX6_next 179 = .ok (.iconst 1, 1) := by decide +kernel
theorem dX6_next_180 : decode cX6_next 180 = .ok (.iadd, 1) := by decide +kernel
theorem dX6_next_181 : decode cX6_next 181 = .ok (.putfield 23, 3) := by decide +kernel
theorem dX6_next_184 : decode cX6_next 184 = .ok (.return_, 1) := by decide +kernel
def e_X6_next_J171 (s1 : Int32) (σ : ES) : Option ES := some (uI (uI σ 57 3 s1) 57 5 ((eI (uI σ 57 3 s1) 57 5) + (1 : Int32)))
set_option maxRecDepth 100000 in
set_option maxHeartbeats 4000000 in
theorem p_X6_next_J171 {l : Launch} {E : MX} {out : ES}   {s1 : Int32} {σ : ES} (h : e_X6_next_J171 s1 σ = some out) : MV l E cX6_next RX6 1 none 3 (82, none, mkS out) (mkS σ) 171 [(0, .ref 57)] [.int s1, .ref 57] := by
  unfold e_X6_next_J171 at h
  refine ev_putI fw_RX6_36_5 dX6_next_171 rfl rfl ?_
  refine mw_aload_n dX6_next_174 0 rfl ?_
  refine mw_dup dX6_next_175 rfl ?_
  refine ev_getI fd_RX6_23_5 dX6_next_176 rfl rfl ?_
  refine mw_iconst (v := 1) dX6_next_179 (by decide) ?_
  refine mw_iadd dX6_next_180 ?_
  refine ev_putI fw_RX6_23_5 dX6_next_181 rfl rfl ?_
  exact mw_vret dX6_next_184 rfl (ers_vm h) rfl rfl
def e_X6_next_L85  : Nat → ES → Option ES
  | 0, _ => none
  | n + 1, σ => if (eI σ 57 0) ≤ (eI σ 57 5) then (some σ) else (if mib (eI σ 57 5) 120 = true then ((e_X6_isLetter (eI σ 58 (eI σ 57 5).toNatClampNeg)).bind (fun r2 => if r2 = 0 then (some σ) else (e_X6_next_L85 n (uI σ 57 5 ((eI σ 57 5) + (1 : Int32)))))) else none)
set_option maxRecDepth 100000 in
set_option maxHeartbeats 4000000 in
theorem p_X6_next_L85 {l : Launch} {E : MX} {out : ES}   : ∀ (n : Nat) (σ : ES), e_X6_next_L85 n σ = some out → MV l E cX6_next RX6 1 none 3 (82, none, mkS out) (mkS σ) 85 [(0, .ref 57)] [] := by
  intro n
  induction n with
  | zero =>
    intro σ h
    exact nomatch h
  | succ n ih =>
    intro σ h
    rw [e_X6_next_L85] at h
    refine mw_aload_n dX6_next_85 0 rfl ?_
    refine ev_getI fd_RX6_23_5 dX6_next_86 rfl rfl ?_
    refine mw_aload_n dX6_next_89 0 rfl ?_
    refine ev_getI fd_RX6_15_5 dX6_next_90 rfl rfl ?_
    refine mw_icmp_ge (tgt := 184) dX6_next_93 (by decide) (fun hc => ?_) (fun hc => ?_)
    · have h := mit hc h
      exact mw_vret dX6_next_184 rfl (ers_vm h) rfl rfl
    · have h := mie hc h
      refine mw_aload_n dX6_next_96 0 rfl ?_
      refine ev_getR (q := 58) fd_RX6_9_5 dX6_next_97 rfl rfl rfl ?_
      refine mw_aload_n dX6_next_100 0 rfl ?_
      refine ev_getI fd_RX6_23_5 dX6_next_101 rfl rfl ?_
      obtain ⟨m1, h⟩ := mif h
      refine ev_iald dX6_next_104 (by decide) rfl m1 ?_
      obtain ⟨r2, e3, h⟩ := mbd h
      refine mv_callS_i (As := [.int (eI σ 58 (eI σ 57 5).toNatClampNeg)]) lkS_RX6_135_yX6_isLetter dX6_next_105 (k_X6_isLetter e3) rfl rfl (Nat.le_of_ble_eq_true rfl) (by decide) (by decide) ?_
      refine mw_if_eq (tgt := 184) dX6_next_108 (by decide) (fun hc => ?_) (fun hc => ?_)
      · have h := mit hc h
        exact mw_vret dX6_next_184 rfl (ers_vm h) rfl rfl
      · have h := mie hc h
        refine mw_aload_n dX6_next_111 0 rfl ?_
        refine mw_dup dX6_next_112 rfl ?_
        refine ev_getI fd_RX6_23_5 dX6_next_113 rfl rfl ?_
        refine mw_iconst (v := 1) dX6_next_116 (by decide) ?_
        refine mw_iadd dX6_next_117 ?_
        refine ev_putI fw_RX6_23_5 dX6_next_118 rfl rfl ?_
        refine mw_goto (tgt := 85) dX6_next_121 (by decide) ?_
        exact mw_sub (L' := [(0, .ref 57)]) [0] rfl (ih _ h)
def e_X6_next_J38 (σ : ES) : Option ES := if (eI (uI σ 57 4 (eI σ 57 5)) 57 4) < (eI (uI σ 57 4 (eI σ 57 5)) 57 0) then (if mib (eI (uI σ 57 4 (eI σ 57 5)) 57 4) 120 = true then ((e_X6_isLetter (eI (uI σ 57 4 (eI σ 57 5)) 58 (eI (uI σ 57 4 (eI σ 57 5)) 57 4).toNatClampNeg)).bind (fun r2 => if r2 = 0 then ((e_X6_isDigit (eI (uI σ 57 4 (eI σ 57 5)) 58 (eI (uI σ 57 4 (eI σ 57 5)) 57 4).toNatClampNeg)).bind (fun r4 => if r4 = 0 then (if (eI (uI σ 57 4 (eI σ 57 5)) 58 (eI (uI σ 57 4 (eI σ 57 5)) 57 4).toNatClampNeg) = (59 : Int32) then (e_X6_next_J171 (3 : Int32) (uI σ 57 4 (eI σ 57 5))) else (e_X6_next_J171 (4 : Int32) (uI σ 57 4 (eI σ 57 5)))) else ((e_X6_takeDigits (uI (uI σ 57 4 (eI σ 57 5)) 57 3 (2 : Int32))).bind (fun r6 => some r6)))) else (e_X6_next_L85 mN (uI (uI σ 57 4 (eI σ 57 5)) 57 3 (1 : Int32))))) else none) else (some (uI (uI σ 57 4 (eI σ 57 5)) 57 3 (0 : Int32)))
set_option maxRecDepth 100000 in
set_option maxHeartbeats 4000000 in
theorem p_X6_next_J38 {l : Launch} {E : MX} {out : ES}   {σ : ES} (h : e_X6_next_J38 σ = some out) : MV l E cX6_next RX6 1 none 3 (82, none, mkS out) (mkS σ) 38 [(0, .ref 57)] [] := by
  unfold e_X6_next_J38 at h
  refine mw_aload_n dX6_next_38 0 rfl ?_
  refine mw_aload_n dX6_next_39 0 rfl ?_
  refine ev_getI fd_RX6_23_5 dX6_next_40 rfl rfl ?_
  refine ev_putI fw_RX6_33_5 dX6_next_43 rfl rfl ?_
  refine mw_aload_n dX6_next_46 0 rfl ?_
  refine ev_getI fd_RX6_33_5 dX6_next_47 rfl rfl ?_
  refine mw_aload_n dX6_next_50 0 rfl ?_
  refine ev_getI fd_RX6_15_5 dX6_next_51 rfl rfl ?_
  refine mw_icmp_lt (tgt := 65) dX6_next_54 (by decide) (fun hc => ?_) (fun hc => ?_)
  · have h := mit hc h
    refine mw_aload_n dX6_next_65 0 rfl ?_
    refine ev_getR (q := 58) fd_RX6_9_5 dX6_next_66 rfl rfl rfl ?_
    refine mw_aload_n dX6_next_69 0 rfl ?_
    refine ev_getI fd_RX6_33_5 dX6_next_70 rfl rfl ?_
    obtain ⟨m1, h⟩ := mif h
    refine ev_iald dX6_next_73 (by decide) rfl m1 ?_
    obtain ⟨r2, e3, h⟩ := mbd h
    refine mv_callS_i (As := [.int (eI (uI σ 57 4 (eI σ 57 5)) 58 (eI (uI σ 57 4 (eI σ 57 5)) 57 4).toNatClampNeg)]) lkS_RX6_135_yX6_isLetter dX6_next_74 (k_X6_isLetter e3) rfl rfl (Nat.le_of_ble_eq_true rfl) (by decide) (by decide) ?_
    refine mw_if_eq (tgt := 124) dX6_next_77 (by decide) (fun hc => ?_) (fun hc => ?_)
    · have h := mit hc h
      refine mw_aload_n dX6_next_124 0 rfl ?_
      refine ev_getR (q := 58) fd_RX6_9_5 dX6_next_125 rfl rfl rfl ?_
      refine mw_aload_n dX6_next_128 0 rfl ?_
      refine ev_getI fd_RX6_33_5 dX6_next_129 rfl rfl ?_
      refine ev_iald dX6_next_132 (by decide) rfl m1 ?_
      obtain ⟨r4, e5, h⟩ := mbd h
      refine mv_callS_i (As := [.int (eI (uI σ 57 4 (eI σ 57 5)) 58 (eI (uI σ 57 4 (eI σ 57 5)) 57 4).toNatClampNeg)]) lkS_RX6_138_yX6_isDigit dX6_next_133 (k_X6_isDigit e5) rfl rfl (Nat.le_of_ble_eq_true rfl) (by decide) (by decide) ?_
      refine mw_if_eq (tgt := 151) dX6_next_136 (by decide) (fun hc => ?_) (fun hc => ?_)
      · have h := mit hc h
        refine mw_aload_n dX6_next_151 0 rfl ?_
        refine mw_aload_n dX6_next_152 0 rfl ?_
        refine ev_getR (q := 58) fd_RX6_9_5 dX6_next_153 rfl rfl rfl ?_
        refine mw_aload_n dX6_next_156 0 rfl ?_
        refine ev_getI fd_RX6_33_5 dX6_next_157 rfl rfl ?_
        refine ev_iald dX6_next_160 (by decide) rfl m1 ?_
        refine mw_bipush (v := 59) dX6_next_161 (by decide) ?_
        refine mw_icmp_ne (tgt := 170) dX6_next_163 (by decide) (fun hc => ?_) (fun hc => ?_)
        · have h := mie hc h
          refine mw_iconst (v := 4) dX6_next_170 (by decide) ?_
          exact mw_sub (L' := [(0, .ref 57)]) [0] rfl (p_X6_next_J171  h)
        · have h := mit hc h
          refine mw_iconst (v := 3) dX6_next_166 (by decide) ?_
          refine mw_goto (tgt := 171) dX6_next_167 (by decide) ?_
          exact mw_sub (L' := [(0, .ref 57)]) [0] rfl (p_X6_next_J171  h)
      · have h := mie hc h
        refine mw_aload_n dX6_next_139 0 rfl ?_
        refine mw_iconst (v := 2) dX6_next_140 (by decide) ?_
        refine ev_putI fw_RX6_36_5 dX6_next_141 rfl rfl ?_
        refine mw_aload_n dX6_next_144 0 rfl ?_
        obtain ⟨r6, e7, h⟩ := mbd h
        refine mv_callV_v (As := []) (ci := 5) lkV_RX6_141_yX6_takeDigits dX6_next_145 (k_X6_takeDigits e7) rfl rfl rfl rfl (Nat.le_of_ble_eq_true rfl) (by decide) (by decide) ?_
        refine mw_goto (tgt := 184) dX6_next_148 (by decide) ?_
        exact mw_vret dX6_next_184 rfl (ers_vm h) rfl rfl
    · have h := mie hc h
      refine mw_aload_n dX6_next_80 0 rfl ?_
      refine mw_iconst (v := 1) dX6_next_81 (by decide) ?_
      refine ev_putI fw_RX6_36_5 dX6_next_82 rfl rfl ?_
      exact mw_sub (L' := [(0, .ref 57)]) [0] rfl (p_X6_next_L85  mN _ h)
  · have h := mie hc h
    refine mw_aload_n dX6_next_57 0 rfl ?_
    refine mw_iconst (v := 0) dX6_next_58 (by decide) ?_
    refine ev_putI fw_RX6_36_5 dX6_next_59 rfl rfl ?_
    refine mw_goto (tgt := 184) dX6_next_62 (by decide) ?_
    exact mw_vret dX6_next_184 rfl (ers_vm h) rfl rfl
def e_X6_next_L0  : Nat → ES → Option ES
  | 0, _ => none
  | n + 1, σ => if (eI σ 57 0) ≤ (eI σ 57 5) then (e_X6_next_J38 σ) else (if mib (eI σ 57 5) 120 = true then (if (eI σ 58 (eI σ 57 5).toNatClampNeg) = (32 : Int32) then (e_X6_next_L0 n (uI σ 57 5 ((eI σ 57 5) + (1 : Int32)))) else (e_X6_next_J38 σ)) else none)
set_option maxRecDepth 100000 in
set_option maxHeartbeats 4000000 in
theorem p_X6_next_L0 {l : Launch} {E : MX} {out : ES}   : ∀ (n : Nat) (σ : ES), e_X6_next_L0 n σ = some out → MV l E cX6_next RX6 1 none 3 (82, none, mkS out) (mkS σ) 0 [(0, .ref 57)] [] := by
  intro n
  induction n with
  | zero =>
    intro σ h
    exact nomatch h
  | succ n ih =>
    intro σ h
    rw [e_X6_next_L0] at h
    refine mw_aload_n dX6_next_0 0 rfl ?_
    refine ev_getI fd_RX6_23_5 dX6_next_1 rfl rfl ?_
    refine mw_aload_n dX6_next_4 0 rfl ?_
    refine ev_getI fd_RX6_15_5 dX6_next_5 rfl rfl ?_
    refine mw_icmp_ge (tgt := 38) dX6_next_8 (by decide) (fun hc => ?_) (fun hc => ?_)
    · have h := mit hc h
      exact mw_sub (L' := [(0, .ref 57)]) [0] rfl (p_X6_next_J38  h)
    · have h := mie hc h
      refine mw_aload_n dX6_next_11 0 rfl ?_
      refine ev_getR (q := 58) fd_RX6_9_5 dX6_next_12 rfl rfl rfl ?_
      refine mw_aload_n dX6_next_15 0 rfl ?_
      refine ev_getI fd_RX6_23_5 dX6_next_16 rfl rfl ?_
      obtain ⟨m1, h⟩ := mif h
      refine ev_iald dX6_next_19 (by decide) rfl m1 ?_
      refine mw_bipush (v := 32) dX6_next_20 (by decide) ?_
      refine mw_icmp_ne (tgt := 38) dX6_next_22 (by decide) (fun hc => ?_) (fun hc => ?_)
      · have h := mie hc h
        exact mw_sub (L' := [(0, .ref 57)]) [0] rfl (p_X6_next_J38  h)
      · have h := mit hc h
        refine mw_aload_n dX6_next_25 0 rfl ?_
        refine mw_dup dX6_next_26 rfl ?_
        refine ev_getI fd_RX6_23_5 dX6_next_27 rfl rfl ?_
        refine mw_iconst (v := 1) dX6_next_30 (by decide) ?_
        refine mw_iadd dX6_next_31 ?_
        refine ev_putI fw_RX6_23_5 dX6_next_32 rfl rfl ?_
        refine mw_goto (tgt := 0) dX6_next_35 (by decide) ?_
        exact mw_sub (L' := [(0, .ref 57)]) [0] rfl (ih _ h)
def e_X6_next (σ : ES) : Option ES := if (eI σ 57 0) ≤ (eI σ 57 5) then (e_X6_next_J38 σ) else (if mib (eI σ 57 5) 120 = true then (if (eI σ 58 (eI σ 57 5).toNatClampNeg) = (32 : Int32) then (e_X6_next_L0 mN (uI σ 57 5 ((eI σ 57 5) + (1 : Int32)))) else (e_X6_next_J38 σ)) else none)
set_option maxRecDepth 100000 in
set_option maxHeartbeats 4000000 in
theorem k_X6_next {l : Launch} {σ : ES}  {out : ES} (h : e_X6_next σ = some out) : MK l yX6_next cX6_next 1 none 3 [.ref 57] (mkS σ) none (mkS out) := by
  unfold e_X6_next at h
  refine mw_entry (own := RX6) (ini := false) (L := [(0, .ref 57)]) (by decide +kernel) rfl (fun h => nomatch h) rfl (Nat.le_of_ble_eq_true rfl) (Nat.le_of_ble_eq_true rfl) (fun E => ?_)
  refine mw_aload_n dX6_next_0 0 rfl ?_
  refine ev_getI fd_RX6_23_5 dX6_next_1 rfl rfl ?_
  refine mw_aload_n dX6_next_4 0 rfl ?_
  refine ev_getI fd_RX6_15_5 dX6_next_5 rfl rfl ?_
  refine mw_icmp_ge (tgt := 38) dX6_next_8 (by decide) (fun hc => ?_) (fun hc => ?_)
  · have h := mit hc h
    exact mw_sub (L' := [(0, .ref 57)]) [0] rfl (p_X6_next_J38  h)
  · have h := mie hc h
    refine mw_aload_n dX6_next_11 0 rfl ?_
    refine ev_getR (q := 58) fd_RX6_9_5 dX6_next_12 rfl rfl rfl ?_
    refine mw_aload_n dX6_next_15 0 rfl ?_
    refine ev_getI fd_RX6_23_5 dX6_next_16 rfl rfl ?_
    obtain ⟨m1, h⟩ := mif h
    refine ev_iald dX6_next_19 (by decide) rfl m1 ?_
    refine mw_bipush (v := 32) dX6_next_20 (by decide) ?_
    refine mw_icmp_ne (tgt := 38) dX6_next_22 (by decide) (fun hc => ?_) (fun hc => ?_)
    · have h := mie hc h
      exact mw_sub (L' := [(0, .ref 57)]) [0] rfl (p_X6_next_J38  h)
    · have h := mit hc h
      refine mw_aload_n dX6_next_25 0 rfl ?_
      refine mw_dup dX6_next_26 rfl ?_
      refine ev_getI fd_RX6_23_5 dX6_next_27 rfl rfl ?_
      refine mw_iconst (v := 1) dX6_next_30 (by decide) ?_
      refine mw_iadd dX6_next_31 ?_
      refine ev_putI fw_RX6_23_5 dX6_next_32 rfl rfl ?_
      refine mw_goto (tgt := 0) dX6_next_35 (by decide) ?_
      exact mw_sub (L' := [(0, .ref 57)]) [0] rfl (p_X6_next_L0  mN _ h)

theorem dX6_isNumber_0 : decode cX6_isNumber 0 = .ok (.aload_n 0, 1) := by decide +kernel
theorem dX6_isNumber_1 : decode cX6_isNumber 1 = .ok (.getfield 36, 3) := by decide +kernel
theorem dX6_isNumber_4 : decode cX6_isNumber 4 = .ok (.iconst 2, 1) := by decide +kernel
theorem dX6_isNumber_5 : decode cX6_isNumber 5 = .ok (.if_icmp .ne 19, 3) := by decide +kernel
theorem dX6_isNumber_8 : decode cX6_isNumber 8 = .ok (.aload_n 0, 1) := by decide +kernel
theorem dX6_isNumber_9 : decode cX6_isNumber 9 = .ok (.getfield 74, 3) := by decide +kernel
theorem dX6_isNumber_12 : decode cX6_isNumber 12 = .ok (.iload_n 1, 1) := by decide +kernel
theorem dX6_isNumber_13 : decode cX6_isNumber 13 = .ok (.iload_n 2, 1) := by decide +kernel
theorem dX6_isNumber_14 : decode cX6_isNumber 14 = .ok (.invokestatic 123, 3) := by decide +kernel
theorem dX6_isNumber_17 : decode cX6_isNumber 17 = .ok (.ifCond .eq 7, 3) := by decide +kernel
theorem dX6_isNumber_20 : decode cX6_isNumber 20 = .ok (.iconst 1, 1) := by decide +kernel
theorem dX6_isNumber_21 : decode cX6_isNumber 21 = .ok (.goto 4, 3) := by decide +kernel
theorem dX6_isNumber_24 : decode cX6_isNumber 24 = .ok (.iconst 0, 1) := by decide +kernel
theorem dX6_isNumber_25 : decode cX6_isNumber 25 = .ok (.ireturn, 1) := by decide +kernel
def e_X6_isNumber (σ : ES) (a1 : Int32) (a2 : Int32) : Option Int32 := if (eI σ 57 3) = (2 : Int32) then ((e_X9_within (eI σ 57 6) a1 a2).bind (fun r1 => if r1 = 0 then (some (0 : Int32)) else (some (1 : Int32)))) else (some (0 : Int32))
set_option maxRecDepth 100000 in
set_option maxHeartbeats 4000000 in
theorem k_X6_isNumber {l : Launch} {σ : ES} {a1 : Int32} {a2 : Int32} {out : Int32} (h : e_X6_isNumber σ a1 a2 = some out) : MK l yX6_isNumber cX6_isNumber 3 (some .boolean) 2 [.ref 57, .int a1, .int a2] (mkS σ) (some (.int out)) (mkS σ) := by
  unfold e_X6_isNumber at h
  refine mw_entry (own := RX6) (ini := false) (L := [(0, .ref 57), (1, .int a1), (2, .int a2)]) (by decide +kernel) rfl (fun h => nomatch h) rfl (Nat.le_of_ble_eq_true rfl) (Nat.le_of_ble_eq_true rfl) (fun E => ?_)
  refine mw_aload_n dX6_isNumber_0 0 rfl ?_
  refine ev_getI fd_RX6_36_5 dX6_isNumber_1 rfl rfl ?_
  refine mw_iconst (v := 2) dX6_isNumber_4 (by decide) ?_
  refine mw_icmp_ne (tgt := 24) dX6_isNumber_5 (by decide) (fun hc => ?_) (fun hc => ?_)
  · have h := mie hc h
    refine mw_iconst (v := 0) dX6_isNumber_24 (by decide) ?_
    exact mw_zret dX6_isNumber_25 rfl (by decide) (ers_i h) rfl rfl
  · have h := mit hc h
    refine mw_aload_n dX6_isNumber_8 0 rfl ?_
    refine ev_getI fd_RX6_74_5 dX6_isNumber_9 rfl rfl ?_
    refine mw_iload_n dX6_isNumber_12 1 rfl ?_
    refine mw_iload_n dX6_isNumber_13 2 rfl ?_
    obtain ⟨r1, e2, h⟩ := mbd h
    refine mv_callSN_i (As := [.int (eI σ 57 6), .int a1, .int a2]) lkN_RX6_123_yX9_within dX6_isNumber_14 (k_X9_within e2) rfl rfl (Nat.le_of_ble_eq_true rfl) (by decide) (by decide) ?_
    refine mw_if_eq (tgt := 24) dX6_isNumber_17 (by decide) (fun hc => ?_) (fun hc => ?_)
    · have h := mit hc h
      refine mw_iconst (v := 0) dX6_isNumber_24 (by decide) ?_
      exact mw_zret dX6_isNumber_25 rfl (by decide) (ers_i h) rfl rfl
    · have h := mie hc h
      refine mw_iconst (v := 1) dX6_isNumber_20 (by decide) ?_
      refine mw_goto (tgt := 25) dX6_isNumber_21 (by decide) ?_
      exact mw_zret dX6_isNumber_25 rfl (by decide) (ers_i h) rfl rfl

theorem dX6_gainAndTime_0 : decode cX6_gainAndTime 0 = .ok (.aload_n 0, 1) := by decide +kernel
theorem dX6_gainAndTime_1 : decode cX6_gainAndTime 1 = .ok (.iconst 0, 1) := by decide +kernel
theorem dX6_gainAndTime_2 : decode cX6_gainAndTime 2 = .ok (.putfield 85, 3) := by decide +kernel
theorem dX6_gainAndTime_5 : decode cX6_gainAndTime 5 = .ok (.aload_n 0, 1) := by decide +kernel
theorem dX6_gainAndTime_6 : decode cX6_gainAndTime 6 = .ok (.iconst 1, 1) := by decide +kernel
theorem dX6_gainAndTime_7 : decode cX6_gainAndTime 7 = .ok (.putfield 88, 3) := by decide +kernel
theorem dX6_gainAndTime_10 : decode cX6_gainAndTime 10 = .ok (.aload_n 0, 1) := by decide +kernel
theorem dX6_gainAndTime_11 : decode cX6_gainAndTime 11 = .ok (.ldc 106, 2) := by decide +kernel
theorem dX6_gainAndTime_13 : decode cX6_gainAndTime 13 = .ok (.invokevirtual 41, 3) := by decide +kernel
theorem dX6_gainAndTime_16 : decode cX6_gainAndTime 16 = .ok (.istore_n 1, 1) := by decide +kernel
theorem dX6_gainAndTime_17 : decode cX6_gainAndTime 17 = .ok (.iload_n 1, 1) := by decide +kernel
theorem dX6_gainAndTime_18 : decode cX6_gainAndTime 18 = .ok (.ifCond .ne 12, 3) := by decide +kernel
theorem dX6_gainAndTime_21 : decode cX6_gainAndTime 21 = .ok (.aload_n 0, 1) := by decide +kernel
theorem dX6_gainAndTime_22 : decode cX6_gainAndTime 22 = .ok (.ldc 108, 2) := by decide +kernel
theorem dX6_gainAndTime_24 : decode cX6_gainAndTime 24 = .ok (.invokevirtual 41, 3) := by decide +kernel
theorem dX6_gainAndTime_27 : decode cX6_gainAndTime 27 = .ok (.ifCond .eq 43, 3) := by decide +kernel
theorem dX6_gainAndTime_30 : decode cX6_gainAndTime 30 = .ok (.aload_n 0, 1) := by decide +kernel
theorem dX6_gainAndTime_31 : decode cX6_gainAndTime 31 = .ok (.invokevirtual 26, 3) := by decide +kernel
theorem dX6_gainAndTime_34 : decode cX6_gainAndTime 34 = .ok (.aload_n 0, 1) := by decide +kernel
theorem dX6_gainAndTime_35 : decode cX6_gainAndTime 35 = .ok (.iconst 0, 1) := by decide +kernel
theorem dX6_gainAndTime_36 : decode cX6_gainAndTime 36 = .ok (.ldc 109, 2) := by decide +kernel
theorem dX6_gainAndTime_38 : decode cX6_gainAndTime 38 = .ok (.invokevirtual 70, 3) := by decide +kernel
theorem dX6_gainAndTime_41 : decode cX6_gainAndTime 41 = .ok (.ifCond .ne 5, 3) := by decide +kernel
theorem dX6_gainAndTime_44 : decode cX6_gainAndTime 44 = .ok (.iconst 0, 1) := by decide +kernel
theorem dX6_gainAndTime_45 : decode cX6_gainAndTime 45 = .ok (.ireturn, 1) := by decide +kernel
theorem dX6_gainAndTime_46 : decode cX6_gainAndTime 46 = .ok (.aload_n 0, 1) := by decide +kernel
theorem dX6_gainAndTime_47 : decode cX6_gainAndTime 47 = .ok (.iload_n 1, 1) := by decide +kernel
theorem dX6_gainAndTime_48 : decode cX6_gainAndTime 48 = .ok (.ifCond .eq 11, 3) := by decide +kernel
theorem dX6_gainAndTime_51 : decode cX6_gainAndTime 51 = .ok (.aload_n 0, 1) := by decide +kernel
theorem dX6_gainAndTime_52 : decode cX6_gainAndTime 52 = .ok (.getfield 74, 3) := by decide +kernel
theorem dX6_gainAndTime_55 : decode cX6_gainAndTime 55 = .ok (.ineg, 1) := by decide +kernel
theorem dX6_gainAndTime_56 : decode cX6_gainAndTime 56 = .ok (.goto 7, 3) := by decide +kernel
theorem dX6_gainAndTime_59 : decode cX6_gainAndTime 59 = .ok (.aload_n 0, 1) := by decide +kernel
theorem dX6_gainAndTime_60 : decode cX6_gainAndTime 60 = .ok (.getfield 74, 3) := by decide +kernel
theorem dX6_gainAndTime_63 : decode cX6_gainAndTime 63 = .ok (.putfield 85, 3) := by decide +kernel
theorem dX6_gainAndTime_66 : decode cX6_gainAndTime 66 = .ok (.aload_n 0, 1) := by decide +kernel
theorem dX6_gainAndTime_67 : decode cX6_gainAndTime 67 = .ok (.invokevirtual 26, 3) := by decide +kernel
theorem dX6_gainAndTime_70 : decode cX6_gainAndTime 70 = .ok (.aload_n 0, 1) := by decide +kernel
theorem dX6_gainAndTime_71 : decode cX6_gainAndTime 71 = .ok (.ldc 110, 2) := by decide +kernel
theorem dX6_gainAndTime_73 : decode cX6_gainAndTime 73 = .ok (.invokevirtual 41, 3) := by decide +kernel
theorem dX6_gainAndTime_76 : decode cX6_gainAndTime 76 = .ok (.ifCond .eq 31, 3) := by decide +kernel
theorem dX6_gainAndTime_79 : decode cX6_gainAndTime 79 = .ok (.aload_n 0, 1) := by decide +kernel
theorem dX6_gainAndTime_80 : decode cX6_gainAndTime 80 = .ok (.invokevirtual 26, 3) := by decide +kernel
theorem dX6_gainAndTime_83 : decode cX6_gainAndTime 83 = .ok (.aload_n 0, 1) := by decide +kernel
theorem dX6_gainAndTime_84 : decode cX6_gainAndTime 84 = .ok (.iconst 1, 1) := by decide +kernel
theorem dX6_gainAndTime_85 : decode cX6_gainAndTime 85 = .ok (.ldc 109, 2) := by decide +kernel
theorem dX6_gainAndTime_87 : decode cX6_gainAndTime 87 = .ok (.invokevirtual 70, 3) := by decide +kernel
theorem dX6_gainAndTime_90 : decode cX6_gainAndTime 90 = .ok (.ifCond .ne 5, 3) := by decide +kernel
theorem dX6_gainAndTime_93 : decode cX6_gainAndTime 93 = .ok (.iconst 0, 1) := by decide +kernel
theorem dX6_gainAndTime_94 : decode cX6_gainAndTime 94 = .ok (.ireturn, 1) := by decide +kernel
theorem dX6_gainAndTime_95 : decode cX6_gainAndTime 95 = .ok (.aload_n 0, 1) := by decide +kernel
theorem dX6_gainAndTime_96 : decode cX6_gainAndTime 96 = .ok (.aload_n 0, 1) := by decide +kernel
theorem dX6_gainAndTime_97 : decode cX6_gainAndTime 97 = .ok (.getfield 74, 3) := by decide +kernel
theorem dX6_gainAndTime_100 : decode cX6_gainAndTime 100 = .ok (.putfield 88, 3) := by decide +kernel
theorem dX6_gainAndTime_103 : decode cX6_gainAndTime 103 = .ok (.aload_n 0, 1) := by decide +kernel
theorem dX6_gainAndTime_104 : decode cX6_gainAndTime 104 = .ok (.invokevirtual 26, 3) := by decide +kernel
theorem dX6_gainAndTime_107 : decode cX6_gainAndTime 107 = .ok (.iconst 1, 1) := by decide +kernel
theorem dX6_gainAndTime_108 : decode cX6_gainAndTime 108 = .ok (.ireturn, 1) := by decide +kernel
def e_X6_gainAndTime_J70 (σ : ES) : Option (Int32 × ES) := (e_X6_isWord σ (1000 + 11)).bind (fun r1 => if r1 = 0 then (some ((1 : Int32), σ)) else ((e_X6_next σ).bind (fun r3 => (e_X6_isNumber r3 (1 : Int32) (999999 : Int32)).bind (fun r5 => if r5 = 0 then (some ((0 : Int32), r3)) else ((e_X6_next (uI r3 57 8 (eI r3 57 6))).bind (fun r7 => some ((1 : Int32), r7)))))))
set_option maxRecDepth 100000 in
set_option maxHeartbeats 4000000 in
theorem p_X6_gainAndTime_J70 {l : Launch} {E : MX} {out : (Int32 × ES)}   {σ : ES} (h : e_X6_gainAndTime_J70 σ = some out) : MV l E cX6_gainAndTime RX6 2 (some .boolean) 6 (82, (some (.int out.1)), mkS out.2) (mkS σ) 70 [(0, .ref 57)] [] := by
  unfold e_X6_gainAndTime_J70 at h
  refine mw_aload_n dX6_gainAndTime_70 0 rfl ?_
  refine mv_ldcS 11 (by decide) rfl rfl dX6_gainAndTime_71 ?_
  obtain ⟨r1, e2, h⟩ := mbd h
  refine mv_callV_i (As := [.ref (1000 + 11)]) (ci := 5) lkV_RX6_41_yX6_isWord dX6_gainAndTime_73 (k_X6_isWord e2) rfl rfl rfl rfl (Nat.le_of_ble_eq_true rfl) (by decide) (by decide) ?_
  refine mw_if_eq (tgt := 107) dX6_gainAndTime_76 (by decide) (fun hc => ?_) (fun hc => ?_)
  · have h := mit hc h
    refine mw_iconst (v := 1) dX6_gainAndTime_107 (by decide) ?_
    exact mw_zret dX6_gainAndTime_108 rfl (by decide) (ers_im h) rfl rfl
  · have h := mie hc h
    refine mw_aload_n dX6_gainAndTime_79 0 rfl ?_
    obtain ⟨r3, e4, h⟩ := mbd h
    refine mv_callV_v (As := []) (ci := 5) lkV_RX6_26_yX6_next dX6_gainAndTime_80 (k_X6_next e4) rfl rfl rfl rfl (Nat.le_of_ble_eq_true rfl) (by decide) (by decide) ?_
    refine mw_aload_n dX6_gainAndTime_83 0 rfl ?_
    refine mw_iconst (v := 1) dX6_gainAndTime_84 (by decide) ?_
    refine mw_ldc dX6_gainAndTime_85 wt_534 ?_
    obtain ⟨r5, e6, h⟩ := mbd h
    refine mv_callV_i (As := [.int (1 : Int32), .int (999999 : Int32)]) (ci := 5) lkV_RX6_70_yX6_isNumber dX6_gainAndTime_87 (k_X6_isNumber e6) rfl rfl rfl rfl (Nat.le_of_ble_eq_true rfl) (by decide) (by decide) ?_
    refine mw_if_ne (tgt := 95) dX6_gainAndTime_90 (by decide) (fun hc => ?_) (fun hc => ?_)
    · have h := mie hc h
      refine mw_aload_n dX6_gainAndTime_95 0 rfl ?_
      refine mw_aload_n dX6_gainAndTime_96 0 rfl ?_
      refine ev_getI fd_RX6_74_5 dX6_gainAndTime_97 rfl rfl ?_
      refine ev_putI fw_RX6_88_5 dX6_gainAndTime_100 rfl rfl ?_
      refine mw_aload_n dX6_gainAndTime_103 0 rfl ?_
      obtain ⟨r7, e8, h⟩ := mbd h
      refine mv_callV_v (As := []) (ci := 5) lkV_RX6_26_yX6_next dX6_gainAndTime_104 (k_X6_next e8) rfl rfl rfl rfl (Nat.le_of_ble_eq_true rfl) (by decide) (by decide) ?_
      refine mw_iconst (v := 1) dX6_gainAndTime_107 (by decide) ?_
      exact mw_zret dX6_gainAndTime_108 rfl (by decide) (ers_im h) rfl rfl
    · have h := mit hc h
      refine mw_iconst (v := 0) dX6_gainAndTime_93 (by decide) ?_
      exact mw_zret dX6_gainAndTime_94 rfl (by decide) (ers_im h) rfl rfl
def e_X6_gainAndTime_J63 (s1 : Int32) (σ : ES) : Option (Int32 × ES) := (e_X6_next (uI σ 57 7 s1)).bind (fun r1 => e_X6_gainAndTime_J70 r1)
set_option maxRecDepth 100000 in
set_option maxHeartbeats 4000000 in
theorem p_X6_gainAndTime_J63 {l : Launch} {E : MX} {out : (Int32 × ES)}   {s1 : Int32} {σ : ES} (h : e_X6_gainAndTime_J63 s1 σ = some out) : MV l E cX6_gainAndTime RX6 2 (some .boolean) 6 (82, (some (.int out.1)), mkS out.2) (mkS σ) 63 [(0, .ref 57)] [.int s1, .ref 57] := by
  unfold e_X6_gainAndTime_J63 at h
  refine ev_putI fw_RX6_85_5 dX6_gainAndTime_63 rfl rfl ?_
  refine mw_aload_n dX6_gainAndTime_66 0 rfl ?_
  obtain ⟨r1, e2, h⟩ := mbd h
  refine mv_callV_v (As := []) (ci := 5) lkV_RX6_26_yX6_next dX6_gainAndTime_67 (k_X6_next e2) rfl rfl rfl rfl (Nat.le_of_ble_eq_true rfl) (by decide) (by decide) ?_
  exact mw_sub (L' := [(0, .ref 57)]) [0] rfl (p_X6_gainAndTime_J70  h)
def e_X6_gainAndTime_J30 (x1 : Int32) (σ : ES) : Option (Int32 × ES) := (e_X6_next σ).bind (fun r1 => (e_X6_isNumber r1 (0 : Int32) (999999 : Int32)).bind (fun r3 => if r3 = 0 then (some ((0 : Int32), r1)) else (if x1 = 0 then (e_X6_gainAndTime_J63 (eI r1 57 6) r1) else (e_X6_gainAndTime_J63 (-(eI r1 57 6)) r1))))
set_option maxRecDepth 100000 in
set_option maxHeartbeats 4000000 in
theorem p_X6_gainAndTime_J30 {l : Launch} {E : MX} {out : (Int32 × ES)}   {x1 : Int32} {σ : ES} (h : e_X6_gainAndTime_J30 x1 σ = some out) : MV l E cX6_gainAndTime RX6 2 (some .boolean) 6 (82, (some (.int out.1)), mkS out.2) (mkS σ) 30 [(0, .ref 57), (1, .int x1)] [] := by
  unfold e_X6_gainAndTime_J30 at h
  refine mw_aload_n dX6_gainAndTime_30 0 rfl ?_
  obtain ⟨r1, e2, h⟩ := mbd h
  refine mv_callV_v (As := []) (ci := 5) lkV_RX6_26_yX6_next dX6_gainAndTime_31 (k_X6_next e2) rfl rfl rfl rfl (Nat.le_of_ble_eq_true rfl) (by decide) (by decide) ?_
  refine mw_aload_n dX6_gainAndTime_34 0 rfl ?_
  refine mw_iconst (v := 0) dX6_gainAndTime_35 (by decide) ?_
  refine mw_ldc dX6_gainAndTime_36 wt_534 ?_
  obtain ⟨r3, e4, h⟩ := mbd h
  refine mv_callV_i (As := [.int (0 : Int32), .int (999999 : Int32)]) (ci := 5) lkV_RX6_70_yX6_isNumber dX6_gainAndTime_38 (k_X6_isNumber e4) rfl rfl rfl rfl (Nat.le_of_ble_eq_true rfl) (by decide) (by decide) ?_
  refine mw_if_ne (tgt := 46) dX6_gainAndTime_41 (by decide) (fun hc => ?_) (fun hc => ?_)
  · have h := mie hc h
    refine mw_aload_n dX6_gainAndTime_46 0 rfl ?_
    refine mw_iload_n dX6_gainAndTime_47 1 rfl ?_
    refine mw_if_eq (tgt := 59) dX6_gainAndTime_48 (by decide) (fun hc => ?_) (fun hc => ?_)
    · have h := mit hc h
      refine mw_aload_n dX6_gainAndTime_59 0 rfl ?_
      refine ev_getI fd_RX6_74_5 dX6_gainAndTime_60 rfl rfl ?_
      exact mw_sub (L' := [(0, .ref 57)]) [0] rfl (p_X6_gainAndTime_J63  h)
    · have h := mie hc h
      refine mw_aload_n dX6_gainAndTime_51 0 rfl ?_
      refine ev_getI fd_RX6_74_5 dX6_gainAndTime_52 rfl rfl ?_
      refine mw_ineg dX6_gainAndTime_55 ?_
      refine mw_goto (tgt := 63) dX6_gainAndTime_56 (by decide) ?_
      exact mw_sub (L' := [(0, .ref 57)]) [0] rfl (p_X6_gainAndTime_J63  h)
  · have h := mit hc h
    refine mw_iconst (v := 0) dX6_gainAndTime_44 (by decide) ?_
    exact mw_zret dX6_gainAndTime_45 rfl (by decide) (ers_im h) rfl rfl
def e_X6_gainAndTime (σ : ES) : Option (Int32 × ES) := (e_X6_isWord (uI (uI σ 57 7 (0 : Int32)) 57 8 (1 : Int32)) (1000 + 9)).bind (fun r1 => if r1 = 0 then ((e_X6_isWord (uI (uI σ 57 7 (0 : Int32)) 57 8 (1 : Int32)) (1000 + 10)).bind (fun r3 => if r3 = 0 then (e_X6_gainAndTime_J70 (uI (uI σ 57 7 (0 : Int32)) 57 8 (1 : Int32))) else (e_X6_gainAndTime_J30 r1 (uI (uI σ 57 7 (0 : Int32)) 57 8 (1 : Int32))))) else (e_X6_gainAndTime_J30 r1 (uI (uI σ 57 7 (0 : Int32)) 57 8 (1 : Int32))))
set_option maxRecDepth 100000 in
set_option maxHeartbeats 4000000 in
theorem k_X6_gainAndTime {l : Launch} {σ : ES}  {out : (Int32 × ES)} (h : e_X6_gainAndTime σ = some out) : MK l yX6_gainAndTime cX6_gainAndTime 2 (some .boolean) 6 [.ref 57] (mkS σ) (some (.int out.1)) (mkS out.2) := by
  unfold e_X6_gainAndTime at h
  refine mw_entry (own := RX6) (ini := false) (L := [(0, .ref 57)]) (by decide +kernel) rfl (fun h => nomatch h) rfl (Nat.le_of_ble_eq_true rfl) (Nat.le_of_ble_eq_true rfl) (fun E => ?_)
  refine mw_aload_n dX6_gainAndTime_0 0 rfl ?_
  refine mw_iconst (v := 0) dX6_gainAndTime_1 (by decide) ?_
  refine ev_putI fw_RX6_85_5 dX6_gainAndTime_2 rfl rfl ?_
  refine mw_aload_n dX6_gainAndTime_5 0 rfl ?_
  refine mw_iconst (v := 1) dX6_gainAndTime_6 (by decide) ?_
  refine ev_putI fw_RX6_88_5 dX6_gainAndTime_7 rfl rfl ?_
  refine mw_aload_n dX6_gainAndTime_10 0 rfl ?_
  refine mv_ldcS 9 (by decide) rfl rfl dX6_gainAndTime_11 ?_
  obtain ⟨r1, e2, h⟩ := mbd h
  refine mv_callV_i (As := [.ref (1000 + 9)]) (ci := 5) lkV_RX6_41_yX6_isWord dX6_gainAndTime_13 (k_X6_isWord e2) rfl rfl rfl rfl (Nat.le_of_ble_eq_true rfl) (by decide) (by decide) ?_
  refine mw_istore_n (L' := [(1, .int r1), (0, .ref 57)]) dX6_gainAndTime_16 rfl (by decide) rfl ?_
  refine mw_iload_n dX6_gainAndTime_17 0 rfl ?_
  refine mw_if_ne (tgt := 30) dX6_gainAndTime_18 (by decide) (fun hc => ?_) (fun hc => ?_)
  · have h := mie hc h
    exact mw_sub (L' := [(0, .ref 57), (1, .int r1)]) [1, 0] rfl (p_X6_gainAndTime_J30  h)
  · have h := mit hc h
    refine mw_aload_n dX6_gainAndTime_21 1 rfl ?_
    refine mv_ldcS 10 (by decide) rfl rfl dX6_gainAndTime_22 ?_
    obtain ⟨r3, e4, h⟩ := mbd h
    refine mv_callV_i (As := [.ref (1000 + 10)]) (ci := 5) lkV_RX6_41_yX6_isWord dX6_gainAndTime_24 (k_X6_isWord e4) rfl rfl rfl rfl (Nat.le_of_ble_eq_true rfl) (by decide) (by decide) ?_
    refine mw_if_eq (tgt := 70) dX6_gainAndTime_27 (by decide) (fun hc => ?_) (fun hc => ?_)
    · have h := mit hc h
      exact mw_sub (L' := [(0, .ref 57)]) [1] rfl (p_X6_gainAndTime_J70  h)
    · have h := mie hc h
      exact mw_sub (L' := [(0, .ref 57), (1, .int r1)]) [1, 0] rfl (p_X6_gainAndTime_J30  h)

def e_X1_newWay_19 (a1 : Int32) (a2 : Int32) (a3 : Int32) (a4 : Int32) (a5 : Int32) (σ : ES) : Option (Int32 × ES) := if mib (eI σ 19 2) 14 = true then (some ((eI σ 19 2), (uI (uI (uI (uI (uI (uI (uI σ 20 (eI σ 19 2).toNatClampNeg a1) 21 (eI σ 19 2).toNatClampNeg a2) 22 (eI σ 19 2).toNatClampNeg a3) 23 (eI σ 19 2).toNatClampNeg a4) 24 (eI σ 19 2).toNatClampNeg a5) 25 (eI σ 19 2).toNatClampNeg (0 : Int32)) 19 2 ((eI (uI (uI (uI (uI (uI (uI σ 20 (eI σ 19 2).toNatClampNeg a1) 21 (eI σ 19 2).toNatClampNeg a2) 22 (eI σ 19 2).toNatClampNeg a3) 23 (eI σ 19 2).toNatClampNeg a4) 24 (eI σ 19 2).toNatClampNeg a5) 25 (eI σ 19 2).toNatClampNeg (0 : Int32)) 19 2) + (1 : Int32))))) else none
set_option maxRecDepth 100000 in
set_option maxHeartbeats 4000000 in
theorem k_X1_newWay_19 {l : Launch} {σ : ES} {a1 : Int32} {a2 : Int32} {a3 : Int32} {a4 : Int32} {a5 : Int32} {out : (Int32 × ES)} (h : e_X1_newWay_19 a1 a2 a3 a4 a5 σ = some out) : MK l yX1_newWay cX1_newWay 7 (some .int) 1 [.ref 19, .int a1, .int a2, .int a3, .int a4, .int a5] (mkS σ) (some (.int out.1)) (mkS out.2) := by
  unfold e_X1_newWay_19 at h
  refine mw_entry (own := RX1) (ini := false) (L := [(0, .ref 19), (1, .int a1), (2, .int a2), (3, .int a3), (4, .int a4), (5, .int a5)]) (by decide +kernel) rfl (fun h => nomatch h) rfl (Nat.le_of_ble_eq_true rfl) (Nat.le_of_ble_eq_true rfl) (fun E => ?_)
  refine mw_aload_n dX1_newWay_0 0 rfl ?_
  refine ev_getI fd_RX1_44_0 dX1_newWay_1 rfl rfl ?_
  refine mw_istore (L' := [(6, .int (eI σ 19 2)), (0, .ref 19), (1, .int a1), (2, .int a2), (3, .int a3), (4, .int a4), (5, .int a5)]) dX1_newWay_4 (by decide) rfl ?_
  refine mw_aload_n dX1_newWay_6 1 rfl ?_
  refine ev_getR (q := 20) fd_RX1_15_0 dX1_newWay_7 rfl rfl rfl ?_
  refine mw_iload dX1_newWay_10 0 rfl ?_
  refine mw_iload_n dX1_newWay_12 2 rfl ?_
  obtain ⟨m1, h⟩ := mif h
  refine ev_iast dX1_newWay_13 (by decide) rfl m1 ?_
  refine mw_aload_n dX1_newWay_14 1 rfl ?_
  refine ev_getR (q := 21) fd_RX1_19_0 dX1_newWay_15 rfl rfl rfl ?_
  refine mw_iload dX1_newWay_18 0 rfl ?_
  refine mw_iload_n dX1_newWay_20 3 rfl ?_
  refine ev_iast dX1_newWay_21 (by decide) rfl m1 ?_
  refine mw_aload_n dX1_newWay_22 1 rfl ?_
  refine ev_getR (q := 22) fd_RX1_22_0 dX1_newWay_23 rfl rfl rfl ?_
  refine mw_iload dX1_newWay_26 0 rfl ?_
  refine mw_iload_n dX1_newWay_28 4 rfl ?_
  refine ev_iast dX1_newWay_29 (by decide) rfl m1 ?_
  refine mw_aload_n dX1_newWay_30 1 rfl ?_
  refine ev_getR (q := 23) fd_RX1_25_0 dX1_newWay_31 rfl rfl rfl ?_
  refine mw_iload dX1_newWay_34 0 rfl ?_
  refine mw_iload dX1_newWay_36 5 rfl ?_
  refine ev_iast dX1_newWay_38 (by decide) rfl m1 ?_
  refine mw_aload_n dX1_newWay_39 1 rfl ?_
  refine ev_getR (q := 24) fd_RX1_28_0 dX1_newWay_40 rfl rfl rfl ?_
  refine mw_iload dX1_newWay_43 0 rfl ?_
  refine mw_iload dX1_newWay_45 6 rfl ?_
  refine ev_iast dX1_newWay_47 (by decide) rfl m1 ?_
  refine mw_aload_n dX1_newWay_48 1 rfl ?_
  refine ev_getR (q := 25) fd_RX1_31_0 dX1_newWay_49 rfl rfl rfl ?_
  refine mw_iload dX1_newWay_52 0 rfl ?_
  refine mw_iconst (v := 0) dX1_newWay_54 (by decide) ?_
  refine ev_iast dX1_newWay_55 (by decide) rfl m1 ?_
  refine mw_aload_n dX1_newWay_56 1 rfl ?_
  refine mw_dup dX1_newWay_57 rfl ?_
  refine ev_getI fd_RX1_44_0 dX1_newWay_58 rfl rfl ?_
  refine mw_iconst (v := 1) dX1_newWay_61 (by decide) ?_
  refine mw_iadd dX1_newWay_62 ?_
  refine ev_putI fw_RX1_44_0 dX1_newWay_63 rfl rfl ?_
  refine mw_iload dX1_newWay_66 0 rfl ?_
  exact mw_iret dX1_newWay_68 rfl (ers_im h) rfl rfl

theorem dX6_wayItem_0 : decode cX6_wayItem 0 = .ok (.iload_n 1, 1) := by decide +kernel
theorem dX6_wayItem_1 : decode cX6_wayItem 1 = .ok (.ifCond .lt 15, 3) := by decide +kernel
theorem dX6_wayItem_4 : decode cX6_wayItem 4 = .ok (.aload_n 0, 1) := by decide +kernel
theorem dX6_wayItem_5 : decode cX6_wayItem 5 = .ok (.getfield 19, 3) := by decide +kernel
theorem dX6_wayItem_8 : decode cX6_wayItem 8 = .ok (.getfield 95, 3) := by decide +kernel
theorem dX6_wayItem_11 : decode cX6_wayItem 11 = .ok (.bipush 14, 2) := by decide +kernel
theorem dX6_wayItem_13 : decode cX6_wayItem 13 = .ok (.if_icmp .lt 5, 3) := by decide +kernel
theorem dX6_wayItem_16 : decode cX6_wayItem 16 = .ok (.iconst 0, 1) := by decide +kernel
theorem dX6_wayItem_17 : decode cX6_wayItem 17 = .ok (.ireturn, 1) := by decide +kernel
theorem dX6_wayItem_18 : decode cX6_wayItem 18 = .ok (.aload_n 0, 1) := by decide +kernel
theorem dX6_wayItem_19 : decode cX6_wayItem 19 = .ok (.invokevirtual 26, 3) := by decide +kernel
theorem dX6_wayItem_22 : decode cX6_wayItem 22 = .ok (.aload_n 0, 1) := by decide +kernel
theorem dX6_wayItem_23 : decode cX6_wayItem 23 = .ok (.iconst 0, 1) := by decide +kernel
theorem dX6_wayItem_24 : decode cX6_wayItem 24 = .ok (.aload_n 0, 1) := by decide +kernel
theorem dX6_wayItem_25 : decode cX6_wayItem 25 = .ok (.getfield 19, 3) := by decide +kernel
theorem dX6_wayItem_28 : decode cX6_wayItem 28 = .ok (.getfield 66, 3) := by decide +kernel
theorem dX6_wayItem_31 : decode cX6_wayItem 31 = .ok (.iconst 1, 1) := by decide +kernel
theorem dX6_wayItem_32 : decode cX6_wayItem 32 = .ok (.isub, 1) := by decide +kernel
theorem dX6_wayItem_33 : decode cX6_wayItem 33 = .ok (.invokevirtual 70, 3) := by decide +kernel
theorem dX6_wayItem_36 : decode cX6_wayItem 36 = .ok (.ifCond .ne 5, 3) := by decide +kernel
theorem dX6_wayItem_39 : decode cX6_wayItem 39 = .ok (.iconst 0, 1) := by decide +kernel
theorem dX6_wayItem_40 : decode cX6_wayItem 40 = .ok (.ireturn, 1) := by decide +kernel
theorem dX6_wayItem_41 : decode cX6_wayItem 41 = .ok (.aload_n 0, 1) := by decide +kernel
theorem dX6_wayItem_42 : decode cX6_wayItem 42 = .ok (.getfield 74, 3) := by decide +kernel
theorem dX6_wayItem_45 : decode cX6_wayItem 45 = .ok (.istore_n 2, 1) := by decide +kernel
theorem dX6_wayItem_46 : decode cX6_wayItem 46 = .ok (.aload_n 0, 1) := by decide +kernel
theorem dX6_wayItem_47 : decode cX6_wayItem 47 = .ok (.invokevirtual 26, 3) := by decide +kernel
theorem dX6_wayItem_50 : decode cX6_wayItem 50 = .ok (.aload_n 0, 1) := by decide +kernel
theorem dX6_wayItem_51 : decode cX6_wayItem 51 = .ok (.iconst 0, 1) := by decide +kernel
theorem dX6_wayItem_52 : decode cX6_wayItem 52 = .ok (.aload_n 0, 1) := by decide +kernel
theorem dX6_wayItem_53 : decode cX6_wayItem 53 = .ok (.getfield 19, 3) := by decide +kernel
theorem dX6_wayItem_56 : decode cX6_wayItem 56 = .ok (.getfield 66, 3) := by decide +kernel
theorem dX6_wayItem_59 : decode cX6_wayItem 59 = .ok (.iconst 1, 1) := by decide +kernel
theorem dX6_wayItem_60 : decode cX6_wayItem 60 = .ok (.isub, 1) := by decide +kernel
theorem dX6_wayItem_61 : decode cX6_wayItem 61 = .ok (.invokevirtual 70, 3) := by decide +kernel
theorem dX6_wayItem_64 : decode cX6_wayItem 64 = .ok (.ifCond .eq 11, 3) := by decide +kernel
theorem dX6_wayItem_67 : decode cX6_wayItem 67 = .ok (.aload_n 0, 1) := by decide +kernel
theorem dX6_wayItem_68 : decode cX6_wayItem 68 = .ok (.getfield 74, 3) := by decide +kernel
theorem dX6_wayItem_71 : decode cX6_wayItem 71 = .ok (.iload_n 2, 1) := by decide +kernel
theorem dX6_wayItem_72 : decode cX6_wayItem 72 = .ok (.if_icmp .ne 5, 3) := by decide +kernel
theorem dX6_wayItem_75 : decode cX6_wayItem 75 = .ok (.iconst 0, 1) := by decide +kernel
theorem dX6_wayItem_76 : decode cX6_wayItem 76 = .ok (.ireturn, 1) := by decide +kernel
theorem dX6_wayItem_77 : decode cX6_wayItem 77 = .ok (.aload_n 0, 1) := by decide +kernel
theorem dX6_wayItem_78 : decode cX6_wayItem 78 = .ok (.getfield 74, 3) := by decide +kernel
theorem dX6_wayItem_81 : decode cX6_wayItem 81 = .ok (.istore_n 3, 1) := by decide +kernel
theorem dX6_wayItem_82 : decode cX6_wayItem 82 = .ok (.aload_n 0, 1) := by decide +kernel
theorem dX6_wayItem_83 : decode cX6_wayItem 83 = .ok (.invokevirtual 26, 3) := by decide +kernel
theorem dX6_wayItem_86 : decode cX6_wayItem 86 = .ok (.aload_n 0, 1) := by decide +kernel
theorem dX6_wayItem_87 : decode cX6_wayItem 87 = .ok (.invokevirtual 82, 3) := by decide +kernel
theorem dX6_wayItem_90 : decode cX6_wayItem 90 = .ok (.ifCond .ne 5, 3) := by decide +kernel
theorem dX6_wayItem_93 : decode cX6_wayItem 93 = .ok (.iconst 0, 1) := by decide +kernel
theorem dX6_wayItem_94 : decode cX6_wayItem 94 = .ok (.ireturn, 1) := by decide +kernel
theorem dX6_wayItem_95 : decode cX6_wayItem 95 = .ok (.aload_n 0, 1) := by decide +kernel
theorem dX6_wayItem_96 : decode cX6_wayItem 96 = .ok (.getfield 19, 3) := by decide +kernel
theorem dX6_wayItem_99 : decode cX6_wayItem 99 = .ok (.iload_n 1, 1) := by decide +kernel
theorem dX6_wayItem_100 : decode cX6_wayItem 100 = .ok (.iload_n 2, 1) := by decide +kernel
theorem dX6_wayItem_101 : decode cX6_wayItem 101 = .ok (.iload_n 3, 1) := by decide +kernel
theorem dX6_wayItem_102 : decode cX6_wayItem 102 = .ok (.aload_n 0, 1) := by decide +kernel
theorem dX6_wayItem_103 : decode cX6_wayItem 103 = .ok (.getfield 85, 3) := by decide +kernel
theorem dX6_wayItem_106 : decode cX6_wayItem 106 = .ok (.aload_n 0, 1) := by decide +kernel
theorem dX6_wayItem_107 : decode cX6_wayItem 107 = .ok (.getfield 88, 3) := by decide +kernel
theorem dX6_wayItem_110 : decode cX6_wayItem 110 = .ok (.invokevirtual 98, 3) := by decide +kernel
theorem dX6_wayItem_113 : decode cX6_wayItem 113 = .ok (.istore 4, 2) := by decide +kernel
theorem dX6_wayItem_115 : decode cX6_wayItem 115 = .ok (.aload_n 0, 1) := by decide +kernel
theorem dX6_wayItem_116 : decode cX6_wayItem 116 = .ok (.ldc 102, 2) := by decide +kernel
theorem dX6_wayItem_118 : decode cX6_wayItem 118 = .ok (.invokevirtual 41, 3) := by decide +kernel
theorem dX6_wayItem_121 : decode cX6_wayItem 121 = .ok (.ifCond .eq 18, 3) := by decide +kernel
theorem dX6_wayItem_124 : decode cX6_wayItem 124 = .ok (.aload_n 0, 1) := by decide +kernel
theorem dX6_wayItem_125 : decode cX6_wayItem 125 = .ok (.getfield 19, 3) := by decide +kernel
theorem dX6_wayItem_128 : decode cX6_wayItem 128 = .ok (.getfield 104, 3) := by decide +kernel
theorem dX6_wayItem_131 : decode cX6_wayItem 131 = .ok (.iload 4, 2) := by decide +kernel
theorem dX6_wayItem_133 : decode cX6_wayItem 133 = .ok (.iconst 1, 1) := by decide +kernel
theorem dX6_wayItem_134 : decode cX6_wayItem 134 = .ok (.iastore, 1) := by decide +kernel
theorem dX6_wayItem_135 : decode cX6_wayItem 135 = .ok (.aload_n 0, 1) := by decide +kernel
theorem dX6_wayItem_136 : decode cX6_wayItem 136 = .ok (.invokevirtual 26, 3) := by decide +kernel
theorem dX6_wayItem_139 : decode cX6_wayItem 139 = .ok (.iconst 1, 1) := by decide +kernel
theorem dX6_wayItem_140 : decode cX6_wayItem 140 = .ok (.ireturn, 1) := by decide +kernel
def e_X6_wayItem (a1 : Int32) (σ : ES) : Option (Int32 × ES) := if a1 < 0 then (some ((0 : Int32), σ)) else (if eT σ 2 = some 19 then (if (eI σ 19 2) < (14 : Int32) then ((e_X6_next σ).bind (fun r2 => if eT r2 2 = some 19 then ((e_X6_isNumber r2 (0 : Int32) ((eI r2 19 0) - (1 : Int32))).bind (fun r5 => if r5 = 0 then (some ((0 : Int32), r2)) else ((e_X6_next r2).bind (fun r7 => if eT r7 2 = some 19 then ((e_X6_isNumber r7 (0 : Int32) ((eI r7 19 0) - (1 : Int32))).bind (fun r10 => if r10 = 0 then (some ((0 : Int32), r7)) else (if (eI r7 57 6) = (eI r2 57 6) then (some ((0 : Int32), r7)) else ((e_X6_next r7).bind (fun r12 => (e_X6_gainAndTime r12).bind (fun r14 => if r14.1 = 0 then (some ((0 : Int32), r14.2)) else (if eT r14.2 2 = some 19 then ((e_X1_newWay_19 a1 (eI r2 57 6) (eI r7 57 6) (eI r14.2 57 7) (eI r14.2 57 8) r14.2).bind (fun r17 => (e_X6_isWord r17.2 (1000 + 12)).bind (fun r19 => if r19 = 0 then (some ((1 : Int32), r17.2)) else (if eT r17.2 2 = some 19 then (if mib r17.1 14 = true then ((e_X6_next (uI r17.2 25 r17.1.toNatClampNeg (1 : Int32))).bind (fun r23 => some ((1 : Int32), r23))) else none) else none)))) else none))))))) else none)))) else none)) else (some ((0 : Int32), σ))) else none)
set_option maxRecDepth 100000 in
set_option maxHeartbeats 4000000 in
theorem k_X6_wayItem {l : Launch} {σ : ES} {a1 : Int32} {out : (Int32 × ES)} (h : e_X6_wayItem a1 σ = some out) : MK l yX6_wayItem cX6_wayItem 5 (some .boolean) 7 [.ref 57, .int a1] (mkS σ) (some (.int out.1)) (mkS out.2) := by
  unfold e_X6_wayItem at h
  refine mw_entry (own := RX6) (ini := false) (L := [(0, .ref 57), (1, .int a1)]) (by decide +kernel) rfl (fun h => nomatch h) rfl (Nat.le_of_ble_eq_true rfl) (Nat.le_of_ble_eq_true rfl) (fun E => ?_)
  refine mw_iload_n dX6_wayItem_0 1 rfl ?_
  refine mw_if_lt (tgt := 16) dX6_wayItem_1 (by decide) (fun hc => ?_) (fun hc => ?_)
  · have h := mit hc h
    refine mw_iconst (v := 0) dX6_wayItem_16 (by decide) ?_
    exact mw_zret dX6_wayItem_17 rfl (by decide) (ers_im h) rfl rfl
  · have h := mie hc h
    refine mw_aload_n dX6_wayItem_4 0 rfl ?_
    obtain ⟨m1, h⟩ := mif h
    refine ev_getR fd_RX6_19_5 dX6_wayItem_5 rfl rfl m1 ?_
    refine ev_getI fd_RX6_95_0 dX6_wayItem_8 rfl rfl ?_
    refine mw_bipush (v := 14) dX6_wayItem_11 (by decide) ?_
    refine mw_icmp_lt (tgt := 18) dX6_wayItem_13 (by decide) (fun hc => ?_) (fun hc => ?_)
    · have h := mit hc h
      refine mw_aload_n dX6_wayItem_18 0 rfl ?_
      obtain ⟨r2, e3, h⟩ := mbd h
      refine mv_callV_v (As := []) (ci := 5) lkV_RX6_26_yX6_next dX6_wayItem_19 (k_X6_next e3) rfl rfl rfl rfl (Nat.le_of_ble_eq_true rfl) (by decide) (by decide) ?_
      refine mw_aload_n dX6_wayItem_22 0 rfl ?_
      refine mw_iconst (v := 0) dX6_wayItem_23 (by decide) ?_
      refine mw_aload_n dX6_wayItem_24 0 rfl ?_
      obtain ⟨m4, h⟩ := mif h
      refine ev_getR fd_RX6_19_5 dX6_wayItem_25 rfl rfl m4 ?_
      refine ev_getI fd_RX6_66_0 dX6_wayItem_28 rfl rfl ?_
      refine mw_iconst (v := 1) dX6_wayItem_31 (by decide) ?_
      refine mw_isub dX6_wayItem_32 ?_
      obtain ⟨r5, e6, h⟩ := mbd h
      refine mv_callV_i (As := [.int (0 : Int32), .int ((eI r2 19 0) - (1 : Int32))]) (ci := 5) lkV_RX6_70_yX6_isNumber dX6_wayItem_33 (k_X6_isNumber e6) rfl rfl rfl rfl (Nat.le_of_ble_eq_true rfl) (by decide) (by decide) ?_
      refine mw_if_ne (tgt := 41) dX6_wayItem_36 (by decide) (fun hc => ?_) (fun hc => ?_)
      · have h := mie hc h
        refine mw_aload_n dX6_wayItem_41 0 rfl ?_
        refine ev_getI fd_RX6_74_5 dX6_wayItem_42 rfl rfl ?_
        refine mw_istore_n (L' := [(2, .int (eI r2 57 6)), (0, .ref 57), (1, .int a1)]) dX6_wayItem_45 rfl (by decide) rfl ?_
        refine mw_aload_n dX6_wayItem_46 1 rfl ?_
        obtain ⟨r7, e8, h⟩ := mbd h
        refine mv_callV_v (As := []) (ci := 5) lkV_RX6_26_yX6_next dX6_wayItem_47 (k_X6_next e8) rfl rfl rfl rfl (Nat.le_of_ble_eq_true rfl) (by decide) (by decide) ?_
        refine mw_aload_n dX6_wayItem_50 1 rfl ?_
        refine mw_iconst (v := 0) dX6_wayItem_51 (by decide) ?_
        refine mw_aload_n dX6_wayItem_52 1 rfl ?_
        obtain ⟨m9, h⟩ := mif h
        refine ev_getR fd_RX6_19_5 dX6_wayItem_53 rfl rfl m9 ?_
        refine ev_getI fd_RX6_66_0 dX6_wayItem_56 rfl rfl ?_
        refine mw_iconst (v := 1) dX6_wayItem_59 (by decide) ?_
        refine mw_isub dX6_wayItem_60 ?_
        obtain ⟨r10, e11, h⟩ := mbd h
        refine mv_callV_i (As := [.int (0 : Int32), .int ((eI r7 19 0) - (1 : Int32))]) (ci := 5) lkV_RX6_70_yX6_isNumber dX6_wayItem_61 (k_X6_isNumber e11) rfl rfl rfl rfl (Nat.le_of_ble_eq_true rfl) (by decide) (by decide) ?_
        refine mw_if_eq (tgt := 75) dX6_wayItem_64 (by decide) (fun hc => ?_) (fun hc => ?_)
        · have h := mit hc h
          refine mw_iconst (v := 0) dX6_wayItem_75 (by decide) ?_
          exact mw_zret dX6_wayItem_76 rfl (by decide) (ers_im h) rfl rfl
        · have h := mie hc h
          refine mw_aload_n dX6_wayItem_67 1 rfl ?_
          refine ev_getI fd_RX6_74_5 dX6_wayItem_68 rfl rfl ?_
          refine mw_iload_n dX6_wayItem_71 0 rfl ?_
          refine mw_icmp_ne (tgt := 77) dX6_wayItem_72 (by decide) (fun hc => ?_) (fun hc => ?_)
          · have h := mie hc h
            refine mw_aload_n dX6_wayItem_77 1 rfl ?_
            refine ev_getI fd_RX6_74_5 dX6_wayItem_78 rfl rfl ?_
            refine mw_istore_n (L' := [(3, .int (eI r7 57 6)), (2, .int (eI r2 57 6)), (0, .ref 57), (1, .int a1)]) dX6_wayItem_81 rfl (by decide) rfl ?_
            refine mw_aload_n dX6_wayItem_82 2 rfl ?_
            obtain ⟨r12, e13, h⟩ := mbd h
            refine mv_callV_v (As := []) (ci := 5) lkV_RX6_26_yX6_next dX6_wayItem_83 (k_X6_next e13) rfl rfl rfl rfl (Nat.le_of_ble_eq_true rfl) (by decide) (by decide) ?_
            refine mw_aload_n dX6_wayItem_86 2 rfl ?_
            obtain ⟨r14, e15, h⟩ := mbd h
            refine mv_callV_i (As := []) (ci := 5) lkV_RX6_82_yX6_gainAndTime dX6_wayItem_87 (k_X6_gainAndTime e15) rfl rfl rfl rfl (Nat.le_of_ble_eq_true rfl) (by decide) (by decide) ?_
            refine mw_if_ne (tgt := 95) dX6_wayItem_90 (by decide) (fun hc => ?_) (fun hc => ?_)
            · have h := mie hc h
              refine mw_aload_n dX6_wayItem_95 2 rfl ?_
              obtain ⟨m16, h⟩ := mif h
              refine ev_getR fd_RX6_19_5 dX6_wayItem_96 rfl rfl m16 ?_
              refine mw_iload_n dX6_wayItem_99 3 rfl ?_
              refine mw_iload_n dX6_wayItem_100 1 rfl ?_
              refine mw_iload_n dX6_wayItem_101 0 rfl ?_
              refine mw_aload_n dX6_wayItem_102 2 rfl ?_
              refine ev_getI fd_RX6_85_5 dX6_wayItem_103 rfl rfl ?_
              refine mw_aload_n dX6_wayItem_106 2 rfl ?_
              refine ev_getI fd_RX6_88_5 dX6_wayItem_107 rfl rfl ?_
              obtain ⟨r17, e18, h⟩ := mbd h
              refine mv_callV_i (As := [.int a1, .int (eI r2 57 6), .int (eI r7 57 6), .int (eI r14.2 57 7), .int (eI r14.2 57 8)]) (ci := 0) lkV_RX6_98_yX1_newWay dX6_wayItem_110 (k_X1_newWay_19 e18) rfl rfl rfl rfl (Nat.le_of_ble_eq_true rfl) (by decide) (by decide) ?_
              refine mw_istore (L' := [(4, .int r17.1), (3, .int (eI r7 57 6)), (2, .int (eI r2 57 6)), (0, .ref 57), (1, .int a1)]) dX6_wayItem_113 (by decide) rfl ?_
              refine mw_aload_n dX6_wayItem_115 3 rfl ?_
              refine mv_ldcS 12 (by decide) rfl rfl dX6_wayItem_116 ?_
              obtain ⟨r19, e20, h⟩ := mbd h
              refine mv_callV_i (As := [.ref (1000 + 12)]) (ci := 5) lkV_RX6_41_yX6_isWord dX6_wayItem_118 (k_X6_isWord e20) rfl rfl rfl rfl (Nat.le_of_ble_eq_true rfl) (by decide) (by decide) ?_
              refine mw_if_eq (tgt := 139) dX6_wayItem_121 (by decide) (fun hc => ?_) (fun hc => ?_)
              · have h := mit hc h
                refine mw_iconst (v := 1) dX6_wayItem_139 (by decide) ?_
                exact mw_zret dX6_wayItem_140 rfl (by decide) (ers_im h) rfl rfl
              · have h := mie hc h
                refine mw_aload_n dX6_wayItem_124 3 rfl ?_
                obtain ⟨m21, h⟩ := mif h
                refine ev_getR fd_RX6_19_5 dX6_wayItem_125 rfl rfl m21 ?_
                refine ev_getR (q := 25) fd_RX6_104_0 dX6_wayItem_128 rfl rfl rfl ?_
                refine mw_iload dX6_wayItem_131 0 rfl ?_
                refine mw_iconst (v := 1) dX6_wayItem_133 (by decide) ?_
                obtain ⟨m22, h⟩ := mif h
                refine ev_iast dX6_wayItem_134 (by decide) rfl m22 ?_
                refine mw_aload_n dX6_wayItem_135 3 rfl ?_
                obtain ⟨r23, e24, h⟩ := mbd h
                refine mv_callV_v (As := []) (ci := 5) lkV_RX6_26_yX6_next dX6_wayItem_136 (k_X6_next e24) rfl rfl rfl rfl (Nat.le_of_ble_eq_true rfl) (by decide) (by decide) ?_
                refine mw_iconst (v := 1) dX6_wayItem_139 (by decide) ?_
                exact mw_zret dX6_wayItem_140 rfl (by decide) (ers_im h) rfl rfl
            · have h := mit hc h
              refine mw_iconst (v := 0) dX6_wayItem_93 (by decide) ?_
              exact mw_zret dX6_wayItem_94 rfl (by decide) (ers_im h) rfl rfl
          · have h := mit hc h
            refine mw_iconst (v := 0) dX6_wayItem_75 (by decide) ?_
            exact mw_zret dX6_wayItem_76 rfl (by decide) (ers_im h) rfl rfl
      · have h := mit hc h
        refine mw_iconst (v := 0) dX6_wayItem_39 (by decide) ?_
        exact mw_zret dX6_wayItem_40 rfl (by decide) (ers_im h) rfl rfl
    · have h := mie hc h
      refine mw_iconst (v := 0) dX6_wayItem_16 (by decide) ?_
      exact mw_zret dX6_wayItem_17 rfl (by decide) (ers_im h) rfl rfl

def e_X1_newThing_19 (a1 : Int32) (a2 : Int32) (σ : ES) : Option (Int32 × ES) := if mib (eI (uI σ 19 9 ((eI σ 19 9) + (1 : Int32))) 19 9) 13 = true then (if mib (eI (uI (uI σ 19 9 ((eI σ 19 9) + (1 : Int32))) 26 (eI (uI σ 19 9 ((eI σ 19 9) + (1 : Int32))) 19 9).toNatClampNeg a1) 19 9) 13 = true then (some (((eI (uI (uI (uI σ 19 9 ((eI σ 19 9) + (1 : Int32))) 26 (eI (uI σ 19 9 ((eI σ 19 9) + (1 : Int32))) 19 9).toNatClampNeg a1) 27 (eI (uI (uI σ 19 9 ((eI σ 19 9) + (1 : Int32))) 26 (eI (uI σ 19 9 ((eI σ 19 9) + (1 : Int32))) 19 9).toNatClampNeg a1) 19 9).toNatClampNeg a2) 19 9) - (1 : Int32)), (uI (uI (uI σ 19 9 ((eI σ 19 9) + (1 : Int32))) 26 (eI (uI σ 19 9 ((eI σ 19 9) + (1 : Int32))) 19 9).toNatClampNeg a1) 27 (eI (uI (uI σ 19 9 ((eI σ 19 9) + (1 : Int32))) 26 (eI (uI σ 19 9 ((eI σ 19 9) + (1 : Int32))) 19 9).toNatClampNeg a1) 19 9).toNatClampNeg a2))) else none) else none
set_option maxRecDepth 100000 in
set_option maxHeartbeats 4000000 in
theorem k_X1_newThing_19 {l : Launch} {σ : ES} {a1 : Int32} {a2 : Int32} {out : (Int32 × ES)} (h : e_X1_newThing_19 a1 a2 σ = some out) : MK l yX1_newThing cX1_newThing 3 (some .int) 1 [.ref 19, .int a1, .int a2] (mkS σ) (some (.int out.1)) (mkS out.2) := by
  unfold e_X1_newThing_19 at h
  refine mw_entry (own := RX1) (ini := false) (L := [(0, .ref 19), (1, .int a1), (2, .int a2)]) (by decide +kernel) rfl (fun h => nomatch h) rfl (Nat.le_of_ble_eq_true rfl) (Nat.le_of_ble_eq_true rfl) (fun E => ?_)
  refine mw_aload_n dX1_newThing_0 0 rfl ?_
  refine mw_dup dX1_newThing_1 rfl ?_
  refine ev_getI fd_RX1_47_0 dX1_newThing_2 rfl rfl ?_
  refine mw_iconst (v := 1) dX1_newThing_5 (by decide) ?_
  refine mw_iadd dX1_newThing_6 ?_
  refine ev_putI fw_RX1_47_0 dX1_newThing_7 rfl rfl ?_
  refine mw_aload_n dX1_newThing_10 0 rfl ?_
  refine ev_getR (q := 26) fd_RX1_34_0 dX1_newThing_11 rfl rfl rfl ?_
  refine mw_aload_n dX1_newThing_14 0 rfl ?_
  refine ev_getI fd_RX1_47_0 dX1_newThing_15 rfl rfl ?_
  refine mw_iload_n dX1_newThing_18 1 rfl ?_
  obtain ⟨m1, h⟩ := mif h
  refine ev_iast dX1_newThing_19 (by decide) rfl m1 ?_
  refine mw_aload_n dX1_newThing_20 0 rfl ?_
  refine ev_getR (q := 27) fd_RX1_37_0 dX1_newThing_21 rfl rfl rfl ?_
  refine mw_aload_n dX1_newThing_24 0 rfl ?_
  refine ev_getI fd_RX1_47_0 dX1_newThing_25 rfl rfl ?_
  refine mw_iload_n dX1_newThing_28 2 rfl ?_
  obtain ⟨m2, h⟩ := mif h
  refine ev_iast dX1_newThing_29 (by decide) rfl m2 ?_
  refine mw_aload_n dX1_newThing_30 0 rfl ?_
  refine ev_getI fd_RX1_47_0 dX1_newThing_31 rfl rfl ?_
  refine mw_iconst (v := 1) dX1_newThing_34 (by decide) ?_
  refine mw_isub dX1_newThing_35 ?_
  exact mw_iret dX1_newThing_36 rfl (ers_im h) rfl rfl

theorem dX6_thingItem_0 : decode cX6_thingItem 0 = .ok (.aload_n 0, 1) := by decide +kernel
theorem dX6_thingItem_1 : decode cX6_thingItem 1 = .ok (.getfield 19, 3) := by decide +kernel
theorem dX6_thingItem_4 : decode cX6_thingItem 4 = .ok (.getfield 79, 3) := by decide +kernel
theorem dX6_thingItem_7 : decode cX6_thingItem 7 = .ok (.bipush 12, 2) := by decide +kernel
theorem dX6_thingItem_9 : decode cX6_thingItem 9 = .ok (.if_icmp .lt 5, 3) := by decide +kernel
theorem dX6_thingItem_12 : decode cX6_thingItem 12 = .ok (.iconst 0, 1) := by decide +kernel
theorem dX6_thingItem_13 : decode cX6_thingItem 13 = .ok (.ireturn, 1) := by decide +kernel
theorem dX6_thingItem_14 : decode cX6_thingItem 14 = .ok (.aload_n 0, 1) := by decide +kernel
theorem dX6_thingItem_15 : decode cX6_thingItem 15 = .ok (.invokevirtual 26, 3) := by decide +kernel
theorem dX6_thingItem_18 : decode cX6_thingItem 18 = .ok (.aload_n 0, 1) := by decide +kernel
theorem dX6_thingItem_19 : decode cX6_thingItem 19 = .ok (.invokevirtual 82, 3) := by decide +kernel
theorem dX6_thingItem_22 : decode cX6_thingItem 22 = .ok (.ifCond .ne 5, 3) := by decide +kernel
theorem dX6_thingItem_25 : decode cX6_thingItem 25 = .ok (.iconst 0, 1) := by decide +kernel
theorem dX6_thingItem_26 : decode cX6_thingItem 26 = .ok (.ireturn, 1) := by decide +kernel
theorem dX6_thingItem_27 : decode cX6_thingItem 27 = .ok (.aload_n 0, 1) := by decide +kernel
theorem dX6_thingItem_28 : decode cX6_thingItem 28 = .ok (.getfield 19, 3) := by decide +kernel
theorem dX6_thingItem_31 : decode cX6_thingItem 31 = .ok (.aload_n 0, 1) := by decide +kernel
theorem dX6_thingItem_32 : decode cX6_thingItem 32 = .ok (.getfield 85, 3) := by decide +kernel
theorem dX6_thingItem_35 : decode cX6_thingItem 35 = .ok (.aload_n 0, 1) := by decide +kernel
theorem dX6_thingItem_36 : decode cX6_thingItem 36 = .ok (.getfield 88, 3) := by decide +kernel
theorem dX6_thingItem_39 : decode cX6_thingItem 39 = .ok (.invokevirtual 91, 3) := by decide +kernel
theorem dX6_thingItem_42 : decode cX6_thingItem 42 = .ok (.pop, 1) := by decide +kernel
theorem dX6_thingItem_43 : decode cX6_thingItem 43 = .ok (.iconst 1, 1) := by decide +kernel
theorem dX6_thingItem_44 : decode cX6_thingItem 44 = .ok (.ireturn, 1) := by decide +kernel
def e_X6_thingItem (σ : ES) : Option (Int32 × ES) := if eT σ 2 = some 19 then (if (eI σ 19 9) < (12 : Int32) then ((e_X6_next σ).bind (fun r2 => (e_X6_gainAndTime r2).bind (fun r4 => if r4.1 = 0 then (some ((0 : Int32), r4.2)) else (if eT r4.2 2 = some 19 then ((e_X1_newThing_19 (eI r4.2 57 7) (eI r4.2 57 8) r4.2).bind (fun r7 => some ((1 : Int32), r7.2))) else none)))) else (some ((0 : Int32), σ))) else none
set_option maxRecDepth 100000 in
set_option maxHeartbeats 4000000 in
theorem k_X6_thingItem {l : Launch} {σ : ES}  {out : (Int32 × ES)} (h : e_X6_thingItem σ = some out) : MK l yX6_thingItem cX6_thingItem 1 (some .boolean) 7 [.ref 57] (mkS σ) (some (.int out.1)) (mkS out.2) := by
  unfold e_X6_thingItem at h
  refine mw_entry (own := RX6) (ini := false) (L := [(0, .ref 57)]) (by decide +kernel) rfl (fun h => nomatch h) rfl (Nat.le_of_ble_eq_true rfl) (Nat.le_of_ble_eq_true rfl) (fun E => ?_)
  refine mw_aload_n dX6_thingItem_0 0 rfl ?_
  obtain ⟨m1, h⟩ := mif h
  refine ev_getR fd_RX6_19_5 dX6_thingItem_1 rfl rfl m1 ?_
  refine ev_getI fd_RX6_79_0 dX6_thingItem_4 rfl rfl ?_
  refine mw_bipush (v := 12) dX6_thingItem_7 (by decide) ?_
  refine mw_icmp_lt (tgt := 14) dX6_thingItem_9 (by decide) (fun hc => ?_) (fun hc => ?_)
  · have h := mit hc h
    refine mw_aload_n dX6_thingItem_14 0 rfl ?_
    obtain ⟨r2, e3, h⟩ := mbd h
    refine mv_callV_v (As := []) (ci := 5) lkV_RX6_26_yX6_next dX6_thingItem_15 (k_X6_next e3) rfl rfl rfl rfl (Nat.le_of_ble_eq_true rfl) (by decide) (by decide) ?_
    refine mw_aload_n dX6_thingItem_18 0 rfl ?_
    obtain ⟨r4, e5, h⟩ := mbd h
    refine mv_callV_i (As := []) (ci := 5) lkV_RX6_82_yX6_gainAndTime dX6_thingItem_19 (k_X6_gainAndTime e5) rfl rfl rfl rfl (Nat.le_of_ble_eq_true rfl) (by decide) (by decide) ?_
    refine mw_if_ne (tgt := 27) dX6_thingItem_22 (by decide) (fun hc => ?_) (fun hc => ?_)
    · have h := mie hc h
      refine mw_aload_n dX6_thingItem_27 0 rfl ?_
      obtain ⟨m6, h⟩ := mif h
      refine ev_getR fd_RX6_19_5 dX6_thingItem_28 rfl rfl m6 ?_
      refine mw_aload_n dX6_thingItem_31 0 rfl ?_
      refine ev_getI fd_RX6_85_5 dX6_thingItem_32 rfl rfl ?_
      refine mw_aload_n dX6_thingItem_35 0 rfl ?_
      refine ev_getI fd_RX6_88_5 dX6_thingItem_36 rfl rfl ?_
      obtain ⟨r7, e8, h⟩ := mbd h
      refine mv_callV_i (As := [.int (eI r4.2 57 7), .int (eI r4.2 57 8)]) (ci := 0) lkV_RX6_91_yX1_newThing dX6_thingItem_39 (k_X1_newThing_19 e8) rfl rfl rfl rfl (Nat.le_of_ble_eq_true rfl) (by decide) (by decide) ?_
      refine mw_pop dX6_thingItem_42 rfl ?_
      refine mw_iconst (v := 1) dX6_thingItem_43 (by decide) ?_
      exact mw_zret dX6_thingItem_44 rfl (by decide) (ers_im h) rfl rfl
    · have h := mit hc h
      refine mw_iconst (v := 0) dX6_thingItem_25 (by decide) ?_
      exact mw_zret dX6_thingItem_26 rfl (by decide) (ers_im h) rfl rfl
  · have h := mie hc h
    refine mw_iconst (v := 0) dX6_thingItem_12 (by decide) ?_
    exact mw_zret dX6_thingItem_13 rfl (by decide) (ers_im h) rfl rfl

theorem dX6_weatherItem_0 : decode cX6_weatherItem 0 = .ok (.aload_n 0, 1) := by decide +kernel
theorem dX6_weatherItem_1 : decode cX6_weatherItem 1 = .ok (.iconst 0, 1) := by decide +kernel
theorem dX6_weatherItem_2 : decode cX6_weatherItem 2 = .ok (.iconst 5, 1) := by decide +kernel
theorem dX6_weatherItem_3 : decode cX6_weatherItem 3 = .ok (.invokevirtual 70, 3) := by decide +kernel
theorem dX6_weatherItem_6 : decode cX6_weatherItem 6 = .ok (.ifCond .ne 5, 3) := by decide +kernel
theorem dX6_weatherItem_9 : decode cX6_weatherItem 9 = .ok (.iconst 0, 1) := by decide +kernel
theorem dX6_weatherItem_10 : decode cX6_weatherItem 10 = .ok (.ireturn, 1) := by decide +kernel
theorem dX6_weatherItem_11 : decode cX6_weatherItem 11 = .ok (.aload_n 0, 1) := by decide +kernel
theorem dX6_weatherItem_12 : decode cX6_weatherItem 12 = .ok (.getfield 19, 3) := by decide +kernel
theorem dX6_weatherItem_15 : decode cX6_weatherItem 15 = .ok (.aload_n 0, 1) := by decide +kernel
theorem dX6_weatherItem_16 : decode cX6_weatherItem 16 = .ok (.getfield 74, 3) := by decide +kernel
theorem dX6_weatherItem_19 : decode cX6_weatherItem 19 = .ok (.putfield 77, 3) := by decide +kernel
theorem dX6_weatherItem_22 : decode cX6_weatherItem 22 = .ok (.aload_n 0, 1) := by decide +kernel
theorem dX6_weatherItem_23 : decode cX6_weatherItem 23 = .ok (.invokevirtual 26, 3) := by decide +kernel
theorem dX6_weatherItem_26 : decode cX6_weatherItem 26 = .ok (.iconst 1, 1) := by decide +kernel
theorem dX6_weatherItem_27 : decode cX6_weatherItem 27 = .ok (.ireturn, 1) := by decide +kernel
def e_X6_weatherItem (σ : ES) : Option (Int32 × ES) := (e_X6_isNumber σ (0 : Int32) (5 : Int32)).bind (fun r1 => if r1 = 0 then (some ((0 : Int32), σ)) else (if eT σ 2 = some 19 then ((e_X6_next (uI σ 19 1 (eI σ 57 6))).bind (fun r4 => some ((1 : Int32), r4))) else none))
set_option maxRecDepth 100000 in
set_option maxHeartbeats 4000000 in
theorem k_X6_weatherItem {l : Launch} {σ : ES}  {out : (Int32 × ES)} (h : e_X6_weatherItem σ = some out) : MK l yX6_weatherItem cX6_weatherItem 1 (some .boolean) 4 [.ref 57] (mkS σ) (some (.int out.1)) (mkS out.2) := by
  unfold e_X6_weatherItem at h
  refine mw_entry (own := RX6) (ini := false) (L := [(0, .ref 57)]) (by decide +kernel) rfl (fun h => nomatch h) rfl (Nat.le_of_ble_eq_true rfl) (Nat.le_of_ble_eq_true rfl) (fun E => ?_)
  refine mw_aload_n dX6_weatherItem_0 0 rfl ?_
  refine mw_iconst (v := 0) dX6_weatherItem_1 (by decide) ?_
  refine mw_iconst (v := 5) dX6_weatherItem_2 (by decide) ?_
  obtain ⟨r1, e2, h⟩ := mbd h
  refine mv_callV_i (As := [.int (0 : Int32), .int (5 : Int32)]) (ci := 5) lkV_RX6_70_yX6_isNumber dX6_weatherItem_3 (k_X6_isNumber e2) rfl rfl rfl rfl (Nat.le_of_ble_eq_true rfl) (by decide) (by decide) ?_
  refine mw_if_ne (tgt := 11) dX6_weatherItem_6 (by decide) (fun hc => ?_) (fun hc => ?_)
  · have h := mie hc h
    refine mw_aload_n dX6_weatherItem_11 0 rfl ?_
    obtain ⟨m3, h⟩ := mif h
    refine ev_getR fd_RX6_19_5 dX6_weatherItem_12 rfl rfl m3 ?_
    refine mw_aload_n dX6_weatherItem_15 0 rfl ?_
    refine ev_getI fd_RX6_74_5 dX6_weatherItem_16 rfl rfl ?_
    refine ev_putI fw_RX6_77_0 dX6_weatherItem_19 rfl rfl ?_
    refine mw_aload_n dX6_weatherItem_22 0 rfl ?_
    obtain ⟨r4, e5, h⟩ := mbd h
    refine mv_callV_v (As := []) (ci := 5) lkV_RX6_26_yX6_next dX6_weatherItem_23 (k_X6_next e5) rfl rfl rfl rfl (Nat.le_of_ble_eq_true rfl) (by decide) (by decide) ?_
    refine mw_iconst (v := 1) dX6_weatherItem_26 (by decide) ?_
    exact mw_zret dX6_weatherItem_27 rfl (by decide) (ers_im h) rfl rfl
  · have h := mit hc h
    refine mw_iconst (v := 0) dX6_weatherItem_9 (by decide) ?_
    exact mw_zret dX6_weatherItem_10 rfl (by decide) (ers_im h) rfl rfl

theorem dX6_placesItem_0 : decode cX6_placesItem 0 = .ok (.aload_n 0, 1) := by decide +kernel
theorem dX6_placesItem_1 : decode cX6_placesItem 1 = .ok (.aload_n 0, 1) := by decide +kernel
theorem dX6_placesItem_2 : decode cX6_placesItem 2 = .ok (.getfield 19, 3) := by decide +kernel
theorem dX6_placesItem_5 : decode cX6_placesItem 5 = .ok (.getfield 66, 3) := by decide +kernel
theorem dX6_placesItem_8 : decode cX6_placesItem 8 = .ok (.bipush 6, 2) := by decide +kernel
theorem dX6_placesItem_10 : decode cX6_placesItem 10 = .ok (.invokevirtual 70, 3) := by decide +kernel
theorem dX6_placesItem_13 : decode cX6_placesItem 13 = .ok (.ifCond .ne 5, 3) := by decide +kernel
theorem dX6_placesItem_16 : decode cX6_placesItem 16 = .ok (.iconst 0, 1) := by decide +kernel
theorem dX6_placesItem_17 : decode cX6_placesItem 17 = .ok (.ireturn, 1) := by decide +kernel
theorem dX6_placesItem_18 : decode cX6_placesItem 18 = .ok (.aload_n 0, 1) := by decide +kernel
theorem dX6_placesItem_19 : decode cX6_placesItem 19 = .ok (.getfield 19, 3) := by decide +kernel
theorem dX6_placesItem_22 : decode cX6_placesItem 22 = .ok (.aload_n 0, 1) := by decide +kernel
theorem dX6_placesItem_23 : decode cX6_placesItem 23 = .ok (.getfield 74, 3) := by decide +kernel
theorem dX6_placesItem_26 : decode cX6_placesItem 26 = .ok (.putfield 66, 3) := by decide +kernel
theorem dX6_placesItem_29 : decode cX6_placesItem 29 = .ok (.aload_n 0, 1) := by decide +kernel
theorem dX6_placesItem_30 : decode cX6_placesItem 30 = .ok (.invokevirtual 26, 3) := by decide +kernel
theorem dX6_placesItem_33 : decode cX6_placesItem 33 = .ok (.iconst 1, 1) := by decide +kernel
theorem dX6_placesItem_34 : decode cX6_placesItem 34 = .ok (.ireturn, 1) := by decide +kernel
def e_X6_placesItem (σ : ES) : Option (Int32 × ES) := if eT σ 2 = some 19 then ((e_X6_isNumber σ (eI σ 19 0) (6 : Int32)).bind (fun r2 => if r2 = 0 then (some ((0 : Int32), σ)) else ((e_X6_next (uI σ 19 0 (eI σ 57 6))).bind (fun r4 => some ((1 : Int32), r4))))) else none
set_option maxRecDepth 100000 in
set_option maxHeartbeats 4000000 in
theorem k_X6_placesItem {l : Launch} {σ : ES}  {out : (Int32 × ES)} (h : e_X6_placesItem σ = some out) : MK l yX6_placesItem cX6_placesItem 1 (some .boolean) 4 [.ref 57] (mkS σ) (some (.int out.1)) (mkS out.2) := by
  unfold e_X6_placesItem at h
  refine mw_entry (own := RX6) (ini := false) (L := [(0, .ref 57)]) (by decide +kernel) rfl (fun h => nomatch h) rfl (Nat.le_of_ble_eq_true rfl) (Nat.le_of_ble_eq_true rfl) (fun E => ?_)
  refine mw_aload_n dX6_placesItem_0 0 rfl ?_
  refine mw_aload_n dX6_placesItem_1 0 rfl ?_
  obtain ⟨m1, h⟩ := mif h
  refine ev_getR fd_RX6_19_5 dX6_placesItem_2 rfl rfl m1 ?_
  refine ev_getI fd_RX6_66_0 dX6_placesItem_5 rfl rfl ?_
  refine mw_bipush (v := 6) dX6_placesItem_8 (by decide) ?_
  obtain ⟨r2, e3, h⟩ := mbd h
  refine mv_callV_i (As := [.int (eI σ 19 0), .int (6 : Int32)]) (ci := 5) lkV_RX6_70_yX6_isNumber dX6_placesItem_10 (k_X6_isNumber e3) rfl rfl rfl rfl (Nat.le_of_ble_eq_true rfl) (by decide) (by decide) ?_
  refine mw_if_ne (tgt := 18) dX6_placesItem_13 (by decide) (fun hc => ?_) (fun hc => ?_)
  · have h := mie hc h
    refine mw_aload_n dX6_placesItem_18 0 rfl ?_
    refine ev_getR fd_RX6_19_5 dX6_placesItem_19 rfl rfl m1 ?_
    refine mw_aload_n dX6_placesItem_22 0 rfl ?_
    refine ev_getI fd_RX6_74_5 dX6_placesItem_23 rfl rfl ?_
    refine ev_putI fw_RX6_66_0 dX6_placesItem_26 rfl rfl ?_
    refine mw_aload_n dX6_placesItem_29 0 rfl ?_
    obtain ⟨r4, e5, h⟩ := mbd h
    refine mv_callV_v (As := []) (ci := 5) lkV_RX6_26_yX6_next dX6_placesItem_30 (k_X6_next e5) rfl rfl rfl rfl (Nat.le_of_ble_eq_true rfl) (by decide) (by decide) ?_
    refine mw_iconst (v := 1) dX6_placesItem_33 (by decide) ?_
    exact mw_zret dX6_placesItem_34 rfl (by decide) (ers_im h) rfl rfl
  · have h := mit hc h
    refine mw_iconst (v := 0) dX6_placesItem_16 (by decide) ?_
    exact mw_zret dX6_placesItem_17 rfl (by decide) (ers_im h) rfl rfl

theorem dX6_item_0 : decode cX6_item 0 = .ok (.aload_n 0, 1) := by decide +kernel
theorem dX6_item_1 : decode cX6_item 1 = .ok (.ldc 39, 2) := by decide +kernel
theorem dX6_item_3 : decode cX6_item 3 = .ok (.invokevirtual 41, 3) := by decide +kernel
theorem dX6_item_6 : decode cX6_item 6 = .ok (.ifCond .eq 12, 3) := by decide +kernel
theorem dX6_item_9 : decode cX6_item 9 = .ok (.aload_n 0, 1) := by decide +kernel
theorem dX6_item_10 : decode cX6_item 10 = .ok (.invokevirtual 26, 3) := by decide +kernel
theorem dX6_item_13 : decode cX6_item 13 = .ok (.aload_n 0, 1) := by decide +kernel
theorem dX6_item_14 : decode cX6_item 14 = .ok (.invokevirtual 45, 3) := by decide +kernel
theorem dX6_item_17 : decode cX6_item 17 = .ok (.ireturn, 1) := by decide +kernel
theorem dX6_item_18 : decode cX6_item 18 = .ok (.aload_n 0, 1) := by decide +kernel
theorem dX6_item_19 : decode cX6_item 19 = .ok (.ldc 48, 2) := by decide +kernel
theorem dX6_item_21 : decode cX6_item 21 = .ok (.invokevirtual 41, 3) := by decide +kernel
theorem dX6_item_24 : decode cX6_item 24 = .ok (.ifCond .eq 12, 3) := by decide +kernel
theorem dX6_item_27 : decode cX6_item 27 = .ok (.aload_n 0, 1) := by decide +kernel
theorem dX6_item_28 : decode cX6_item 28 = .ok (.invokevirtual 26, 3) := by decide +kernel
theorem dX6_item_31 : decode cX6_item 31 = .ok (.aload_n 0, 1) := by decide +kernel
theorem dX6_item_32 : decode cX6_item 32 = .ok (.invokevirtual 50, 3) := by decide +kernel
theorem dX6_item_35 : decode cX6_item 35 = .ok (.ireturn, 1) := by decide +kernel
theorem dX6_item_36 : decode cX6_item 36 = .ok (.aload_n 0, 1) := by decide +kernel
theorem dX6_item_37 : decode cX6_item 37 = .ok (.ldc 53, 2) := by decide +kernel
theorem dX6_item_39 : decode cX6_item 39 = .ok (.invokevirtual 41, 3) := by decide +kernel
theorem dX6_item_42 : decode cX6_item 42 = .ok (.ifCond .eq 8, 3) := by decide +kernel
theorem dX6_item_45 : decode cX6_item 45 = .ok (.aload_n 0, 1) := by decide +kernel
theorem dX6_item_46 : decode cX6_item 46 = .ok (.invokevirtual 55, 3) := by decide +kernel
theorem dX6_item_49 : decode cX6_item 49 = .ok (.ireturn, 1) := by decide +kernel
theorem dX6_item_50 : decode cX6_item 50 = .ok (.aload_n 0, 1) := by decide +kernel
theorem dX6_item_51 : decode cX6_item 51 = .ok (.aload_n 0, 1) := by decide +kernel
theorem dX6_item_52 : decode cX6_item 52 = .ok (.invokevirtual 58, 3) := by decide +kernel
theorem dX6_item_55 : decode cX6_item 55 = .ok (.invokevirtual 62, 3) := by decide +kernel
theorem dX6_item_58 : decode cX6_item 58 = .ok (.ireturn, 1) := by decide +kernel
def e_X6_item (σ : ES) : Option (Int32 × ES) := (e_X6_isWord σ (1000 + 0)).bind (fun r1 => if r1 = 0 then ((e_X6_isWord σ (1000 + 1)).bind (fun r3 => if r3 = 0 then ((e_X6_isWord σ (1000 + 2)).bind (fun r5 => if r5 = 0 then ((e_X6_kindTold σ).bind (fun r7 => (e_X6_wayItem r7 σ).bind (fun r9 => if r9.1 = 0 ∨ r9.1 = 1 then (some (r9.1, r9.2)) else none))) else ((e_X6_thingItem σ).bind (fun r12 => if r12.1 = 0 ∨ r12.1 = 1 then (some (r12.1, r12.2)) else none)))) else ((e_X6_next σ).bind (fun r15 => (e_X6_weatherItem r15).bind (fun r17 => if r17.1 = 0 ∨ r17.1 = 1 then (some (r17.1, r17.2)) else none))))) else ((e_X6_next σ).bind (fun r20 => (e_X6_placesItem r20).bind (fun r22 => if r22.1 = 0 ∨ r22.1 = 1 then (some (r22.1, r22.2)) else none))))
set_option maxRecDepth 100000 in
set_option maxHeartbeats 4000000 in
theorem k_X6_item {l : Launch} {σ : ES}  {out : (Int32 × ES)} (h : e_X6_item σ = some out) : MK l yX6_item cX6_item 1 (some .boolean) 8 [.ref 57] (mkS σ) (some (.int out.1)) (mkS out.2) := by
  unfold e_X6_item at h
  refine mw_entry (own := RX6) (ini := false) (L := [(0, .ref 57)]) (by decide +kernel) rfl (fun h => nomatch h) rfl (Nat.le_of_ble_eq_true rfl) (Nat.le_of_ble_eq_true rfl) (fun E => ?_)
  refine mw_aload_n dX6_item_0 0 rfl ?_
  refine mv_ldcS 0 (by decide) rfl rfl dX6_item_1 ?_
  obtain ⟨r1, e2, h⟩ := mbd h
  refine mv_callV_i (As := [.ref (1000 + 0)]) (ci := 5) lkV_RX6_41_yX6_isWord dX6_item_3 (k_X6_isWord e2) rfl rfl rfl rfl (Nat.le_of_ble_eq_true rfl) (by decide) (by decide) ?_
  refine mw_if_eq (tgt := 18) dX6_item_6 (by decide) (fun hc => ?_) (fun hc => ?_)
  · have h := mit hc h
    refine mw_aload_n dX6_item_18 0 rfl ?_
    refine mv_ldcS 1 (by decide) rfl rfl dX6_item_19 ?_
    obtain ⟨r3, e4, h⟩ := mbd h
    refine mv_callV_i (As := [.ref (1000 + 1)]) (ci := 5) lkV_RX6_41_yX6_isWord dX6_item_21 (k_X6_isWord e4) rfl rfl rfl rfl (Nat.le_of_ble_eq_true rfl) (by decide) (by decide) ?_
    refine mw_if_eq (tgt := 36) dX6_item_24 (by decide) (fun hc => ?_) (fun hc => ?_)
    · have h := mit hc h
      refine mw_aload_n dX6_item_36 0 rfl ?_
      refine mv_ldcS 2 (by decide) rfl rfl dX6_item_37 ?_
      obtain ⟨r5, e6, h⟩ := mbd h
      refine mv_callV_i (As := [.ref (1000 + 2)]) (ci := 5) lkV_RX6_41_yX6_isWord dX6_item_39 (k_X6_isWord e6) rfl rfl rfl rfl (Nat.le_of_ble_eq_true rfl) (by decide) (by decide) ?_
      refine mw_if_eq (tgt := 50) dX6_item_42 (by decide) (fun hc => ?_) (fun hc => ?_)
      · have h := mit hc h
        refine mw_aload_n dX6_item_50 0 rfl ?_
        refine mw_aload_n dX6_item_51 0 rfl ?_
        obtain ⟨r7, e8, h⟩ := mbd h
        refine mv_callV_i (As := []) (ci := 5) lkV_RX6_58_yX6_kindTold dX6_item_52 (k_X6_kindTold e8) rfl rfl rfl rfl (Nat.le_of_ble_eq_true rfl) (by decide) (by decide) ?_
        obtain ⟨r9, e10, h⟩ := mbd h
        refine mv_callV_i (As := [.int r7]) (ci := 5) lkV_RX6_62_yX6_wayItem dX6_item_55 (k_X6_wayItem e10) rfl rfl rfl rfl (Nat.le_of_ble_eq_true rfl) (by decide) (by decide) ?_
        obtain ⟨m11, h⟩ := mif h
        exact mw_zret dX6_item_58 rfl m11 (ers_im h) rfl rfl
      · have h := mie hc h
        refine mw_aload_n dX6_item_45 0 rfl ?_
        obtain ⟨r12, e13, h⟩ := mbd h
        refine mv_callV_i (As := []) (ci := 5) lkV_RX6_55_yX6_thingItem dX6_item_46 (k_X6_thingItem e13) rfl rfl rfl rfl (Nat.le_of_ble_eq_true rfl) (by decide) (by decide) ?_
        obtain ⟨m14, h⟩ := mif h
        exact mw_zret dX6_item_49 rfl m14 (ers_im h) rfl rfl
    · have h := mie hc h
      refine mw_aload_n dX6_item_27 0 rfl ?_
      obtain ⟨r15, e16, h⟩ := mbd h
      refine mv_callV_v (As := []) (ci := 5) lkV_RX6_26_yX6_next dX6_item_28 (k_X6_next e16) rfl rfl rfl rfl (Nat.le_of_ble_eq_true rfl) (by decide) (by decide) ?_
      refine mw_aload_n dX6_item_31 0 rfl ?_
      obtain ⟨r17, e18, h⟩ := mbd h
      refine mv_callV_i (As := []) (ci := 5) lkV_RX6_50_yX6_weatherItem dX6_item_32 (k_X6_weatherItem e18) rfl rfl rfl rfl (Nat.le_of_ble_eq_true rfl) (by decide) (by decide) ?_
      obtain ⟨m19, h⟩ := mif h
      exact mw_zret dX6_item_35 rfl m19 (ers_im h) rfl rfl
  · have h := mie hc h
    refine mw_aload_n dX6_item_9 0 rfl ?_
    obtain ⟨r20, e21, h⟩ := mbd h
    refine mv_callV_v (As := []) (ci := 5) lkV_RX6_26_yX6_next dX6_item_10 (k_X6_next e21) rfl rfl rfl rfl (Nat.le_of_ble_eq_true rfl) (by decide) (by decide) ?_
    refine mw_aload_n dX6_item_13 0 rfl ?_
    obtain ⟨r22, e23, h⟩ := mbd h
    refine mv_callV_i (As := []) (ci := 5) lkV_RX6_45_yX6_placesItem dX6_item_14 (k_X6_placesItem e23) rfl rfl rfl rfl (Nat.le_of_ble_eq_true rfl) (by decide) (by decide) ?_
    obtain ⟨m24, h⟩ := mif h
    exact mw_zret dX6_item_17 rfl m24 (ers_im h) rfl rfl

theorem dX6_tellTo_0 : decode cX6_tellTo 0 = .ok (.aload_n 0, 1) := by decide +kernel
theorem dX6_tellTo_1 : decode cX6_tellTo 1 = .ok (.aload_n 1, 1) := by decide +kernel
theorem dX6_tellTo_2 : decode cX6_tellTo 2 = .ok (.putfield 19, 3) := by decide +kernel
theorem dX6_tellTo_5 : decode cX6_tellTo 5 = .ok (.aload_n 0, 1) := by decide +kernel
theorem dX6_tellTo_6 : decode cX6_tellTo 6 = .ok (.iconst 0, 1) := by decide +kernel
theorem dX6_tellTo_7 : decode cX6_tellTo 7 = .ok (.putfield 23, 3) := by decide +kernel
theorem dX6_tellTo_10 : decode cX6_tellTo 10 = .ok (.aload_n 0, 1) := by decide +kernel
theorem dX6_tellTo_11 : decode cX6_tellTo 11 = .ok (.invokevirtual 26, 3) := by decide +kernel
theorem dX6_tellTo_14 : decode cX6_tellTo 14 = .ok (.iconst 1, 1) := by decide +kernel
theorem dX6_tellTo_15 : decode cX6_tellTo 15 = .ok (.istore_n 2, 1) := by decide +kernel
theorem dX6_tellTo_16 : decode cX6_tellTo 16 = .ok (.iload_n 2, 1) := by decide +kernel
theorem dX6_tellTo_17 : decode cX6_tellTo 17 = .ok (.bipush 120, 2) := by decide +kernel
theorem dX6_tellTo_19 : decode cX6_tellTo 19 = .ok (.if_icmp .gt 51, 3) := by decide +kernel
theorem dX6_tellTo_22 : decode cX6_tellTo 22 = .ok (.aload_n 0, 1) := by decide +kernel
theorem dX6_tellTo_23 : decode cX6_tellTo 23 = .ok (.invokevirtual 29, 3) := by decide +kernel
theorem dX6_tellTo_26 : decode cX6_tellTo 26 = .ok (.ifCond .ne 10, 3) := by decide +kernel
theorem dX6_tellTo_29 : decode cX6_tellTo 29 = .ok (.iconst (-1), 1) := by decide +kernel
theorem dX6_tellTo_30 : decode cX6_tellTo 30 = .ok (.aload_n 0, 1) := by decide +kernel
theorem dX6_tellTo_31 : decode cX6_tellTo 31 = .ok (.getfield 33, 3) := by decide +kernel
theorem dX6_tellTo_34 : decode cX6_tellTo 34 = .ok (.isub, 1) := by decide +kernel
theorem dX6_tellTo_35 : decode cX6_tellTo 35 = .ok (.ireturn, 1) := by decide +kernel
theorem dX6_tellTo_36 : decode cX6_tellTo 36 = .ok (.aload_n 0, 1) := by decide +kernel
theorem dX6_tellTo_37 : decode cX6_tellTo 37 = .ok (.getfield 36, 3) := by decide +kernel
theorem dX6_tellTo_40 : decode cX6_tellTo 40 = .ok (.ifCond .ne 5, 3) := by decide +kernel
theorem dX6_tellTo_43 : decode cX6_tellTo 43 = .ok (.iload_n 2, 1) := by decide +kernel
theorem dX6_tellTo_44 : decode cX6_tellTo 44 = .ok (.ireturn, 1) := by decide +kernel
theorem dX6_tellTo_45 : decode cX6_tellTo 45 = .ok (.aload_n 0, 1) := by decide +kernel
theorem dX6_tellTo_46 : decode cX6_tellTo 46 = .ok (.getfield 36, 3) := by decide +kernel
theorem dX6_tellTo_49 : decode cX6_tellTo 49 = .ok (.iconst 3, 1) := by decide +kernel
theorem dX6_tellTo_50 : decode cX6_tellTo 50 = .ok (.if_icmp .eq 10, 3) := by decide +kernel
theorem dX6_tellTo_53 : decode cX6_tellTo 53 = .ok (.iconst (-1), 1) := by decide +kernel
theorem dX6_tellTo_54 : decode cX6_tellTo 54 = .ok (.aload_n 0, 1) := by decide +kernel
theorem dX6_tellTo_55 : decode cX6_tellTo 55 = .ok (.getfield 33, 3) := by decide +kernel
theorem dX6_tellTo_58 : decode cX6_tellTo 58 = .ok (.isub, 1) := by decide +kernel
theorem dX6_tellTo_59 : decode cX6_tellTo 59 = .ok (.ireturn, 1) := by decide +kernel
theorem dX6_tellTo_60 : decode cX6_tellTo 60 = .ok (.aload_n 0, 1) := by decide +kernel
theorem dX6_tellTo_61 : decode cX6_tellTo 61 = .ok (.invokevirtual 26, 3) := by decide +kernel
theorem dX6_tellTo_64 : decode cX6_tellTo 64 = .ok (.iinc 2 1, 3) := by decide +kernel
theorem dX6_tellTo_67 : decode cX6_tellTo 67 = .ok (.goto (-51), 3) := by decide +kernel
theorem dX6_tellTo_70 : decode cX6_tellTo 70 = .ok (.iconst (-1), 1) := by decide +kernel
theorem dX6_tellTo_71 : decode cX6_tellTo 71 = .ok (.aload_n 0, 1) := by decide +kernel
theorem dX6_tellTo_72 : decode cX6_tellTo 72 = .ok (.getfield 33, 3) := by decide +kernel
theorem dX6_tellTo_75 : decode cX6_tellTo 75 = .ok (.isub, 1) := by decide +kernel
theorem dX6_tellTo_76 : decode cX6_tellTo 76 = .ok (.ireturn, 1) := by decide +kernel
def e_X6_tellTo_19_L16  : Nat → Int32 → ES → Option (Int32 × ES)
  | 0, _, _ => none
  | n + 1, x2, σ => if (120 : Int32) < x2 then (some (((-1 : Int32) - (eI σ 57 4)), σ)) else ((e_X6_item σ).bind (fun r1 => if r1.1 = 0 then (some (((-1 : Int32) - (eI r1.2 57 4)), r1.2)) else (if (eI r1.2 57 3) = 0 then (some (x2, r1.2)) else (if (eI r1.2 57 3) = (3 : Int32) then ((e_X6_next r1.2).bind (fun r3 => e_X6_tellTo_19_L16 n (x2 + 1) r3)) else (some (((-1 : Int32) - (eI r1.2 57 4)), r1.2))))))
set_option maxRecDepth 100000 in
set_option maxHeartbeats 4000000 in
theorem p_X6_tellTo_19_L16 {l : Launch} {E : MX} {out : (Int32 × ES)}   : ∀ (n : Nat) (x2 : Int32) (σ : ES), e_X6_tellTo_19_L16 n x2 σ = some out → MV l E cX6_tellTo RX6 3 (some .int) 9 (82, (some (.int out.1)), mkS out.2) (mkS σ) 16 [(0, .ref 57), (1, .ref 19), (2, .int x2)] [] := by
  intro n
  induction n with
  | zero =>
    intro x2 σ h
    exact nomatch h
  | succ n ih =>
    intro x2 σ h
    rw [e_X6_tellTo_19_L16] at h
    refine mw_iload_n dX6_tellTo_16 2 rfl ?_
    refine mw_bipush (v := 120) dX6_tellTo_17 (by decide) ?_
    refine mw_icmp_gt (tgt := 70) dX6_tellTo_19 (by decide) (fun hc => ?_) (fun hc => ?_)
    · have h := mit hc h
      refine mw_iconst (v := -1) dX6_tellTo_70 (by decide) ?_
      refine mw_aload_n dX6_tellTo_71 0 rfl ?_
      refine ev_getI fd_RX6_33_5 dX6_tellTo_72 rfl rfl ?_
      refine mw_isub dX6_tellTo_75 ?_
      exact mw_iret dX6_tellTo_76 rfl (ers_im h) rfl rfl
    · have h := mie hc h
      refine mw_aload_n dX6_tellTo_22 0 rfl ?_
      obtain ⟨r1, e2, h⟩ := mbd h
      refine mv_callV_i (As := []) (ci := 5) lkV_RX6_29_yX6_item dX6_tellTo_23 (k_X6_item e2) rfl rfl rfl rfl (Nat.le_of_ble_eq_true rfl) (by decide) (by decide) ?_
      refine mw_if_ne (tgt := 36) dX6_tellTo_26 (by decide) (fun hc => ?_) (fun hc => ?_)
      · have h := mie hc h
        refine mw_aload_n dX6_tellTo_36 0 rfl ?_
        refine ev_getI fd_RX6_36_5 dX6_tellTo_37 rfl rfl ?_
        refine mw_if_ne (tgt := 45) dX6_tellTo_40 (by decide) (fun hc => ?_) (fun hc => ?_)
        · have h := mie hc h
          refine mw_aload_n dX6_tellTo_45 0 rfl ?_
          refine ev_getI fd_RX6_36_5 dX6_tellTo_46 rfl rfl ?_
          refine mw_iconst (v := 3) dX6_tellTo_49 (by decide) ?_
          refine mw_icmp_eq (tgt := 60) dX6_tellTo_50 (by decide) (fun hc => ?_) (fun hc => ?_)
          · have h := mit hc h
            refine mw_aload_n dX6_tellTo_60 0 rfl ?_
            obtain ⟨r3, e4, h⟩ := mbd h
            refine mv_callV_v (As := []) (ci := 5) lkV_RX6_26_yX6_next dX6_tellTo_61 (k_X6_next e4) rfl rfl rfl rfl (Nat.le_of_ble_eq_true rfl) (by decide) (by decide) ?_
            refine mw_iinc (v := (x2 + 1)) (L' := [(2, .int (x2 + 1)), (0, .ref 57), (1, .ref 19)]) dX6_tellTo_64 2 rfl rfl (by decide) rfl ?_
            refine mw_goto (tgt := 16) dX6_tellTo_67 (by decide) ?_
            exact mw_sub (L' := [(0, .ref 57), (1, .ref 19), (2, .int (x2 + 1))]) [1, 2, 0] rfl (ih _ _ h)
          · have h := mie hc h
            refine mw_iconst (v := -1) dX6_tellTo_53 (by decide) ?_
            refine mw_aload_n dX6_tellTo_54 0 rfl ?_
            refine ev_getI fd_RX6_33_5 dX6_tellTo_55 rfl rfl ?_
            refine mw_isub dX6_tellTo_58 ?_
            exact mw_iret dX6_tellTo_59 rfl (ers_im h) rfl rfl
        · have h := mit hc h
          refine mw_iload_n dX6_tellTo_43 2 rfl ?_
          exact mw_iret dX6_tellTo_44 rfl (ers_im h) rfl rfl
      · have h := mit hc h
        refine mw_iconst (v := -1) dX6_tellTo_29 (by decide) ?_
        refine mw_aload_n dX6_tellTo_30 0 rfl ?_
        refine ev_getI fd_RX6_33_5 dX6_tellTo_31 rfl rfl ?_
        refine mw_isub dX6_tellTo_34 ?_
        exact mw_iret dX6_tellTo_35 rfl (ers_im h) rfl rfl
def e_X6_tellTo_19 (σ : ES) : Option (Int32 × ES) := (e_X6_next (uI (uT σ 2 (some 19)) 57 5 (0 : Int32))).bind (fun r1 => e_X6_tellTo_19_L16 mN (1 : Int32) r1)
set_option maxRecDepth 100000 in
set_option maxHeartbeats 4000000 in
theorem k_X6_tellTo_19 {l : Launch} {σ : ES}  {out : (Int32 × ES)} (h : e_X6_tellTo_19 σ = some out) : MK l yX6_tellTo cX6_tellTo 3 (some .int) 9 [.ref 57, .ref 19] (mkS σ) (some (.int out.1)) (mkS out.2) := by
  unfold e_X6_tellTo_19 at h
  refine mw_entry (own := RX6) (ini := false) (L := [(0, .ref 57), (1, .ref 19)]) (by decide +kernel) rfl (fun h => nomatch h) rfl (Nat.le_of_ble_eq_true rfl) (Nat.le_of_ble_eq_true rfl) (fun E => ?_)
  refine mw_aload_n dX6_tellTo_0 0 rfl ?_
  refine mw_aload_n dX6_tellTo_1 1 rfl ?_
  refine ev_putT2 fw_RX6_19_5 dX6_tellTo_2 ?_
  refine mw_aload_n dX6_tellTo_5 0 rfl ?_
  refine mw_iconst (v := 0) dX6_tellTo_6 (by decide) ?_
  refine ev_putI fw_RX6_23_5 dX6_tellTo_7 rfl rfl ?_
  refine mw_aload_n dX6_tellTo_10 0 rfl ?_
  obtain ⟨r1, e2, h⟩ := mbd h
  refine mv_callV_v (As := []) (ci := 5) lkV_RX6_26_yX6_next dX6_tellTo_11 (k_X6_next e2) rfl rfl rfl rfl (Nat.le_of_ble_eq_true rfl) (by decide) (by decide) ?_
  refine mw_iconst (v := 1) dX6_tellTo_14 (by decide) ?_
  refine mw_istore_n (L' := [(2, .int (1 : Int32)), (0, .ref 57), (1, .ref 19)]) dX6_tellTo_15 rfl (by decide) rfl ?_
  exact mw_sub (L' := [(0, .ref 57), (1, .ref 19), (2, .int (1 : Int32))]) [1, 2, 0] rfl (p_X6_tellTo_19_L16  mN _ _ h)

def e_X1_become_1_19 (σ : ES) : Option ES := if mcpl 14 14 (0 : Int32) (0 : Int32) (14 : Int32) = true then (if mcpl 14 14 (0 : Int32) (0 : Int32) (14 : Int32) = true then (if mcpl 14 14 (0 : Int32) (0 : Int32) (14 : Int32) = true then (if mcpl 14 14 (0 : Int32) (0 : Int32) (14 : Int32) = true then (if mcpl 14 14 (0 : Int32) (0 : Int32) (14 : Int32) = true then (if mcpl 14 14 (0 : Int32) (0 : Int32) (14 : Int32) = true then (if mcpl 13 13 (0 : Int32) (0 : Int32) (13 : Int32) = true then (if mcpl 13 13 (0 : Int32) (0 : Int32) (13 : Int32) = true then (some (ecI (ecI (ecI (ecI (ecI (ecI (ecI (ecI (uI (uI (uI (uI σ 1 0 (eI σ 19 0)) 1 1 (eI (uI σ 1 0 (eI σ 19 0)) 19 1)) 1 2 (eI (uI (uI σ 1 0 (eI σ 19 0)) 1 1 (eI (uI σ 1 0 (eI σ 19 0)) 19 1)) 19 2)) 1 9 (eI (uI (uI (uI σ 1 0 (eI σ 19 0)) 1 1 (eI (uI σ 1 0 (eI σ 19 0)) 19 1)) 1 2 (eI (uI (uI σ 1 0 (eI σ 19 0)) 1 1 (eI (uI σ 1 0 (eI σ 19 0)) 19 1)) 19 2)) 19 9)) 20 (0 : Int32).toNatClampNeg 2 (0 : Int32).toNatClampNeg (14 : Int32).toNatClampNeg) 21 (0 : Int32).toNatClampNeg 3 (0 : Int32).toNatClampNeg (14 : Int32).toNatClampNeg) 22 (0 : Int32).toNatClampNeg 4 (0 : Int32).toNatClampNeg (14 : Int32).toNatClampNeg) 23 (0 : Int32).toNatClampNeg 5 (0 : Int32).toNatClampNeg (14 : Int32).toNatClampNeg) 24 (0 : Int32).toNatClampNeg 6 (0 : Int32).toNatClampNeg (14 : Int32).toNatClampNeg) 25 (0 : Int32).toNatClampNeg 7 (0 : Int32).toNatClampNeg (14 : Int32).toNatClampNeg) 26 (0 : Int32).toNatClampNeg 8 (0 : Int32).toNatClampNeg (13 : Int32).toNatClampNeg) 27 (0 : Int32).toNatClampNeg 9 (0 : Int32).toNatClampNeg (13 : Int32).toNatClampNeg)) else none) else none) else none) else none) else none) else none) else none) else none
set_option maxRecDepth 100000 in
set_option maxHeartbeats 4000000 in
theorem k_X1_become_1_19 {l : Launch} {σ : ES}  {out : ES} (h : e_X1_become_1_19 σ = some out) : MK l yX1_become cX1_become 2 none 1 [.ref 1, .ref 19] (mkS σ) none (mkS out) := by
  unfold e_X1_become_1_19 at h
  refine mw_entry (own := RX1) (ini := false) (L := [(0, .ref 1), (1, .ref 19)]) (by decide +kernel) rfl (fun h => nomatch h) rfl (Nat.le_of_ble_eq_true rfl) (Nat.le_of_ble_eq_true rfl) (fun E => ?_)
  refine mw_aload_n dX1_become_0 0 rfl ?_
  refine mw_aload_n dX1_become_1 1 rfl ?_
  refine ev_getI fd_RX1_9_0 dX1_become_2 rfl rfl ?_
  refine ev_putI fw_RX1_9_0 dX1_become_5 rfl rfl ?_
  refine mw_aload_n dX1_become_8 0 rfl ?_
  refine mw_aload_n dX1_become_9 1 rfl ?_
  refine ev_getI fd_RX1_50_0 dX1_become_10 rfl rfl ?_
  refine ev_putI fw_RX1_50_0 dX1_become_13 rfl rfl ?_
  refine mw_aload_n dX1_become_16 0 rfl ?_
  refine mw_aload_n dX1_become_17 1 rfl ?_
  refine ev_getI fd_RX1_44_0 dX1_become_18 rfl rfl ?_
  refine ev_putI fw_RX1_44_0 dX1_become_21 rfl rfl ?_
  refine mw_aload_n dX1_become_24 0 rfl ?_
  refine mw_aload_n dX1_become_25 1 rfl ?_
  refine ev_getI fd_RX1_47_0 dX1_become_26 rfl rfl ?_
  refine ev_putI fw_RX1_47_0 dX1_become_29 rfl rfl ?_
  refine mw_aload_n dX1_become_32 1 rfl ?_
  refine ev_getR (q := 20) fd_RX1_15_0 dX1_become_33 rfl rfl rfl ?_
  refine mw_iconst (v := 0) dX1_become_36 (by decide) ?_
  refine mw_aload_n dX1_become_37 0 rfl ?_
  refine ev_getR (q := 2) fd_RX1_15_0 dX1_become_38 rfl rfl rfl ?_
  refine mw_iconst (v := 0) dX1_become_41 (by decide) ?_
  refine mw_bipush (v := 14) dX1_become_42 (by decide) ?_
  obtain ⟨m1, h⟩ := mif h
  refine ev_copyI dX1_become_44 wt_202 wt_203 wt_204 wt_205 (by decide) (by decide) rfl rfl m1 (by decide) (Nat.le_of_ble_eq_true rfl) ?_
  refine mw_aload_n dX1_become_47 1 rfl ?_
  refine ev_getR (q := 21) fd_RX1_19_0 dX1_become_48 rfl rfl rfl ?_
  refine mw_iconst (v := 0) dX1_become_51 (by decide) ?_
  refine mw_aload_n dX1_become_52 0 rfl ?_
  refine ev_getR (q := 3) fd_RX1_19_0 dX1_become_53 rfl rfl rfl ?_
  refine mw_iconst (v := 0) dX1_become_56 (by decide) ?_
  refine mw_bipush (v := 14) dX1_become_57 (by decide) ?_
  obtain ⟨m2, h⟩ := mif h
  refine ev_copyI dX1_become_59 wt_202 wt_203 wt_204 wt_205 (by decide) (by decide) rfl rfl m2 (by decide) (Nat.le_of_ble_eq_true rfl) ?_
  refine mw_aload_n dX1_become_62 1 rfl ?_
  refine ev_getR (q := 22) fd_RX1_22_0 dX1_become_63 rfl rfl rfl ?_
  refine mw_iconst (v := 0) dX1_become_66 (by decide) ?_
  refine mw_aload_n dX1_become_67 0 rfl ?_
  refine ev_getR (q := 4) fd_RX1_22_0 dX1_become_68 rfl rfl rfl ?_
  refine mw_iconst (v := 0) dX1_become_71 (by decide) ?_
  refine mw_bipush (v := 14) dX1_become_72 (by decide) ?_
  obtain ⟨m3, h⟩ := mif h
  refine ev_copyI dX1_become_74 wt_202 wt_203 wt_204 wt_205 (by decide) (by decide) rfl rfl m3 (by decide) (Nat.le_of_ble_eq_true rfl) ?_
  refine mw_aload_n dX1_become_77 1 rfl ?_
  refine ev_getR (q := 23) fd_RX1_25_0 dX1_become_78 rfl rfl rfl ?_
  refine mw_iconst (v := 0) dX1_become_81 (by decide) ?_
  refine mw_aload_n dX1_become_82 0 rfl ?_
  refine ev_getR (q := 5) fd_RX1_25_0 dX1_become_83 rfl rfl rfl ?_
  refine mw_iconst (v := 0) dX1_become_86 (by decide) ?_
  refine mw_bipush (v := 14) dX1_become_87 (by decide) ?_
  obtain ⟨m4, h⟩ := mif h
  refine ev_copyI dX1_become_89 wt_202 wt_203 wt_204 wt_205 (by decide) (by decide) rfl rfl m4 (by decide) (Nat.le_of_ble_eq_true rfl) ?_
  refine mw_aload_n dX1_become_92 1 rfl ?_
  refine ev_getR (q := 24) fd_RX1_28_0 dX1_become_93 rfl rfl rfl ?_
  refine mw_iconst (v := 0) dX1_become_96 (by decide) ?_
  refine mw_aload_n dX1_become_97 0 rfl ?_
  refine ev_getR (q := 6) fd_RX1_28_0 dX1_become_98 rfl rfl rfl ?_
  refine mw_iconst (v := 0) dX1_become_101 (by decide) ?_
  refine mw_bipush (v := 14) dX1_become_102 (by decide) ?_
  obtain ⟨m5, h⟩ := mif h
  refine ev_copyI dX1_become_104 wt_202 wt_203 wt_204 wt_205 (by decide) (by decide) rfl rfl m5 (by decide) (Nat.le_of_ble_eq_true rfl) ?_
  refine mw_aload_n dX1_become_107 1 rfl ?_
  refine ev_getR (q := 25) fd_RX1_31_0 dX1_become_108 rfl rfl rfl ?_
  refine mw_iconst (v := 0) dX1_become_111 (by decide) ?_
  refine mw_aload_n dX1_become_112 0 rfl ?_
  refine ev_getR (q := 7) fd_RX1_31_0 dX1_become_113 rfl rfl rfl ?_
  refine mw_iconst (v := 0) dX1_become_116 (by decide) ?_
  refine mw_bipush (v := 14) dX1_become_117 (by decide) ?_
  obtain ⟨m6, h⟩ := mif h
  refine ev_copyI dX1_become_119 wt_202 wt_203 wt_204 wt_205 (by decide) (by decide) rfl rfl m6 (by decide) (Nat.le_of_ble_eq_true rfl) ?_
  refine mw_aload_n dX1_become_122 1 rfl ?_
  refine ev_getR (q := 26) fd_RX1_34_0 dX1_become_123 rfl rfl rfl ?_
  refine mw_iconst (v := 0) dX1_become_126 (by decide) ?_
  refine mw_aload_n dX1_become_127 0 rfl ?_
  refine ev_getR (q := 8) fd_RX1_34_0 dX1_become_128 rfl rfl rfl ?_
  refine mw_iconst (v := 0) dX1_become_131 (by decide) ?_
  refine mw_bipush (v := 13) dX1_become_132 (by decide) ?_
  obtain ⟨m7, h⟩ := mif h
  refine ev_copyI dX1_become_134 wt_202 wt_203 wt_204 wt_205 (by decide) (by decide) rfl rfl m7 (by decide) (Nat.le_of_ble_eq_true rfl) ?_
  refine mw_aload_n dX1_become_137 1 rfl ?_
  refine ev_getR (q := 27) fd_RX1_37_0 dX1_become_138 rfl rfl rfl ?_
  refine mw_iconst (v := 0) dX1_become_141 (by decide) ?_
  refine mw_aload_n dX1_become_142 0 rfl ?_
  refine ev_getR (q := 9) fd_RX1_37_0 dX1_become_143 rfl rfl rfl ?_
  refine mw_iconst (v := 0) dX1_become_146 (by decide) ?_
  refine mw_bipush (v := 13) dX1_become_147 (by decide) ?_
  obtain ⟨m8, h⟩ := mif h
  refine ev_copyI dX1_become_149 wt_202 wt_203 wt_204 wt_205 (by decide) (by decide) rfl rfl m8 (by decide) (Nat.le_of_ble_eq_true rfl) ?_
  exact mw_vret dX1_become_152 rfl (ers_vm h) rfl rfl

theorem dX9_text_0 : decode cX9_text 0 = .ok (.aload_n 0, 1) := by decide +kernel
theorem dX9_text_1 : decode cX9_text 1 = .ok (.getfield 19, 3) := by decide +kernel
theorem dX9_text_4 : decode cX9_text 4 = .ok (.aload_n 0, 1) := by decide +kernel
theorem dX9_text_5 : decode cX9_text 5 = .ok (.getfield 12, 3) := by decide +kernel
theorem dX9_text_8 : decode cX9_text 8 = .ok (.invokevirtual 231, 3) := by decide +kernel
theorem dX9_text_11 : decode cX9_text 11 = .ok (.aload_n 0, 1) := by decide +kernel
theorem dX9_text_12 : decode cX9_text 12 = .ok (.getfield 60, 3) := by decide +kernel
theorem dX9_text_15 : decode cX9_text 15 = .ok (.aload_n 0, 1) := by decide +kernel
theorem dX9_text_16 : decode cX9_text 16 = .ok (.getfield 19, 3) := by decide +kernel
theorem dX9_text_19 : decode cX9_text 19 = .ok (.invokevirtual 328, 3) := by decide +kernel
theorem dX9_text_22 : decode cX9_text 22 = .ok (.istore_n 1, 1) := by decide +kernel
theorem dX9_text_23 : decode cX9_text 23 = .ok (.iload_n 1, 1) := by decide +kernel
theorem dX9_text_24 : decode cX9_text 24 = .ok (.ifCond .le 14, 3) := by decide +kernel
theorem dX9_text_27 : decode cX9_text 27 = .ok (.aload_n 0, 1) := by decide +kernel
theorem dX9_text_28 : decode cX9_text 28 = .ok (.getfield 12, 3) := by decide +kernel
theorem dX9_text_31 : decode cX9_text 31 = .ok (.aload_n 0, 1) := by decide +kernel
theorem dX9_text_32 : decode cX9_text 32 = .ok (.getfield 19, 3) := by decide +kernel
theorem dX9_text_35 : decode cX9_text 35 = .ok (.invokevirtual 231, 3) := by decide +kernel
theorem dX9_text_38 : decode cX9_text 38 = .ok (.aload_n 0, 1) := by decide +kernel
theorem dX9_text_39 : decode cX9_text 39 = .ok (.getfield 60, 3) := by decide +kernel
theorem dX9_text_42 : decode cX9_text 42 = .ok (.iconst 0, 1) := by decide +kernel
theorem dX9_text_43 : decode cX9_text 43 = .ok (.putfield 321, 3) := by decide +kernel
theorem dX9_text_46 : decode cX9_text 46 = .ok (.iload_n 1, 1) := by decide +kernel
theorem dX9_text_47 : decode cX9_text 47 = .ok (.ireturn, 1) := by decide +kernel
def e_X9_text (σ : ES) : Option (Int32 × ES) := (e_X1_become_19_1 σ).bind (fun r1 => (e_X6_tellTo_19 r1).bind (fun r3 => if r3.1 ≤ 0 then (some (r3.1, (uI r3.2 57 0 (0 : Int32)))) else ((e_X1_become_1_19 r3.2).bind (fun r5 => some (r3.1, (uI r5 57 0 (0 : Int32)))))))
set_option maxRecDepth 100000 in
set_option maxHeartbeats 4000000 in
theorem k_X9_text {l : Launch} {σ : ES}  {out : (Int32 × ES)} (h : e_X9_text σ = some out) : MK l yX9_text cX9_text 2 (some .int) 10 [.ref 0] (mkS σ) (some (.int out.1)) (mkS out.2) := by
  unfold e_X9_text at h
  refine mw_entry (own := RX9) (ini := false) (L := [(0, .ref 0)]) (by decide +kernel) rfl (fun h => nomatch h) rfl (Nat.le_of_ble_eq_true rfl) (Nat.le_of_ble_eq_true rfl) (fun E => ?_)
  refine mw_aload_n dX9_text_0 0 rfl ?_
  refine ev_getR (q := 19) fd_RX9_19_8 dX9_text_1 rfl rfl rfl ?_
  refine mw_aload_n dX9_text_4 0 rfl ?_
  refine ev_getR (q := 1) fd_RX9_12_8 dX9_text_5 rfl rfl rfl ?_
  obtain ⟨r1, e2, h⟩ := mbd h
  refine mv_callV_v (As := [.ref 1]) (ci := 0) lkV_RX9_231_yX1_become dX9_text_8 (k_X1_become_19_1 e2) rfl rfl rfl rfl (Nat.le_of_ble_eq_true rfl) (by decide) (by decide) ?_
  refine mw_aload_n dX9_text_11 0 rfl ?_
  refine ev_getR (q := 57) fd_RX9_60_8 dX9_text_12 rfl rfl rfl ?_
  refine mw_aload_n dX9_text_15 0 rfl ?_
  refine ev_getR (q := 19) fd_RX9_19_8 dX9_text_16 rfl rfl rfl ?_
  obtain ⟨r3, e4, h⟩ := mbd h
  refine mv_callV_i (As := [.ref 19]) (ci := 5) lkV_RX9_328_yX6_tellTo dX9_text_19 (k_X6_tellTo_19 e4) rfl rfl rfl rfl (Nat.le_of_ble_eq_true rfl) (by decide) (by decide) ?_
  refine mw_istore_n (L' := [(1, .int r3.1), (0, .ref 0)]) dX9_text_22 rfl (by decide) rfl ?_
  refine mw_iload_n dX9_text_23 0 rfl ?_
  refine mw_if_le (tgt := 38) dX9_text_24 (by decide) (fun hc => ?_) (fun hc => ?_)
  · have h := mit hc h
    refine mw_aload_n dX9_text_38 1 rfl ?_
    refine ev_getR (q := 57) fd_RX9_60_8 dX9_text_39 rfl rfl rfl ?_
    refine mw_iconst (v := 0) dX9_text_42 (by decide) ?_
    refine ev_putI fw_RX9_321_5 dX9_text_43 rfl rfl ?_
    refine mw_iload_n dX9_text_46 0 rfl ?_
    exact mw_iret dX9_text_47 rfl (ers_im h) rfl rfl
  · have h := mie hc h
    refine mw_aload_n dX9_text_27 1 rfl ?_
    refine ev_getR (q := 1) fd_RX9_12_8 dX9_text_28 rfl rfl rfl ?_
    refine mw_aload_n dX9_text_31 1 rfl ?_
    refine ev_getR (q := 19) fd_RX9_19_8 dX9_text_32 rfl rfl rfl ?_
    obtain ⟨r5, e6, h⟩ := mbd h
    refine mv_callV_v (As := [.ref 19]) (ci := 0) lkV_RX9_231_yX1_become dX9_text_35 (k_X1_become_1_19 e6) rfl rfl rfl rfl (Nat.le_of_ble_eq_true rfl) (by decide) (by decide) ?_
    refine mw_aload_n dX9_text_38 1 rfl ?_
    refine ev_getR (q := 57) fd_RX9_60_8 dX9_text_39 rfl rfl rfl ?_
    refine mw_iconst (v := 0) dX9_text_42 (by decide) ?_
    refine ev_putI fw_RX9_321_5 dX9_text_43 rfl rfl ?_
    refine mw_iload_n dX9_text_46 0 rfl ?_
    exact mw_iret dX9_text_47 rfl (ers_im h) rfl rfl

theorem dX5_begin_0 : decode cX5_begin 0 = .ok (.aload_n 0, 1) := by decide +kernel
theorem dX5_begin_1 : decode cX5_begin 1 = .ok (.iload_n 1, 1) := by decide +kernel
theorem dX5_begin_2 : decode cX5_begin 2 = .ok (.putfield 15, 3) := by decide +kernel
theorem dX5_begin_5 : decode cX5_begin 5 = .ok (.aload_n 0, 1) := by decide +kernel
theorem dX5_begin_6 : decode cX5_begin 6 = .ok (.iload_n 2, 1) := by decide +kernel
theorem dX5_begin_7 : decode cX5_begin 7 = .ok (.putfield 19, 3) := by decide +kernel
theorem dX5_begin_10 : decode cX5_begin 10 = .ok (.iconst 0, 1) := by decide +kernel
theorem dX5_begin_11 : decode cX5_begin 11 = .ok (.istore_n 3, 1) := by decide +kernel
theorem dX5_begin_12 : decode cX5_begin 12 = .ok (.iload_n 3, 1) := by decide +kernel
theorem dX5_begin_13 : decode cX5_begin 13 = .ok (.bipush 40, 2) := by decide +kernel
theorem dX5_begin_15 : decode cX5_begin 15 = .ok (.if_icmp .ge 16, 3) := by decide +kernel
theorem dX5_begin_18 : decode cX5_begin 18 = .ok (.aload_n 0, 1) := by decide +kernel
theorem dX5_begin_19 : decode cX5_begin 19 = .ok (.getfield 9, 3) := by decide +kernel
theorem dX5_begin_22 : decode cX5_begin 22 = .ok (.iload_n 3, 1) := by decide +kernel
theorem dX5_begin_23 : decode cX5_begin 23 = .ok (.lconst 0, 1) := by decide +kernel
theorem dX5_begin_24 : decode cX5_begin 24 = .ok (.lastore, 1) := by decide +kernel
theorem dX5_begin_25 : decode cX5_begin 25 = .ok (.iinc 3 1, 3) := by decide +kernel
theorem dX5_begin_28 : decode cX5_begin 28 = .ok (.goto (-16), 3) := by decide +kernel
theorem dX5_begin_31 : decode cX5_begin 31 = .ok (.return_, 1) := by decide +kernel
def e_X5_begin_L12 (a0 : Nat) (a1 : Int32) (a2 : Int32) : Nat → Int32 → ES → Option ES
  | 0, _, _ => none
  | n + 1, x3, σ => if (40 : Int32) ≤ x3 then (some σ) else (if msh a0 = true then (if mib x3 40 = true then (e_X5_begin_L12 a0 a1 a2 n (x3 + 1) (uL σ (a0 + 1) x3.toNatClampNeg (0 : Int64))) else none) else none)
set_option maxRecDepth 100000 in
set_option maxHeartbeats 4000000 in
theorem p_X5_begin_L12 {l : Launch} {E : MX} {out : ES} {a0 : Nat} {a1 : Int32} {a2 : Int32}  : ∀ (n : Nat) (x3 : Int32) (σ : ES), e_X5_begin_L12 a0 a1 a2 n x3 σ = some out → MV l E cX5_begin RX5 4 none 1 (82, none, mkS out) (mkS σ) 12 [(0, .ref a0), (1, .int a1), (2, .int a2), (3, .int x3)] [] := by
  intro n
  induction n with
  | zero =>
    intro x3 σ h
    exact nomatch h
  | succ n ih =>
    intro x3 σ h
    rw [e_X5_begin_L12] at h
    refine mw_iload_n dX5_begin_12 3 rfl ?_
    refine mw_bipush (v := 40) dX5_begin_13 (by decide) ?_
    refine mw_icmp_ge (tgt := 31) dX5_begin_15 (by decide) (fun hc => ?_) (fun hc => ?_)
    · have h := mit hc h
      exact mw_vret dX5_begin_31 rfl (ers_vm h) rfl rfl
    · have h := mie hc h
      refine mw_aload_n dX5_begin_18 0 rfl ?_
      obtain ⟨m1, h⟩ := mif h
      refine ev_getR fd_RX5_9_4 dX5_begin_19 (msh_ob m1) rfl (msh_r m1) ?_
      refine mw_iload_n dX5_begin_22 3 rfl ?_
      refine mw_lconst (v := 0) dX5_begin_23 (by decide) ?_
      obtain ⟨m2, h⟩ := mif h
      refine ev_last dX5_begin_24 (msh_n1 m1) (msh_n2 m1) m2 ?_
      refine mw_iinc (v := (x3 + 1)) (L' := [(3, .int (x3 + 1)), (0, .ref a0), (1, .int a1), (2, .int a2)]) dX5_begin_25 3 rfl rfl (by decide) rfl ?_
      refine mw_goto (tgt := 12) dX5_begin_28 (by decide) ?_
      exact mw_sub (L' := [(0, .ref a0), (1, .int a1), (2, .int a2), (3, .int (x3 + 1))]) [1, 2, 3, 0] rfl (ih _ _ h)
def e_X5_begin (a0 : Nat) (a1 : Int32) (a2 : Int32) (σ : ES) : Option ES := if msh a0 = true then (e_X5_begin_L12 a0 a1 a2 mN (0 : Int32) (uI (uI σ a0 0 a1) a0 1 a2)) else none
set_option maxRecDepth 100000 in
set_option maxHeartbeats 4000000 in
theorem k_X5_begin {l : Launch} {σ : ES} {a0 : Nat} {a1 : Int32} {a2 : Int32} {out : ES} (h : e_X5_begin a0 a1 a2 σ = some out) : MK l yX5_begin cX5_begin 4 none 1 [.ref a0, .int a1, .int a2] (mkS σ) none (mkS out) := by
  unfold e_X5_begin at h
  refine mw_entry (own := RX5) (ini := false) (L := [(0, .ref a0), (1, .int a1), (2, .int a2)]) (by decide +kernel) rfl (fun h => nomatch h) rfl (Nat.le_of_ble_eq_true rfl) (Nat.le_of_ble_eq_true rfl) (fun E => ?_)
  refine mw_aload_n dX5_begin_0 0 rfl ?_
  refine mw_iload_n dX5_begin_1 1 rfl ?_
  obtain ⟨m1, h⟩ := mif h
  refine ev_putI fw_RX5_15_4 dX5_begin_2 (msh_ob m1) rfl ?_
  refine mw_aload_n dX5_begin_5 0 rfl ?_
  refine mw_iload_n dX5_begin_6 2 rfl ?_
  refine ev_putI fw_RX5_19_4 dX5_begin_7 (msh_ob m1) rfl ?_
  refine mw_iconst (v := 0) dX5_begin_10 (by decide) ?_
  refine mw_istore_n (L' := [(3, .int (0 : Int32)), (0, .ref a0), (1, .int a1), (2, .int a2)]) dX5_begin_11 rfl (by decide) rfl ?_
  exact mw_sub (L' := [(0, .ref a0), (1, .int a1), (2, .int a2), (3, .int (0 : Int32))]) [1, 2, 3, 0] rfl (p_X5_begin_L12  mN _ _ h)

theorem dX9_sheet_0 : decode cX9_sheet 0 = .ok (.iload_n 1, 1) := by decide +kernel
theorem dX9_sheet_1 : decode cX9_sheet 1 = .ok (.iconst 0, 1) := by decide +kernel
theorem dX9_sheet_2 : decode cX9_sheet 2 = .ok (.iconst 3, 1) := by decide +kernel
theorem dX9_sheet_3 : decode cX9_sheet 3 = .ok (.invokestatic 75, 3) := by decide +kernel
theorem dX9_sheet_6 : decode cX9_sheet 6 = .ok (.ifCond .eq 25, 3) := by decide +kernel
theorem dX9_sheet_9 : decode cX9_sheet 9 = .ok (.iload_n 2, 1) := by decide +kernel
theorem dX9_sheet_10 : decode cX9_sheet 10 = .ok (.ifCond .eq 27, 3) := by decide +kernel
theorem dX9_sheet_13 : decode cX9_sheet 13 = .ok (.iload_n 2, 1) := by decide +kernel
theorem dX9_sheet_14 : decode cX9_sheet 14 = .ok (.bipush 16, 2) := by decide +kernel
theorem dX9_sheet_16 : decode cX9_sheet 16 = .ok (.if_icmp .eq 21, 3) := by decide +kernel
theorem dX9_sheet_19 : decode cX9_sheet 19 = .ok (.iload_n 2, 1) := by decide +kernel
theorem dX9_sheet_20 : decode cX9_sheet 20 = .ok (.bipush 32, 2) := by decide +kernel
theorem dX9_sheet_22 : decode cX9_sheet 22 = .ok (.if_icmp .eq 15, 3) := by decide +kernel
theorem dX9_sheet_25 : decode cX9_sheet 25 = .ok (.iload_n 2, 1) := by decide +kernel
theorem dX9_sheet_26 : decode cX9_sheet 26 = .ok (.bipush 64, 2) := by decide +kernel
theorem dX9_sheet_28 : decode cX9_sheet 28 = .ok (.if_icmp .eq 9, 3) := by decide +kernel
theorem dX9_sheet_31 : decode cX9_sheet 31 = .ok (.aload_n 0, 1) := by decide +kernel
theorem dX9_sheet_32 : decode cX9_sheet 32 = .ok (.iconst 0, 1) := by decide +kernel
theorem dX9_sheet_33 : decode cX9_sheet 33 = .ok (.invokevirtual 79, 3) := by decide +kernel
theorem dX9_sheet_36 : decode cX9_sheet 36 = .ok (.ireturn, 1) := by decide +kernel
theorem dX9_sheet_37 : decode cX9_sheet 37 = .ok (.iload_n 2, 1) := by decide +kernel
theorem dX9_sheet_38 : decode cX9_sheet 38 = .ok (.ifCond .eq 14, 3) := by decide +kernel
theorem dX9_sheet_41 : decode cX9_sheet 41 = .ok (.iload_n 3, 1) := by decide +kernel
theorem dX9_sheet_42 : decode cX9_sheet 42 = .ok (.ifCond .ge 10, 3) := by decide +kernel
theorem dX9_sheet_45 : decode cX9_sheet 45 = .ok (.aload_n 0, 1) := by decide +kernel
theorem dX9_sheet_46 : decode cX9_sheet 46 = .ok (.bipush 6, 2) := by decide +kernel
theorem dX9_sheet_48 : decode cX9_sheet 48 = .ok (.invokevirtual 79, 3) := by decide +kernel
theorem dX9_sheet_51 : decode cX9_sheet 51 = .ok (.ireturn, 1) := by decide +kernel
theorem dX9_sheet_52 : decode cX9_sheet 52 = .ok (.iload_n 2, 1) := by decide +kernel
theorem dX9_sheet_53 : decode cX9_sheet 53 = .ok (.ifCond .eq 15, 3) := by decide +kernel
theorem dX9_sheet_56 : decode cX9_sheet 56 = .ok (.iload_n 3, 1) := by decide +kernel
theorem dX9_sheet_57 : decode cX9_sheet 57 = .ok (.bipush 40, 2) := by decide +kernel
theorem dX9_sheet_59 : decode cX9_sheet 59 = .ok (.if_icmp .le 9, 3) := by decide +kernel
theorem dX9_sheet_62 : decode cX9_sheet 62 = .ok (.aload_n 0, 1) := by decide +kernel
theorem dX9_sheet_63 : decode cX9_sheet 63 = .ok (.iconst 0, 1) := by decide +kernel
theorem dX9_sheet_64 : decode cX9_sheet 64 = .ok (.invokevirtual 79, 3) := by decide +kernel
theorem dX9_sheet_67 : decode cX9_sheet 67 = .ok (.ireturn, 1) := by decide +kernel
theorem dX9_sheet_68 : decode cX9_sheet 68 = .ok (.aload_n 0, 1) := by decide +kernel
theorem dX9_sheet_69 : decode cX9_sheet 69 = .ok (.getfield 66, 3) := by decide +kernel
theorem dX9_sheet_72 : decode cX9_sheet 72 = .ok (.iload_n 1, 1) := by decide +kernel
theorem dX9_sheet_73 : decode cX9_sheet 73 = .ok (.aaload, 1) := by decide +kernel
theorem dX9_sheet_74 : decode cX9_sheet 74 = .ok (.iload_n 2, 1) := by decide +kernel
theorem dX9_sheet_75 : decode cX9_sheet 75 = .ok (.iload_n 2, 1) := by decide +kernel
theorem dX9_sheet_76 : decode cX9_sheet 76 = .ok (.ifCond .ne 7, 3) := by decide +kernel
theorem dX9_sheet_79 : decode cX9_sheet 79 = .ok (.iconst 0, 1) := by decide +kernel
theorem dX9_sheet_80 : decode cX9_sheet 80 = .ok (.goto 4, 3) := by decide +kernel
theorem dX9_sheet_83 : decode cX9_sheet 83 = .ok (.iload_n 3, 1) := by decide +kernel
theorem dX9_sheet_84 : decode cX9_sheet 84 = .ok (.invokevirtual 332, 3) := by decide +kernel
theorem dX9_sheet_87 : decode cX9_sheet 87 = .ok (.aload_n 0, 1) := by decide +kernel
theorem dX9_sheet_88 : decode cX9_sheet 88 = .ok (.getfield 66, 3) := by decide +kernel
theorem dX9_sheet_91 : decode cX9_sheet 91 = .ok (.iload_n 1, 1) := by decide +kernel
theorem dX9_sheet_92 : decode cX9_sheet 92 = .ok (.aaload, 1) := by decide +kernel
theorem dX9_sheet_93 : decode cX9_sheet 93 = .ok (.getfield 336, 3) := by decide +kernel
theorem dX9_sheet_96 : decode cX9_sheet 96 = .ok (.ireturn, 1) := by decide +kernel
def e_X9_sheet_J84 (a1 : Int32) (a2 : Int32) (a3 : Int32) (s0 : Nat) (s1 : Int32) (s2 : Int32) (σ : ES) : Option (Int32 × ES) := (e_X5_begin s0 s1 s2 σ).bind (fun r1 => if msh s0 = true then (if mib a1 4 = true then (some ((eI r1 (61 + 2 * a1.toNatClampNeg) 1), r1)) else none) else none)
set_option maxRecDepth 100000 in
set_option maxHeartbeats 4000000 in
theorem p_X9_sheet_J84 {l : Launch} {E : MX} {out : (Int32 × ES)} {a1 : Int32} {a2 : Int32} {a3 : Int32}  {s0 : Nat} {s1 : Int32} {s2 : Int32} {σ : ES} (h : e_X9_sheet_J84 a1 a2 a3 s0 s1 s2 σ = some out) : MV l E cX9_sheet RX9 4 (some .int) 2 (82, (some (.int out.1)), mkS out.2) (mkS σ) 84 [(0, .ref 0), (1, .int a1), (2, .int a2), (3, .int a3)] [.int s2, .int s1, .ref s0] := by
  unfold e_X9_sheet_J84 at h
  obtain ⟨r1, e2, h⟩ := mbd h
  obtain ⟨m3, h⟩ := mif h
  refine mv_callV_v (As := [.int s1, .int s2]) (ci := 4) lkV_RX9_332_yX5_begin dX9_sheet_84 (k_X5_begin e2) rfl (msh_ob m3) rfl rfl (Nat.le_of_ble_eq_true rfl) (by decide) (by decide) ?_
  refine mw_aload_n dX9_sheet_87 0 rfl ?_
  refine ev_getR (q := 59) fd_RX9_66_8 dX9_sheet_88 rfl rfl rfl ?_
  refine mw_iload_n dX9_sheet_91 1 rfl ?_
  obtain ⟨m4, h⟩ := mif h
  refine ev_aald dX9_sheet_92 m4 ?_
  refine ev_getI fd_RX9_336_4 dX9_sheet_93 (msh_ob (esh2 m4)) rfl ?_
  exact mw_iret dX9_sheet_96 rfl (ers_im h) rfl rfl
def e_X9_sheet_J68 (a1 : Int32) (a2 : Int32) (a3 : Int32) (σ : ES) : Option (Int32 × ES) := if mib a1 4 = true then (if a2 = 0 then (e_X9_sheet_J84 a1 a2 a3 (61 + 2 * a1.toNatClampNeg) a2 (0 : Int32) σ) else (e_X9_sheet_J84 a1 a2 a3 (61 + 2 * a1.toNatClampNeg) a2 a3 σ)) else none
set_option maxRecDepth 100000 in
set_option maxHeartbeats 4000000 in
theorem p_X9_sheet_J68 {l : Launch} {E : MX} {out : (Int32 × ES)} {a1 : Int32} {a2 : Int32} {a3 : Int32}  {σ : ES} (h : e_X9_sheet_J68 a1 a2 a3 σ = some out) : MV l E cX9_sheet RX9 4 (some .int) 2 (82, (some (.int out.1)), mkS out.2) (mkS σ) 68 [(0, .ref 0), (1, .int a1), (2, .int a2), (3, .int a3)] [] := by
  unfold e_X9_sheet_J68 at h
  refine mw_aload_n dX9_sheet_68 0 rfl ?_
  refine ev_getR (q := 59) fd_RX9_66_8 dX9_sheet_69 rfl rfl rfl ?_
  refine mw_iload_n dX9_sheet_72 1 rfl ?_
  obtain ⟨m1, h⟩ := mif h
  refine ev_aald dX9_sheet_73 m1 ?_
  refine mw_iload_n dX9_sheet_74 2 rfl ?_
  refine mw_iload_n dX9_sheet_75 2 rfl ?_
  refine mw_if_ne (tgt := 83) dX9_sheet_76 (by decide) (fun hc => ?_) (fun hc => ?_)
  · have h := mie hc h
    refine mw_iload_n dX9_sheet_83 3 rfl ?_
    exact mw_sub (L' := [(0, .ref 0), (1, .int a1), (2, .int a2), (3, .int a3)]) [0, 1, 2, 3] rfl (p_X9_sheet_J84  h)
  · have h := mit hc h
    refine mw_iconst (v := 0) dX9_sheet_79 (by decide) ?_
    refine mw_goto (tgt := 84) dX9_sheet_80 (by decide) ?_
    exact mw_sub (L' := [(0, .ref 0), (1, .int a1), (2, .int a2), (3, .int a3)]) [0, 1, 2, 3] rfl (p_X9_sheet_J84  h)
def e_X9_sheet_J52 (a1 : Int32) (a2 : Int32) (a3 : Int32) (σ : ES) : Option (Int32 × ES) := if a2 = 0 then (e_X9_sheet_J68 a1 a2 a3 σ) else (if a3 ≤ (40 : Int32) then (e_X9_sheet_J68 a1 a2 a3 σ) else ((e_X9_finding (0 : Int32) σ).bind (fun r1 => some (r1.1, r1.2))))
set_option maxRecDepth 100000 in
set_option maxHeartbeats 4000000 in
theorem p_X9_sheet_J52 {l : Launch} {E : MX} {out : (Int32 × ES)} {a1 : Int32} {a2 : Int32} {a3 : Int32}  {σ : ES} (h : e_X9_sheet_J52 a1 a2 a3 σ = some out) : MV l E cX9_sheet RX9 4 (some .int) 2 (82, (some (.int out.1)), mkS out.2) (mkS σ) 52 [(0, .ref 0), (1, .int a1), (2, .int a2), (3, .int a3)] [] := by
  unfold e_X9_sheet_J52 at h
  refine mw_iload_n dX9_sheet_52 2 rfl ?_
  refine mw_if_eq (tgt := 68) dX9_sheet_53 (by decide) (fun hc => ?_) (fun hc => ?_)
  · have h := mit hc h
    exact mw_sub (L' := [(0, .ref 0), (1, .int a1), (2, .int a2), (3, .int a3)]) [0, 1, 2, 3] rfl (p_X9_sheet_J68  h)
  · have h := mie hc h
    refine mw_iload_n dX9_sheet_56 3 rfl ?_
    refine mw_bipush (v := 40) dX9_sheet_57 (by decide) ?_
    refine mw_icmp_le (tgt := 68) dX9_sheet_59 (by decide) (fun hc => ?_) (fun hc => ?_)
    · have h := mit hc h
      exact mw_sub (L' := [(0, .ref 0), (1, .int a1), (2, .int a2), (3, .int a3)]) [0, 1, 2, 3] rfl (p_X9_sheet_J68  h)
    · have h := mie hc h
      refine mw_aload_n dX9_sheet_62 0 rfl ?_
      refine mw_iconst (v := 0) dX9_sheet_63 (by decide) ?_
      obtain ⟨r1, e2, h⟩ := mbd h
      refine mv_callV_i (As := [.int (0 : Int32)]) (ci := 8) lkV_RX9_79_yX9_finding dX9_sheet_64 (k_X9_finding e2) rfl rfl rfl rfl (Nat.le_of_ble_eq_true rfl) (by decide) (by decide) ?_
      exact mw_iret dX9_sheet_67 rfl (ers_im h) rfl rfl
def e_X9_sheet_J37 (a1 : Int32) (a2 : Int32) (a3 : Int32) (σ : ES) : Option (Int32 × ES) := if a2 = 0 then (e_X9_sheet_J52 a1 a2 a3 σ) else (if 0 ≤ a3 then (e_X9_sheet_J52 a1 a2 a3 σ) else ((e_X9_finding (6 : Int32) σ).bind (fun r1 => some (r1.1, r1.2))))
set_option maxRecDepth 100000 in
set_option maxHeartbeats 4000000 in
theorem p_X9_sheet_J37 {l : Launch} {E : MX} {out : (Int32 × ES)} {a1 : Int32} {a2 : Int32} {a3 : Int32}  {σ : ES} (h : e_X9_sheet_J37 a1 a2 a3 σ = some out) : MV l E cX9_sheet RX9 4 (some .int) 2 (82, (some (.int out.1)), mkS out.2) (mkS σ) 37 [(0, .ref 0), (1, .int a1), (2, .int a2), (3, .int a3)] [] := by
  unfold e_X9_sheet_J37 at h
  refine mw_iload_n dX9_sheet_37 2 rfl ?_
  refine mw_if_eq (tgt := 52) dX9_sheet_38 (by decide) (fun hc => ?_) (fun hc => ?_)
  · have h := mit hc h
    exact mw_sub (L' := [(0, .ref 0), (1, .int a1), (2, .int a2), (3, .int a3)]) [0, 1, 2, 3] rfl (p_X9_sheet_J52  h)
  · have h := mie hc h
    refine mw_iload_n dX9_sheet_41 3 rfl ?_
    refine mw_if_ge (tgt := 52) dX9_sheet_42 (by decide) (fun hc => ?_) (fun hc => ?_)
    · have h := mit hc h
      exact mw_sub (L' := [(0, .ref 0), (1, .int a1), (2, .int a2), (3, .int a3)]) [0, 1, 2, 3] rfl (p_X9_sheet_J52  h)
    · have h := mie hc h
      refine mw_aload_n dX9_sheet_45 0 rfl ?_
      refine mw_bipush (v := 6) dX9_sheet_46 (by decide) ?_
      obtain ⟨r1, e2, h⟩ := mbd h
      refine mv_callV_i (As := [.int (6 : Int32)]) (ci := 8) lkV_RX9_79_yX9_finding dX9_sheet_48 (k_X9_finding e2) rfl rfl rfl rfl (Nat.le_of_ble_eq_true rfl) (by decide) (by decide) ?_
      exact mw_iret dX9_sheet_51 rfl (ers_im h) rfl rfl
def e_X9_sheet (a1 : Int32) (a2 : Int32) (a3 : Int32) (σ : ES) : Option (Int32 × ES) := (e_X9_within a1 (0 : Int32) (3 : Int32)).bind (fun r1 => if r1 = 0 then ((e_X9_finding (0 : Int32) σ).bind (fun r3 => some (r3.1, r3.2))) else (if a2 = 0 then (e_X9_sheet_J37 a1 a2 a3 σ) else (if a2 = (16 : Int32) then (e_X9_sheet_J37 a1 a2 a3 σ) else (if a2 = (32 : Int32) then (e_X9_sheet_J37 a1 a2 a3 σ) else (if a2 = (64 : Int32) then (e_X9_sheet_J37 a1 a2 a3 σ) else ((e_X9_finding (0 : Int32) σ).bind (fun r5 => some (r5.1, r5.2))))))))
set_option maxRecDepth 100000 in
set_option maxHeartbeats 4000000 in
theorem k_X9_sheet {l : Launch} {σ : ES} {a1 : Int32} {a2 : Int32} {a3 : Int32} {out : (Int32 × ES)} (h : e_X9_sheet a1 a2 a3 σ = some out) : MK l yX9_sheet cX9_sheet 4 (some .int) 2 [.ref 0, .int a1, .int a2, .int a3] (mkS σ) (some (.int out.1)) (mkS out.2) := by
  unfold e_X9_sheet at h
  refine mw_entry (own := RX9) (ini := false) (L := [(0, .ref 0), (1, .int a1), (2, .int a2), (3, .int a3)]) (by decide +kernel) rfl (fun h => nomatch h) rfl (Nat.le_of_ble_eq_true rfl) (Nat.le_of_ble_eq_true rfl) (fun E => ?_)
  refine mw_iload_n dX9_sheet_0 1 rfl ?_
  refine mw_iconst (v := 0) dX9_sheet_1 (by decide) ?_
  refine mw_iconst (v := 3) dX9_sheet_2 (by decide) ?_
  obtain ⟨r1, e2, h⟩ := mbd h
  refine mv_callS_i (As := [.int a1, .int (0 : Int32), .int (3 : Int32)]) lkS_RX9_75_yX9_within dX9_sheet_3 (k_X9_within e2) rfl rfl (Nat.le_of_ble_eq_true rfl) (by decide) (by decide) ?_
  refine mw_if_eq (tgt := 31) dX9_sheet_6 (by decide) (fun hc => ?_) (fun hc => ?_)
  · have h := mit hc h
    refine mw_aload_n dX9_sheet_31 0 rfl ?_
    refine mw_iconst (v := 0) dX9_sheet_32 (by decide) ?_
    obtain ⟨r3, e4, h⟩ := mbd h
    refine mv_callV_i (As := [.int (0 : Int32)]) (ci := 8) lkV_RX9_79_yX9_finding dX9_sheet_33 (k_X9_finding e4) rfl rfl rfl rfl (Nat.le_of_ble_eq_true rfl) (by decide) (by decide) ?_
    exact mw_iret dX9_sheet_36 rfl (ers_im h) rfl rfl
  · have h := mie hc h
    refine mw_iload_n dX9_sheet_9 2 rfl ?_
    refine mw_if_eq (tgt := 37) dX9_sheet_10 (by decide) (fun hc => ?_) (fun hc => ?_)
    · have h := mit hc h
      exact mw_sub (L' := [(0, .ref 0), (1, .int a1), (2, .int a2), (3, .int a3)]) [0, 1, 2, 3] rfl (p_X9_sheet_J37  h)
    · have h := mie hc h
      refine mw_iload_n dX9_sheet_13 2 rfl ?_
      refine mw_bipush (v := 16) dX9_sheet_14 (by decide) ?_
      refine mw_icmp_eq (tgt := 37) dX9_sheet_16 (by decide) (fun hc => ?_) (fun hc => ?_)
      · have h := mit hc h
        exact mw_sub (L' := [(0, .ref 0), (1, .int a1), (2, .int a2), (3, .int a3)]) [0, 1, 2, 3] rfl (p_X9_sheet_J37  h)
      · have h := mie hc h
        refine mw_iload_n dX9_sheet_19 2 rfl ?_
        refine mw_bipush (v := 32) dX9_sheet_20 (by decide) ?_
        refine mw_icmp_eq (tgt := 37) dX9_sheet_22 (by decide) (fun hc => ?_) (fun hc => ?_)
        · have h := mit hc h
          exact mw_sub (L' := [(0, .ref 0), (1, .int a1), (2, .int a2), (3, .int a3)]) [0, 1, 2, 3] rfl (p_X9_sheet_J37  h)
        · have h := mie hc h
          refine mw_iload_n dX9_sheet_25 2 rfl ?_
          refine mw_bipush (v := 64) dX9_sheet_26 (by decide) ?_
          refine mw_icmp_eq (tgt := 37) dX9_sheet_28 (by decide) (fun hc => ?_) (fun hc => ?_)
          · have h := mit hc h
            exact mw_sub (L' := [(0, .ref 0), (1, .int a1), (2, .int a2), (3, .int a3)]) [0, 1, 2, 3] rfl (p_X9_sheet_J37  h)
          · have h := mie hc h
            refine mw_aload_n dX9_sheet_31 0 rfl ?_
            refine mw_iconst (v := 0) dX9_sheet_32 (by decide) ?_
            obtain ⟨r5, e6, h⟩ := mbd h
            refine mv_callV_i (As := [.int (0 : Int32)]) (ci := 8) lkV_RX9_79_yX9_finding dX9_sheet_33 (k_X9_finding e6) rfl rfl rfl rfl (Nat.le_of_ble_eq_true rfl) (by decide) (by decide) ?_
            exact mw_iret dX9_sheet_36 rfl (ers_im h) rfl rfl

theorem dX9_numberFault_0 : decode cX9_numberFault 0 = .ok (.aload_n 0, 1) := by decide +kernel
theorem dX9_numberFault_1 : decode cX9_numberFault 1 = .ok (.iload_n 1, 1) := by decide +kernel
theorem dX9_numberFault_2 : decode cX9_numberFault 2 = .ok (.invokevirtual 315, 3) := by decide +kernel
theorem dX9_numberFault_5 : decode cX9_numberFault 5 = .ok (.istore_n 3, 1) := by decide +kernel
theorem dX9_numberFault_6 : decode cX9_numberFault 6 = .ok (.iload_n 3, 1) := by decide +kernel
theorem dX9_numberFault_7 : decode cX9_numberFault 7 = .ok (.iconst (-1), 1) := by decide +kernel
theorem dX9_numberFault_8 : decode cX9_numberFault 8 = .ok (.if_icmp .eq 5, 3) := by decide +kernel
theorem dX9_numberFault_11 : decode cX9_numberFault 11 = .ok (.iload_n 3, 1) := by decide +kernel
theorem dX9_numberFault_12 : decode cX9_numberFault 12 = .ok (.ireturn, 1) := by decide +kernel
theorem dX9_numberFault_13 : decode cX9_numberFault 13 = .ok (.iload_n 2, 1) := by decide +kernel
theorem dX9_numberFault_14 : decode cX9_numberFault 14 = .ok (.iconst 0, 1) := by decide +kernel
theorem dX9_numberFault_15 : decode cX9_numberFault 15 = .ok (.aload_n 0, 1) := by decide +kernel
theorem dX9_numberFault_16 : decode cX9_numberFault 16 = .ok (.getfield 66, 3) := by decide +kernel
theorem dX9_numberFault_19 : decode cX9_numberFault 19 = .ok (.iload_n 1, 1) := by decide +kernel
theorem dX9_numberFault_20 : decode cX9_numberFault 20 = .ok (.aaload, 1) := by decide +kernel
theorem dX9_numberFault_21 : decode cX9_numberFault 21 = .ok (.getfield 336, 3) := by decide +kernel
theorem dX9_numberFault_24 : decode cX9_numberFault 24 = .ok (.iconst 1, 1) := by decide +kernel
theorem dX9_numberFault_25 : decode cX9_numberFault 25 = .ok (.isub, 1) := by decide +kernel
theorem dX9_numberFault_26 : decode cX9_numberFault 26 = .ok (.invokestatic 75, 3) := by decide +kernel
theorem dX9_numberFault_29 : decode cX9_numberFault 29 = .ok (.ifCond .eq 7, 3) := by decide +kernel
theorem dX9_numberFault_32 : decode cX9_numberFault 32 = .ok (.iconst (-1), 1) := by decide +kernel
theorem dX9_numberFault_33 : decode cX9_numberFault 33 = .ok (.goto 4, 3) := by decide +kernel
theorem dX9_numberFault_36 : decode cX9_numberFault 36 = .ok (.iconst 0, 1) := by decide +kernel
theorem dX9_numberFault_37 : decode cX9_numberFault 37 = .ok (.ireturn, 1) := by decide +kernel
def e_X9_numberFault (σ : ES) (a1 : Int32) (a2 : Int32) : Option Int32 := (e_X9_sheetFault σ a1).bind (fun r1 => if r1 = (-1 : Int32) then (if mib a1 4 = true then ((e_X9_within a2 (0 : Int32) ((eI σ (61 + 2 * a1.toNatClampNeg) 1) - (1 : Int32))).bind (fun r4 => if r4 = 0 then (some (0 : Int32)) else (some (-1 : Int32)))) else none) else (some r1))
set_option maxRecDepth 100000 in
set_option maxHeartbeats 4000000 in
theorem k_X9_numberFault {l : Launch} {σ : ES} {a1 : Int32} {a2 : Int32} {out : Int32} (h : e_X9_numberFault σ a1 a2 = some out) : MK l yX9_numberFault cX9_numberFault 4 (some .int) 3 [.ref 0, .int a1, .int a2] (mkS σ) (some (.int out)) (mkS σ) := by
  unfold e_X9_numberFault at h
  refine mw_entry (own := RX9) (ini := false) (L := [(0, .ref 0), (1, .int a1), (2, .int a2)]) (by decide +kernel) rfl (fun h => nomatch h) rfl (Nat.le_of_ble_eq_true rfl) (Nat.le_of_ble_eq_true rfl) (fun E => ?_)
  refine mw_aload_n dX9_numberFault_0 0 rfl ?_
  refine mw_iload_n dX9_numberFault_1 1 rfl ?_
  obtain ⟨r1, e2, h⟩ := mbd h
  refine mv_callV_i (As := [.int a1]) (ci := 8) lkV_RX9_315_yX9_sheetFault dX9_numberFault_2 (k_X9_sheetFault e2) rfl rfl rfl rfl (Nat.le_of_ble_eq_true rfl) (by decide) (by decide) ?_
  refine mw_istore_n (L' := [(3, .int r1), (0, .ref 0), (1, .int a1), (2, .int a2)]) dX9_numberFault_5 rfl (by decide) rfl ?_
  refine mw_iload_n dX9_numberFault_6 0 rfl ?_
  refine mw_iconst (v := -1) dX9_numberFault_7 (by decide) ?_
  refine mw_icmp_eq (tgt := 13) dX9_numberFault_8 (by decide) (fun hc => ?_) (fun hc => ?_)
  · have h := mit hc h
    refine mw_iload_n dX9_numberFault_13 3 rfl ?_
    refine mw_iconst (v := 0) dX9_numberFault_14 (by decide) ?_
    refine mw_aload_n dX9_numberFault_15 1 rfl ?_
    refine ev_getR (q := 59) fd_RX9_66_8 dX9_numberFault_16 rfl rfl rfl ?_
    refine mw_iload_n dX9_numberFault_19 2 rfl ?_
    obtain ⟨m3, h⟩ := mif h
    refine ev_aald dX9_numberFault_20 m3 ?_
    refine ev_getI fd_RX9_336_4 dX9_numberFault_21 (msh_ob (esh2 m3)) rfl ?_
    refine mw_iconst (v := 1) dX9_numberFault_24 (by decide) ?_
    refine mw_isub dX9_numberFault_25 ?_
    obtain ⟨r4, e5, h⟩ := mbd h
    refine mv_callS_i (As := [.int a2, .int (0 : Int32), .int ((eI σ (61 + 2 * a1.toNatClampNeg) 1) - (1 : Int32))]) lkS_RX9_75_yX9_within dX9_numberFault_26 (k_X9_within e5) rfl rfl (Nat.le_of_ble_eq_true rfl) (by decide) (by decide) ?_
    refine mw_if_eq (tgt := 36) dX9_numberFault_29 (by decide) (fun hc => ?_) (fun hc => ?_)
    · have h := mit hc h
      refine mw_iconst (v := 0) dX9_numberFault_36 (by decide) ?_
      exact mw_iret dX9_numberFault_37 rfl (ers_i h) rfl rfl
    · have h := mie hc h
      refine mw_iconst (v := -1) dX9_numberFault_32 (by decide) ?_
      refine mw_goto (tgt := 37) dX9_numberFault_33 (by decide) ?_
      exact mw_iret dX9_numberFault_37 rfl (ers_i h) rfl rfl
  · have h := mie hc h
    refine mw_iload_n dX9_numberFault_11 0 rfl ?_
    exact mw_iret dX9_numberFault_12 rfl (ers_i h) rfl rfl

theorem dX9_write_0 : decode cX9_write 0 = .ok (.aload_n 0, 1) := by decide +kernel
theorem dX9_write_1 : decode cX9_write 1 = .ok (.iload_n 1, 1) := by decide +kernel
theorem dX9_write_2 : decode cX9_write 2 = .ok (.iload_n 2, 1) := by decide +kernel
theorem dX9_write_3 : decode cX9_write 3 = .ok (.invokevirtual 337, 3) := by decide +kernel
theorem dX9_write_6 : decode cX9_write 6 = .ok (.istore 5, 2) := by decide +kernel
theorem dX9_write_8 : decode cX9_write 8 = .ok (.iload 5, 2) := by decide +kernel
theorem dX9_write_10 : decode cX9_write 10 = .ok (.iconst (-1), 1) := by decide +kernel
theorem dX9_write_11 : decode cX9_write 11 = .ok (.if_icmp .eq 10, 3) := by decide +kernel
theorem dX9_write_14 : decode cX9_write 14 = .ok (.aload_n 0, 1) := by decide +kernel
theorem dX9_write_15 : decode cX9_write 15 = .ok (.iload 5, 2) := by decide +kernel
theorem dX9_write_17 : decode cX9_write 17 = .ok (.invokevirtual 79, 3) := by decide +kernel
theorem dX9_write_20 : decode cX9_write 20 = .ok (.ireturn, 1) := by decide +kernel
theorem dX9_write_21 : decode cX9_write 21 = .ok (.aload_n 0, 1) := by decide +kernel
theorem dX9_write_22 : decode cX9_write 22 = .ok (.getfield 66, 3) := by decide +kernel
theorem dX9_write_25 : decode cX9_write 25 = .ok (.iload_n 1, 1) := by decide +kernel
theorem dX9_write_26 : decode cX9_write 26 = .ok (.aaload, 1) := by decide +kernel
theorem dX9_write_27 : decode cX9_write 27 = .ok (.iload_n 2, 1) := by decide +kernel
theorem dX9_write_28 : decode cX9_write 28 = .ok (.lload_n 3, 1) := by decide +kernel
theorem dX9_write_29 : decode cX9_write 29 = .ok (.invokevirtual 309, 3) := by decide +kernel
theorem dX9_write_32 : decode cX9_write 32 = .ok (.iconst 1, 1) := by decide +kernel
theorem dX9_write_33 : decode cX9_write 33 = .ok (.ireturn, 1) := by decide +kernel
def e_X9_write (a1 : Int32) (a2 : Int32) (a3 : Int64) (σ : ES) : Option (Int32 × ES) := (e_X9_numberFault σ a1 a2).bind (fun r1 => if r1 = (-1 : Int32) then (if mib a1 4 = true then ((e_X5_put (61 + 2 * a1.toNatClampNeg) a2 a3 σ).bind (fun r4 => some ((1 : Int32), r4))) else none) else ((e_X9_finding r1 σ).bind (fun r6 => some (r6.1, r6.2))))
set_option maxRecDepth 100000 in
set_option maxHeartbeats 4000000 in
theorem k_X9_write {l : Launch} {σ : ES} {a1 : Int32} {a2 : Int32} {a3 : Int64} {out : (Int32 × ES)} (h : e_X9_write a1 a2 a3 σ = some out) : MK l yX9_write cX9_write 6 (some .int) 4 [.ref 0, .int a1, .int a2, .long a3] (mkS σ) (some (.int out.1)) (mkS out.2) := by
  unfold e_X9_write at h
  refine mw_entry (own := RX9) (ini := false) (L := [(0, .ref 0), (1, .int a1), (2, .int a2), (3, .long a3)]) (by decide +kernel) rfl (fun h => nomatch h) rfl (Nat.le_of_ble_eq_true rfl) (Nat.le_of_ble_eq_true rfl) (fun E => ?_)
  refine mw_aload_n dX9_write_0 0 rfl ?_
  refine mw_iload_n dX9_write_1 1 rfl ?_
  refine mw_iload_n dX9_write_2 2 rfl ?_
  obtain ⟨r1, e2, h⟩ := mbd h
  refine mv_callV_i (As := [.int a1, .int a2]) (ci := 8) lkV_RX9_337_yX9_numberFault dX9_write_3 (k_X9_numberFault e2) rfl rfl rfl rfl (Nat.le_of_ble_eq_true rfl) (by decide) (by decide) ?_
  refine mw_istore (L' := [(5, .int r1), (0, .ref 0), (1, .int a1), (2, .int a2), (3, .long a3)]) dX9_write_6 (by decide) rfl ?_
  refine mw_iload dX9_write_8 0 rfl ?_
  refine mw_iconst (v := -1) dX9_write_10 (by decide) ?_
  refine mw_icmp_eq (tgt := 21) dX9_write_11 (by decide) (fun hc => ?_) (fun hc => ?_)
  · have h := mit hc h
    refine mw_aload_n dX9_write_21 1 rfl ?_
    refine ev_getR (q := 59) fd_RX9_66_8 dX9_write_22 rfl rfl rfl ?_
    refine mw_iload_n dX9_write_25 2 rfl ?_
    obtain ⟨m3, h⟩ := mif h
    refine ev_aald dX9_write_26 m3 ?_
    refine mw_iload_n dX9_write_27 3 rfl ?_
    refine mw_lload_n dX9_write_28 4 rfl ?_
    obtain ⟨r4, e5, h⟩ := mbd h
    refine mv_callV_v (As := [.int a2, .long a3]) (ci := 4) lkV_RX9_309_yX5_put dX9_write_29 (k_X5_put e5) rfl (msh_ob (esh2 m3)) rfl rfl (Nat.le_of_ble_eq_true rfl) (by decide) (by decide) ?_
    refine mw_iconst (v := 1) dX9_write_32 (by decide) ?_
    exact mw_iret dX9_write_33 rfl (ers_im h) rfl rfl
  · have h := mie hc h
    refine mw_aload_n dX9_write_14 1 rfl ?_
    refine mw_iload dX9_write_15 0 rfl ?_
    obtain ⟨r6, e7, h⟩ := mbd h
    refine mv_callV_i (As := [.int r1]) (ci := 8) lkV_RX9_79_yX9_finding dX9_write_17 (k_X9_finding e7) rfl rfl rfl rfl (Nat.le_of_ble_eq_true rfl) (by decide) (by decide) ?_
    exact mw_iret dX9_write_20 rfl (ers_im h) rfl rfl

theorem dX9_read_0 : decode cX9_read 0 = .ok (.aload_n 0, 1) := by decide +kernel
theorem dX9_read_1 : decode cX9_read 1 = .ok (.iload_n 1, 1) := by decide +kernel
theorem dX9_read_2 : decode cX9_read 2 = .ok (.iload_n 2, 1) := by decide +kernel
theorem dX9_read_3 : decode cX9_read 3 = .ok (.invokevirtual 337, 3) := by decide +kernel
theorem dX9_read_6 : decode cX9_read 6 = .ok (.istore_n 3, 1) := by decide +kernel
theorem dX9_read_7 : decode cX9_read 7 = .ok (.iload_n 3, 1) := by decide +kernel
theorem dX9_read_8 : decode cX9_read 8 = .ok (.iconst (-1), 1) := by decide +kernel
theorem dX9_read_9 : decode cX9_read 9 = .ok (.if_icmp .eq 9, 3) := by decide +kernel
theorem dX9_read_12 : decode cX9_read 12 = .ok (.aload_n 0, 1) := by decide +kernel
theorem dX9_read_13 : decode cX9_read 13 = .ok (.iload_n 3, 1) := by decide +kernel
theorem dX9_read_14 : decode cX9_read 14 = .ok (.invokevirtual 164, 3) := by decide +kernel
theorem dX9_read_17 : decode cX9_read 17 = .ok (.lreturn, 1) := by decide +kernel
theorem dX9_read_18 : decode cX9_read 18 = .ok (.aload_n 0, 1) := by decide +kernel
theorem dX9_read_19 : decode cX9_read 19 = .ok (.getfield 66, 3) := by decide +kernel
theorem dX9_read_22 : decode cX9_read 22 = .ok (.iload_n 1, 1) := by decide +kernel
theorem dX9_read_23 : decode cX9_read 23 = .ok (.aaload, 1) := by decide +kernel
theorem dX9_read_24 : decode cX9_read 24 = .ok (.getfield 295, 3) := by decide +kernel
theorem dX9_read_27 : decode cX9_read 27 = .ok (.iload_n 2, 1) := by decide +kernel
theorem dX9_read_28 : decode cX9_read 28 = .ok (.laload, 1) := by decide +kernel
theorem dX9_read_29 : decode cX9_read 29 = .ok (.lreturn, 1) := by decide +kernel
def e_X9_read (a1 : Int32) (a2 : Int32) (σ : ES) : Option (Int64 × ES) := (e_X9_numberFault σ a1 a2).bind (fun r1 => if r1 = (-1 : Int32) then (if mib a1 4 = true then (if mib a2 40 = true then (some ((eL σ ((61 + 2 * a1.toNatClampNeg) + 1) a2.toNatClampNeg), σ)) else none) else none) else ((e_X9_longFinding r1 σ).bind (fun r5 => some (r5.1, r5.2))))
set_option maxRecDepth 100000 in
set_option maxHeartbeats 4000000 in
theorem k_X9_read {l : Launch} {σ : ES} {a1 : Int32} {a2 : Int32} {out : (Int64 × ES)} (h : e_X9_read a1 a2 σ = some out) : MK l yX9_read cX9_read 4 (some .long) 4 [.ref 0, .int a1, .int a2] (mkS σ) (some (.long out.1)) (mkS out.2) := by
  unfold e_X9_read at h
  refine mw_entry (own := RX9) (ini := false) (L := [(0, .ref 0), (1, .int a1), (2, .int a2)]) (by decide +kernel) rfl (fun h => nomatch h) rfl (Nat.le_of_ble_eq_true rfl) (Nat.le_of_ble_eq_true rfl) (fun E => ?_)
  refine mw_aload_n dX9_read_0 0 rfl ?_
  refine mw_iload_n dX9_read_1 1 rfl ?_
  refine mw_iload_n dX9_read_2 2 rfl ?_
  obtain ⟨r1, e2, h⟩ := mbd h
  refine mv_callV_i (As := [.int a1, .int a2]) (ci := 8) lkV_RX9_337_yX9_numberFault dX9_read_3 (k_X9_numberFault e2) rfl rfl rfl rfl (Nat.le_of_ble_eq_true rfl) (by decide) (by decide) ?_
  refine mw_istore_n (L' := [(3, .int r1), (0, .ref 0), (1, .int a1), (2, .int a2)]) dX9_read_6 rfl (by decide) rfl ?_
  refine mw_iload_n dX9_read_7 0 rfl ?_
  refine mw_iconst (v := -1) dX9_read_8 (by decide) ?_
  refine mw_icmp_eq (tgt := 18) dX9_read_9 (by decide) (fun hc => ?_) (fun hc => ?_)
  · have h := mit hc h
    refine mw_aload_n dX9_read_18 1 rfl ?_
    refine ev_getR (q := 59) fd_RX9_66_8 dX9_read_19 rfl rfl rfl ?_
    refine mw_iload_n dX9_read_22 2 rfl ?_
    obtain ⟨m3, h⟩ := mif h
    refine ev_aald dX9_read_23 m3 ?_
    refine ev_getR fd_RX9_295_4 dX9_read_24 (msh_ob (esh2 m3)) rfl (msh_r (esh2 m3)) ?_
    refine mw_iload_n dX9_read_27 3 rfl ?_
    obtain ⟨m4, h⟩ := mif h
    refine ev_lald dX9_read_28 (msh_n1 (esh2 m3)) (msh_n2 (esh2 m3)) m4 ?_
    exact mw_lret dX9_read_29 rfl (ers_lm h) rfl rfl
  · have h := mie hc h
    refine mw_aload_n dX9_read_12 1 rfl ?_
    refine mw_iload_n dX9_read_13 0 rfl ?_
    obtain ⟨r5, e6, h⟩ := mbd h
    refine mv_callV_l (As := [.int r1]) (ci := 8) lkV_RX9_164_yX9_longFinding dX9_read_14 (k_X9_longFinding e6) rfl rfl rfl rfl (Nat.le_of_ble_eq_true rfl) (by decide) (by decide) ?_
    exact mw_lret dX9_read_17 rfl (ers_lm h) rfl rfl

theorem dX5_hasRun_0 : decode cX5_hasRun 0 = .ok (.iload_n 1, 1) := by decide +kernel
theorem dX5_hasRun_1 : decode cX5_hasRun 1 = .ok (.ifCond .lt 29, 3) := by decide +kernel
theorem dX5_hasRun_4 : decode cX5_hasRun 4 = .ok (.iload_n 2, 1) := by decide +kernel
theorem dX5_hasRun_5 : decode cX5_hasRun 5 = .ok (.iconst 0, 1) := by decide +kernel
theorem dX5_hasRun_6 : decode cX5_hasRun 6 = .ok (.aload_n 0, 1) := by decide +kernel
theorem dX5_hasRun_7 : decode cX5_hasRun 7 = .ok (.getfield 19, 3) := by decide +kernel
theorem dX5_hasRun_10 : decode cX5_hasRun 10 = .ok (.invokestatic 22, 3) := by decide +kernel
theorem dX5_hasRun_13 : decode cX5_hasRun 13 = .ok (.ifCond .eq 17, 3) := by decide +kernel
theorem dX5_hasRun_16 : decode cX5_hasRun 16 = .ok (.iload_n 1, 1) := by decide +kernel
theorem dX5_hasRun_17 : decode cX5_hasRun 17 = .ok (.aload_n 0, 1) := by decide +kernel
theorem dX5_hasRun_18 : decode cX5_hasRun 18 = .ok (.getfield 19, 3) := by decide +kernel
theorem dX5_hasRun_21 : decode cX5_hasRun 21 = .ok (.iload_n 2, 1) := by decide +kernel
theorem dX5_hasRun_22 : decode cX5_hasRun 22 = .ok (.isub, 1) := by decide +kernel
theorem dX5_hasRun_23 : decode cX5_hasRun 23 = .ok (.if_icmp .gt 7, 3) := by decide +kernel
theorem dX5_hasRun_26 : decode cX5_hasRun 26 = .ok (.iconst 1, 1) := by decide +kernel
theorem dX5_hasRun_27 : decode cX5_hasRun 27 = .ok (.goto 4, 3) := by decide +kernel
theorem dX5_hasRun_30 : decode cX5_hasRun 30 = .ok (.iconst 0, 1) := by decide +kernel
theorem dX5_hasRun_31 : decode cX5_hasRun 31 = .ok (.ireturn, 1) := by decide +kernel
def e_X5_hasRun (σ : ES) (a0 : Nat) (a1 : Int32) (a2 : Int32) : Option Int32 := if a1 < 0 then (some (0 : Int32)) else (if msh a0 = true then ((e_X9_within a2 (0 : Int32) (eI σ a0 1)).bind (fun r2 => if r2 = 0 then (some (0 : Int32)) else (if ((eI σ a0 1) - a2) < a1 then (some (0 : Int32)) else (some (1 : Int32))))) else none)
set_option maxRecDepth 100000 in
set_option maxHeartbeats 4000000 in
theorem k_X5_hasRun {l : Launch} {σ : ES} {a0 : Nat} {a1 : Int32} {a2 : Int32} {out : Int32} (h : e_X5_hasRun σ a0 a1 a2 = some out) : MK l yX5_hasRun cX5_hasRun 3 (some .boolean) 2 [.ref a0, .int a1, .int a2] (mkS σ) (some (.int out)) (mkS σ) := by
  unfold e_X5_hasRun at h
  refine mw_entry (own := RX5) (ini := false) (L := [(0, .ref a0), (1, .int a1), (2, .int a2)]) (by decide +kernel) rfl (fun h => nomatch h) rfl (Nat.le_of_ble_eq_true rfl) (Nat.le_of_ble_eq_true rfl) (fun E => ?_)
  refine mw_iload_n dX5_hasRun_0 1 rfl ?_
  refine mw_if_lt (tgt := 30) dX5_hasRun_1 (by decide) (fun hc => ?_) (fun hc => ?_)
  · have h := mit hc h
    refine mw_iconst (v := 0) dX5_hasRun_30 (by decide) ?_
    exact mw_zret dX5_hasRun_31 rfl (by decide) (ers_i h) rfl rfl
  · have h := mie hc h
    refine mw_iload_n dX5_hasRun_4 2 rfl ?_
    refine mw_iconst (v := 0) dX5_hasRun_5 (by decide) ?_
    refine mw_aload_n dX5_hasRun_6 0 rfl ?_
    obtain ⟨m1, h⟩ := mif h
    refine ev_getI fd_RX5_19_4 dX5_hasRun_7 (msh_ob m1) rfl ?_
    obtain ⟨r2, e3, h⟩ := mbd h
    refine mv_callSN_i (As := [.int a2, .int (0 : Int32), .int (eI σ a0 1)]) lkN_RX5_22_yX9_within dX5_hasRun_10 (k_X9_within e3) rfl rfl (Nat.le_of_ble_eq_true rfl) (by decide) (by decide) ?_
    refine mw_if_eq (tgt := 30) dX5_hasRun_13 (by decide) (fun hc => ?_) (fun hc => ?_)
    · have h := mit hc h
      refine mw_iconst (v := 0) dX5_hasRun_30 (by decide) ?_
      exact mw_zret dX5_hasRun_31 rfl (by decide) (ers_i h) rfl rfl
    · have h := mie hc h
      refine mw_iload_n dX5_hasRun_16 1 rfl ?_
      refine mw_aload_n dX5_hasRun_17 0 rfl ?_
      refine ev_getI fd_RX5_19_4 dX5_hasRun_18 (msh_ob m1) rfl ?_
      refine mw_iload_n dX5_hasRun_21 2 rfl ?_
      refine mw_isub dX5_hasRun_22 ?_
      refine mw_icmp_gt (tgt := 30) dX5_hasRun_23 (by decide) (fun hc => ?_) (fun hc => ?_)
      · have h := mit hc h
        refine mw_iconst (v := 0) dX5_hasRun_30 (by decide) ?_
        exact mw_zret dX5_hasRun_31 rfl (by decide) (ers_i h) rfl rfl
      · have h := mie hc h
        refine mw_iconst (v := 1) dX5_hasRun_26 (by decide) ?_
        refine mw_goto (tgt := 31) dX5_hasRun_27 (by decide) ?_
        exact mw_zret dX5_hasRun_31 rfl (by decide) (ers_i h) rfl rfl

theorem dX9_copy_0 : decode cX9_copy 0 = .ok (.iload_n 1, 1) := by decide +kernel
theorem dX9_copy_1 : decode cX9_copy 1 = .ok (.iconst 0, 1) := by decide +kernel
theorem dX9_copy_2 : decode cX9_copy 2 = .ok (.iconst 3, 1) := by decide +kernel
theorem dX9_copy_3 : decode cX9_copy 3 = .ok (.invokestatic 75, 3) := by decide +kernel
theorem dX9_copy_6 : decode cX9_copy 6 = .ok (.ifCond .eq 12, 3) := by decide +kernel
theorem dX9_copy_9 : decode cX9_copy 9 = .ok (.iload_n 3, 1) := by decide +kernel
theorem dX9_copy_10 : decode cX9_copy 10 = .ok (.iconst 0, 1) := by decide +kernel
theorem dX9_copy_11 : decode cX9_copy 11 = .ok (.iconst 3, 1) := by decide +kernel
theorem dX9_copy_12 : decode cX9_copy 12 = .ok (.invokestatic 75, 3) := by decide +kernel
theorem dX9_copy_15 : decode cX9_copy 15 = .ok (.ifCond .ne 9, 3) := by decide +kernel
theorem dX9_copy_18 : decode cX9_copy 18 = .ok (.aload_n 0, 1) := by decide +kernel
theorem dX9_copy_19 : decode cX9_copy 19 = .ok (.iconst 0, 1) := by decide +kernel
theorem dX9_copy_20 : decode cX9_copy 20 = .ok (.invokevirtual 79, 3) := by decide +kernel
theorem dX9_copy_23 : decode cX9_copy 23 = .ok (.ireturn, 1) := by decide +kernel
theorem dX9_copy_24 : decode cX9_copy 24 = .ok (.aload_n 0, 1) := by decide +kernel
theorem dX9_copy_25 : decode cX9_copy 25 = .ok (.getfield 66, 3) := by decide +kernel
theorem dX9_copy_28 : decode cX9_copy 28 = .ok (.iload_n 1, 1) := by decide +kernel
theorem dX9_copy_29 : decode cX9_copy 29 = .ok (.aaload, 1) := by decide +kernel
theorem dX9_copy_30 : decode cX9_copy 30 = .ok (.getfield 340, 3) := by decide +kernel
theorem dX9_copy_33 : decode cX9_copy 33 = .ok (.ifCond .eq 15, 3) := by decide +kernel
theorem dX9_copy_36 : decode cX9_copy 36 = .ok (.aload_n 0, 1) := by decide +kernel
theorem dX9_copy_37 : decode cX9_copy 37 = .ok (.getfield 66, 3) := by decide +kernel
theorem dX9_copy_40 : decode cX9_copy 40 = .ok (.iload_n 3, 1) := by decide +kernel
theorem dX9_copy_41 : decode cX9_copy 41 = .ok (.aaload, 1) := by decide +kernel
theorem dX9_copy_42 : decode cX9_copy 42 = .ok (.getfield 340, 3) := by decide +kernel
theorem dX9_copy_45 : decode cX9_copy 45 = .ok (.ifCond .ne 9, 3) := by decide +kernel
theorem dX9_copy_48 : decode cX9_copy 48 = .ok (.aload_n 0, 1) := by decide +kernel
theorem dX9_copy_49 : decode cX9_copy 49 = .ok (.iconst 5, 1) := by decide +kernel
theorem dX9_copy_50 : decode cX9_copy 50 = .ok (.invokevirtual 79, 3) := by decide +kernel
theorem dX9_copy_53 : decode cX9_copy 53 = .ok (.ireturn, 1) := by decide +kernel
theorem dX9_copy_54 : decode cX9_copy 54 = .ok (.aload_n 0, 1) := by decide +kernel
theorem dX9_copy_55 : decode cX9_copy 55 = .ok (.getfield 66, 3) := by decide +kernel
theorem dX9_copy_58 : decode cX9_copy 58 = .ok (.iload_n 1, 1) := by decide +kernel
theorem dX9_copy_59 : decode cX9_copy 59 = .ok (.aaload, 1) := by decide +kernel
theorem dX9_copy_60 : decode cX9_copy 60 = .ok (.getfield 340, 3) := by decide +kernel
theorem dX9_copy_63 : decode cX9_copy 63 = .ok (.aload_n 0, 1) := by decide +kernel
theorem dX9_copy_64 : decode cX9_copy 64 = .ok (.getfield 66, 3) := by decide +kernel
theorem dX9_copy_67 : decode cX9_copy 67 = .ok (.iload_n 3, 1) := by decide +kernel
theorem dX9_copy_68 : decode cX9_copy 68 = .ok (.aaload, 1) := by decide +kernel
theorem dX9_copy_69 : decode cX9_copy 69 = .ok (.getfield 340, 3) := by decide +kernel
theorem dX9_copy_72 : decode cX9_copy 72 = .ok (.if_icmp .eq 9, 3) := by decide +kernel
theorem dX9_copy_75 : decode cX9_copy 75 = .ok (.aload_n 0, 1) := by decide +kernel
theorem dX9_copy_76 : decode cX9_copy 76 = .ok (.iconst 2, 1) := by decide +kernel
theorem dX9_copy_77 : decode cX9_copy 77 = .ok (.invokevirtual 79, 3) := by decide +kernel
theorem dX9_copy_80 : decode cX9_copy 80 = .ok (.ireturn, 1) := by decide +kernel
theorem dX9_copy_81 : decode cX9_copy 81 = .ok (.aload_n 0, 1) := by decide +kernel
theorem dX9_copy_82 : decode cX9_copy 82 = .ok (.getfield 66, 3) := by decide +kernel
theorem dX9_copy_85 : decode cX9_copy 85 = .ok (.iload_n 1, 1) := by decide +kernel
theorem dX9_copy_86 : decode cX9_copy 86 = .ok (.aaload, 1) := by decide +kernel
theorem dX9_copy_87 : decode cX9_copy 87 = .ok (.iload_n 2, 1) := by decide +kernel
theorem dX9_copy_88 : decode cX9_copy 88 = .ok (.iload 5, 2) := by decide +kernel
theorem dX9_copy_90 : decode cX9_copy 90 = .ok (.invokevirtual 343, 3) := by decide +kernel
theorem dX9_copy_93 : decode cX9_copy 93 = .ok (.ifCond .eq 19, 3) := by decide +kernel
theorem dX9_copy_96 : decode cX9_copy 96 = .ok (.aload_n 0, 1) := by decide +kernel
theorem dX9_copy_97 : decode cX9_copy 97 = .ok (.getfield 66, 3) := by decide +kernel
theorem dX9_copy_100 : decode cX9_copy 100 = .ok (.iload_n 3, 1) := by decide +kernel
theorem dX9_copy_101 : decode cX9_copy 101 = .ok (.aaload, 1) := by decide +kernel
theorem dX9_copy_102 : decode cX9_copy 102 = .ok (.iload 4, 2) := by decide +kernel
theorem dX9_copy_104 : decode cX9_copy 104 = .ok (.iload 5, 2) := by decide +kernel
theorem dX9_copy_106 : decode cX9_copy 106 = .ok (.invokevirtual 343, 3) := by decide +kernel
theorem dX9_copy_109 : decode cX9_copy 109 = .ok (.ifCond .ne 9, 3) := by decide +kernel
theorem dX9_copy_112 : decode cX9_copy 112 = .ok (.aload_n 0, 1) := by decide +kernel
theorem dX9_copy_113 : decode cX9_copy 113 = .ok (.iconst 0, 1) := by decide +kernel
theorem dX9_copy_114 : decode cX9_copy 114 = .ok (.invokevirtual 79, 3) := by decide +kernel
theorem dX9_copy_117 : decode cX9_copy 117 = .ok (.ireturn, 1) := by decide +kernel
theorem dX9_copy_118 : decode cX9_copy 118 = .ok (.aload_n 0, 1) := by decide +kernel
theorem dX9_copy_119 : decode cX9_copy 119 = .ok (.getfield 66, 3) := by decide +kernel
theorem dX9_copy_122 : decode cX9_copy 122 = .ok (.iload_n 1, 1) := by decide +kernel
theorem dX9_copy_123 : decode cX9_copy 123 = .ok (.aaload, 1) := by decide +kernel
theorem dX9_copy_124 : decode cX9_copy 124 = .ok (.getfield 295, 3) := by decide +kernel
theorem dX9_copy_127 : decode cX9_copy 127 = .ok (.iload_n 2, 1) := by decide +kernel
theorem dX9_copy_128 : decode cX9_copy 128 = .ok (.aload_n 0, 1) := by decide +kernel
theorem dX9_copy_129 : decode cX9_copy 129 = .ok (.getfield 66, 3) := by decide +kernel
theorem dX9_copy_132 : decode cX9_copy 132 = .ok (.iload_n 3, 1) := by decide +kernel
theorem dX9_copy_133 : decode cX9_copy 133 = .ok (.aaload, 1) := by decide +kernel
theorem dX9_copy_134 : decode cX9_copy 134 = .ok (.getfield 295, 3) := by decide +kernel
theorem dX9_copy_137 : decode cX9_copy 137 = .ok (.iload 4, 2) := by decide +kernel
theorem dX9_copy_139 : decode cX9_copy 139 = .ok (.iload 5, 2) := by decide +kernel
theorem dX9_copy_141 : decode cX9_copy 141 = .ok (.invokestatic 346, 3) := by decide +kernel
theorem dX9_copy_144 : decode cX9_copy 144 = .ok (.iload 5, 2) := by decide +kernel
theorem dX9_copy_146 : decode cX9_copy 146 = .ok (.ireturn, 1) := by decide +kernel
def e_X9_copy (a1 : Int32) (a2 : Int32) (a3 : Int32) (a4 : Int32) (a5 : Int32) (σ : ES) : Option (Int32 × ES) := (e_X9_within a1 (0 : Int32) (3 : Int32)).bind (fun r1 => if r1 = 0 then ((e_X9_finding (0 : Int32) σ).bind (fun r3 => some (r3.1, r3.2))) else ((e_X9_within a3 (0 : Int32) (3 : Int32)).bind (fun r5 => if r5 = 0 then ((e_X9_finding (0 : Int32) σ).bind (fun r30 => some (r30.1, r30.2))) else (if mib a1 4 = true then (if (eI σ (61 + 2 * a1.toNatClampNeg) 0) = 0 then ((e_X9_finding (5 : Int32) σ).bind (fun r8 => some (r8.1, r8.2))) else (if mib a3 4 = true then (if (eI σ (61 + 2 * a3.toNatClampNeg) 0) = 0 then ((e_X9_finding (5 : Int32) σ).bind (fun r28 => some (r28.1, r28.2))) else (if mib a1 4 = true then (if mib a3 4 = true then (if (eI σ (61 + 2 * a1.toNatClampNeg) 0) = (eI σ (61 + 2 * a3.toNatClampNeg) 0) then (if mib a1 4 = true then ((e_X5_hasRun σ (61 + 2 * a1.toNatClampNeg) a2 a5).bind (fun r14 => if r14 = 0 then ((e_X9_finding (0 : Int32) σ).bind (fun r16 => some (r16.1, r16.2))) else (if mib a3 4 = true then ((e_X5_hasRun σ (61 + 2 * a3.toNatClampNeg) a4 a5).bind (fun r19 => if r19 = 0 then ((e_X9_finding (0 : Int32) σ).bind (fun r24 => some (r24.1, r24.2))) else (if mib a1 4 = true then (if mib a3 4 = true then (if mcpl 40 40 a2 a4 a5 = true then (some (a5, (ecL σ ((61 + 2 * a1.toNatClampNeg) + 1) a2.toNatClampNeg ((61 + 2 * a3.toNatClampNeg) + 1) a4.toNatClampNeg a5.toNatClampNeg))) else none) else none) else none))) else none))) else none) else ((e_X9_finding (2 : Int32) σ).bind (fun r26 => some (r26.1, r26.2)))) else none) else none)) else none)) else none))))
set_option maxRecDepth 100000 in
set_option maxHeartbeats 4000000 in
theorem k_X9_copy {l : Launch} {σ : ES} {a1 : Int32} {a2 : Int32} {a3 : Int32} {a4 : Int32} {a5 : Int32} {out : (Int32 × ES)} (h : e_X9_copy a1 a2 a3 a4 a5 σ = some out) : MK l yX9_copy cX9_copy 6 (some .int) 3 [.ref 0, .int a1, .int a2, .int a3, .int a4, .int a5] (mkS σ) (some (.int out.1)) (mkS out.2) := by
  unfold e_X9_copy at h
  refine mw_entry (own := RX9) (ini := false) (L := [(0, .ref 0), (1, .int a1), (2, .int a2), (3, .int a3), (4, .int a4), (5, .int a5)]) (by decide +kernel) rfl (fun h => nomatch h) rfl (Nat.le_of_ble_eq_true rfl) (Nat.le_of_ble_eq_true rfl) (fun E => ?_)
  refine mw_iload_n dX9_copy_0 1 rfl ?_
  refine mw_iconst (v := 0) dX9_copy_1 (by decide) ?_
  refine mw_iconst (v := 3) dX9_copy_2 (by decide) ?_
  obtain ⟨r1, e2, h⟩ := mbd h
  refine mv_callS_i (As := [.int a1, .int (0 : Int32), .int (3 : Int32)]) lkS_RX9_75_yX9_within dX9_copy_3 (k_X9_within e2) rfl rfl (Nat.le_of_ble_eq_true rfl) (by decide) (by decide) ?_
  refine mw_if_eq (tgt := 18) dX9_copy_6 (by decide) (fun hc => ?_) (fun hc => ?_)
  · have h := mit hc h
    refine mw_aload_n dX9_copy_18 0 rfl ?_
    refine mw_iconst (v := 0) dX9_copy_19 (by decide) ?_
    obtain ⟨r3, e4, h⟩ := mbd h
    refine mv_callV_i (As := [.int (0 : Int32)]) (ci := 8) lkV_RX9_79_yX9_finding dX9_copy_20 (k_X9_finding e4) rfl rfl rfl rfl (Nat.le_of_ble_eq_true rfl) (by decide) (by decide) ?_
    exact mw_iret dX9_copy_23 rfl (ers_im h) rfl rfl
  · have h := mie hc h
    refine mw_iload_n dX9_copy_9 3 rfl ?_
    refine mw_iconst (v := 0) dX9_copy_10 (by decide) ?_
    refine mw_iconst (v := 3) dX9_copy_11 (by decide) ?_
    obtain ⟨r5, e6, h⟩ := mbd h
    refine mv_callS_i (As := [.int a3, .int (0 : Int32), .int (3 : Int32)]) lkS_RX9_75_yX9_within dX9_copy_12 (k_X9_within e6) rfl rfl (Nat.le_of_ble_eq_true rfl) (by decide) (by decide) ?_
    refine mw_if_ne (tgt := 24) dX9_copy_15 (by decide) (fun hc => ?_) (fun hc => ?_)
    · have h := mie hc h
      refine mw_aload_n dX9_copy_24 0 rfl ?_
      refine ev_getR (q := 59) fd_RX9_66_8 dX9_copy_25 rfl rfl rfl ?_
      refine mw_iload_n dX9_copy_28 1 rfl ?_
      obtain ⟨m7, h⟩ := mif h
      refine ev_aald dX9_copy_29 m7 ?_
      refine ev_getI fd_RX9_340_4 dX9_copy_30 (msh_ob (esh2 m7)) rfl ?_
      refine mw_if_eq (tgt := 48) dX9_copy_33 (by decide) (fun hc => ?_) (fun hc => ?_)
      · have h := mit hc h
        refine mw_aload_n dX9_copy_48 0 rfl ?_
        refine mw_iconst (v := 5) dX9_copy_49 (by decide) ?_
        obtain ⟨r8, e9, h⟩ := mbd h
        refine mv_callV_i (As := [.int (5 : Int32)]) (ci := 8) lkV_RX9_79_yX9_finding dX9_copy_50 (k_X9_finding e9) rfl rfl rfl rfl (Nat.le_of_ble_eq_true rfl) (by decide) (by decide) ?_
        exact mw_iret dX9_copy_53 rfl (ers_im h) rfl rfl
      · have h := mie hc h
        refine mw_aload_n dX9_copy_36 0 rfl ?_
        refine ev_getR (q := 59) fd_RX9_66_8 dX9_copy_37 rfl rfl rfl ?_
        refine mw_iload_n dX9_copy_40 3 rfl ?_
        obtain ⟨m10, h⟩ := mif h
        refine ev_aald dX9_copy_41 m10 ?_
        refine ev_getI fd_RX9_340_4 dX9_copy_42 (msh_ob (esh2 m10)) rfl ?_
        refine mw_if_ne (tgt := 54) dX9_copy_45 (by decide) (fun hc => ?_) (fun hc => ?_)
        · have h := mie hc h
          refine mw_aload_n dX9_copy_54 0 rfl ?_
          refine ev_getR (q := 59) fd_RX9_66_8 dX9_copy_55 rfl rfl rfl ?_
          refine mw_iload_n dX9_copy_58 1 rfl ?_
          obtain ⟨m11, h⟩ := mif h
          refine ev_aald dX9_copy_59 m11 ?_
          refine ev_getI fd_RX9_340_4 dX9_copy_60 (msh_ob (esh2 m11)) rfl ?_
          refine mw_aload_n dX9_copy_63 0 rfl ?_
          refine ev_getR (q := 59) fd_RX9_66_8 dX9_copy_64 rfl rfl rfl ?_
          refine mw_iload_n dX9_copy_67 3 rfl ?_
          obtain ⟨m12, h⟩ := mif h
          refine ev_aald dX9_copy_68 m12 ?_
          refine ev_getI fd_RX9_340_4 dX9_copy_69 (msh_ob (esh2 m12)) rfl ?_
          refine mw_icmp_eq (tgt := 81) dX9_copy_72 (by decide) (fun hc => ?_) (fun hc => ?_)
          · have h := mit hc h
            refine mw_aload_n dX9_copy_81 0 rfl ?_
            refine ev_getR (q := 59) fd_RX9_66_8 dX9_copy_82 rfl rfl rfl ?_
            refine mw_iload_n dX9_copy_85 1 rfl ?_
            obtain ⟨m13, h⟩ := mif h
            refine ev_aald dX9_copy_86 m13 ?_
            refine mw_iload_n dX9_copy_87 2 rfl ?_
            refine mw_iload dX9_copy_88 5 rfl ?_
            obtain ⟨r14, e15, h⟩ := mbd h
            refine mv_callV_i (As := [.int a2, .int a5]) (ci := 4) lkV_RX9_343_yX5_hasRun dX9_copy_90 (k_X5_hasRun e15) rfl (msh_ob (esh2 m13)) rfl rfl (Nat.le_of_ble_eq_true rfl) (by decide) (by decide) ?_
            refine mw_if_eq (tgt := 112) dX9_copy_93 (by decide) (fun hc => ?_) (fun hc => ?_)
            · have h := mit hc h
              refine mw_aload_n dX9_copy_112 0 rfl ?_
              refine mw_iconst (v := 0) dX9_copy_113 (by decide) ?_
              obtain ⟨r16, e17, h⟩ := mbd h
              refine mv_callV_i (As := [.int (0 : Int32)]) (ci := 8) lkV_RX9_79_yX9_finding dX9_copy_114 (k_X9_finding e17) rfl rfl rfl rfl (Nat.le_of_ble_eq_true rfl) (by decide) (by decide) ?_
              exact mw_iret dX9_copy_117 rfl (ers_im h) rfl rfl
            · have h := mie hc h
              refine mw_aload_n dX9_copy_96 0 rfl ?_
              refine ev_getR (q := 59) fd_RX9_66_8 dX9_copy_97 rfl rfl rfl ?_
              refine mw_iload_n dX9_copy_100 3 rfl ?_
              obtain ⟨m18, h⟩ := mif h
              refine ev_aald dX9_copy_101 m18 ?_
              refine mw_iload dX9_copy_102 4 rfl ?_
              refine mw_iload dX9_copy_104 5 rfl ?_
              obtain ⟨r19, e20, h⟩ := mbd h
              refine mv_callV_i (As := [.int a4, .int a5]) (ci := 4) lkV_RX9_343_yX5_hasRun dX9_copy_106 (k_X5_hasRun e20) rfl (msh_ob (esh2 m18)) rfl rfl (Nat.le_of_ble_eq_true rfl) (by decide) (by decide) ?_
              refine mw_if_ne (tgt := 118) dX9_copy_109 (by decide) (fun hc => ?_) (fun hc => ?_)
              · have h := mie hc h
                refine mw_aload_n dX9_copy_118 0 rfl ?_
                refine ev_getR (q := 59) fd_RX9_66_8 dX9_copy_119 rfl rfl rfl ?_
                refine mw_iload_n dX9_copy_122 1 rfl ?_
                obtain ⟨m21, h⟩ := mif h
                refine ev_aald dX9_copy_123 m21 ?_
                refine ev_getR fd_RX9_295_4 dX9_copy_124 (msh_ob (esh2 m21)) rfl (msh_r (esh2 m21)) ?_
                refine mw_iload_n dX9_copy_127 2 rfl ?_
                refine mw_aload_n dX9_copy_128 0 rfl ?_
                refine ev_getR (q := 59) fd_RX9_66_8 dX9_copy_129 rfl rfl rfl ?_
                refine mw_iload_n dX9_copy_132 3 rfl ?_
                obtain ⟨m22, h⟩ := mif h
                refine ev_aald dX9_copy_133 m22 ?_
                refine ev_getR fd_RX9_295_4 dX9_copy_134 (msh_ob (esh2 m22)) rfl (msh_r (esh2 m22)) ?_
                refine mw_iload dX9_copy_137 4 rfl ?_
                refine mw_iload dX9_copy_139 5 rfl ?_
                obtain ⟨m23, h⟩ := mif h
                refine ev_copyL dX9_copy_141 wt_567 wt_203 wt_204 wt_205 (msh_n1 (esh2 m21)) (msh_n1 (esh2 m22)) (msh_n2 (esh2 m21)) (msh_n2 (esh2 m22)) m23 (by decide) (Nat.le_of_ble_eq_true rfl) ?_
                refine mw_iload dX9_copy_144 5 rfl ?_
                exact mw_iret dX9_copy_146 rfl (ers_im h) rfl rfl
              · have h := mit hc h
                refine mw_aload_n dX9_copy_112 0 rfl ?_
                refine mw_iconst (v := 0) dX9_copy_113 (by decide) ?_
                obtain ⟨r24, e25, h⟩ := mbd h
                refine mv_callV_i (As := [.int (0 : Int32)]) (ci := 8) lkV_RX9_79_yX9_finding dX9_copy_114 (k_X9_finding e25) rfl rfl rfl rfl (Nat.le_of_ble_eq_true rfl) (by decide) (by decide) ?_
                exact mw_iret dX9_copy_117 rfl (ers_im h) rfl rfl
          · have h := mie hc h
            refine mw_aload_n dX9_copy_75 0 rfl ?_
            refine mw_iconst (v := 2) dX9_copy_76 (by decide) ?_
            obtain ⟨r26, e27, h⟩ := mbd h
            refine mv_callV_i (As := [.int (2 : Int32)]) (ci := 8) lkV_RX9_79_yX9_finding dX9_copy_77 (k_X9_finding e27) rfl rfl rfl rfl (Nat.le_of_ble_eq_true rfl) (by decide) (by decide) ?_
            exact mw_iret dX9_copy_80 rfl (ers_im h) rfl rfl
        · have h := mit hc h
          refine mw_aload_n dX9_copy_48 0 rfl ?_
          refine mw_iconst (v := 5) dX9_copy_49 (by decide) ?_
          obtain ⟨r28, e29, h⟩ := mbd h
          refine mv_callV_i (As := [.int (5 : Int32)]) (ci := 8) lkV_RX9_79_yX9_finding dX9_copy_50 (k_X9_finding e29) rfl rfl rfl rfl (Nat.le_of_ble_eq_true rfl) (by decide) (by decide) ?_
          exact mw_iret dX9_copy_53 rfl (ers_im h) rfl rfl
    · have h := mit hc h
      refine mw_aload_n dX9_copy_18 0 rfl ?_
      refine mw_iconst (v := 0) dX9_copy_19 (by decide) ?_
      obtain ⟨r30, e31, h⟩ := mbd h
      refine mv_callV_i (As := [.int (0 : Int32)]) (ci := 8) lkV_RX9_79_yX9_finding dX9_copy_20 (k_X9_finding e31) rfl rfl rfl rfl (Nat.le_of_ble_eq_true rfl) (by decide) (by decide) ?_
      exact mw_iret dX9_copy_23 rfl (ers_im h) rfl rfl

theorem dX9_lays_0 : decode cX9_lays 0 = .ok (.aload_n 0, 1) := by decide +kernel
theorem dX9_lays_1 : decode cX9_lays 1 = .ok (.iload_n 1, 1) := by decide +kernel
theorem dX9_lays_2 : decode cX9_lays 2 = .ok (.invokevirtual 315, 3) := by decide +kernel
theorem dX9_lays_5 : decode cX9_lays 5 = .ok (.istore_n 2, 1) := by decide +kernel
theorem dX9_lays_6 : decode cX9_lays 6 = .ok (.iload_n 2, 1) := by decide +kernel
theorem dX9_lays_7 : decode cX9_lays 7 = .ok (.iconst (-1), 1) := by decide +kernel
theorem dX9_lays_8 : decode cX9_lays 8 = .ok (.if_icmp .eq 9, 3) := by decide +kernel
theorem dX9_lays_11 : decode cX9_lays 11 = .ok (.aload_n 0, 1) := by decide +kernel
theorem dX9_lays_12 : decode cX9_lays 12 = .ok (.iload_n 2, 1) := by decide +kernel
theorem dX9_lays_13 : decode cX9_lays 13 = .ok (.invokevirtual 79, 3) := by decide +kernel
theorem dX9_lays_16 : decode cX9_lays 16 = .ok (.ireturn, 1) := by decide +kernel
theorem dX9_lays_17 : decode cX9_lays 17 = .ok (.iconst 0, 1) := by decide +kernel
theorem dX9_lays_18 : decode cX9_lays 18 = .ok (.istore_n 3, 1) := by decide +kernel
theorem dX9_lays_19 : decode cX9_lays 19 = .ok (.aload_n 0, 1) := by decide +kernel
theorem dX9_lays_20 : decode cX9_lays 20 = .ok (.getfield 66, 3) := by decide +kernel
theorem dX9_lays_23 : decode cX9_lays 23 = .ok (.iload_n 1, 1) := by decide +kernel
theorem dX9_lays_24 : decode cX9_lays 24 = .ok (.aaload, 1) := by decide +kernel
theorem dX9_lays_25 : decode cX9_lays 25 = .ok (.getfield 336, 3) := by decide +kernel
theorem dX9_lays_28 : decode cX9_lays 28 = .ok (.aload_n 0, 1) := by decide +kernel
theorem dX9_lays_29 : decode cX9_lays 29 = .ok (.getfield 12, 3) := by decide +kernel
theorem dX9_lays_32 : decode cX9_lays 32 = .ok (.getfield 83, 3) := by decide +kernel
theorem dX9_lays_35 : decode cX9_lays 35 = .ok (.invokestatic 352, 3) := by decide +kernel
theorem dX9_lays_38 : decode cX9_lays 38 = .ok (.istore 4, 2) := by decide +kernel
theorem dX9_lays_40 : decode cX9_lays 40 = .ok (.iconst 0, 1) := by decide +kernel
theorem dX9_lays_41 : decode cX9_lays 41 = .ok (.istore 5, 2) := by decide +kernel
theorem dX9_lays_43 : decode cX9_lays 43 = .ok (.iload 5, 2) := by decide +kernel
theorem dX9_lays_45 : decode cX9_lays 45 = .ok (.iload 4, 2) := by decide +kernel
theorem dX9_lays_47 : decode cX9_lays 47 = .ok (.if_icmp .ge 57, 3) := by decide +kernel
theorem dX9_lays_50 : decode cX9_lays 50 = .ok (.aload_n 0, 1) := by decide +kernel
theorem dX9_lays_51 : decode cX9_lays 51 = .ok (.getfield 66, 3) := by decide +kernel
theorem dX9_lays_54 : decode cX9_lays 54 = .ok (.iload_n 1, 1) := by decide +kernel
theorem dX9_lays_55 : decode cX9_lays 55 = .ok (.aaload, 1) := by decide +kernel
theorem dX9_lays_56 : decode cX9_lays 56 = .ok (.getfield 295, 3) := by decide +kernel
theorem dX9_lays_59 : decode cX9_lays 59 = .ok (.iload 5, 2) := by decide +kernel
theorem dX9_lays_61 : decode cX9_lays 61 = .ok (.laload, 1) := by decide +kernel
theorem dX9_lays_62 : decode cX9_lays 62 = .ok (.lstore 6, 2) := by decide +kernel
theorem dX9_lays_64 : decode cX9_lays 64 = .ok (.lload 6, 2) := by decide +kernel
theorem dX9_lays_66 : decode cX9_lays 66 = .ok (.ldc2_w 214, 3) := by decide +kernel
theorem dX9_lays_69 : decode cX9_lays 69 = .ok (.lcmp, 1) := by decide +kernel
theorem dX9_lays_70 : decode cX9_lays 70 = .ok (.ifCond .lt 28, 3) := by decide +kernel
theorem dX9_lays_73 : decode cX9_lays 73 = .ok (.lload 6, 2) := by decide +kernel
theorem dX9_lays_75 : decode cX9_lays 75 = .ok (.ldc2_w 226, 3) := by decide +kernel
theorem dX9_lays_78 : decode cX9_lays 78 = .ok (.lcmp, 1) := by decide +kernel
theorem dX9_lays_79 : decode cX9_lays 79 = .ok (.ifCond .gt 19, 3) := by decide +kernel
theorem dX9_lays_82 : decode cX9_lays 82 = .ok (.aload_n 0, 1) := by decide +kernel
theorem dX9_lays_83 : decode cX9_lays 83 = .ok (.getfield 12, 3) := by decide +kernel
theorem dX9_lays_86 : decode cX9_lays 86 = .ok (.getfield 122, 3) := by decide +kernel
theorem dX9_lays_89 : decode cX9_lays 89 = .ok (.iload 5, 2) := by decide +kernel
theorem dX9_lays_91 : decode cX9_lays 91 = .ok (.lload 6, 2) := by decide +kernel
theorem dX9_lays_93 : decode cX9_lays 93 = .ok (.l2i, 1) := by decide +kernel
theorem dX9_lays_94 : decode cX9_lays 94 = .ok (.iastore, 1) := by decide +kernel
theorem dX9_lays_95 : decode cX9_lays 95 = .ok (.iinc 3 1, 3) := by decide +kernel
theorem dX9_lays_98 : decode cX9_lays 98 = .ok (.iinc 5 1, 3) := by decide +kernel
theorem dX9_lays_101 : decode cX9_lays 101 = .ok (.goto (-58), 3) := by decide +kernel
theorem dX9_lays_104 : decode cX9_lays 104 = .ok (.iload_n 3, 1) := by decide +kernel
theorem dX9_lays_105 : decode cX9_lays 105 = .ok (.ireturn, 1) := by decide +kernel
def e_X9_lays_L43 (a1 : Int32) : Nat → Int32 → Int32 → Int32 → ES → Option (Int32 × ES)
  | 0, _, _, _, _ => none
  | n + 1, x3, x4, x5, σ => if x4 ≤ x5 then (some (x3, σ)) else (if mib a1 4 = true then (if mib x5 40 = true then (if (eL σ ((61 + 2 * a1.toNatClampNeg) + 1) x5.toNatClampNeg) < (-999999999 : Int64) then (e_X9_lays_L43 a1 n x3 x4 (x5 + 1) σ) else (if (999999999 : Int64) < (eL σ ((61 + 2 * a1.toNatClampNeg) + 1) x5.toNatClampNeg) then (e_X9_lays_L43 a1 n x3 x4 (x5 + 1) σ) else (if mib x5 14 = true then (e_X9_lays_L43 a1 n (x3 + 1) x4 (x5 + 1) (uI σ 5 x5.toNatClampNeg ((eL σ ((61 + 2 * a1.toNatClampNeg) + 1) x5.toNatClampNeg).toInt32))) else none))) else none) else none)
set_option maxRecDepth 100000 in
set_option maxHeartbeats 4000000 in
theorem p_X9_lays_L43 {l : Launch} {E : MX} {out : (Int32 × ES)} {a1 : Int32}  : ∀ (n : Nat) (x3 : Int32) (x4 : Int32) (x5 : Int32) (σ : ES), e_X9_lays_L43 a1 n x3 x4 x5 σ = some out → MV l E cX9_lays RX9 8 (some .int) 3 (82, (some (.int out.1)), mkS out.2) (mkS σ) 43 [(0, .ref 0), (1, .int a1), (3, .int x3), (4, .int x4), (5, .int x5)] [] := by
  intro n
  induction n with
  | zero =>
    intro x3 x4 x5 σ h
    exact nomatch h
  | succ n ih =>
    intro x3 x4 x5 σ h
    rw [e_X9_lays_L43] at h
    refine mw_iload dX9_lays_43 4 rfl ?_
    refine mw_iload dX9_lays_45 3 rfl ?_
    refine mw_icmp_ge (tgt := 104) dX9_lays_47 (by decide) (fun hc => ?_) (fun hc => ?_)
    · have h := mit hc h
      refine mw_iload_n dX9_lays_104 2 rfl ?_
      exact mw_iret dX9_lays_105 rfl (ers_im h) rfl rfl
    · have h := mie hc h
      refine mw_aload_n dX9_lays_50 0 rfl ?_
      refine ev_getR (q := 59) fd_RX9_66_8 dX9_lays_51 rfl rfl rfl ?_
      refine mw_iload_n dX9_lays_54 1 rfl ?_
      obtain ⟨m1, h⟩ := mif h
      refine ev_aald dX9_lays_55 m1 ?_
      refine ev_getR fd_RX9_295_4 dX9_lays_56 (msh_ob (esh2 m1)) rfl (msh_r (esh2 m1)) ?_
      refine mw_iload dX9_lays_59 4 rfl ?_
      obtain ⟨m2, h⟩ := mif h
      refine ev_lald dX9_lays_61 (msh_n1 (esh2 m1)) (msh_n2 (esh2 m1)) m2 ?_
      refine mw_lstore (L' := [(6, .long (eL σ ((61 + 2 * a1.toNatClampNeg) + 1) x5.toNatClampNeg)), (0, .ref 0), (1, .int a1), (3, .int x3), (4, .int x4), (5, .int x5)]) dX9_lays_62 (by decide) rfl ?_
      refine mw_lload dX9_lays_64 0 rfl ?_
      refine mw_ldc2 dX9_lays_66 wt_176 ?_
      refine mw_lc_lt (tgt := 98) dX9_lays_69 dX9_lays_70 (by decide) (fun hc => ?_) (fun hc => ?_)
      · have h := mit hc h
        refine mw_iinc (v := (x5 + 1)) (L' := [(5, .int (x5 + 1)), (6, .long (eL σ ((61 + 2 * a1.toNatClampNeg) + 1) x5.toNatClampNeg)), (0, .ref 0), (1, .int a1), (3, .int x3), (4, .int x4)]) dX9_lays_98 5 rfl rfl (by decide) rfl ?_
        refine mw_goto (tgt := 43) dX9_lays_101 (by decide) ?_
        exact mw_sub (L' := [(0, .ref 0), (1, .int a1), (3, .int x3), (4, .int x4), (5, .int (x5 + 1))]) [2, 3, 4, 5, 0] rfl (ih _ _ _ _ h)
      · have h := mie hc h
        refine mw_lload dX9_lays_73 0 rfl ?_
        refine mw_ldc2 dX9_lays_75 wt_175 ?_
        refine mw_lc_gt (tgt := 98) dX9_lays_78 dX9_lays_79 (by decide) (fun hc => ?_) (fun hc => ?_)
        · have h := mit hc h
          refine mw_iinc (v := (x5 + 1)) (L' := [(5, .int (x5 + 1)), (6, .long (eL σ ((61 + 2 * a1.toNatClampNeg) + 1) x5.toNatClampNeg)), (0, .ref 0), (1, .int a1), (3, .int x3), (4, .int x4)]) dX9_lays_98 5 rfl rfl (by decide) rfl ?_
          refine mw_goto (tgt := 43) dX9_lays_101 (by decide) ?_
          exact mw_sub (L' := [(0, .ref 0), (1, .int a1), (3, .int x3), (4, .int x4), (5, .int (x5 + 1))]) [2, 3, 4, 5, 0] rfl (ih _ _ _ _ h)
        · have h := mie hc h
          refine mw_aload_n dX9_lays_82 1 rfl ?_
          refine ev_getR (q := 1) fd_RX9_12_8 dX9_lays_83 rfl rfl rfl ?_
          refine ev_getR (q := 5) fd_RX9_122_0 dX9_lays_86 rfl rfl rfl ?_
          refine mw_iload dX9_lays_89 5 rfl ?_
          refine mw_lload dX9_lays_91 0 rfl ?_
          refine mw_l2i dX9_lays_93 ?_
          obtain ⟨m3, h⟩ := mif h
          refine ev_iast dX9_lays_94 (by decide) rfl m3 ?_
          refine mw_iinc (v := (x3 + 1)) (L' := [(3, .int (x3 + 1)), (6, .long (eL σ ((61 + 2 * a1.toNatClampNeg) + 1) x5.toNatClampNeg)), (0, .ref 0), (1, .int a1), (4, .int x4), (5, .int x5)]) dX9_lays_95 3 rfl rfl (by decide) rfl ?_
          refine mw_iinc (v := (x5 + 1)) (L' := [(5, .int (x5 + 1)), (3, .int (x3 + 1)), (6, .long (eL σ ((61 + 2 * a1.toNatClampNeg) + 1) x5.toNatClampNeg)), (0, .ref 0), (1, .int a1), (4, .int x4)]) dX9_lays_98 5 rfl rfl (by decide) rfl ?_
          refine mw_goto (tgt := 43) dX9_lays_101 (by decide) ?_
          exact mw_sub (L' := [(0, .ref 0), (1, .int a1), (3, .int (x3 + 1)), (4, .int x4), (5, .int (x5 + 1))]) [3, 4, 1, 5, 0] rfl (ih _ _ _ _ h)
def e_X9_lays (a1 : Int32) (σ : ES) : Option (Int32 × ES) := (e_X9_sheetFault σ a1).bind (fun r1 => if r1 = (-1 : Int32) then (if mib a1 4 = true then (e_X9_lays_L43 a1 mN (0 : Int32) (if (eI σ 1 2) < (eI σ (61 + 2 * a1.toNatClampNeg) 1) then (eI σ 1 2) else (eI σ (61 + 2 * a1.toNatClampNeg) 1)) (0 : Int32) σ) else none) else ((e_X9_finding r1 σ).bind (fun r4 => some (r4.1, r4.2))))
set_option maxRecDepth 100000 in
set_option maxHeartbeats 4000000 in
theorem k_X9_lays {l : Launch} {σ : ES} {a1 : Int32} {out : (Int32 × ES)} (h : e_X9_lays a1 σ = some out) : MK l yX9_lays cX9_lays 8 (some .int) 3 [.ref 0, .int a1] (mkS σ) (some (.int out.1)) (mkS out.2) := by
  unfold e_X9_lays at h
  refine mw_entry (own := RX9) (ini := false) (L := [(0, .ref 0), (1, .int a1)]) (by decide +kernel) rfl (fun h => nomatch h) rfl (Nat.le_of_ble_eq_true rfl) (Nat.le_of_ble_eq_true rfl) (fun E => ?_)
  refine mw_aload_n dX9_lays_0 0 rfl ?_
  refine mw_iload_n dX9_lays_1 1 rfl ?_
  obtain ⟨r1, e2, h⟩ := mbd h
  refine mv_callV_i (As := [.int a1]) (ci := 8) lkV_RX9_315_yX9_sheetFault dX9_lays_2 (k_X9_sheetFault e2) rfl rfl rfl rfl (Nat.le_of_ble_eq_true rfl) (by decide) (by decide) ?_
  refine mw_istore_n (L' := [(2, .int r1), (0, .ref 0), (1, .int a1)]) dX9_lays_5 rfl (by decide) rfl ?_
  refine mw_iload_n dX9_lays_6 0 rfl ?_
  refine mw_iconst (v := -1) dX9_lays_7 (by decide) ?_
  refine mw_icmp_eq (tgt := 17) dX9_lays_8 (by decide) (fun hc => ?_) (fun hc => ?_)
  · have h := mit hc h
    refine mw_iconst (v := 0) dX9_lays_17 (by decide) ?_
    refine mw_istore_n (L' := [(3, .int (0 : Int32)), (2, .int r1), (0, .ref 0), (1, .int a1)]) dX9_lays_18 rfl (by decide) rfl ?_
    refine mw_aload_n dX9_lays_19 2 rfl ?_
    refine ev_getR (q := 59) fd_RX9_66_8 dX9_lays_20 rfl rfl rfl ?_
    refine mw_iload_n dX9_lays_23 3 rfl ?_
    obtain ⟨m3, h⟩ := mif h
    refine ev_aald dX9_lays_24 m3 ?_
    refine ev_getI fd_RX9_336_4 dX9_lays_25 (msh_ob (esh2 m3)) rfl ?_
    refine mw_aload_n dX9_lays_28 2 rfl ?_
    refine ev_getR (q := 1) fd_RX9_12_8 dX9_lays_29 rfl rfl rfl ?_
    refine ev_getI fd_RX9_83_0 dX9_lays_32 rfl rfl ?_
    refine mv_mini dX9_lays_35 wt_568 wt_523 wt_173 wt_524 (by decide) (Nat.le_of_ble_eq_true rfl) ?_
    refine mw_istore (L' := [(4, .int (if (eI σ 1 2) < (eI σ (61 + 2 * a1.toNatClampNeg) 1) then (eI σ 1 2) else (eI σ (61 + 2 * a1.toNatClampNeg) 1))), (3, .int (0 : Int32)), (2, .int r1), (0, .ref 0), (1, .int a1)]) dX9_lays_38 (by decide) rfl ?_
    refine mw_iconst (v := 0) dX9_lays_40 (by decide) ?_
    refine mw_istore (L' := [(5, .int (0 : Int32)), (4, .int (if (eI σ 1 2) < (eI σ (61 + 2 * a1.toNatClampNeg) 1) then (eI σ 1 2) else (eI σ (61 + 2 * a1.toNatClampNeg) 1))), (3, .int (0 : Int32)), (2, .int r1), (0, .ref 0), (1, .int a1)]) dX9_lays_41 (by decide) rfl ?_
    exact mw_sub (L' := [(0, .ref 0), (1, .int a1), (3, .int (0 : Int32)), (4, .int (if (eI σ 1 2) < (eI σ (61 + 2 * a1.toNatClampNeg) 1) then (eI σ 1 2) else (eI σ (61 + 2 * a1.toNatClampNeg) 1))), (5, .int (0 : Int32))]) [4, 5, 2, 1, 0] rfl (p_X9_lays_L43  mN _ _ _ _ h)
  · have h := mie hc h
    refine mw_aload_n dX9_lays_11 1 rfl ?_
    refine mw_iload_n dX9_lays_12 0 rfl ?_
    obtain ⟨r4, e5, h⟩ := mbd h
    refine mv_callV_i (As := [.int r1]) (ci := 8) lkV_RX9_79_yX9_finding dX9_lays_13 (k_X9_finding e5) rfl rfl rfl rfl (Nat.le_of_ble_eq_true rfl) (by decide) (by decide) ?_
    exact mw_iret dX9_lays_16 rfl (ers_im h) rfl rfl

def e_X1_become_10_1 (σ : ES) : Option ES := if mcpl 14 14 (0 : Int32) (0 : Int32) (14 : Int32) = true then (if mcpl 14 14 (0 : Int32) (0 : Int32) (14 : Int32) = true then (if mcpl 14 14 (0 : Int32) (0 : Int32) (14 : Int32) = true then (if mcpl 14 14 (0 : Int32) (0 : Int32) (14 : Int32) = true then (if mcpl 14 14 (0 : Int32) (0 : Int32) (14 : Int32) = true then (if mcpl 14 14 (0 : Int32) (0 : Int32) (14 : Int32) = true then (if mcpl 13 13 (0 : Int32) (0 : Int32) (13 : Int32) = true then (if mcpl 13 13 (0 : Int32) (0 : Int32) (13 : Int32) = true then (some (ecI (ecI (ecI (ecI (ecI (ecI (ecI (ecI (uI (uI (uI (uI σ 10 0 (eI σ 1 0)) 10 1 (eI (uI σ 10 0 (eI σ 1 0)) 1 1)) 10 2 (eI (uI (uI σ 10 0 (eI σ 1 0)) 10 1 (eI (uI σ 10 0 (eI σ 1 0)) 1 1)) 1 2)) 10 9 (eI (uI (uI (uI σ 10 0 (eI σ 1 0)) 10 1 (eI (uI σ 10 0 (eI σ 1 0)) 1 1)) 10 2 (eI (uI (uI σ 10 0 (eI σ 1 0)) 10 1 (eI (uI σ 10 0 (eI σ 1 0)) 1 1)) 1 2)) 1 9)) 2 (0 : Int32).toNatClampNeg 11 (0 : Int32).toNatClampNeg (14 : Int32).toNatClampNeg) 3 (0 : Int32).toNatClampNeg 12 (0 : Int32).toNatClampNeg (14 : Int32).toNatClampNeg) 4 (0 : Int32).toNatClampNeg 13 (0 : Int32).toNatClampNeg (14 : Int32).toNatClampNeg) 5 (0 : Int32).toNatClampNeg 14 (0 : Int32).toNatClampNeg (14 : Int32).toNatClampNeg) 6 (0 : Int32).toNatClampNeg 15 (0 : Int32).toNatClampNeg (14 : Int32).toNatClampNeg) 7 (0 : Int32).toNatClampNeg 16 (0 : Int32).toNatClampNeg (14 : Int32).toNatClampNeg) 8 (0 : Int32).toNatClampNeg 17 (0 : Int32).toNatClampNeg (13 : Int32).toNatClampNeg) 9 (0 : Int32).toNatClampNeg 18 (0 : Int32).toNatClampNeg (13 : Int32).toNatClampNeg)) else none) else none) else none) else none) else none) else none) else none) else none
set_option maxRecDepth 100000 in
set_option maxHeartbeats 4000000 in
theorem k_X1_become_10_1 {l : Launch} {σ : ES}  {out : ES} (h : e_X1_become_10_1 σ = some out) : MK l yX1_become cX1_become 2 none 1 [.ref 10, .ref 1] (mkS σ) none (mkS out) := by
  unfold e_X1_become_10_1 at h
  refine mw_entry (own := RX1) (ini := false) (L := [(0, .ref 10), (1, .ref 1)]) (by decide +kernel) rfl (fun h => nomatch h) rfl (Nat.le_of_ble_eq_true rfl) (Nat.le_of_ble_eq_true rfl) (fun E => ?_)
  refine mw_aload_n dX1_become_0 0 rfl ?_
  refine mw_aload_n dX1_become_1 1 rfl ?_
  refine ev_getI fd_RX1_9_0 dX1_become_2 rfl rfl ?_
  refine ev_putI fw_RX1_9_0 dX1_become_5 rfl rfl ?_
  refine mw_aload_n dX1_become_8 0 rfl ?_
  refine mw_aload_n dX1_become_9 1 rfl ?_
  refine ev_getI fd_RX1_50_0 dX1_become_10 rfl rfl ?_
  refine ev_putI fw_RX1_50_0 dX1_become_13 rfl rfl ?_
  refine mw_aload_n dX1_become_16 0 rfl ?_
  refine mw_aload_n dX1_become_17 1 rfl ?_
  refine ev_getI fd_RX1_44_0 dX1_become_18 rfl rfl ?_
  refine ev_putI fw_RX1_44_0 dX1_become_21 rfl rfl ?_
  refine mw_aload_n dX1_become_24 0 rfl ?_
  refine mw_aload_n dX1_become_25 1 rfl ?_
  refine ev_getI fd_RX1_47_0 dX1_become_26 rfl rfl ?_
  refine ev_putI fw_RX1_47_0 dX1_become_29 rfl rfl ?_
  refine mw_aload_n dX1_become_32 1 rfl ?_
  refine ev_getR (q := 2) fd_RX1_15_0 dX1_become_33 rfl rfl rfl ?_
  refine mw_iconst (v := 0) dX1_become_36 (by decide) ?_
  refine mw_aload_n dX1_become_37 0 rfl ?_
  refine ev_getR (q := 11) fd_RX1_15_0 dX1_become_38 rfl rfl rfl ?_
  refine mw_iconst (v := 0) dX1_become_41 (by decide) ?_
  refine mw_bipush (v := 14) dX1_become_42 (by decide) ?_
  obtain ⟨m1, h⟩ := mif h
  refine ev_copyI dX1_become_44 wt_202 wt_203 wt_204 wt_205 (by decide) (by decide) rfl rfl m1 (by decide) (Nat.le_of_ble_eq_true rfl) ?_
  refine mw_aload_n dX1_become_47 1 rfl ?_
  refine ev_getR (q := 3) fd_RX1_19_0 dX1_become_48 rfl rfl rfl ?_
  refine mw_iconst (v := 0) dX1_become_51 (by decide) ?_
  refine mw_aload_n dX1_become_52 0 rfl ?_
  refine ev_getR (q := 12) fd_RX1_19_0 dX1_become_53 rfl rfl rfl ?_
  refine mw_iconst (v := 0) dX1_become_56 (by decide) ?_
  refine mw_bipush (v := 14) dX1_become_57 (by decide) ?_
  obtain ⟨m2, h⟩ := mif h
  refine ev_copyI dX1_become_59 wt_202 wt_203 wt_204 wt_205 (by decide) (by decide) rfl rfl m2 (by decide) (Nat.le_of_ble_eq_true rfl) ?_
  refine mw_aload_n dX1_become_62 1 rfl ?_
  refine ev_getR (q := 4) fd_RX1_22_0 dX1_become_63 rfl rfl rfl ?_
  refine mw_iconst (v := 0) dX1_become_66 (by decide) ?_
  refine mw_aload_n dX1_become_67 0 rfl ?_
  refine ev_getR (q := 13) fd_RX1_22_0 dX1_become_68 rfl rfl rfl ?_
  refine mw_iconst (v := 0) dX1_become_71 (by decide) ?_
  refine mw_bipush (v := 14) dX1_become_72 (by decide) ?_
  obtain ⟨m3, h⟩ := mif h
  refine ev_copyI dX1_become_74 wt_202 wt_203 wt_204 wt_205 (by decide) (by decide) rfl rfl m3 (by decide) (Nat.le_of_ble_eq_true rfl) ?_
  refine mw_aload_n dX1_become_77 1 rfl ?_
  refine ev_getR (q := 5) fd_RX1_25_0 dX1_become_78 rfl rfl rfl ?_
  refine mw_iconst (v := 0) dX1_become_81 (by decide) ?_
  refine mw_aload_n dX1_become_82 0 rfl ?_
  refine ev_getR (q := 14) fd_RX1_25_0 dX1_become_83 rfl rfl rfl ?_
  refine mw_iconst (v := 0) dX1_become_86 (by decide) ?_
  refine mw_bipush (v := 14) dX1_become_87 (by decide) ?_
  obtain ⟨m4, h⟩ := mif h
  refine ev_copyI dX1_become_89 wt_202 wt_203 wt_204 wt_205 (by decide) (by decide) rfl rfl m4 (by decide) (Nat.le_of_ble_eq_true rfl) ?_
  refine mw_aload_n dX1_become_92 1 rfl ?_
  refine ev_getR (q := 6) fd_RX1_28_0 dX1_become_93 rfl rfl rfl ?_
  refine mw_iconst (v := 0) dX1_become_96 (by decide) ?_
  refine mw_aload_n dX1_become_97 0 rfl ?_
  refine ev_getR (q := 15) fd_RX1_28_0 dX1_become_98 rfl rfl rfl ?_
  refine mw_iconst (v := 0) dX1_become_101 (by decide) ?_
  refine mw_bipush (v := 14) dX1_become_102 (by decide) ?_
  obtain ⟨m5, h⟩ := mif h
  refine ev_copyI dX1_become_104 wt_202 wt_203 wt_204 wt_205 (by decide) (by decide) rfl rfl m5 (by decide) (Nat.le_of_ble_eq_true rfl) ?_
  refine mw_aload_n dX1_become_107 1 rfl ?_
  refine ev_getR (q := 7) fd_RX1_31_0 dX1_become_108 rfl rfl rfl ?_
  refine mw_iconst (v := 0) dX1_become_111 (by decide) ?_
  refine mw_aload_n dX1_become_112 0 rfl ?_
  refine ev_getR (q := 16) fd_RX1_31_0 dX1_become_113 rfl rfl rfl ?_
  refine mw_iconst (v := 0) dX1_become_116 (by decide) ?_
  refine mw_bipush (v := 14) dX1_become_117 (by decide) ?_
  obtain ⟨m6, h⟩ := mif h
  refine ev_copyI dX1_become_119 wt_202 wt_203 wt_204 wt_205 (by decide) (by decide) rfl rfl m6 (by decide) (Nat.le_of_ble_eq_true rfl) ?_
  refine mw_aload_n dX1_become_122 1 rfl ?_
  refine ev_getR (q := 8) fd_RX1_34_0 dX1_become_123 rfl rfl rfl ?_
  refine mw_iconst (v := 0) dX1_become_126 (by decide) ?_
  refine mw_aload_n dX1_become_127 0 rfl ?_
  refine ev_getR (q := 17) fd_RX1_34_0 dX1_become_128 rfl rfl rfl ?_
  refine mw_iconst (v := 0) dX1_become_131 (by decide) ?_
  refine mw_bipush (v := 13) dX1_become_132 (by decide) ?_
  obtain ⟨m7, h⟩ := mif h
  refine ev_copyI dX1_become_134 wt_202 wt_203 wt_204 wt_205 (by decide) (by decide) rfl rfl m7 (by decide) (Nat.le_of_ble_eq_true rfl) ?_
  refine mw_aload_n dX1_become_137 1 rfl ?_
  refine ev_getR (q := 9) fd_RX1_37_0 dX1_become_138 rfl rfl rfl ?_
  refine mw_iconst (v := 0) dX1_become_141 (by decide) ?_
  refine mw_aload_n dX1_become_142 0 rfl ?_
  refine ev_getR (q := 18) fd_RX1_37_0 dX1_become_143 rfl rfl rfl ?_
  refine mw_iconst (v := 0) dX1_become_146 (by decide) ?_
  refine mw_bipush (v := 13) dX1_become_147 (by decide) ?_
  obtain ⟨m8, h⟩ := mif h
  refine ev_copyI dX1_become_149 wt_202 wt_203 wt_204 wt_205 (by decide) (by decide) rfl rfl m8 (by decide) (Nat.le_of_ble_eq_true rfl) ?_
  exact mw_vret dX1_become_152 rfl (ers_vm h) rfl rfl

theorem dX9_image_0 : decode cX9_image 0 = .ok (.aload_n 0, 1) := by decide +kernel
theorem dX9_image_1 : decode cX9_image 1 = .ok (.getfield 16, 3) := by decide +kernel
theorem dX9_image_4 : decode cX9_image 4 = .ok (.aload_n 0, 1) := by decide +kernel
theorem dX9_image_5 : decode cX9_image 5 = .ok (.getfield 12, 3) := by decide +kernel
theorem dX9_image_8 : decode cX9_image 8 = .ok (.invokevirtual 231, 3) := by decide +kernel
theorem dX9_image_11 : decode cX9_image 11 = .ok (.aload_n 0, 1) := by decide +kernel
theorem dX9_image_12 : decode cX9_image 12 = .ok (.iconst 1, 1) := by decide +kernel
theorem dX9_image_13 : decode cX9_image 13 = .ok (.putfield 354, 3) := by decide +kernel
theorem dX9_image_16 : decode cX9_image 16 = .ok (.iconst 1, 1) := by decide +kernel
theorem dX9_image_17 : decode cX9_image 17 = .ok (.ireturn, 1) := by decide +kernel
def e_X9_image (σ : ES) : Option (Int32 × ES) := (e_X1_become_10_1 σ).bind (fun r1 => some ((1 : Int32), (uI r1 0 3 (1 : Int32))))
set_option maxRecDepth 100000 in
set_option maxHeartbeats 4000000 in
theorem k_X9_image {l : Launch} {σ : ES}  {out : (Int32 × ES)} (h : e_X9_image σ = some out) : MK l yX9_image cX9_image 1 (some .int) 2 [.ref 0] (mkS σ) (some (.int out.1)) (mkS out.2) := by
  unfold e_X9_image at h
  refine mw_entry (own := RX9) (ini := false) (L := [(0, .ref 0)]) (by decide +kernel) rfl (fun h => nomatch h) rfl (Nat.le_of_ble_eq_true rfl) (Nat.le_of_ble_eq_true rfl) (fun E => ?_)
  refine mw_aload_n dX9_image_0 0 rfl ?_
  refine ev_getR (q := 10) fd_RX9_16_8 dX9_image_1 rfl rfl rfl ?_
  refine mw_aload_n dX9_image_4 0 rfl ?_
  refine ev_getR (q := 1) fd_RX9_12_8 dX9_image_5 rfl rfl rfl ?_
  obtain ⟨r1, e2, h⟩ := mbd h
  refine mv_callV_v (As := [.ref 1]) (ci := 0) lkV_RX9_231_yX1_become dX9_image_8 (k_X1_become_10_1 e2) rfl rfl rfl rfl (Nat.le_of_ble_eq_true rfl) (by decide) (by decide) ?_
  refine mw_aload_n dX9_image_11 0 rfl ?_
  refine mw_iconst (v := 1) dX9_image_12 (by decide) ?_
  refine ev_putZ fw_RX9_354_8 dX9_image_13 rfl rfl (by decide) ?_
  refine mw_iconst (v := 1) dX9_image_16 (by decide) ?_
  exact mw_iret dX9_image_17 rfl (ers_im h) rfl rfl

def e_X1_become_1_10 (σ : ES) : Option ES := if mcpl 14 14 (0 : Int32) (0 : Int32) (14 : Int32) = true then (if mcpl 14 14 (0 : Int32) (0 : Int32) (14 : Int32) = true then (if mcpl 14 14 (0 : Int32) (0 : Int32) (14 : Int32) = true then (if mcpl 14 14 (0 : Int32) (0 : Int32) (14 : Int32) = true then (if mcpl 14 14 (0 : Int32) (0 : Int32) (14 : Int32) = true then (if mcpl 14 14 (0 : Int32) (0 : Int32) (14 : Int32) = true then (if mcpl 13 13 (0 : Int32) (0 : Int32) (13 : Int32) = true then (if mcpl 13 13 (0 : Int32) (0 : Int32) (13 : Int32) = true then (some (ecI (ecI (ecI (ecI (ecI (ecI (ecI (ecI (uI (uI (uI (uI σ 1 0 (eI σ 10 0)) 1 1 (eI (uI σ 1 0 (eI σ 10 0)) 10 1)) 1 2 (eI (uI (uI σ 1 0 (eI σ 10 0)) 1 1 (eI (uI σ 1 0 (eI σ 10 0)) 10 1)) 10 2)) 1 9 (eI (uI (uI (uI σ 1 0 (eI σ 10 0)) 1 1 (eI (uI σ 1 0 (eI σ 10 0)) 10 1)) 1 2 (eI (uI (uI σ 1 0 (eI σ 10 0)) 1 1 (eI (uI σ 1 0 (eI σ 10 0)) 10 1)) 10 2)) 10 9)) 11 (0 : Int32).toNatClampNeg 2 (0 : Int32).toNatClampNeg (14 : Int32).toNatClampNeg) 12 (0 : Int32).toNatClampNeg 3 (0 : Int32).toNatClampNeg (14 : Int32).toNatClampNeg) 13 (0 : Int32).toNatClampNeg 4 (0 : Int32).toNatClampNeg (14 : Int32).toNatClampNeg) 14 (0 : Int32).toNatClampNeg 5 (0 : Int32).toNatClampNeg (14 : Int32).toNatClampNeg) 15 (0 : Int32).toNatClampNeg 6 (0 : Int32).toNatClampNeg (14 : Int32).toNatClampNeg) 16 (0 : Int32).toNatClampNeg 7 (0 : Int32).toNatClampNeg (14 : Int32).toNatClampNeg) 17 (0 : Int32).toNatClampNeg 8 (0 : Int32).toNatClampNeg (13 : Int32).toNatClampNeg) 18 (0 : Int32).toNatClampNeg 9 (0 : Int32).toNatClampNeg (13 : Int32).toNatClampNeg)) else none) else none) else none) else none) else none) else none) else none) else none
set_option maxRecDepth 100000 in
set_option maxHeartbeats 4000000 in
theorem k_X1_become_1_10 {l : Launch} {σ : ES}  {out : ES} (h : e_X1_become_1_10 σ = some out) : MK l yX1_become cX1_become 2 none 1 [.ref 1, .ref 10] (mkS σ) none (mkS out) := by
  unfold e_X1_become_1_10 at h
  refine mw_entry (own := RX1) (ini := false) (L := [(0, .ref 1), (1, .ref 10)]) (by decide +kernel) rfl (fun h => nomatch h) rfl (Nat.le_of_ble_eq_true rfl) (Nat.le_of_ble_eq_true rfl) (fun E => ?_)
  refine mw_aload_n dX1_become_0 0 rfl ?_
  refine mw_aload_n dX1_become_1 1 rfl ?_
  refine ev_getI fd_RX1_9_0 dX1_become_2 rfl rfl ?_
  refine ev_putI fw_RX1_9_0 dX1_become_5 rfl rfl ?_
  refine mw_aload_n dX1_become_8 0 rfl ?_
  refine mw_aload_n dX1_become_9 1 rfl ?_
  refine ev_getI fd_RX1_50_0 dX1_become_10 rfl rfl ?_
  refine ev_putI fw_RX1_50_0 dX1_become_13 rfl rfl ?_
  refine mw_aload_n dX1_become_16 0 rfl ?_
  refine mw_aload_n dX1_become_17 1 rfl ?_
  refine ev_getI fd_RX1_44_0 dX1_become_18 rfl rfl ?_
  refine ev_putI fw_RX1_44_0 dX1_become_21 rfl rfl ?_
  refine mw_aload_n dX1_become_24 0 rfl ?_
  refine mw_aload_n dX1_become_25 1 rfl ?_
  refine ev_getI fd_RX1_47_0 dX1_become_26 rfl rfl ?_
  refine ev_putI fw_RX1_47_0 dX1_become_29 rfl rfl ?_
  refine mw_aload_n dX1_become_32 1 rfl ?_
  refine ev_getR (q := 11) fd_RX1_15_0 dX1_become_33 rfl rfl rfl ?_
  refine mw_iconst (v := 0) dX1_become_36 (by decide) ?_
  refine mw_aload_n dX1_become_37 0 rfl ?_
  refine ev_getR (q := 2) fd_RX1_15_0 dX1_become_38 rfl rfl rfl ?_
  refine mw_iconst (v := 0) dX1_become_41 (by decide) ?_
  refine mw_bipush (v := 14) dX1_become_42 (by decide) ?_
  obtain ⟨m1, h⟩ := mif h
  refine ev_copyI dX1_become_44 wt_202 wt_203 wt_204 wt_205 (by decide) (by decide) rfl rfl m1 (by decide) (Nat.le_of_ble_eq_true rfl) ?_
  refine mw_aload_n dX1_become_47 1 rfl ?_
  refine ev_getR (q := 12) fd_RX1_19_0 dX1_become_48 rfl rfl rfl ?_
  refine mw_iconst (v := 0) dX1_become_51 (by decide) ?_
  refine mw_aload_n dX1_become_52 0 rfl ?_
  refine ev_getR (q := 3) fd_RX1_19_0 dX1_become_53 rfl rfl rfl ?_
  refine mw_iconst (v := 0) dX1_become_56 (by decide) ?_
  refine mw_bipush (v := 14) dX1_become_57 (by decide) ?_
  obtain ⟨m2, h⟩ := mif h
  refine ev_copyI dX1_become_59 wt_202 wt_203 wt_204 wt_205 (by decide) (by decide) rfl rfl m2 (by decide) (Nat.le_of_ble_eq_true rfl) ?_
  refine mw_aload_n dX1_become_62 1 rfl ?_
  refine ev_getR (q := 13) fd_RX1_22_0 dX1_become_63 rfl rfl rfl ?_
  refine mw_iconst (v := 0) dX1_become_66 (by decide) ?_
  refine mw_aload_n dX1_become_67 0 rfl ?_
  refine ev_getR (q := 4) fd_RX1_22_0 dX1_become_68 rfl rfl rfl ?_
  refine mw_iconst (v := 0) dX1_become_71 (by decide) ?_
  refine mw_bipush (v := 14) dX1_become_72 (by decide) ?_
  obtain ⟨m3, h⟩ := mif h
  refine ev_copyI dX1_become_74 wt_202 wt_203 wt_204 wt_205 (by decide) (by decide) rfl rfl m3 (by decide) (Nat.le_of_ble_eq_true rfl) ?_
  refine mw_aload_n dX1_become_77 1 rfl ?_
  refine ev_getR (q := 14) fd_RX1_25_0 dX1_become_78 rfl rfl rfl ?_
  refine mw_iconst (v := 0) dX1_become_81 (by decide) ?_
  refine mw_aload_n dX1_become_82 0 rfl ?_
  refine ev_getR (q := 5) fd_RX1_25_0 dX1_become_83 rfl rfl rfl ?_
  refine mw_iconst (v := 0) dX1_become_86 (by decide) ?_
  refine mw_bipush (v := 14) dX1_become_87 (by decide) ?_
  obtain ⟨m4, h⟩ := mif h
  refine ev_copyI dX1_become_89 wt_202 wt_203 wt_204 wt_205 (by decide) (by decide) rfl rfl m4 (by decide) (Nat.le_of_ble_eq_true rfl) ?_
  refine mw_aload_n dX1_become_92 1 rfl ?_
  refine ev_getR (q := 15) fd_RX1_28_0 dX1_become_93 rfl rfl rfl ?_
  refine mw_iconst (v := 0) dX1_become_96 (by decide) ?_
  refine mw_aload_n dX1_become_97 0 rfl ?_
  refine ev_getR (q := 6) fd_RX1_28_0 dX1_become_98 rfl rfl rfl ?_
  refine mw_iconst (v := 0) dX1_become_101 (by decide) ?_
  refine mw_bipush (v := 14) dX1_become_102 (by decide) ?_
  obtain ⟨m5, h⟩ := mif h
  refine ev_copyI dX1_become_104 wt_202 wt_203 wt_204 wt_205 (by decide) (by decide) rfl rfl m5 (by decide) (Nat.le_of_ble_eq_true rfl) ?_
  refine mw_aload_n dX1_become_107 1 rfl ?_
  refine ev_getR (q := 16) fd_RX1_31_0 dX1_become_108 rfl rfl rfl ?_
  refine mw_iconst (v := 0) dX1_become_111 (by decide) ?_
  refine mw_aload_n dX1_become_112 0 rfl ?_
  refine ev_getR (q := 7) fd_RX1_31_0 dX1_become_113 rfl rfl rfl ?_
  refine mw_iconst (v := 0) dX1_become_116 (by decide) ?_
  refine mw_bipush (v := 14) dX1_become_117 (by decide) ?_
  obtain ⟨m6, h⟩ := mif h
  refine ev_copyI dX1_become_119 wt_202 wt_203 wt_204 wt_205 (by decide) (by decide) rfl rfl m6 (by decide) (Nat.le_of_ble_eq_true rfl) ?_
  refine mw_aload_n dX1_become_122 1 rfl ?_
  refine ev_getR (q := 17) fd_RX1_34_0 dX1_become_123 rfl rfl rfl ?_
  refine mw_iconst (v := 0) dX1_become_126 (by decide) ?_
  refine mw_aload_n dX1_become_127 0 rfl ?_
  refine ev_getR (q := 8) fd_RX1_34_0 dX1_become_128 rfl rfl rfl ?_
  refine mw_iconst (v := 0) dX1_become_131 (by decide) ?_
  refine mw_bipush (v := 13) dX1_become_132 (by decide) ?_
  obtain ⟨m7, h⟩ := mif h
  refine ev_copyI dX1_become_134 wt_202 wt_203 wt_204 wt_205 (by decide) (by decide) rfl rfl m7 (by decide) (Nat.le_of_ble_eq_true rfl) ?_
  refine mw_aload_n dX1_become_137 1 rfl ?_
  refine ev_getR (q := 18) fd_RX1_37_0 dX1_become_138 rfl rfl rfl ?_
  refine mw_iconst (v := 0) dX1_become_141 (by decide) ?_
  refine mw_aload_n dX1_become_142 0 rfl ?_
  refine ev_getR (q := 9) fd_RX1_37_0 dX1_become_143 rfl rfl rfl ?_
  refine mw_iconst (v := 0) dX1_become_146 (by decide) ?_
  refine mw_bipush (v := 13) dX1_become_147 (by decide) ?_
  obtain ⟨m8, h⟩ := mif h
  refine ev_copyI dX1_become_149 wt_202 wt_203 wt_204 wt_205 (by decide) (by decide) rfl rfl m8 (by decide) (Nat.le_of_ble_eq_true rfl) ?_
  exact mw_vret dX1_become_152 rfl (ers_vm h) rfl rfl

theorem dX9_undo_0 : decode cX9_undo 0 = .ok (.aload_n 0, 1) := by decide +kernel
theorem dX9_undo_1 : decode cX9_undo 1 = .ok (.getfield 354, 3) := by decide +kernel
theorem dX9_undo_4 : decode cX9_undo 4 = .ok (.ifCond .ne 9, 3) := by decide +kernel
theorem dX9_undo_7 : decode cX9_undo 7 = .ok (.aload_n 0, 1) := by decide +kernel
theorem dX9_undo_8 : decode cX9_undo 8 = .ok (.iconst 3, 1) := by decide +kernel
theorem dX9_undo_9 : decode cX9_undo 9 = .ok (.invokevirtual 79, 3) := by decide +kernel
theorem dX9_undo_12 : decode cX9_undo 12 = .ok (.ireturn, 1) := by decide +kernel
theorem dX9_undo_13 : decode cX9_undo 13 = .ok (.aload_n 0, 1) := by decide +kernel
theorem dX9_undo_14 : decode cX9_undo 14 = .ok (.getfield 12, 3) := by decide +kernel
theorem dX9_undo_17 : decode cX9_undo 17 = .ok (.aload_n 0, 1) := by decide +kernel
theorem dX9_undo_18 : decode cX9_undo 18 = .ok (.getfield 16, 3) := by decide +kernel
theorem dX9_undo_21 : decode cX9_undo 21 = .ok (.invokevirtual 231, 3) := by decide +kernel
theorem dX9_undo_24 : decode cX9_undo 24 = .ok (.aload_n 0, 1) := by decide +kernel
theorem dX9_undo_25 : decode cX9_undo 25 = .ok (.getfield 12, 3) := by decide +kernel
theorem dX9_undo_28 : decode cX9_undo 28 = .ok (.getfield 83, 3) := by decide +kernel
theorem dX9_undo_31 : decode cX9_undo 31 = .ok (.ireturn, 1) := by decide +kernel
def e_X9_undo (σ : ES) : Option (Int32 × ES) := if (eI σ 0 3) = 0 then ((e_X9_finding (3 : Int32) σ).bind (fun r3 => some (r3.1, r3.2))) else ((e_X1_become_1_10 σ).bind (fun r1 => some ((eI r1 1 2), r1)))
set_option maxRecDepth 100000 in
set_option maxHeartbeats 4000000 in
theorem k_X9_undo {l : Launch} {σ : ES}  {out : (Int32 × ES)} (h : e_X9_undo σ = some out) : MK l yX9_undo cX9_undo 1 (some .int) 2 [.ref 0] (mkS σ) (some (.int out.1)) (mkS out.2) := by
  unfold e_X9_undo at h
  refine mw_entry (own := RX9) (ini := false) (L := [(0, .ref 0)]) (by decide +kernel) rfl (fun h => nomatch h) rfl (Nat.le_of_ble_eq_true rfl) (Nat.le_of_ble_eq_true rfl) (fun E => ?_)
  refine mw_aload_n dX9_undo_0 0 rfl ?_
  refine ev_getZ fd_RX9_354_8 dX9_undo_1 rfl rfl ?_
  refine mw_if_ne (tgt := 13) dX9_undo_4 (by decide) (fun hc => ?_) (fun hc => ?_)
  · have h := mie hc h
    refine mw_aload_n dX9_undo_13 0 rfl ?_
    refine ev_getR (q := 1) fd_RX9_12_8 dX9_undo_14 rfl rfl rfl ?_
    refine mw_aload_n dX9_undo_17 0 rfl ?_
    refine ev_getR (q := 10) fd_RX9_16_8 dX9_undo_18 rfl rfl rfl ?_
    obtain ⟨r1, e2, h⟩ := mbd h
    refine mv_callV_v (As := [.ref 10]) (ci := 0) lkV_RX9_231_yX1_become dX9_undo_21 (k_X1_become_1_10 e2) rfl rfl rfl rfl (Nat.le_of_ble_eq_true rfl) (by decide) (by decide) ?_
    refine mw_aload_n dX9_undo_24 0 rfl ?_
    refine ev_getR (q := 1) fd_RX9_12_8 dX9_undo_25 rfl rfl rfl ?_
    refine ev_getI fd_RX9_83_0 dX9_undo_28 rfl rfl ?_
    exact mw_iret dX9_undo_31 rfl (ers_im h) rfl rfl
  · have h := mit hc h
    refine mw_aload_n dX9_undo_7 0 rfl ?_
    refine mw_iconst (v := 3) dX9_undo_8 (by decide) ?_
    obtain ⟨r3, e4, h⟩ := mbd h
    refine mv_callV_i (As := [.int (3 : Int32)]) (ci := 8) lkV_RX9_79_yX9_finding dX9_undo_9 (k_X9_finding e4) rfl rfl rfl rfl (Nat.le_of_ble_eq_true rfl) (by decide) (by decide) ?_
    exact mw_iret dX9_undo_12 rfl (ers_im h) rfl rfl

theorem dX9_tear_0 : decode cX9_tear 0 = .ok (.aload_n 0, 1) := by decide +kernel
theorem dX9_tear_1 : decode cX9_tear 1 = .ok (.getfield 354, 3) := by decide +kernel
theorem dX9_tear_4 : decode cX9_tear 4 = .ok (.ifCond .eq 7, 3) := by decide +kernel
theorem dX9_tear_7 : decode cX9_tear 7 = .ok (.iconst 1, 1) := by decide +kernel
theorem dX9_tear_8 : decode cX9_tear 8 = .ok (.goto 4, 3) := by decide +kernel
theorem dX9_tear_11 : decode cX9_tear 11 = .ok (.iconst 0, 1) := by decide +kernel
theorem dX9_tear_12 : decode cX9_tear 12 = .ok (.istore_n 1, 1) := by decide +kernel
theorem dX9_tear_13 : decode cX9_tear 13 = .ok (.aload_n 0, 1) := by decide +kernel
theorem dX9_tear_14 : decode cX9_tear 14 = .ok (.iconst 0, 1) := by decide +kernel
theorem dX9_tear_15 : decode cX9_tear 15 = .ok (.putfield 354, 3) := by decide +kernel
theorem dX9_tear_18 : decode cX9_tear 18 = .ok (.iload_n 1, 1) := by decide +kernel
theorem dX9_tear_19 : decode cX9_tear 19 = .ok (.ireturn, 1) := by decide +kernel
def e_X9_tear (σ : ES) : Option (Int32 × ES) := if (eI σ 0 3) = 0 then (some ((0 : Int32), (uI σ 0 3 (0 : Int32)))) else (some ((1 : Int32), (uI σ 0 3 (0 : Int32))))
set_option maxRecDepth 100000 in
set_option maxHeartbeats 4000000 in
theorem k_X9_tear {l : Launch} {σ : ES}  {out : (Int32 × ES)} (h : e_X9_tear σ = some out) : MK l yX9_tear cX9_tear 2 (some .int) 1 [.ref 0] (mkS σ) (some (.int out.1)) (mkS out.2) := by
  unfold e_X9_tear at h
  refine mw_entry (own := RX9) (ini := false) (L := [(0, .ref 0)]) (by decide +kernel) rfl (fun h => nomatch h) rfl (Nat.le_of_ble_eq_true rfl) (Nat.le_of_ble_eq_true rfl) (fun E => ?_)
  refine mw_aload_n dX9_tear_0 0 rfl ?_
  refine ev_getZ fd_RX9_354_8 dX9_tear_1 rfl rfl ?_
  refine mw_if_eq (tgt := 11) dX9_tear_4 (by decide) (fun hc => ?_) (fun hc => ?_)
  · have h := mit hc h
    refine mw_iconst (v := 0) dX9_tear_11 (by decide) ?_
    refine mw_istore_n (L' := [(1, .int (0 : Int32)), (0, .ref 0)]) dX9_tear_12 rfl (by decide) rfl ?_
    refine mw_aload_n dX9_tear_13 1 rfl ?_
    refine mw_iconst (v := 0) dX9_tear_14 (by decide) ?_
    refine ev_putZ fw_RX9_354_8 dX9_tear_15 rfl rfl (by decide) ?_
    refine mw_iload_n dX9_tear_18 0 rfl ?_
    exact mw_iret dX9_tear_19 rfl (ers_im h) rfl rfl
  · have h := mie hc h
    refine mw_iconst (v := 1) dX9_tear_7 (by decide) ?_
    refine mw_goto (tgt := 12) dX9_tear_8 (by decide) ?_
    refine mw_istore_n (L' := [(1, .int (1 : Int32)), (0, .ref 0)]) dX9_tear_12 rfl (by decide) rfl ?_
    refine mw_aload_n dX9_tear_13 1 rfl ?_
    refine mw_iconst (v := 0) dX9_tear_14 (by decide) ?_
    refine ev_putZ fw_RX9_354_8 dX9_tear_15 rfl rfl (by decide) ?_
    refine mw_iload_n dX9_tear_18 0 rfl ?_
    exact mw_iret dX9_tear_19 rfl (ers_im h) rfl rfl

theorem dX1_shutWays_0 : decode cX1_shutWays 0 = .ok (.iconst 0, 1) := by decide +kernel
theorem dX1_shutWays_1 : decode cX1_shutWays 1 = .ok (.istore_n 1, 1) := by decide +kernel
theorem dX1_shutWays_2 : decode cX1_shutWays 2 = .ok (.iconst 0, 1) := by decide +kernel
theorem dX1_shutWays_3 : decode cX1_shutWays 3 = .ok (.istore_n 2, 1) := by decide +kernel
theorem dX1_shutWays_4 : decode cX1_shutWays 4 = .ok (.iload_n 2, 1) := by decide +kernel
theorem dX1_shutWays_5 : decode cX1_shutWays 5 = .ok (.aload_n 0, 1) := by decide +kernel
theorem dX1_shutWays_6 : decode cX1_shutWays 6 = .ok (.getfield 44, 3) := by decide +kernel
theorem dX1_shutWays_9 : decode cX1_shutWays 9 = .ok (.if_icmp .ge 18, 3) := by decide +kernel
theorem dX1_shutWays_12 : decode cX1_shutWays 12 = .ok (.iload_n 1, 1) := by decide +kernel
theorem dX1_shutWays_13 : decode cX1_shutWays 13 = .ok (.aload_n 0, 1) := by decide +kernel
theorem dX1_shutWays_14 : decode cX1_shutWays 14 = .ok (.getfield 31, 3) := by decide +kernel
theorem dX1_shutWays_17 : decode cX1_shutWays 17 = .ok (.iload_n 2, 1) := by decide +kernel
theorem dX1_shutWays_18 : decode cX1_shutWays 18 = .ok (.iaload, 1) := by decide +kernel
theorem dX1_shutWays_19 : decode cX1_shutWays 19 = .ok (.iadd, 1) := by decide +kernel
theorem dX1_shutWays_20 : decode cX1_shutWays 20 = .ok (.istore_n 1, 1) := by decide +kernel
theorem dX1_shutWays_21 : decode cX1_shutWays 21 = .ok (.iinc 2 1, 3) := by decide +kernel
theorem dX1_shutWays_24 : decode cX1_shutWays 24 = .ok (.goto (-20), 3) := by decide +kernel
theorem dX1_shutWays_27 : decode cX1_shutWays 27 = .ok (.iload_n 1, 1) := by decide +kernel
theorem dX1_shutWays_28 : decode cX1_shutWays 28 = .ok (.ireturn, 1) := by decide +kernel
def e_X1_shutWays_1_L4 (σ : ES) : Nat → Int32 → Int32 → Option Int32
  | 0, _, _ => none
  | n + 1, x1, x2 => if (eI σ 1 2) ≤ x2 then (some x1) else (if mib x2 14 = true then (e_X1_shutWays_1_L4 σ n (x1 + (eI σ 7 x2.toNatClampNeg)) (x2 + 1)) else none)
set_option maxRecDepth 100000 in
set_option maxHeartbeats 4000000 in
theorem p_X1_shutWays_1_L4 {l : Launch} {E : MX} {out : Int32} {σ : ES}  : ∀ (n : Nat) (x1 : Int32) (x2 : Int32), e_X1_shutWays_1_L4 σ n x1 x2 = some out → MV l E cX1_shutWays RX1 3 (some .int) 1 (82, (some (.int out)), mkS σ) (mkS σ) 4 [(0, .ref 1), (1, .int x1), (2, .int x2)] [] := by
  intro n
  induction n with
  | zero =>
    intro x1 x2 h
    exact nomatch h
  | succ n ih =>
    intro x1 x2 h
    rw [e_X1_shutWays_1_L4] at h
    refine mw_iload_n dX1_shutWays_4 2 rfl ?_
    refine mw_aload_n dX1_shutWays_5 0 rfl ?_
    refine ev_getI fd_RX1_44_0 dX1_shutWays_6 rfl rfl ?_
    refine mw_icmp_ge (tgt := 27) dX1_shutWays_9 (by decide) (fun hc => ?_) (fun hc => ?_)
    · have h := mit hc h
      refine mw_iload_n dX1_shutWays_27 1 rfl ?_
      exact mw_iret dX1_shutWays_28 rfl (ers_i h) rfl rfl
    · have h := mie hc h
      refine mw_iload_n dX1_shutWays_12 1 rfl ?_
      refine mw_aload_n dX1_shutWays_13 0 rfl ?_
      refine ev_getR (q := 7) fd_RX1_31_0 dX1_shutWays_14 rfl rfl rfl ?_
      refine mw_iload_n dX1_shutWays_17 2 rfl ?_
      obtain ⟨m1, h⟩ := mif h
      refine ev_iald dX1_shutWays_18 (by decide) rfl m1 ?_
      refine mw_iadd dX1_shutWays_19 ?_
      refine mw_istore_n (L' := [(1, .int (x1 + (eI σ 7 x2.toNatClampNeg))), (0, .ref 1), (2, .int x2)]) dX1_shutWays_20 rfl (by decide) rfl ?_
      refine mw_iinc (v := (x2 + 1)) (L' := [(2, .int (x2 + 1)), (1, .int (x1 + (eI σ 7 x2.toNatClampNeg))), (0, .ref 1)]) dX1_shutWays_21 2 rfl rfl (by decide) rfl ?_
      refine mw_goto (tgt := 4) dX1_shutWays_24 (by decide) ?_
      exact mw_sub (L' := [(0, .ref 1), (1, .int (x1 + (eI σ 7 x2.toNatClampNeg))), (2, .int (x2 + 1))]) [2, 1, 0] rfl (ih _ _ h)
def e_X1_shutWays_1 (σ : ES) : Option Int32 := e_X1_shutWays_1_L4 σ mN (0 : Int32) (0 : Int32)
set_option maxRecDepth 100000 in
set_option maxHeartbeats 4000000 in
theorem k_X1_shutWays_1 {l : Launch} {σ : ES}  {out : Int32} (h : e_X1_shutWays_1 σ = some out) : MK l yX1_shutWays cX1_shutWays 3 (some .int) 1 [.ref 1] (mkS σ) (some (.int out)) (mkS σ) := by
  unfold e_X1_shutWays_1 at h
  refine mw_entry (own := RX1) (ini := false) (L := [(0, .ref 1)]) (by decide +kernel) rfl (fun h => nomatch h) rfl (Nat.le_of_ble_eq_true rfl) (Nat.le_of_ble_eq_true rfl) (fun E => ?_)
  refine mw_iconst (v := 0) dX1_shutWays_0 (by decide) ?_
  refine mw_istore_n (L' := [(1, .int (0 : Int32)), (0, .ref 1)]) dX1_shutWays_1 rfl (by decide) rfl ?_
  refine mw_iconst (v := 0) dX1_shutWays_2 (by decide) ?_
  refine mw_istore_n (L' := [(2, .int (0 : Int32)), (1, .int (0 : Int32)), (0, .ref 1)]) dX1_shutWays_3 rfl (by decide) rfl ?_
  exact mw_sub (L' := [(0, .ref 1), (1, .int (0 : Int32)), (2, .int (0 : Int32))]) [2, 1, 0] rfl (p_X1_shutWays_1_L4  mN _ _ h)

theorem dX9_count_0 : decode cX9_count 0 = .ok (.iload_n 1, 1) := by decide +kernel
theorem dX9_count_1 : decode cX9_count 1 = .ok (.tableswitch 87 0 5 #[39, 47, 55, 63, 71, 79], 39) := by decide +kernel
theorem dX9_count_40 : decode cX9_count 40 = .ok (.aload_n 0, 1) := by decide +kernel
theorem dX9_count_41 : decode cX9_count 41 = .ok (.getfield 12, 3) := by decide +kernel
theorem dX9_count_44 : decode cX9_count 44 = .ok (.getfield 93, 3) := by decide +kernel
theorem dX9_count_47 : decode cX9_count 47 = .ok (.ireturn, 1) := by decide +kernel
theorem dX9_count_48 : decode cX9_count 48 = .ok (.aload_n 0, 1) := by decide +kernel
theorem dX9_count_49 : decode cX9_count 49 = .ok (.getfield 12, 3) := by decide +kernel
theorem dX9_count_52 : decode cX9_count 52 = .ok (.getfield 83, 3) := by decide +kernel
theorem dX9_count_55 : decode cX9_count 55 = .ok (.ireturn, 1) := by decide +kernel
theorem dX9_count_56 : decode cX9_count 56 = .ok (.aload_n 0, 1) := by decide +kernel
theorem dX9_count_57 : decode cX9_count 57 = .ok (.getfield 12, 3) := by decide +kernel
theorem dX9_count_60 : decode cX9_count 60 = .ok (.getfield 148, 3) := by decide +kernel
theorem dX9_count_63 : decode cX9_count 63 = .ok (.ireturn, 1) := by decide +kernel
theorem dX9_count_64 : decode cX9_count 64 = .ok (.aload_n 0, 1) := by decide +kernel
theorem dX9_count_65 : decode cX9_count 65 = .ok (.getfield 12, 3) := by decide +kernel
theorem dX9_count_68 : decode cX9_count 68 = .ok (.invokevirtual 358, 3) := by decide +kernel
theorem dX9_count_71 : decode cX9_count 71 = .ok (.ireturn, 1) := by decide +kernel
theorem dX9_count_72 : decode cX9_count 72 = .ok (.aload_n 0, 1) := by decide +kernel
theorem dX9_count_73 : decode cX9_count 73 = .ok (.getfield 12, 3) := by decide +kernel
theorem dX9_count_76 : decode cX9_count 76 = .ok (.getfield 96, 3) := by decide +kernel
theorem dX9_count_79 : decode cX9_count 79 = .ok (.ireturn, 1) := by decide +kernel
theorem dX9_count_80 : decode cX9_count 80 = .ok (.aload_n 0, 1) := by decide +kernel
theorem dX9_count_81 : decode cX9_count 81 = .ok (.getfield 60, 3) := by decide +kernel
theorem dX9_count_84 : decode cX9_count 84 = .ok (.getfield 321, 3) := by decide +kernel
theorem dX9_count_87 : decode cX9_count 87 = .ok (.ireturn, 1) := by decide +kernel
theorem dX9_count_88 : decode cX9_count 88 = .ok (.aload_n 0, 1) := by decide +kernel
theorem dX9_count_89 : decode cX9_count 89 = .ok (.iconst 0, 1) := by decide +kernel
theorem dX9_count_90 : decode cX9_count 90 = .ok (.invokevirtual 79, 3) := by decide +kernel
theorem dX9_count_93 : decode cX9_count 93 = .ok (.ireturn, 1) := by decide +kernel
def e_X9_count (a1 : Int32) (σ : ES) : Option (Int32 × ES) := if a1 = 0 then (some ((eI σ 1 0), σ)) else (if a1 = 1 then (some ((eI σ 1 2), σ)) else (if a1 = 2 then (some ((eI σ 1 9), σ)) else (if a1 = 3 then ((e_X1_shutWays_1 σ).bind (fun r1 => some (r1, σ))) else (if a1 = 4 then (some ((eI σ 1 1), σ)) else (if a1 = 5 then (some ((eI σ 57 0), σ)) else ((e_X9_finding (0 : Int32) σ).bind (fun r3 => some (r3.1, r3.2))))))))
set_option maxRecDepth 100000 in
set_option maxHeartbeats 4000000 in
theorem k_X9_count {l : Launch} {σ : ES} {a1 : Int32} {out : (Int32 × ES)} (h : e_X9_count a1 σ = some out) : MK l yX9_count cX9_count 2 (some .int) 2 [.ref 0, .int a1] (mkS σ) (some (.int out.1)) (mkS out.2) := by
  unfold e_X9_count at h
  refine mw_entry (own := RX9) (ini := false) (L := [(0, .ref 0), (1, .int a1)]) (by decide +kernel) rfl (fun h => nomatch h) rfl (Nat.le_of_ble_eq_true rfl) (Nat.le_of_ble_eq_true rfl) (fun E => ?_)
  refine mw_iload_n dX9_count_0 1 rfl ?_
  by_cases hs0 : a1 = 0
  · have h := mit hs0 h
    refine mv_tabIn (tgt := 40) 0 dX9_count_1 hs0 (by decide) (by decide) rfl (by decide) ?_
    refine mw_aload_n dX9_count_40 0 rfl ?_
    refine ev_getR (q := 1) fd_RX9_12_8 dX9_count_41 rfl rfl rfl ?_
    refine ev_getI fd_RX9_93_0 dX9_count_44 rfl rfl ?_
    exact mw_iret dX9_count_47 rfl (ers_im h) rfl rfl
  have h := mie hs0 h
  by_cases hs1 : a1 = 1
  · have h := mit hs1 h
    refine mv_tabIn (tgt := 48) 1 dX9_count_1 hs1 (by decide) (by decide) rfl (by decide) ?_
    refine mw_aload_n dX9_count_48 0 rfl ?_
    refine ev_getR (q := 1) fd_RX9_12_8 dX9_count_49 rfl rfl rfl ?_
    refine ev_getI fd_RX9_83_0 dX9_count_52 rfl rfl ?_
    exact mw_iret dX9_count_55 rfl (ers_im h) rfl rfl
  have h := mie hs1 h
  by_cases hs2 : a1 = 2
  · have h := mit hs2 h
    refine mv_tabIn (tgt := 56) 2 dX9_count_1 hs2 (by decide) (by decide) rfl (by decide) ?_
    refine mw_aload_n dX9_count_56 0 rfl ?_
    refine ev_getR (q := 1) fd_RX9_12_8 dX9_count_57 rfl rfl rfl ?_
    refine ev_getI fd_RX9_148_0 dX9_count_60 rfl rfl ?_
    exact mw_iret dX9_count_63 rfl (ers_im h) rfl rfl
  have h := mie hs2 h
  by_cases hs3 : a1 = 3
  · have h := mit hs3 h
    refine mv_tabIn (tgt := 64) 3 dX9_count_1 hs3 (by decide) (by decide) rfl (by decide) ?_
    refine mw_aload_n dX9_count_64 0 rfl ?_
    refine ev_getR (q := 1) fd_RX9_12_8 dX9_count_65 rfl rfl rfl ?_
    obtain ⟨r1, e2, h⟩ := mbd h
    refine mv_callV_i (As := []) (ci := 0) lkV_RX9_358_yX1_shutWays dX9_count_68 (k_X1_shutWays_1 e2) rfl rfl rfl rfl (Nat.le_of_ble_eq_true rfl) (by decide) (by decide) ?_
    exact mw_iret dX9_count_71 rfl (ers_im h) rfl rfl
  have h := mie hs3 h
  by_cases hs4 : a1 = 4
  · have h := mit hs4 h
    refine mv_tabIn (tgt := 72) 4 dX9_count_1 hs4 (by decide) (by decide) rfl (by decide) ?_
    refine mw_aload_n dX9_count_72 0 rfl ?_
    refine ev_getR (q := 1) fd_RX9_12_8 dX9_count_73 rfl rfl rfl ?_
    refine ev_getI fd_RX9_96_0 dX9_count_76 rfl rfl ?_
    exact mw_iret dX9_count_79 rfl (ers_im h) rfl rfl
  have h := mie hs4 h
  by_cases hs5 : a1 = 5
  · have h := mit hs5 h
    refine mv_tabIn (tgt := 80) 5 dX9_count_1 hs5 (by decide) (by decide) rfl (by decide) ?_
    refine mw_aload_n dX9_count_80 0 rfl ?_
    refine ev_getR (q := 57) fd_RX9_60_8 dX9_count_81 rfl rfl rfl ?_
    refine ev_getI fd_RX9_321_5 dX9_count_84 rfl rfl ?_
    exact mw_iret dX9_count_87 rfl (ers_im h) rfl rfl
  have h := mie hs5 h
  have g0 := mne32 hs0
  have g1 := mne32 hs1
  have g2 := mne32 hs2
  have g3 := mne32 hs3
  have g4 := mne32 hs4
  have g5 := mne32 hs5
  refine mv_tabOut (tgt := 88) dX9_count_1 (by simp only [mti_0, mti_1, mti_2, mti_3, mti_4, mti_5] at g0 g1 g2 g3 g4 g5; omega) (by decide) ?_
  refine mw_aload_n dX9_count_88 0 rfl ?_
  refine mw_iconst (v := 0) dX9_count_89 (by decide) ?_
  obtain ⟨r3, e4, h⟩ := mbd h
  refine mv_callV_i (As := [.int (0 : Int32)]) (ci := 8) lkV_RX9_79_yX9_finding dX9_count_90 (k_X9_finding e4) rfl rfl rfl rfl (Nat.le_of_ble_eq_true rfl) (by decide) (by decide) ?_
  exact mw_iret dX9_count_93 rfl (ers_im h) rfl rfl

theorem dX9_status_0 : decode cX9_status 0 = .ok (.iload_n 1, 1) := by decide +kernel
theorem dX9_status_1 : decode cX9_status 1 = .ok (.iconst (-1), 1) := by decide +kernel
theorem dX9_status_2 : decode cX9_status 2 = .ok (.bipush 8, 2) := by decide +kernel
theorem dX9_status_4 : decode cX9_status 4 = .ok (.invokestatic 75, 3) := by decide +kernel
theorem dX9_status_7 : decode cX9_status 7 = .ok (.ifCond .ne 9, 3) := by decide +kernel
theorem dX9_status_10 : decode cX9_status 10 = .ok (.aload_n 0, 1) := by decide +kernel
theorem dX9_status_11 : decode cX9_status 11 = .ok (.iconst 0, 1) := by decide +kernel
theorem dX9_status_12 : decode cX9_status 12 = .ok (.invokevirtual 79, 3) := by decide +kernel
theorem dX9_status_15 : decode cX9_status 15 = .ok (.ireturn, 1) := by decide +kernel
theorem dX9_status_16 : decode cX9_status 16 = .ok (.iload_n 1, 1) := by decide +kernel
theorem dX9_status_17 : decode cX9_status 17 = .ok (.ifCond .lt 10, 3) := by decide +kernel
theorem dX9_status_20 : decode cX9_status 20 = .ok (.aload_n 0, 1) := by decide +kernel
theorem dX9_status_21 : decode cX9_status 21 = .ok (.getfield 70, 3) := by decide +kernel
theorem dX9_status_24 : decode cX9_status 24 = .ok (.iload_n 1, 1) := by decide +kernel
theorem dX9_status_25 : decode cX9_status 25 = .ok (.iaload, 1) := by decide +kernel
theorem dX9_status_26 : decode cX9_status 26 = .ok (.ireturn, 1) := by decide +kernel
theorem dX9_status_27 : decode cX9_status 27 = .ok (.iconst 0, 1) := by decide +kernel
theorem dX9_status_28 : decode cX9_status 28 = .ok (.istore_n 2, 1) := by decide +kernel
theorem dX9_status_29 : decode cX9_status 29 = .ok (.iconst 0, 1) := by decide +kernel
theorem dX9_status_30 : decode cX9_status 30 = .ok (.istore_n 3, 1) := by decide +kernel
theorem dX9_status_31 : decode cX9_status 31 = .ok (.iload_n 3, 1) := by decide +kernel
theorem dX9_status_32 : decode cX9_status 32 = .ok (.bipush 9, 2) := by decide +kernel
theorem dX9_status_34 : decode cX9_status 34 = .ok (.if_icmp .ge 18, 3) := by decide +kernel
theorem dX9_status_37 : decode cX9_status 37 = .ok (.iload_n 2, 1) := by decide +kernel
theorem dX9_status_38 : decode cX9_status 38 = .ok (.aload_n 0, 1) := by decide +kernel
theorem dX9_status_39 : decode cX9_status 39 = .ok (.getfield 70, 3) := by decide +kernel
theorem dX9_status_42 : decode cX9_status 42 = .ok (.iload_n 3, 1) := by decide +kernel
theorem dX9_status_43 : decode cX9_status 43 = .ok (.iaload, 1) := by decide +kernel
theorem dX9_status_44 : decode cX9_status 44 = .ok (.iadd, 1) := by decide +kernel
theorem dX9_status_45 : decode cX9_status 45 = .ok (.istore_n 2, 1) := by decide +kernel
theorem dX9_status_46 : decode cX9_status 46 = .ok (.iinc 3 1, 3) := by decide +kernel
theorem dX9_status_49 : decode cX9_status 49 = .ok (.goto (-18), 3) := by decide +kernel
theorem dX9_status_52 : decode cX9_status 52 = .ok (.iload_n 2, 1) := by decide +kernel
theorem dX9_status_53 : decode cX9_status 53 = .ok (.ireturn, 1) := by decide +kernel
def e_X9_status_L31 (a1 : Int32) : Nat → Int32 → Int32 → ES → Option (Int32 × ES)
  | 0, _, _, _ => none
  | n + 1, x2, x3, σ => if (9 : Int32) ≤ x3 then (some (x2, σ)) else (if mib x3 9 = true then (e_X9_status_L31 a1 n (x2 + (eI σ 60 x3.toNatClampNeg)) (x3 + 1) σ) else none)
set_option maxRecDepth 100000 in
set_option maxHeartbeats 4000000 in
theorem p_X9_status_L31 {l : Launch} {E : MX} {out : (Int32 × ES)} {a1 : Int32}  : ∀ (n : Nat) (x2 : Int32) (x3 : Int32) (σ : ES), e_X9_status_L31 a1 n x2 x3 σ = some out → MV l E cX9_status RX9 4 (some .int) 2 (82, (some (.int out.1)), mkS out.2) (mkS σ) 31 [(0, .ref 0), (1, .int a1), (2, .int x2), (3, .int x3)] [] := by
  intro n
  induction n with
  | zero =>
    intro x2 x3 σ h
    exact nomatch h
  | succ n ih =>
    intro x2 x3 σ h
    rw [e_X9_status_L31] at h
    refine mw_iload_n dX9_status_31 3 rfl ?_
    refine mw_bipush (v := 9) dX9_status_32 (by decide) ?_
    refine mw_icmp_ge (tgt := 52) dX9_status_34 (by decide) (fun hc => ?_) (fun hc => ?_)
    · have h := mit hc h
      refine mw_iload_n dX9_status_52 2 rfl ?_
      exact mw_iret dX9_status_53 rfl (ers_im h) rfl rfl
    · have h := mie hc h
      refine mw_iload_n dX9_status_37 2 rfl ?_
      refine mw_aload_n dX9_status_38 0 rfl ?_
      refine ev_getR (q := 60) fd_RX9_70_8 dX9_status_39 rfl rfl rfl ?_
      refine mw_iload_n dX9_status_42 3 rfl ?_
      obtain ⟨m1, h⟩ := mif h
      refine ev_iald dX9_status_43 (by decide) rfl m1 ?_
      refine mw_iadd dX9_status_44 ?_
      refine mw_istore_n (L' := [(2, .int (x2 + (eI σ 60 x3.toNatClampNeg))), (0, .ref 0), (1, .int a1), (3, .int x3)]) dX9_status_45 rfl (by decide) rfl ?_
      refine mw_iinc (v := (x3 + 1)) (L' := [(3, .int (x3 + 1)), (2, .int (x2 + (eI σ 60 x3.toNatClampNeg))), (0, .ref 0), (1, .int a1)]) dX9_status_46 3 rfl rfl (by decide) rfl ?_
      refine mw_goto (tgt := 31) dX9_status_49 (by decide) ?_
      exact mw_sub (L' := [(0, .ref 0), (1, .int a1), (2, .int (x2 + (eI σ 60 x3.toNatClampNeg))), (3, .int (x3 + 1))]) [2, 3, 1, 0] rfl (ih _ _ _ h)
def e_X9_status (a1 : Int32) (σ : ES) : Option (Int32 × ES) := (e_X9_within a1 (-1 : Int32) (8 : Int32)).bind (fun r1 => if r1 = 0 then ((e_X9_finding (0 : Int32) σ).bind (fun r4 => some (r4.1, r4.2))) else (if a1 < 0 then (e_X9_status_L31 a1 mN (0 : Int32) (0 : Int32) σ) else (if mib a1 9 = true then (some ((eI σ 60 a1.toNatClampNeg), σ)) else none)))
set_option maxRecDepth 100000 in
set_option maxHeartbeats 4000000 in
theorem k_X9_status {l : Launch} {σ : ES} {a1 : Int32} {out : (Int32 × ES)} (h : e_X9_status a1 σ = some out) : MK l yX9_status cX9_status 4 (some .int) 2 [.ref 0, .int a1] (mkS σ) (some (.int out.1)) (mkS out.2) := by
  unfold e_X9_status at h
  refine mw_entry (own := RX9) (ini := false) (L := [(0, .ref 0), (1, .int a1)]) (by decide +kernel) rfl (fun h => nomatch h) rfl (Nat.le_of_ble_eq_true rfl) (Nat.le_of_ble_eq_true rfl) (fun E => ?_)
  refine mw_iload_n dX9_status_0 1 rfl ?_
  refine mw_iconst (v := -1) dX9_status_1 (by decide) ?_
  refine mw_bipush (v := 8) dX9_status_2 (by decide) ?_
  obtain ⟨r1, e2, h⟩ := mbd h
  refine mv_callS_i (As := [.int a1, .int (-1 : Int32), .int (8 : Int32)]) lkS_RX9_75_yX9_within dX9_status_4 (k_X9_within e2) rfl rfl (Nat.le_of_ble_eq_true rfl) (by decide) (by decide) ?_
  refine mw_if_ne (tgt := 16) dX9_status_7 (by decide) (fun hc => ?_) (fun hc => ?_)
  · have h := mie hc h
    refine mw_iload_n dX9_status_16 1 rfl ?_
    refine mw_if_lt (tgt := 27) dX9_status_17 (by decide) (fun hc => ?_) (fun hc => ?_)
    · have h := mit hc h
      refine mw_iconst (v := 0) dX9_status_27 (by decide) ?_
      refine mw_istore_n (L' := [(2, .int (0 : Int32)), (0, .ref 0), (1, .int a1)]) dX9_status_28 rfl (by decide) rfl ?_
      refine mw_iconst (v := 0) dX9_status_29 (by decide) ?_
      refine mw_istore_n (L' := [(3, .int (0 : Int32)), (2, .int (0 : Int32)), (0, .ref 0), (1, .int a1)]) dX9_status_30 rfl (by decide) rfl ?_
      exact mw_sub (L' := [(0, .ref 0), (1, .int a1), (2, .int (0 : Int32)), (3, .int (0 : Int32))]) [2, 3, 1, 0] rfl (p_X9_status_L31  mN _ _ _ h)
    · have h := mie hc h
      refine mw_aload_n dX9_status_20 0 rfl ?_
      refine ev_getR (q := 60) fd_RX9_70_8 dX9_status_21 rfl rfl rfl ?_
      refine mw_iload_n dX9_status_24 1 rfl ?_
      obtain ⟨m3, h⟩ := mif h
      refine ev_iald dX9_status_25 (by decide) rfl m3 ?_
      exact mw_iret dX9_status_26 rfl (ers_im h) rfl rfl
  · have h := mit hc h
    refine mw_aload_n dX9_status_10 0 rfl ?_
    refine mw_iconst (v := 0) dX9_status_11 (by decide) ?_
    obtain ⟨r4, e5, h⟩ := mbd h
    refine mv_callV_i (As := [.int (0 : Int32)]) (ci := 8) lkV_RX9_79_yX9_finding dX9_status_12 (k_X9_finding e5) rfl rfl rfl rfl (Nat.le_of_ble_eq_true rfl) (by decide) (by decide) ?_
    exact mw_iret dX9_status_15 rfl (ers_im h) rfl rfl

theorem dX10_at_0 : decode cX10_at 0 = .ok (.aload_n 0, 1) := by decide +kernel
theorem dX10_at_1 : decode cX10_at 1 = .ok (.getfield 19, 3) := by decide +kernel
theorem dX10_at_4 : decode cX10_at 4 = .ok (.bipush 6, 2) := by decide +kernel
theorem dX10_at_6 : decode cX10_at 6 = .ok (.iload_n 1, 1) := by decide +kernel
theorem dX10_at_7 : decode cX10_at 7 = .ok (.imul, 1) := by decide +kernel
theorem dX10_at_8 : decode cX10_at 8 = .ok (.iload_n 2, 1) := by decide +kernel
theorem dX10_at_9 : decode cX10_at 9 = .ok (.iadd, 1) := by decide +kernel
theorem dX10_at_10 : decode cX10_at 10 = .ok (.iaload, 1) := by decide +kernel
theorem dX10_at_11 : decode cX10_at 11 = .ok (.ireturn, 1) := by decide +kernel
def e_X10_at (σ : ES) (a1 : Int32) (a2 : Int32) : Option Int32 := if mib (((6 : Int32) * a1) + a2) 84 = true then (some (eI σ 71 (((6 : Int32) * a1) + a2).toNatClampNeg)) else none
set_option maxRecDepth 100000 in
set_option maxHeartbeats 4000000 in
theorem k_X10_at {l : Launch} {σ : ES} {a1 : Int32} {a2 : Int32} {out : Int32} (h : e_X10_at σ a1 a2 = some out) : MK l yX10_at cX10_at 3 (some .int) 1 [.ref 69, .int a1, .int a2] (mkS σ) (some (.int out)) (mkS σ) := by
  unfold e_X10_at at h
  refine mw_entry (own := RX10) (ini := false) (L := [(0, .ref 69), (1, .int a1), (2, .int a2)]) (by decide +kernel) rfl (fun h => nomatch h) rfl (Nat.le_of_ble_eq_true rfl) (Nat.le_of_ble_eq_true rfl) (fun E => ?_)
  refine mw_aload_n dX10_at_0 0 rfl ?_
  refine ev_getR (q := 71) fd_RX10_19_9 dX10_at_1 rfl rfl rfl ?_
  refine mw_bipush (v := 6) dX10_at_4 (by decide) ?_
  refine mw_iload_n dX10_at_6 1 rfl ?_
  refine mw_imul dX10_at_7 ?_
  refine mw_iload_n dX10_at_8 2 rfl ?_
  refine mw_iadd dX10_at_9 ?_
  obtain ⟨m1, h⟩ := mif h
  refine ev_iald dX10_at_10 (by decide) rfl m1 ?_
  exact mw_iret dX10_at_11 rfl (ers_i h) rfl rfl

theorem dX10_finds_0 : decode cX10_finds 0 = .ok (.aload_n 0, 1) := by decide +kernel
theorem dX10_finds_1 : decode cX10_finds 1 = .ok (.getfield 9, 3) := by decide +kernel
theorem dX10_finds_4 : decode cX10_finds 4 = .ok (.iload_n 1, 1) := by decide +kernel
theorem dX10_finds_5 : decode cX10_finds 5 = .ok (.dup2, 1) := by decide +kernel
theorem dX10_finds_6 : decode cX10_finds 6 = .ok (.iaload, 1) := by decide +kernel
theorem dX10_finds_7 : decode cX10_finds 7 = .ok (.iconst 1, 1) := by decide +kernel
theorem dX10_finds_8 : decode cX10_finds 8 = .ok (.iadd, 1) := by decide +kernel
theorem dX10_finds_9 : decode cX10_finds 9 = .ok (.iastore, 1) := by decide +kernel
theorem dX10_finds_10 : decode cX10_finds 10 = .ok (.ldc 54, 2) := by decide +kernel
theorem dX10_finds_12 : decode cX10_finds 12 = .ok (.iload_n 1, 1) := by decide +kernel
theorem dX10_finds_13 : decode cX10_finds 13 = .ok (.isub, 1) := by decide +kernel
theorem dX10_finds_14 : decode cX10_finds 14 = .ok (.ireturn, 1) := by decide +kernel
def e_X10_finds (a1 : Int32) (σ : ES) : Option (Int32 × ES) := if mib a1 9 = true then (some (((-2000000001 : Int32) - a1), (uI σ 70 a1.toNatClampNeg ((eI σ 70 a1.toNatClampNeg) + (1 : Int32))))) else none
set_option maxRecDepth 100000 in
set_option maxHeartbeats 4000000 in
theorem k_X10_finds {l : Launch} {σ : ES} {a1 : Int32} {out : (Int32 × ES)} (h : e_X10_finds a1 σ = some out) : MK l yX10_finds cX10_finds 2 (some .int) 1 [.ref 69, .int a1] (mkS σ) (some (.int out.1)) (mkS out.2) := by
  unfold e_X10_finds at h
  refine mw_entry (own := RX10) (ini := false) (L := [(0, .ref 69), (1, .int a1)]) (by decide +kernel) rfl (fun h => nomatch h) rfl (Nat.le_of_ble_eq_true rfl) (Nat.le_of_ble_eq_true rfl) (fun E => ?_)
  refine mw_aload_n dX10_finds_0 0 rfl ?_
  refine ev_getR (q := 70) fd_RX10_9_9 dX10_finds_1 rfl rfl rfl ?_
  refine mw_iload_n dX10_finds_4 1 rfl ?_
  refine mw_dup2 dX10_finds_5 rfl rfl ?_
  obtain ⟨m1, h⟩ := mif h
  refine ev_iald dX10_finds_6 (by decide) rfl m1 ?_
  refine mw_iconst (v := 1) dX10_finds_7 (by decide) ?_
  refine mw_iadd dX10_finds_8 ?_
  refine ev_iast dX10_finds_9 (by decide) rfl m1 ?_
  refine mw_ldc dX10_finds_10 wt_588 ?_
  refine mw_iload_n dX10_finds_12 1 rfl ?_
  refine mw_isub dX10_finds_13 ?_
  exact mw_iret dX10_finds_14 rfl (ers_im h) rfl rfl

theorem dX10_in_0 : decode cX10_in 0 = .ok (.lload_n 0, 1) := by decide +kernel
theorem dX10_in_1 : decode cX10_in 1 = .ok (.lload_n 2, 1) := by decide +kernel
theorem dX10_in_2 : decode cX10_in 2 = .ok (.lcmp, 1) := by decide +kernel
theorem dX10_in_3 : decode cX10_in 3 = .ok (.ifCond .lt 14, 3) := by decide +kernel
theorem dX10_in_6 : decode cX10_in 6 = .ok (.lload_n 0, 1) := by decide +kernel
theorem dX10_in_7 : decode cX10_in 7 = .ok (.lload 4, 2) := by decide +kernel
theorem dX10_in_9 : decode cX10_in 9 = .ok (.lcmp, 1) := by decide +kernel
theorem dX10_in_10 : decode cX10_in 10 = .ok (.ifCond .gt 7, 3) := by decide +kernel
theorem dX10_in_13 : decode cX10_in 13 = .ok (.iconst 1, 1) := by decide +kernel
theorem dX10_in_14 : decode cX10_in 14 = .ok (.goto 4, 3) := by decide +kernel
theorem dX10_in_17 : decode cX10_in 17 = .ok (.iconst 0, 1) := by decide +kernel
theorem dX10_in_18 : decode cX10_in 18 = .ok (.ireturn, 1) := by decide +kernel
def e_X10_in (a0 : Int64) (a2 : Int64) (a4 : Int64) : Option Int32 := if a0 < a2 then (some (0 : Int32)) else (if a4 < a0 then (some (0 : Int32)) else (some (1 : Int32)))
set_option maxRecDepth 100000 in
set_option maxHeartbeats 4000000 in
theorem k_X10_in {l : Launch} {σ : ES} {a0 : Int64} {a2 : Int64} {a4 : Int64} {out : Int32} (h : e_X10_in a0 a2 a4 = some out) : MK l yX10_in cX10_in 6 (some .boolean) 1 [.long a0, .long a2, .long a4] (mkS σ) (some (.int out)) (mkS σ) := by
  unfold e_X10_in at h
  refine mw_entry (own := RX10) (ini := false) (L := [(0, .long a0), (2, .long a2), (4, .long a4)]) (by decide +kernel) rfl (fun h => nomatch h) rfl (Nat.le_of_ble_eq_true rfl) (Nat.le_of_ble_eq_true rfl) (fun E => ?_)
  refine mw_lload_n dX10_in_0 0 rfl ?_
  refine mw_lload_n dX10_in_1 1 rfl ?_
  refine mw_lc_lt (tgt := 17) dX10_in_2 dX10_in_3 (by decide) (fun hc => ?_) (fun hc => ?_)
  · have h := mit hc h
    refine mw_iconst (v := 0) dX10_in_17 (by decide) ?_
    exact mw_zret dX10_in_18 rfl (by decide) (ers_i h) rfl rfl
  · have h := mie hc h
    refine mw_lload_n dX10_in_6 0 rfl ?_
    refine mw_lload dX10_in_7 2 rfl ?_
    refine mw_lc_gt (tgt := 17) dX10_in_9 dX10_in_10 (by decide) (fun hc => ?_) (fun hc => ?_)
    · have h := mit hc h
      refine mw_iconst (v := 0) dX10_in_17 (by decide) ?_
      exact mw_zret dX10_in_18 rfl (by decide) (ers_i h) rfl rfl
    · have h := mie hc h
      refine mw_iconst (v := 1) dX10_in_13 (by decide) ?_
      refine mw_goto (tgt := 18) dX10_in_14 (by decide) ?_
      exact mw_zret dX10_in_18 rfl (by decide) (ers_i h) rfl rfl
