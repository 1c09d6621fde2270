/-! ===== methods as functions, and that the machine does so (written by gen/all.py) ===== -/
theorem dX6_next_0 : decode cX6_next 0 = .ok (.aload_n 0, 1) := by decide +kernel
theorem dX6_next_1 : decode cX6_next 1 = .ok (.getfield 23, 3) := by decide +kernel
theorem dX6_next_4 : decode cX6_next 4 = .ok (.aload_n 0, 1) := by decide +kernel
theorem dX6_next_5 : decode cX6_next 5 = .ok (.getfield 15, 3) := by decide +kernel
theorem dX6_next_8 : decode cX6_next 8 = .ok (.if_icmp .ge 30, 3) := by decide +kernel
theorem dX6_next_11 : decode cX6_next 11 = .ok (.aload_n 0, 1) := by decide +kernel
theorem dX6_next_12 : decode cX6_next 12 = .ok (.getfield 9, 3) := by decide +kernel
theorem dX6_next_15 : decode cX6_next 15 = .ok (.aload_n 0, 1) := by decide +kernel
theorem dX6_next_16 : decode cX6_next 16 = .ok (.getfield 23, 3) := by decide +kernel
theorem dX6_next_19 : decode cX6_next 19 = .ok (.iaload, 1) := by decide +kernel
theorem dX6_next_20 : decode cX6_next 20 = .ok (.bipush 32, 2) := by decide +kernel
theorem dX6_next_22 : decode cX6_next 22 = .ok (.if_icmp .ne 16, 3) := by decide +kernel
theorem dX6_next_25 : decode cX6_next 25 = .ok (.aload_n 0, 1) := by decide +kernel
theorem dX6_next_26 : decode cX6_next 26 = .ok (.dup, 1) := by decide +kernel
theorem dX6_next_27 : decode cX6_next 27 = .ok (.getfield 23, 3) := by decide +kernel
theorem dX6_next_30 : decode cX6_next 30 = .ok (.iconst 1, 1) := by decide +kernel
theorem dX6_next_31 : decode cX6_next 31 = .ok (.iadd, 1) := by decide +kernel
theorem dX6_next_32 : decode cX6_next 32 = .ok (.putfield 23, 3) := by decide +kernel
theorem dX6_next_35 : decode cX6_next 35 = .ok (.goto (-35), 3) := by decide +kernel
theorem dX6_next_38 : decode cX6_next 38 = .ok (.aload_n 0, 1) := by decide +kernel
theorem dX6_next_39 : decode cX6_next 39 = .ok (.aload_n 0, 1) := by decide +kernel
theorem dX6_next_40 : decode cX6_next 40 = .ok (.getfield 23, 3) := by decide +kernel
theorem dX6_next_43 : decode cX6_next 43 = .ok (.putfield 33, 3) := by decide +kernel
theorem dX6_next_46 : decode cX6_next 46 = .ok (.aload_n 0, 1) := by decide +kernel
theorem dX6_next_47 : decode cX6_next 47 = .ok (.getfield 33, 3) := by decide +kernel
theorem dX6_next_50 : decode cX6_next 50 = .ok (.aload_n 0, 1) := by decide +kernel
theorem dX6_next_51 : decode cX6_next 51 = .ok (.getfield 15, 3) := by decide +kernel
theorem dX6_next_54 : decode cX6_next 54 = .ok (.if_icmp .lt 11, 3) := by decide +kernel
theorem dX6_next_57 : decode cX6_next 57 = .ok (.aload_n 0, 1) := by decide +kernel
theorem dX6_next_58 : decode cX6_next 58 = .ok (.iconst 0, 1) := by decide +kernel
theorem dX6_next_59 : decode cX6_next 59 = .ok (.putfield 36, 3) := by decide +kernel
theorem dX6_next_62 : decode cX6_next 62 = .ok (.goto 122, 3) := by decide +kernel
theorem dX6_next_65 : decode cX6_next 65 = .ok (.aload_n 0, 1) := by decide +kernel
theorem dX6_next_66 : decode cX6_next 66 = .ok (.getfield 9, 3) := by decide +kernel
theorem dX6_next_69 : decode cX6_next 69 = .ok (.aload_n 0, 1) := by decide +kernel
theorem dX6_next_70 : decode cX6_next 70 = .ok (.getfield 33, 3) := by decide +kernel
theorem dX6_next_73 : decode cX6_next 73 = .ok (.iaload, 1) := by decide +kernel
theorem dX6_next_74 : decode cX6_next 74 = .ok (.invokestatic 135, 3) := by decide +kernel
theorem dX6_next_77 : decode cX6_next 77 = .ok (.ifCond .eq 47, 3) := by decide +kernel
theorem dX6_next_80 : decode cX6_next 80 = .ok (.aload_n 0, 1) := by decide +kernel
theorem dX6_next_81 : decode cX6_next 81 = .ok (.iconst 1, 1) := by decide +kernel
theorem dX6_next_82 : decode cX6_next 82 = .ok (.putfield 36, 3) := by decide +kernel
theorem dX6_next_85 : decode cX6_next 85 = .ok (.aload_n 0, 1) := by decide +kernel
theorem dX6_next_86 : decode cX6_next 86 = .ok (.getfield 23, 3) := by decide +kernel
theorem dX6_next_89 : decode cX6_next 89 = .ok (.aload_n 0, 1) := by decide +kernel
theorem dX6_next_90 : decode cX6_next 90 = .ok (.getfield 15, 3) := by decide +kernel
theorem dX6_next_93 : decode cX6_next 93 = .ok (.if_icmp .ge 91, 3) := by decide +kernel
theorem dX6_next_96 : decode cX6_next 96 = .ok (.aload_n 0, 1) := by decide +kernel
theorem dX6_next_97 : decode cX6_next 97 = .ok (.getfield 9, 3) := by decide +kernel
theorem dX6_next_100 : decode cX6_next 100 = .ok (.aload_n 0, 1) := by decide +kernel
theorem dX6_next_101 : decode cX6_next 101 = .ok (.getfield 23, 3) := by decide +kernel
theorem dX6_next_104 : decode cX6_next 104 = .ok (.iaload, 1) := by decide +kernel
theorem dX6_next_105 : decode cX6_next 105 = .ok (.invokestatic 135, 3) := by decide +kernel
theorem dX6_next_108 : decode cX6_next 108 = .ok (.ifCond .eq 76, 3) := by decide +kernel
theorem dX6_next_111 : decode cX6_next 111 = .ok (.aload_n 0, 1) := by decide +kernel
theorem dX6_next_112 : decode cX6_next 112 = .ok (.dup, 1) := by decide +kernel
theorem dX6_next_113 : decode cX6_next 113 = .ok (.getfield 23, 3) := by decide +kernel
theorem dX6_next_116 : decode cX6_next 116 = .ok (.iconst 1, 1) := by decide +kernel
theorem dX6_next_117 : decode cX6_next 117 = .ok (.iadd, 1) := by decide +kernel
theorem dX6_next_118 : decode cX6_next 118 = .ok (.putfield 23, 3) := by decide +kernel
theorem dX6_next_121 : decode cX6_next 121 = .ok (.goto (-36), 3) := by decide +kernel
theorem dX6_next_124 : decode cX6_next 124 = .ok (.aload_n 0, 1) := by decide +kernel
theorem dX6_next_125 : decode cX6_next 125 = .ok (.getfield 9, 3) := by decide +kernel
theorem dX6_next_128 : decode cX6_next 128 = .ok (.aload_n 0, 1) := by decide +kernel
theorem dX6_next_129 : decode cX6_next 129 = .ok (.getfield 33, 3) := by decide +kernel
theorem dX6_next_132 : decode cX6_next 132 = .ok (.iaload, 1) := by decide +kernel
theorem dX6_next_133 : decode cX6_next 133 = .ok (.invokestatic 138, 3) := by decide +kernel
theorem dX6_next_136 : decode cX6_next 136 = .ok (.ifCond .eq 15, 3) := by decide +kernel
theorem dX6_next_139 : decode cX6_next 139 = .ok (.aload_n 0, 1) := by decide +kernel
theorem dX6_next_140 : decode cX6_next 140 = .ok (.iconst 2, 1) := by decide +kernel
theorem dX6_next_141 : decode cX6_next 141 = .ok (.putfield 36, 3) := by decide +kernel
theorem dX6_next_144 : decode cX6_next 144 = .ok (.aload_n 0, 1) := by decide +kernel
theorem dX6_next_145 : decode cX6_next 145 = .ok (.invokevirtual 141, 3) := by decide +kernel
theorem dX6_next_148 : decode cX6_next 148 = .ok (.goto 36, 3) := by decide +kernel
theorem dX6_next_151 : decode cX6_next 151 = .ok (.aload_n 0, 1) := by decide +kernel
theorem dX6_next_152 : decode cX6_next 152 = .ok (.aload_n 0, 1) := by decide +kernel
theorem dX6_next_153 : decode cX6_next 153 = .ok (.getfield 9, 3) := by decide +kernel
theorem dX6_next_156 : decode cX6_next 156 = .ok (.aload_n 0, 1) := by decide +kernel
theorem dX6_next_157 : decode cX6_next 157 = .ok (.getfield 33, 3) := by decide +kernel
theorem dX6_next_160 : decode cX6_next 160 = .ok (.iaload, 1) := by decide +kernel
theorem dX6_next_161 : decode cX6_next 161 = .ok (.bipush 59, 2) := by decide +kernel
theorem dX6_next_163 : decode cX6_next 163 = .ok (.if_icmp .ne 7, 3) := by decide +kernel
theorem dX6_next_166 : decode cX6_next 166 = .ok (.iconst 3, 1) := by decide +kernel
theorem dX6_next_167 : decode cX6_next 167 = .ok (.goto 4, 3) := by decide +kernel
theorem dX6_next_170 : decode cX6_next 170 = .ok (.iconst 4, 1) := by decide +kernel
theorem dX6_next_171 : decode cX6_next 171 = .ok (.putfield 36, 3) := by decide +kernel
theorem dX6_next_174 : decode cX6_next 174 = .ok (.aload_n 0, 1) := by decide +kernel
theorem dX6_next_175 : decode cX6_next 175 = .ok (.dup, 1) := by decide +kernel
theorem dX6_next_176 : decode cX6_next 176 = .ok (.getfield 23, 3) := by decide +kernel
theorem dX6_next_179 : decode cX6_next 179 = .ok (.iconst 1, 1) := by decide +kernel
theorem dX6_next_180 : decode cX6_next 180 = .ok (.iadd, 1) := by decide +kernel
theorem dX6_next_181 : decode cX6_next 181 = .ok (.putfield 23, 3) := by decide +kernel
theorem dX6_next_184 : decode cX6_next 184 = .ok (.return_, 1) := by decide +kernel
def f_X6_next_J171 (a0 : Nat) (s0 : Nat) (s1 : Int32) (σ : MSt) : Option MSt := if mob 5 s0 = true then (if mob 5 a0 = true then (some (muI (muI σ s0 3 s1) a0 5 ((mmI (muI σ s0 3 s1) a0 5) + (1 : Int32)))) else none) else none
set_option maxRecDepth 100000 in
set_option maxHeartbeats 4000000 in
theorem p_X6_next_J171 {l : Launch} {E : MX} {out : MSt} {a0 : Nat}  {s0 : Nat} {s1 : Int32} {σ : MSt} (h : f_X6_next_J171 a0 s0 s1 σ = some out) : MV l E cX6_next RX6 1 none 3 (82, none, out) σ 171 [(0, .ref a0)] [.int s1, .ref s0] := by
  unfold f_X6_next_J171 at h
  obtain ⟨m1, h⟩ := mif h
  refine mv_putI fw_RX6_36_5 dX6_next_171 m1 rfl ?_
  refine mw_aload_n dX6_next_174 0 rfl ?_
  refine mw_dup dX6_next_175 rfl ?_
  obtain ⟨m2, h⟩ := mif h
  refine mv_getI fd_RX6_23_5 dX6_next_176 m2 rfl ?_
  refine mw_iconst (v := 1) dX6_next_179 (by decide) ?_
  refine mw_iadd dX6_next_180 ?_
  refine mv_putI fw_RX6_23_5 dX6_next_181 m2 rfl ?_
  exact mw_vret dX6_next_184 rfl (mrs_vm h) rfl rfl
def f_X6_next_L85 (a0 : Nat) : Nat → MSt → Option MSt
  | 0, _ => none
  | n + 1, σ => if mob 5 a0 = true then (if (mmI σ a0 0) ≤ (mmI σ a0 5) then (some σ) else ((mmR σ a0 1).bind (fun q2 => if mix 0 q2 (mmI σ a0 5) = true then ((f_X6_isLetter (mmI σ q2 (mmI σ a0 5).toNatClampNeg)).bind (fun r5 => if r5 = 0 then (some σ) else (f_X6_next_L85 a0 n (muI σ a0 5 ((mmI σ a0 5) + (1 : Int32)))))) else none))) else none
set_option maxRecDepth 100000 in
set_option maxHeartbeats 4000000 in
theorem p_X6_next_L85 {l : Launch} {E : MX} {out : MSt} {a0 : Nat}  : ∀ (n : Nat) (σ : MSt), f_X6_next_L85 a0 n σ = some out → MV l E cX6_next RX6 1 none 3 (82, none, out) σ 85 [(0, .ref a0)] [] := by
  intro n
  induction n with
  | zero =>
    intro σ h
    exact nomatch h
  | succ n ih =>
    intro σ h
    rw [f_X6_next_L85] at h
    refine mw_aload_n dX6_next_85 0 rfl ?_
    obtain ⟨m1, h⟩ := mif h
    refine mv_getI fd_RX6_23_5 dX6_next_86 m1 rfl ?_
    refine mw_aload_n dX6_next_89 0 rfl ?_
    refine mv_getI fd_RX6_15_5 dX6_next_90 m1 rfl ?_
    refine mw_icmp_ge (tgt := 184) dX6_next_93 (by decide) (fun hc => ?_) (fun hc => ?_)
    · have h := mit hc h
      exact mw_vret dX6_next_184 rfl (mrs_vm h) rfl rfl
    · have h := mie hc h
      refine mw_aload_n dX6_next_96 0 rfl ?_
      obtain ⟨q2, e3, h⟩ := mbd h
      refine mv_getR fd_RX6_9_5 dX6_next_97 m1 rfl e3 ?_
      refine mw_aload_n dX6_next_100 0 rfl ?_
      refine mv_getI fd_RX6_23_5 dX6_next_101 m1 rfl ?_
      obtain ⟨m4, h⟩ := mif h
      refine mv_iald dX6_next_104 m4 ?_
      obtain ⟨r5, e6, h⟩ := mbd h
      refine mv_callS_i (As := [.int (mmI σ q2 (mmI σ a0 5).toNatClampNeg)]) lkS_RX6_135_yX6_isLetter dX6_next_105 (k_X6_isLetter e6) rfl rfl (Nat.le_of_ble_eq_true rfl) (by decide) (by decide) ?_
      refine mw_if_eq (tgt := 184) dX6_next_108 (by decide) (fun hc => ?_) (fun hc => ?_)
      · have h := mit hc h
        exact mw_vret dX6_next_184 rfl (mrs_vm h) rfl rfl
      · have h := mie hc h
        refine mw_aload_n dX6_next_111 0 rfl ?_
        refine mw_dup dX6_next_112 rfl ?_
        refine mv_getI fd_RX6_23_5 dX6_next_113 m1 rfl ?_
        refine mw_iconst (v := 1) dX6_next_116 (by decide) ?_
        refine mw_iadd dX6_next_117 ?_
        refine mv_putI fw_RX6_23_5 dX6_next_118 m1 rfl ?_
        refine mw_goto (tgt := 85) dX6_next_121 (by decide) ?_
        exact mw_sub (L' := [(0, .ref a0)]) [0] rfl (ih _ h)
def f_X6_next_J38 (a0 : Nat) (σ : MSt) : Option MSt := if mob 5 a0 = true then (if (mmI (muI σ a0 4 (mmI σ a0 5)) a0 4) < (mmI (muI σ a0 4 (mmI σ a0 5)) a0 0) then ((mmR (muI σ a0 4 (mmI σ a0 5)) a0 1).bind (fun q2 => if mix 0 q2 (mmI (muI σ a0 4 (mmI σ a0 5)) a0 4) = true then ((f_X6_isLetter (mmI (muI σ a0 4 (mmI σ a0 5)) q2 (mmI (muI σ a0 4 (mmI σ a0 5)) a0 4).toNatClampNeg)).bind (fun r5 => if r5 = 0 then ((f_X6_isDigit (mmI (muI σ a0 4 (mmI σ a0 5)) q2 (mmI (muI σ a0 4 (mmI σ a0 5)) a0 4).toNatClampNeg)).bind (fun r7 => if r7 = 0 then (if (mmI (muI σ a0 4 (mmI σ a0 5)) q2 (mmI (muI σ a0 4 (mmI σ a0 5)) a0 4).toNatClampNeg) = (59 : Int32) then (f_X6_next_J171 a0 a0 (3 : Int32) (muI σ a0 4 (mmI σ a0 5))) else (f_X6_next_J171 a0 a0 (4 : Int32) (muI σ a0 4 (mmI σ a0 5)))) else ((f_X6_takeDigits a0 (muI (muI σ a0 4 (mmI σ a0 5)) a0 3 (2 : Int32))).bind (fun r9 => some r9)))) else (f_X6_next_L85 a0 mN (muI (muI σ a0 4 (mmI σ a0 5)) a0 3 (1 : Int32))))) else none)) else (some (muI (muI σ a0 4 (mmI σ a0 5)) a0 3 (0 : Int32)))) else none
set_option maxRecDepth 100000 in
set_option maxHeartbeats 4000000 in
theorem p_X6_next_J38 {l : Launch} {E : MX} {out : MSt} {a0 : Nat}  {σ : MSt} (h : f_X6_next_J38 a0 σ = some out) : MV l E cX6_next RX6 1 none 3 (82, none, out) σ 38 [(0, .ref a0)] [] := by
  unfold f_X6_next_J38 at h
  refine mw_aload_n dX6_next_38 0 rfl ?_
  refine mw_aload_n dX6_next_39 0 rfl ?_
  obtain ⟨m1, h⟩ := mif h
  refine mv_getI fd_RX6_23_5 dX6_next_40 m1 rfl ?_
  refine mv_putI fw_RX6_33_5 dX6_next_43 m1 rfl ?_
  refine mw_aload_n dX6_next_46 0 rfl ?_
  refine mv_getI fd_RX6_33_5 dX6_next_47 m1 rfl ?_
  refine mw_aload_n dX6_next_50 0 rfl ?_
  refine mv_getI fd_RX6_15_5 dX6_next_51 m1 rfl ?_
  refine mw_icmp_lt (tgt := 65) dX6_next_54 (by decide) (fun hc => ?_) (fun hc => ?_)
  · have h := mit hc h
    refine mw_aload_n dX6_next_65 0 rfl ?_
    obtain ⟨q2, e3, h⟩ := mbd h
    refine mv_getR fd_RX6_9_5 dX6_next_66 m1 rfl e3 ?_
    refine mw_aload_n dX6_next_69 0 rfl ?_
    refine mv_getI fd_RX6_33_5 dX6_next_70 m1 rfl ?_
    obtain ⟨m4, h⟩ := mif h
    refine mv_iald dX6_next_73 m4 ?_
    obtain ⟨r5, e6, h⟩ := mbd h
    refine mv_callS_i (As := [.int (mmI (muI σ a0 4 (mmI σ a0 5)) q2 (mmI (muI σ a0 4 (mmI σ a0 5)) a0 4).toNatClampNeg)]) lkS_RX6_135_yX6_isLetter dX6_next_74 (k_X6_isLetter e6) rfl rfl (Nat.le_of_ble_eq_true rfl) (by decide) (by decide) ?_
    refine mw_if_eq (tgt := 124) dX6_next_77 (by decide) (fun hc => ?_) (fun hc => ?_)
    · have h := mit hc h
      refine mw_aload_n dX6_next_124 0 rfl ?_
      refine mv_getR fd_RX6_9_5 dX6_next_125 m1 rfl e3 ?_
      refine mw_aload_n dX6_next_128 0 rfl ?_
      refine mv_getI fd_RX6_33_5 dX6_next_129 m1 rfl ?_
      refine mv_iald dX6_next_132 m4 ?_
      obtain ⟨r7, e8, h⟩ := mbd h
      refine mv_callS_i (As := [.int (mmI (muI σ a0 4 (mmI σ a0 5)) q2 (mmI (muI σ a0 4 (mmI σ a0 5)) a0 4).toNatClampNeg)]) lkS_RX6_138_yX6_isDigit dX6_next_133 (k_X6_isDigit e8) rfl rfl (Nat.le_of_ble_eq_true rfl) (by decide) (by decide) ?_
      refine mw_if_eq (tgt := 151) dX6_next_136 (by decide) (fun hc => ?_) (fun hc => ?_)
      · have h := mit hc h
        refine mw_aload_n dX6_next_151 0 rfl ?_
        refine mw_aload_n dX6_next_152 0 rfl ?_
        refine mv_getR fd_RX6_9_5 dX6_next_153 m1 rfl e3 ?_
        refine mw_aload_n dX6_next_156 0 rfl ?_
        refine mv_getI fd_RX6_33_5 dX6_next_157 m1 rfl ?_
        refine mv_iald dX6_next_160 m4 ?_
        refine mw_bipush (v := 59) dX6_next_161 (by decide) ?_
        refine mw_icmp_ne (tgt := 170) dX6_next_163 (by decide) (fun hc => ?_) (fun hc => ?_)
        · have h := mie hc h
          refine mw_iconst (v := 4) dX6_next_170 (by decide) ?_
          exact mw_sub (L' := [(0, .ref a0)]) [0] rfl (p_X6_next_J171  h)
        · have h := mit hc h
          refine mw_iconst (v := 3) dX6_next_166 (by decide) ?_
          refine mw_goto (tgt := 171) dX6_next_167 (by decide) ?_
          exact mw_sub (L' := [(0, .ref a0)]) [0] rfl (p_X6_next_J171  h)
      · have h := mie hc h
        refine mw_aload_n dX6_next_139 0 rfl ?_
        refine mw_iconst (v := 2) dX6_next_140 (by decide) ?_
        refine mv_putI fw_RX6_36_5 dX6_next_141 m1 rfl ?_
        refine mw_aload_n dX6_next_144 0 rfl ?_
        obtain ⟨r9, e10, h⟩ := mbd h
        refine mv_callV_v (As := []) lkV_RX6_141_yX6_takeDigits dX6_next_145 (k_X6_takeDigits e10) rfl m1 rfl rfl (Nat.le_of_ble_eq_true rfl) (by decide) (by decide) ?_
        refine mw_goto (tgt := 184) dX6_next_148 (by decide) ?_
        exact mw_vret dX6_next_184 rfl (mrs_vm h) rfl rfl
    · have h := mie hc h
      refine mw_aload_n dX6_next_80 0 rfl ?_
      refine mw_iconst (v := 1) dX6_next_81 (by decide) ?_
      refine mv_putI fw_RX6_36_5 dX6_next_82 m1 rfl ?_
      exact mw_sub (L' := [(0, .ref a0)]) [0] rfl (p_X6_next_L85  mN _ h)
  · have h := mie hc h
    refine mw_aload_n dX6_next_57 0 rfl ?_
    refine mw_iconst (v := 0) dX6_next_58 (by decide) ?_
    refine mv_putI fw_RX6_36_5 dX6_next_59 m1 rfl ?_
    refine mw_goto (tgt := 184) dX6_next_62 (by decide) ?_
    exact mw_vret dX6_next_184 rfl (mrs_vm h) rfl rfl
def f_X6_next_L0 (a0 : Nat) : Nat → MSt → Option MSt
  | 0, _ => none
  | n + 1, σ => if mob 5 a0 = true then (if (mmI σ a0 0) ≤ (mmI σ a0 5) then (f_X6_next_J38 a0 σ) else ((mmR σ a0 1).bind (fun q2 => if mix 0 q2 (mmI σ a0 5) = true then (if (mmI σ q2 (mmI σ a0 5).toNatClampNeg) = (32 : Int32) then (f_X6_next_L0 a0 n (muI σ a0 5 ((mmI σ a0 5) + (1 : Int32)))) else (f_X6_next_J38 a0 σ)) else none))) else none
set_option maxRecDepth 100000 in
set_option maxHeartbeats 4000000 in
theorem p_X6_next_L0 {l : Launch} {E : MX} {out : MSt} {a0 : Nat}  : ∀ (n : Nat) (σ : MSt), f_X6_next_L0 a0 n σ = some out → MV l E cX6_next RX6 1 none 3 (82, none, out) σ 0 [(0, .ref a0)] [] := by
  intro n
  induction n with
  | zero =>
    intro σ h
    exact nomatch h
  | succ n ih =>
    intro σ h
    rw [f_X6_next_L0] at h
    refine mw_aload_n dX6_next_0 0 rfl ?_
    obtain ⟨m1, h⟩ := mif h
    refine mv_getI fd_RX6_23_5 dX6_next_1 m1 rfl ?_
    refine mw_aload_n dX6_next_4 0 rfl ?_
    refine mv_getI fd_RX6_15_5 dX6_next_5 m1 rfl ?_
    refine mw_icmp_ge (tgt := 38) dX6_next_8 (by decide) (fun hc => ?_) (fun hc => ?_)
    · have h := mit hc h
      exact mw_sub (L' := [(0, .ref a0)]) [0] rfl (p_X6_next_J38  h)
    · have h := mie hc h
      refine mw_aload_n dX6_next_11 0 rfl ?_
      obtain ⟨q2, e3, h⟩ := mbd h
      refine mv_getR fd_RX6_9_5 dX6_next_12 m1 rfl e3 ?_
      refine mw_aload_n dX6_next_15 0 rfl ?_
      refine mv_getI fd_RX6_23_5 dX6_next_16 m1 rfl ?_
      obtain ⟨m4, h⟩ := mif h
      refine mv_iald dX6_next_19 m4 ?_
      refine mw_bipush (v := 32) dX6_next_20 (by decide) ?_
      refine mw_icmp_ne (tgt := 38) dX6_next_22 (by decide) (fun hc => ?_) (fun hc => ?_)
      · have h := mie hc h
        exact mw_sub (L' := [(0, .ref a0)]) [0] rfl (p_X6_next_J38  h)
      · have h := mit hc h
        refine mw_aload_n dX6_next_25 0 rfl ?_
        refine mw_dup dX6_next_26 rfl ?_
        refine mv_getI fd_RX6_23_5 dX6_next_27 m1 rfl ?_
        refine mw_iconst (v := 1) dX6_next_30 (by decide) ?_
        refine mw_iadd dX6_next_31 ?_
        refine mv_putI fw_RX6_23_5 dX6_next_32 m1 rfl ?_
        refine mw_goto (tgt := 0) dX6_next_35 (by decide) ?_
        exact mw_sub (L' := [(0, .ref a0)]) [0] rfl (ih _ h)
def f_X6_next (a0 : Nat) (σ : MSt) : Option MSt := if mob 5 a0 = true then (if (mmI σ a0 0) ≤ (mmI σ a0 5) then (f_X6_next_J38 a0 σ) else ((mmR σ a0 1).bind (fun q2 => if mix 0 q2 (mmI σ a0 5) = true then (if (mmI σ q2 (mmI σ a0 5).toNatClampNeg) = (32 : Int32) then (f_X6_next_L0 a0 mN (muI σ a0 5 ((mmI σ a0 5) + (1 : Int32)))) else (f_X6_next_J38 a0 σ)) else none))) else none
set_option maxRecDepth 100000 in
set_option maxHeartbeats 4000000 in
theorem k_X6_next {l : Launch} {σ : MSt} {a0 : Nat} {out : MSt} (h : f_X6_next a0 σ = some out) : MK l yX6_next cX6_next 1 none 3 [.ref a0] σ none out := by
  unfold f_X6_next at h
  refine mw_entry (own := RX6) (ini := false) (L := [(0, .ref a0)]) (by decide +kernel) rfl (fun h => nomatch h) rfl (Nat.le_of_ble_eq_true rfl) (Nat.le_of_ble_eq_true rfl) (fun E => ?_)
  refine mw_aload_n dX6_next_0 0 rfl ?_
  obtain ⟨m1, h⟩ := mif h
  refine mv_getI fd_RX6_23_5 dX6_next_1 m1 rfl ?_
  refine mw_aload_n dX6_next_4 0 rfl ?_
  refine mv_getI fd_RX6_15_5 dX6_next_5 m1 rfl ?_
  refine mw_icmp_ge (tgt := 38) dX6_next_8 (by decide) (fun hc => ?_) (fun hc => ?_)
  · have h := mit hc h
    exact mw_sub (L' := [(0, .ref a0)]) [0] rfl (p_X6_next_J38  h)
  · have h := mie hc h
    refine mw_aload_n dX6_next_11 0 rfl ?_
    obtain ⟨q2, e3, h⟩ := mbd h
    refine mv_getR fd_RX6_9_5 dX6_next_12 m1 rfl e3 ?_
    refine mw_aload_n dX6_next_15 0 rfl ?_
    refine mv_getI fd_RX6_23_5 dX6_next_16 m1 rfl ?_
    obtain ⟨m4, h⟩ := mif h
    refine mv_iald dX6_next_19 m4 ?_
    refine mw_bipush (v := 32) dX6_next_20 (by decide) ?_
    refine mw_icmp_ne (tgt := 38) dX6_next_22 (by decide) (fun hc => ?_) (fun hc => ?_)
    · have h := mie hc h
      exact mw_sub (L' := [(0, .ref a0)]) [0] rfl (p_X6_next_J38  h)
    · have h := mit hc h
      refine mw_aload_n dX6_next_25 0 rfl ?_
      refine mw_dup dX6_next_26 rfl ?_
      refine mv_getI fd_RX6_23_5 dX6_next_27 m1 rfl ?_
      refine mw_iconst (v := 1) dX6_next_30 (by decide) ?_
      refine mw_iadd dX6_next_31 ?_
      refine mv_putI fw_RX6_23_5 dX6_next_32 m1 rfl ?_
      refine mw_goto (tgt := 0) dX6_next_35 (by decide) ?_
      exact mw_sub (L' := [(0, .ref a0)]) [0] rfl (p_X6_next_L0  mN _ h)

theorem dX6_isNumber_0 : decode cX6_isNumber 0 = .ok (.aload_n 0, 1) := by decide +kernel
theorem dX6_isNumber_1 : decode cX6_isNumber 1 = .ok (.getfield 36, 3) := by decide +kernel
theorem dX6_isNumber_4 : decode cX6_isNumber 4 = .ok (.iconst 2, 1) := by decide +kernel
theorem dX6_isNumber_5 : decode cX6_isNumber 5 = .ok (.if_icmp .ne 19, 3) := by decide +kernel
theorem dX6_isNumber_8 : decode cX6_isNumber 8 = .ok (.aload_n 0, 1) := by decide +kernel
theorem dX6_isNumber_9 : decode cX6_isNumber 9 = .ok (.getfield 74, 3) := by decide +kernel
theorem dX6_isNumber_12 : decode cX6_isNumber 12 = .ok (.iload_n 1, 1) := by decide +kernel
theorem dX6_isNumber_13 : decode cX6_isNumber 13 = .ok (.iload_n 2, 1) := by decide +kernel
theorem dX6_isNumber_14 : decode cX6_isNumber 14 = .ok (.invokestatic 123, 3) := by decide +kernel
theorem dX6_isNumber_17 : decode cX6_isNumber 17 = .ok (.ifCond .eq 7, 3) := by decide +kernel
theorem dX6_isNumber_20 : decode cX6_isNumber 20 = .ok (.iconst 1, 1) := by decide +kernel
theorem dX6_isNumber_21 : decode cX6_isNumber 21 = .ok (.goto 4, 3) := by decide +kernel
theorem dX6_isNumber_24 : decode cX6_isNumber 24 = .ok (.iconst 0, 1) := by decide +kernel
theorem dX6_isNumber_25 : decode cX6_isNumber 25 = .ok (.ireturn, 1) := by decide +kernel
def f_X6_isNumber (σ : MSt) (a0 : Nat) (a1 : Int32) (a2 : Int32) : Option Int32 := if mob 5 a0 = true then (if (mmI σ a0 3) = (2 : Int32) then ((f_X9_within (mmI σ a0 6) a1 a2).bind (fun r2 => if r2 = 0 then (some (0 : Int32)) else (some (1 : Int32)))) else (some (0 : Int32))) else none
set_option maxRecDepth 100000 in
set_option maxHeartbeats 4000000 in
theorem k_X6_isNumber {l : Launch} {σ : MSt} {a0 : Nat} {a1 : Int32} {a2 : Int32} {out : Int32} (h : f_X6_isNumber σ a0 a1 a2 = some out) : MK l yX6_isNumber cX6_isNumber 3 (some .boolean) 2 [.ref a0, .int a1, .int a2] σ (some (.int out)) σ := by
  unfold f_X6_isNumber at h
  refine mw_entry (own := RX6) (ini := false) (L := [(0, .ref a0), (1, .int a1), (2, .int a2)]) (by decide +kernel) rfl (fun h => nomatch h) rfl (Nat.le_of_ble_eq_true rfl) (Nat.le_of_ble_eq_true rfl) (fun E => ?_)
  refine mw_aload_n dX6_isNumber_0 0 rfl ?_
  obtain ⟨m1, h⟩ := mif h
  refine mv_getI fd_RX6_36_5 dX6_isNumber_1 m1 rfl ?_
  refine mw_iconst (v := 2) dX6_isNumber_4 (by decide) ?_
  refine mw_icmp_ne (tgt := 24) dX6_isNumber_5 (by decide) (fun hc => ?_) (fun hc => ?_)
  · have h := mie hc h
    refine mw_iconst (v := 0) dX6_isNumber_24 (by decide) ?_
    exact mw_zret dX6_isNumber_25 rfl (by decide) (mrs_i h) rfl rfl
  · have h := mit hc h
    refine mw_aload_n dX6_isNumber_8 0 rfl ?_
    refine mv_getI fd_RX6_74_5 dX6_isNumber_9 m1 rfl ?_
    refine mw_iload_n dX6_isNumber_12 1 rfl ?_
    refine mw_iload_n dX6_isNumber_13 2 rfl ?_
    obtain ⟨r2, e3, h⟩ := mbd h
    refine mv_callSN_i (As := [.int (mmI σ a0 6), .int a1, .int a2]) lkN_RX6_123_yX9_within dX6_isNumber_14 (k_X9_within e3) rfl rfl (Nat.le_of_ble_eq_true rfl) (by decide) (by decide) ?_
    refine mw_if_eq (tgt := 24) dX6_isNumber_17 (by decide) (fun hc => ?_) (fun hc => ?_)
    · have h := mit hc h
      refine mw_iconst (v := 0) dX6_isNumber_24 (by decide) ?_
      exact mw_zret dX6_isNumber_25 rfl (by decide) (mrs_i h) rfl rfl
    · have h := mie hc h
      refine mw_iconst (v := 1) dX6_isNumber_20 (by decide) ?_
      refine mw_goto (tgt := 25) dX6_isNumber_21 (by decide) ?_
      exact mw_zret dX6_isNumber_25 rfl (by decide) (mrs_i h) rfl rfl

theorem dX6_gainAndTime_0 : decode cX6_gainAndTime 0 = .ok (.aload_n 0, 1) := by decide +kernel
theorem dX6_gainAndTime_1 : decode cX6_gainAndTime 1 = .ok (.iconst 0, 1) := by decide +kernel
theorem dX6_gainAndTime_2 : decode cX6_gainAndTime 2 = .ok (.putfield 85, 3) := by decide +kernel
theorem dX6_gainAndTime_5 : decode cX6_gainAndTime 5 = .ok (.aload_n 0, 1) := by decide +kernel
theorem dX6_gainAndTime_6 : decode cX6_gainAndTime 6 = .ok (.iconst 1, 1) := by decide +kernel
theorem dX6_gainAndTime_7 : decode cX6_gainAndTime 7 = .ok (.putfield 88, 3) := by decide +kernel
theorem dX6_gainAndTime_10 : decode cX6_gainAndTime 10 = .ok (.aload_n 0, 1) := by decide +kernel
theorem dX6_gainAndTime_11 : decode cX6_gainAndTime 11 = .ok (.ldc 106, 2) := by decide +kernel
theorem dX6_gainAndTime_13 : decode cX6_gainAndTime 13 = .ok (.invokevirtual 41, 3) := by decide +kernel
theorem dX6_gainAndTime_16 : decode cX6_gainAndTime 16 = .ok (.istore_n 1, 1) := by decide +kernel
theorem dX6_gainAndTime_17 : decode cX6_gainAndTime 17 = .ok (.iload_n 1, 1) := by decide +kernel
theorem dX6_gainAndTime_18 : decode cX6_gainAndTime 18 = .ok (.ifCond .ne 12, 3) := by decide +kernel
theorem dX6_gainAndTime_21 : decode cX6_gainAndTime 21 = .ok (.aload_n 0, 1) := by decide +kernel
theorem dX6_gainAndTime_22 : decode cX6_gainAndTime 22 = .ok (.ldc 108, 2) := by decide +kernel
theorem dX6_gainAndTime_24 : decode cX6_gainAndTime 24 = .ok (.invokevirtual 41, 3) := by decide +kernel
theorem dX6_gainAndTime_27 : decode cX6_gainAndTime 27 = .ok (.ifCond .eq 43, 3) := by decide +kernel
theorem dX6_gainAndTime_30 : decode cX6_gainAndTime 30 = .ok (.aload_n 0, 1) := by decide +kernel
theorem dX6_gainAndTime_31 : decode cX6_gainAndTime 31 = .ok (.invokevirtual 26, 3) := by decide +kernel
theorem dX6_gainAndTime_34 : decode cX6_gainAndTime 34 = .ok (.aload_n 0, 1) := by decide +kernel
theorem dX6_gainAndTime_35 : decode cX6_gainAndTime 35 = .ok (.iconst 0, 1) := by decide +kernel
theorem dX6_gainAndTime_36 : decode cX6_gainAndTime 36 = .ok (.ldc 109, 2) := by decide +kernel
theorem dX6_gainAndTime_38 : decode cX6_gainAndTime 38 = .ok (.invokevirtual 70, 3) := by decide +kernel
theorem dX6_gainAndTime_41 : decode cX6_gainAndTime 41 = .ok (.ifCond .ne 5, 3) := by decide +kernel
theorem dX6_gainAndTime_44 : decode cX6_gainAndTime 44 = .ok (.iconst 0, 1) := by decide +kernel
theorem dX6_gainAndTime_45 : decode cX6_gainAndTime 45 = .ok (.ireturn, 1) := by decide +kernel
theorem dX6_gainAndTime_46 : decode cX6_gainAndTime 46 = .ok (.aload_n 0, 1) := by decide +kernel
theorem dX6_gainAndTime_47 : decode cX6_gainAndTime 47 = .ok (.iload_n 1, 1) := by decide +kernel
theorem dX6_gainAndTime_48 : decode cX6_gainAndTime 48 = .ok (.ifCond .eq 11, 3) := by decide +kernel
theorem dX6_gainAndTime_51 : decode cX6_gainAndTime 51 = .ok (.aload_n 0, 1) := by decide +kernel
theorem dX6_gainAndTime_52 : decode cX6_gainAndTime 52 = .ok (.getfield 74, 3) := by decide +kernel
theorem dX6_gainAndTime_55 : decode cX6_gainAndTime 55 = .ok (.ineg, 1) := by decide +kernel
theorem dX6_gainAndTime_56 : decode cX6_gainAndTime 56 = .ok (.goto 7, 3) := by decide +kernel
theorem dX6_gainAndTime_59 : decode cX6_gainAndTime 59 = .ok (.aload_n 0, 1) := by decide +kernel
theorem dX6_gainAndTime_60 : decode cX6_gainAndTime 60 = .ok (.getfield 74, 3) := by decide +kernel
theorem dX6_gainAndTime_63 : decode cX6_gainAndTime 63 = .ok (.putfield 85, 3) := by decide +kernel
theorem dX6_gainAndTime_66 : decode cX6_gainAndTime 66 = .ok (.aload_n 0, 1) := by decide +kernel
theorem dX6_gainAndTime_67 : decode cX6_gainAndTime 67 = .ok (.invokevirtual 26, 3) := by decide +kernel
theorem dX6_gainAndTime_70 : decode cX6_gainAndTime 70 = .ok (.aload_n 0, 1) := by decide +kernel
theorem dX6_gainAndTime_71 : decode cX6_gainAndTime 71 = .ok (.ldc 110, 2) := by decide +kernel
theorem dX6_gainAndTime_73 : decode cX6_gainAndTime 73 = .ok (.invokevirtual 41, 3) := by decide +kernel
theorem dX6_gainAndTime_76 : decode cX6_gainAndTime 76 = .ok (.ifCond .eq 31, 3) := by decide +kernel
theorem dX6_gainAndTime_79 : decode cX6_gainAndTime 79 = .ok (.aload_n 0, 1) := by decide +kernel
theorem dX6_gainAndTime_80 : decode cX6_gainAndTime 80 = .ok (.invokevirtual 26, 3) := by decide +kernel
theorem dX6_gainAndTime_83 : decode cX6_gainAndTime 83 = .ok (.aload_n 0, 1) := by decide +kernel
theorem dX6_gainAndTime_84 : decode cX6_gainAndTime 84 = .ok (.iconst 1, 1) := by decide +kernel
theorem dX6_gainAndTime_85 : decode cX6_gainAndTime 85 = .ok (.ldc 109, 2) := by decide +kernel
theorem dX6_gainAndTime_87 : decode cX6_gainAndTime 87 = .ok (.invokevirtual 70, 3) := by decide +kernel
theorem dX6_gainAndTime_90 : decode cX6_gainAndTime 90 = .ok (.ifCond .ne 5, 3) := by decide +kernel
theorem dX6_gainAndTime_93 : decode cX6_gainAndTime 93 = .ok (.iconst 0, 1) := by decide +kernel
theorem dX6_gainAndTime_94 : decode cX6_gainAndTime 94 = .ok (.ireturn, 1) := by decide +kernel
theorem dX6_gainAndTime_95 : decode cX6_gainAndTime 95 = .ok (.aload_n 0, 1) := by decide +kernel
theorem dX6_gainAndTime_96 : decode cX6_gainAndTime 96 = .ok (.aload_n 0, 1) := by decide +kernel
theorem dX6_gainAndTime_97 : decode cX6_gainAndTime 97 = .ok (.getfield 74, 3) := by decide +kernel
theorem dX6_gainAndTime_100 : decode cX6_gainAndTime 100 = .ok (.putfield 88, 3) := by decide +kernel
theorem dX6_gainAndTime_103 : decode cX6_gainAndTime 103 = .ok (.aload_n 0, 1) := by decide +kernel
theorem dX6_gainAndTime_104 : decode cX6_gainAndTime 104 = .ok (.invokevirtual 26, 3) := by decide +kernel
theorem dX6_gainAndTime_107 : decode cX6_gainAndTime 107 = .ok (.iconst 1, 1) := by decide +kernel
theorem dX6_gainAndTime_108 : decode cX6_gainAndTime 108 = .ok (.ireturn, 1) := by decide +kernel
def f_X6_gainAndTime_J70 (a0 : Nat) (σ : MSt) : Option (Int32 × MSt) := (f_X6_isWord σ a0 (1000 + 11)).bind (fun r1 => if mob 5 a0 = true then (if r1 = 0 then (some ((1 : Int32), σ)) else ((f_X6_next a0 σ).bind (fun r4 => (f_X6_isNumber r4 a0 (1 : Int32) (999999 : Int32)).bind (fun r6 => if r6 = 0 then (some ((0 : Int32), r4)) else ((f_X6_next a0 (muI r4 a0 8 (mmI r4 a0 6))).bind (fun r8 => some ((1 : Int32), r8))))))) else none)
set_option maxRecDepth 100000 in
set_option maxHeartbeats 4000000 in
theorem p_X6_gainAndTime_J70 {l : Launch} {E : MX} {out : (Int32 × MSt)} {a0 : Nat}  {σ : MSt} (h : f_X6_gainAndTime_J70 a0 σ = some out) : MV l E cX6_gainAndTime RX6 2 (some .boolean) 6 (82, (some (.int out.1)), out.2) σ 70 [(0, .ref a0)] [] := by
  unfold f_X6_gainAndTime_J70 at h
  refine mw_aload_n dX6_gainAndTime_70 0 rfl ?_
  refine mv_ldcS 11 (by decide) rfl rfl dX6_gainAndTime_71 ?_
  obtain ⟨r1, e2, h⟩ := mbd h
  obtain ⟨m3, h⟩ := mif h
  refine mv_callV_i (As := [.ref (1000 + 11)]) lkV_RX6_41_yX6_isWord dX6_gainAndTime_73 (k_X6_isWord e2) rfl m3 rfl rfl (Nat.le_of_ble_eq_true rfl) (by decide) (by decide) ?_
  refine mw_if_eq (tgt := 107) dX6_gainAndTime_76 (by decide) (fun hc => ?_) (fun hc => ?_)
  · have h := mit hc h
    refine mw_iconst (v := 1) dX6_gainAndTime_107 (by decide) ?_
    exact mw_zret dX6_gainAndTime_108 rfl (by decide) (mrs_im h) rfl rfl
  · have h := mie hc h
    refine mw_aload_n dX6_gainAndTime_79 0 rfl ?_
    obtain ⟨r4, e5, h⟩ := mbd h
    refine mv_callV_v (As := []) lkV_RX6_26_yX6_next dX6_gainAndTime_80 (k_X6_next e5) rfl m3 rfl rfl (Nat.le_of_ble_eq_true rfl) (by decide) (by decide) ?_
    refine mw_aload_n dX6_gainAndTime_83 0 rfl ?_
    refine mw_iconst (v := 1) dX6_gainAndTime_84 (by decide) ?_
    refine mw_ldc dX6_gainAndTime_85 wt_534 ?_
    obtain ⟨r6, e7, h⟩ := mbd h
    refine mv_callV_i (As := [.int (1 : Int32), .int (999999 : Int32)]) lkV_RX6_70_yX6_isNumber dX6_gainAndTime_87 (k_X6_isNumber e7) rfl m3 rfl rfl (Nat.le_of_ble_eq_true rfl) (by decide) (by decide) ?_
    refine mw_if_ne (tgt := 95) dX6_gainAndTime_90 (by decide) (fun hc => ?_) (fun hc => ?_)
    · have h := mie hc h
      refine mw_aload_n dX6_gainAndTime_95 0 rfl ?_
      refine mw_aload_n dX6_gainAndTime_96 0 rfl ?_
      refine mv_getI fd_RX6_74_5 dX6_gainAndTime_97 m3 rfl ?_
      refine mv_putI fw_RX6_88_5 dX6_gainAndTime_100 m3 rfl ?_
      refine mw_aload_n dX6_gainAndTime_103 0 rfl ?_
      obtain ⟨r8, e9, h⟩ := mbd h
      refine mv_callV_v (As := []) lkV_RX6_26_yX6_next dX6_gainAndTime_104 (k_X6_next e9) rfl m3 rfl rfl (Nat.le_of_ble_eq_true rfl) (by decide) (by decide) ?_
      refine mw_iconst (v := 1) dX6_gainAndTime_107 (by decide) ?_
      exact mw_zret dX6_gainAndTime_108 rfl (by decide) (mrs_im h) rfl rfl
    · have h := mit hc h
      refine mw_iconst (v := 0) dX6_gainAndTime_93 (by decide) ?_
      exact mw_zret dX6_gainAndTime_94 rfl (by decide) (mrs_im h) rfl rfl
def f_X6_gainAndTime_J63 (a0 : Nat) (s0 : Nat) (s1 : Int32) (σ : MSt) : Option (Int32 × MSt) := if mob 5 s0 = true then ((f_X6_next a0 (muI σ s0 7 s1)).bind (fun r2 => if mob 5 a0 = true then (f_X6_gainAndTime_J70 a0 r2) else none)) else none
set_option maxRecDepth 100000 in
set_option maxHeartbeats 4000000 in
theorem p_X6_gainAndTime_J63 {l : Launch} {E : MX} {out : (Int32 × MSt)} {a0 : Nat}  {s0 : Nat} {s1 : Int32} {σ : MSt} (h : f_X6_gainAndTime_J63 a0 s0 s1 σ = some out) : MV l E cX6_gainAndTime RX6 2 (some .boolean) 6 (82, (some (.int out.1)), out.2) σ 63 [(0, .ref a0)] [.int s1, .ref s0] := by
  unfold f_X6_gainAndTime_J63 at h
  obtain ⟨m1, h⟩ := mif h
  refine mv_putI fw_RX6_85_5 dX6_gainAndTime_63 m1 rfl ?_
  refine mw_aload_n dX6_gainAndTime_66 0 rfl ?_
  obtain ⟨r2, e3, h⟩ := mbd h
  obtain ⟨m4, h⟩ := mif h
  refine mv_callV_v (As := []) lkV_RX6_26_yX6_next dX6_gainAndTime_67 (k_X6_next e3) rfl m4 rfl rfl (Nat.le_of_ble_eq_true rfl) (by decide) (by decide) ?_
  exact mw_sub (L' := [(0, .ref a0)]) [0] rfl (p_X6_gainAndTime_J70  h)
def f_X6_gainAndTime_J30 (a0 : Nat) (x1 : Int32) (σ : MSt) : Option (Int32 × MSt) := (f_X6_next a0 σ).bind (fun r1 => if mob 5 a0 = true then ((f_X6_isNumber r1 a0 (0 : Int32) (999999 : Int32)).bind (fun r4 => if r4 = 0 then (some ((0 : Int32), r1)) else (if x1 = 0 then (f_X6_gainAndTime_J63 a0 a0 (mmI r1 a0 6) r1) else (f_X6_gainAndTime_J63 a0 a0 (-(mmI r1 a0 6)) r1)))) else none)
set_option maxRecDepth 100000 in
set_option maxHeartbeats 4000000 in
theorem p_X6_gainAndTime_J30 {l : Launch} {E : MX} {out : (Int32 × MSt)} {a0 : Nat}  {x1 : Int32} {σ : MSt} (h : f_X6_gainAndTime_J30 a0 x1 σ = some out) : MV l E cX6_gainAndTime RX6 2 (some .boolean) 6 (82, (some (.int out.1)), out.2) σ 30 [(0, .ref a0), (1, .int x1)] [] := by
  unfold f_X6_gainAndTime_J30 at h
  refine mw_aload_n dX6_gainAndTime_30 0 rfl ?_
  obtain ⟨r1, e2, h⟩ := mbd h
  obtain ⟨m3, h⟩ := mif h
  refine mv_callV_v (As := []) lkV_RX6_26_yX6_next dX6_gainAndTime_31 (k_X6_next e2) rfl m3 rfl rfl (Nat.le_of_ble_eq_true rfl) (by decide) (by decide) ?_
  refine mw_aload_n dX6_gainAndTime_34 0 rfl ?_
  refine mw_iconst (v := 0) dX6_gainAndTime_35 (by decide) ?_
  refine mw_ldc dX6_gainAndTime_36 wt_534 ?_
  obtain ⟨r4, e5, h⟩ := mbd h
  refine mv_callV_i (As := [.int (0 : Int32), .int (999999 : Int32)]) lkV_RX6_70_yX6_isNumber dX6_gainAndTime_38 (k_X6_isNumber e5) rfl m3 rfl rfl (Nat.le_of_ble_eq_true rfl) (by decide) (by decide) ?_
  refine mw_if_ne (tgt := 46) dX6_gainAndTime_41 (by decide) (fun hc => ?_) (fun hc => ?_)
  · have h := mie hc h
    refine mw_aload_n dX6_gainAndTime_46 0 rfl ?_
    refine mw_iload_n dX6_gainAndTime_47 1 rfl ?_
    refine mw_if_eq (tgt := 59) dX6_gainAndTime_48 (by decide) (fun hc => ?_) (fun hc => ?_)
    · have h := mit hc h
      refine mw_aload_n dX6_gainAndTime_59 0 rfl ?_
      refine mv_getI fd_RX6_74_5 dX6_gainAndTime_60 m3 rfl ?_
      exact mw_sub (L' := [(0, .ref a0)]) [0] rfl (p_X6_gainAndTime_J63  h)
    · have h := mie hc h
      refine mw_aload_n dX6_gainAndTime_51 0 rfl ?_
      refine mv_getI fd_RX6_74_5 dX6_gainAndTime_52 m3 rfl ?_
      refine mw_ineg dX6_gainAndTime_55 ?_
      refine mw_goto (tgt := 63) dX6_gainAndTime_56 (by decide) ?_
      exact mw_sub (L' := [(0, .ref a0)]) [0] rfl (p_X6_gainAndTime_J63  h)
  · have h := mit hc h
    refine mw_iconst (v := 0) dX6_gainAndTime_44 (by decide) ?_
    exact mw_zret dX6_gainAndTime_45 rfl (by decide) (mrs_im h) rfl rfl
def f_X6_gainAndTime (a0 : Nat) (σ : MSt) : Option (Int32 × MSt) := if mob 5 a0 = true then ((f_X6_isWord (muI (muI σ a0 7 (0 : Int32)) a0 8 (1 : Int32)) a0 (1000 + 9)).bind (fun r2 => if r2 = 0 then ((f_X6_isWord (muI (muI σ a0 7 (0 : Int32)) a0 8 (1 : Int32)) a0 (1000 + 10)).bind (fun r4 => if r4 = 0 then (f_X6_gainAndTime_J70 a0 (muI (muI σ a0 7 (0 : Int32)) a0 8 (1 : Int32))) else (f_X6_gainAndTime_J30 a0 r2 (muI (muI σ a0 7 (0 : Int32)) a0 8 (1 : Int32))))) else (f_X6_gainAndTime_J30 a0 r2 (muI (muI σ a0 7 (0 : Int32)) a0 8 (1 : Int32))))) else none
set_option maxRecDepth 100000 in
set_option maxHeartbeats 4000000 in
theorem k_X6_gainAndTime {l : Launch} {σ : MSt} {a0 : Nat} {out : (Int32 × MSt)} (h : f_X6_gainAndTime a0 σ = some out) : MK l yX6_gainAndTime cX6_gainAndTime 2 (some .boolean) 6 [.ref a0] σ (some (.int out.1)) out.2 := by
  unfold f_X6_gainAndTime at h
  refine mw_entry (own := RX6) (ini := false) (L := [(0, .ref a0)]) (by decide +kernel) rfl (fun h => nomatch h) rfl (Nat.le_of_ble_eq_true rfl) (Nat.le_of_ble_eq_true rfl) (fun E => ?_)
  refine mw_aload_n dX6_gainAndTime_0 0 rfl ?_
  refine mw_iconst (v := 0) dX6_gainAndTime_1 (by decide) ?_
  obtain ⟨m1, h⟩ := mif h
  refine mv_putI fw_RX6_85_5 dX6_gainAndTime_2 m1 rfl ?_
  refine mw_aload_n dX6_gainAndTime_5 0 rfl ?_
  refine mw_iconst (v := 1) dX6_gainAndTime_6 (by decide) ?_
  refine mv_putI fw_RX6_88_5 dX6_gainAndTime_7 m1 rfl ?_
  refine mw_aload_n dX6_gainAndTime_10 0 rfl ?_
  refine mv_ldcS 9 (by decide) rfl rfl dX6_gainAndTime_11 ?_
  obtain ⟨r2, e3, h⟩ := mbd h
  refine mv_callV_i (As := [.ref (1000 + 9)]) lkV_RX6_41_yX6_isWord dX6_gainAndTime_13 (k_X6_isWord e3) rfl m1 rfl rfl (Nat.le_of_ble_eq_true rfl) (by decide) (by decide) ?_
  refine mw_istore_n (L' := [(1, .int r2), (0, .ref a0)]) dX6_gainAndTime_16 rfl (by decide) rfl ?_
  refine mw_iload_n dX6_gainAndTime_17 0 rfl ?_
  refine mw_if_ne (tgt := 30) dX6_gainAndTime_18 (by decide) (fun hc => ?_) (fun hc => ?_)
  · have h := mie hc h
    exact mw_sub (L' := [(0, .ref a0), (1, .int r2)]) [1, 0] rfl (p_X6_gainAndTime_J30  h)
  · have h := mit hc h
    refine mw_aload_n dX6_gainAndTime_21 1 rfl ?_
    refine mv_ldcS 10 (by decide) rfl rfl dX6_gainAndTime_22 ?_
    obtain ⟨r4, e5, h⟩ := mbd h
    refine mv_callV_i (As := [.ref (1000 + 10)]) lkV_RX6_41_yX6_isWord dX6_gainAndTime_24 (k_X6_isWord e5) rfl m1 rfl rfl (Nat.le_of_ble_eq_true rfl) (by decide) (by decide) ?_
    refine mw_if_eq (tgt := 70) dX6_gainAndTime_27 (by decide) (fun hc => ?_) (fun hc => ?_)
    · have h := mit hc h
      exact mw_sub (L' := [(0, .ref a0)]) [1] rfl (p_X6_gainAndTime_J70  h)
    · have h := mie hc h
      exact mw_sub (L' := [(0, .ref a0), (1, .int r2)]) [1, 0] rfl (p_X6_gainAndTime_J30  h)

theorem dX6_wayItem_0 : decode cX6_wayItem 0 = .ok (.iload_n 1, 1) := by decide +kernel
theorem dX6_wayItem_1 : decode cX6_wayItem 1 = .ok (.ifCond .lt 15, 3) := by decide +kernel
theorem dX6_wayItem_4 : decode cX6_wayItem 4 = .ok (.aload_n 0, 1) := by decide +kernel
theorem dX6_wayItem_5 : decode cX6_wayItem 5 = .ok (.getfield 19, 3) := by decide +kernel
theorem dX6_wayItem_8 : decode cX6_wayItem 8 = .ok (.getfield 95, 3) := by decide +kernel
theorem dX6_wayItem_11 : decode cX6_wayItem 11 = .ok (.bipush 14, 2) := by decide +kernel
theorem dX6_wayItem_13 : decode cX6_wayItem 13 = .ok (.if_icmp .lt 5, 3) := by decide +kernel
theorem dX6_wayItem_16 : decode cX6_wayItem 16 = .ok (.iconst 0, 1) := by decide +kernel
theorem dX6_wayItem_17 : decode cX6_wayItem 17 = .ok (.ireturn, 1) := by decide +kernel
theorem dX6_wayItem_18 : decode cX6_wayItem 18 = .ok (.aload_n 0, 1) := by decide +kernel
theorem dX6_wayItem_19 : decode cX6_wayItem 19 = .ok (.invokevirtual 26, 3) := by decide +kernel
theorem dX6_wayItem_22 : decode cX6_wayItem 22 = .ok (.aload_n 0, 1) := by decide +kernel
theorem dX6_wayItem_23 : decode cX6_wayItem 23 = .ok (.iconst 0, 1) := by decide +kernel
theorem dX6_wayItem_24 : decode cX6_wayItem 24 = .ok (.aload_n 0, 1) := by decide +kernel
theorem dX6_wayItem_25 : decode cX6_wayItem 25 = .ok (.getfield 19, 3) := by decide +kernel
theorem dX6_wayItem_28 : decode cX6_wayItem 28 = .ok (.getfield 66, 3) := by decide +kernel
theorem dX6_wayItem_31 : decode cX6_wayItem 31 = .ok (.iconst 1, 1) := by decide +kernel
theorem dX6_wayItem_32 : decode cX6_wayItem 32 = .ok (.isub, 1) := by decide +kernel
theorem dX6_wayItem_33 : decode cX6_wayItem 33 = .ok (.invokevirtual 70, 3) := by decide +kernel
theorem dX6_wayItem_36 : decode cX6_wayItem 36 = .ok (.ifCond .ne 5, 3) := by decide +kernel
theorem dX6_wayItem_39 : decode cX6_wayItem 39 = .ok (.iconst 0, 1) := by decide +kernel
theorem dX6_wayItem_40 : decode cX6_wayItem 40 = .ok (.ireturn, 1) := by decide +kernel
theorem dX6_wayItem_41 : decode cX6_wayItem 41 = .ok (.aload_n 0, 1) := by decide +kernel
theorem dX6_wayItem_42 : decode cX6_wayItem 42 = .ok (.getfield 74, 3) := by decide +kernel
theorem dX6_wayItem_45 : decode cX6_wayItem 45 = .ok (.istore_n 2, 1) := by decide +kernel
theorem dX6_wayItem_46 : decode cX6_wayItem 46 = .ok (.aload_n 0, 1) := by decide +kernel
theorem dX6_wayItem_47 : decode cX6_wayItem 47 = .ok (.invokevirtual 26, 3) := by decide +kernel
theorem dX6_wayItem_50 : decode cX6_wayItem 50 = .ok (.aload_n 0, 1) := by decide +kernel
theorem dX6_wayItem_51 : decode cX6_wayItem 51 = .ok (.iconst 0, 1) := by decide +kernel
theorem dX6_wayItem_52 : decode cX6_wayItem 52 = .ok (.aload_n 0, 1) := by decide +kernel
theorem dX6_wayItem_53 : decode cX6_wayItem 53 = .ok (.getfield 19, 3) := by decide +kernel
theorem dX6_wayItem_56 : decode cX6_wayItem 56 = .ok (.getfield 66, 3) := by decide +kernel
theorem dX6_wayItem_59 : decode cX6_wayItem 59 = .ok (.iconst 1, 1) := by decide +kernel
theorem dX6_wayItem_60 : decode cX6_wayItem 60 = .ok (.isub, 1) := by decide +kernel
theorem dX6_wayItem_61 : decode cX6_wayItem 61 = .ok (.invokevirtual 70, 3) := by decide +kernel
theorem dX6_wayItem_64 : decode cX6_wayItem 64 = .ok (.ifCond .eq 11, 3) := by decide +kernel
theorem dX6_wayItem_67 : decode cX6_wayItem 67 = .ok (.aload_n 0, 1) := by decide +kernel
theorem dX6_wayItem_68 : decode cX6_wayItem 68 = .ok (.getfield 74, 3) := by decide +kernel
theorem dX6_wayItem_71 : decode cX6_wayItem 71 = .ok (.iload_n 2, 1) := by decide +kernel
theorem dX6_wayItem_72 : decode cX6_wayItem 72 = .ok (.if_icmp .ne 5, 3) := by decide +kernel
theorem dX6_wayItem_75 : decode cX6_wayItem 75 = .ok (.iconst 0, 1) := by decide +kernel
theorem dX6_wayItem_76 : decode cX6_wayItem 76 = .ok (.ireturn, 1) := by decide +kernel
theorem dX6_wayItem_77 : decode cX6_wayItem 77 = .ok (.aload_n 0, 1) := by decide +kernel
theorem dX6_wayItem_78 : decode cX6_wayItem 78 = .ok (.getfield 74, 3) := by decide +kernel
theorem dX6_wayItem_81 : decode cX6_wayItem 81 = .ok (.istore_n 3, 1) := by decide +kernel
theorem dX6_wayItem_82 : decode cX6_wayItem 82 = .ok (.aload_n 0, 1) := by decide +kernel
theorem dX6_wayItem_83 : decode cX6_wayItem 83 = .ok (.invokevirtual 26, 3) := by decide +kernel
theorem dX6_wayItem_86 : decode cX6_wayItem 86 = .ok (.aload_n 0, 1) := by decide +kernel
theorem dX6_wayItem_87 : decode cX6_wayItem 87 = .ok (.invokevirtual 82, 3) := by decide +kernel
theorem dX6_wayItem_90 : decode cX6_wayItem 90 = .ok (.ifCond .ne 5, 3) := by decide +kernel
theorem dX6_wayItem_93 : decode cX6_wayItem 93 = .ok (.iconst 0, 1) := by decide +kernel
theorem dX6_wayItem_94 : decode cX6_wayItem 94 = .ok (.ireturn, 1) := by decide +kernel
theorem dX6_wayItem_95 : decode cX6_wayItem 95 = .ok (.aload_n 0, 1) := by decide +kernel
theorem dX6_wayItem_96 : decode cX6_wayItem 96 = .ok (.getfield 19, 3) := by decide +kernel
theorem dX6_wayItem_99 : decode cX6_wayItem 99 = .ok (.iload_n 1, 1) := by decide +kernel
theorem dX6_wayItem_100 : decode cX6_wayItem 100 = .ok (.iload_n 2, 1) := by decide +kernel
theorem dX6_wayItem_101 : decode cX6_wayItem 101 = .ok (.iload_n 3, 1) := by decide +kernel
theorem dX6_wayItem_102 : decode cX6_wayItem 102 = .ok (.aload_n 0, 1) := by decide +kernel
theorem dX6_wayItem_103 : decode cX6_wayItem 103 = .ok (.getfield 85, 3) := by decide +kernel
theorem dX6_wayItem_106 : decode cX6_wayItem 106 = .ok (.aload_n 0, 1) := by decide +kernel
theorem dX6_wayItem_107 : decode cX6_wayItem 107 = .ok (.getfield 88, 3) := by decide +kernel
theorem dX6_wayItem_110 : decode cX6_wayItem 110 = .ok (.invokevirtual 98, 3) := by decide +kernel
theorem dX6_wayItem_113 : decode cX6_wayItem 113 = .ok (.istore 4, 2) := by decide +kernel
theorem dX6_wayItem_115 : decode cX6_wayItem 115 = .ok (.aload_n 0, 1) := by decide +kernel
theorem dX6_wayItem_116 : decode cX6_wayItem 116 = .ok (.ldc 102, 2) := by decide +kernel
theorem dX6_wayItem_118 : decode cX6_wayItem 118 = .ok (.invokevirtual 41, 3) := by decide +kernel
theorem dX6_wayItem_121 : decode cX6_wayItem 121 = .ok (.ifCond .eq 18, 3) := by decide +kernel
theorem dX6_wayItem_124 : decode cX6_wayItem 124 = .ok (.aload_n 0, 1) := by decide +kernel
theorem dX6_wayItem_125 : decode cX6_wayItem 125 = .ok (.getfield 19, 3) := by decide +kernel
theorem dX6_wayItem_128 : decode cX6_wayItem 128 = .ok (.getfield 104, 3) := by decide +kernel
theorem dX6_wayItem_131 : decode cX6_wayItem 131 = .ok (.iload 4, 2) := by decide +kernel
theorem dX6_wayItem_133 : decode cX6_wayItem 133 = .ok (.iconst 1, 1) := by decide +kernel
theorem dX6_wayItem_134 : decode cX6_wayItem 134 = .ok (.iastore, 1) := by decide +kernel
theorem dX6_wayItem_135 : decode cX6_wayItem 135 = .ok (.aload_n 0, 1) := by decide +kernel
theorem dX6_wayItem_136 : decode cX6_wayItem 136 = .ok (.invokevirtual 26, 3) := by decide +kernel
theorem dX6_wayItem_139 : decode cX6_wayItem 139 = .ok (.iconst 1, 1) := by decide +kernel
theorem dX6_wayItem_140 : decode cX6_wayItem 140 = .ok (.ireturn, 1) := by decide +kernel
def f_X6_wayItem (a0 : Nat) (a1 : Int32) (σ : MSt) : Option (Int32 × MSt) := if a1 < 0 then (some ((0 : Int32), σ)) else (if mob 5 a0 = true then ((mmR σ a0 2).bind (fun q2 => if mob 0 q2 = true then (if (mmI σ q2 2) < (14 : Int32) then ((f_X6_next a0 σ).bind (fun r5 => (mmR r5 a0 2).bind (fun q7 => if mob 0 q7 = true then ((f_X6_isNumber r5 a0 (0 : Int32) ((mmI r5 q7 0) - (1 : Int32))).bind (fun r10 => if r10 = 0 then (some ((0 : Int32), r5)) else ((f_X6_next a0 r5).bind (fun r12 => (mmR r12 a0 2).bind (fun q14 => if mob 0 q14 = true then ((f_X6_isNumber r12 a0 (0 : Int32) ((mmI r12 q14 0) - (1 : Int32))).bind (fun r17 => if r17 = 0 then (some ((0 : Int32), r12)) else (if (mmI r12 a0 6) = (mmI r5 a0 6) then (some ((0 : Int32), r12)) else ((f_X6_next a0 r12).bind (fun r19 => (f_X6_gainAndTime a0 r19).bind (fun r21 => if r21.1 = 0 then (some ((0 : Int32), r21.2)) else ((mmR r21.2 a0 2).bind (fun q23 => (f_X1_newWay q23 a1 (mmI r5 a0 6) (mmI r12 a0 6) (mmI r21.2 a0 7) (mmI r21.2 a0 8) r21.2).bind (fun r25 => if mob 0 q23 = true then ((f_X6_isWord r25.2 a0 (1000 + 12)).bind (fun r28 => if r28 = 0 then (some ((1 : Int32), r25.2)) else ((mmR r25.2 a0 2).bind (fun q30 => if mob 0 q30 = true then ((mmR r25.2 q30 8).bind (fun q33 => if mix 0 q33 r25.1 = true then ((f_X6_next a0 (muI r25.2 q33 r25.1.toNatClampNeg (1 : Int32))).bind (fun r36 => some ((1 : Int32), r36))) else none)) else none)))) else none))))))))) else none))))) else none))) else (some ((0 : Int32), σ))) else none)) else none)
set_option maxRecDepth 100000 in
set_option maxHeartbeats 4000000 in
theorem k_X6_wayItem {l : Launch} {σ : MSt} {a0 : Nat} {a1 : Int32} {out : (Int32 × MSt)} (h : f_X6_wayItem a0 a1 σ = some out) : MK l yX6_wayItem cX6_wayItem 5 (some .boolean) 7 [.ref a0, .int a1] σ (some (.int out.1)) out.2 := by
  unfold f_X6_wayItem at h
  refine mw_entry (own := RX6) (ini := false) (L := [(0, .ref a0), (1, .int a1)]) (by decide +kernel) rfl (fun h => nomatch h) rfl (Nat.le_of_ble_eq_true rfl) (Nat.le_of_ble_eq_true rfl) (fun E => ?_)
  refine mw_iload_n dX6_wayItem_0 1 rfl ?_
  refine mw_if_lt (tgt := 16) dX6_wayItem_1 (by decide) (fun hc => ?_) (fun hc => ?_)
  · have h := mit hc h
    refine mw_iconst (v := 0) dX6_wayItem_16 (by decide) ?_
    exact mw_zret dX6_wayItem_17 rfl (by decide) (mrs_im h) rfl rfl
  · have h := mie hc h
    refine mw_aload_n dX6_wayItem_4 0 rfl ?_
    obtain ⟨m1, h⟩ := mif h
    obtain ⟨q2, e3, h⟩ := mbd h
    refine mv_getR fd_RX6_19_5 dX6_wayItem_5 m1 rfl e3 ?_
    obtain ⟨m4, h⟩ := mif h
    refine mv_getI fd_RX6_95_0 dX6_wayItem_8 m4 rfl ?_
    refine mw_bipush (v := 14) dX6_wayItem_11 (by decide) ?_
    refine mw_icmp_lt (tgt := 18) dX6_wayItem_13 (by decide) (fun hc => ?_) (fun hc => ?_)
    · have h := mit hc h
      refine mw_aload_n dX6_wayItem_18 0 rfl ?_
      obtain ⟨r5, e6, h⟩ := mbd h
      refine mv_callV_v (As := []) lkV_RX6_26_yX6_next dX6_wayItem_19 (k_X6_next e6) rfl m1 rfl rfl (Nat.le_of_ble_eq_true rfl) (by decide) (by decide) ?_
      refine mw_aload_n dX6_wayItem_22 0 rfl ?_
      refine mw_iconst (v := 0) dX6_wayItem_23 (by decide) ?_
      refine mw_aload_n dX6_wayItem_24 0 rfl ?_
      obtain ⟨q7, e8, h⟩ := mbd h
      refine mv_getR fd_RX6_19_5 dX6_wayItem_25 m1 rfl e8 ?_
      obtain ⟨m9, h⟩ := mif h
      refine mv_getI fd_RX6_66_0 dX6_wayItem_28 m9 rfl ?_
      refine mw_iconst (v := 1) dX6_wayItem_31 (by decide) ?_
      refine mw_isub dX6_wayItem_32 ?_
      obtain ⟨r10, e11, h⟩ := mbd h
      refine mv_callV_i (As := [.int (0 : Int32), .int ((mmI r5 q7 0) - (1 : Int32))]) lkV_RX6_70_yX6_isNumber dX6_wayItem_33 (k_X6_isNumber e11) rfl m1 rfl rfl (Nat.le_of_ble_eq_true rfl) (by decide) (by decide) ?_
      refine mw_if_ne (tgt := 41) dX6_wayItem_36 (by decide) (fun hc => ?_) (fun hc => ?_)
      · have h := mie hc h
        refine mw_aload_n dX6_wayItem_41 0 rfl ?_
        refine mv_getI fd_RX6_74_5 dX6_wayItem_42 m1 rfl ?_
        refine mw_istore_n (L' := [(2, .int (mmI r5 a0 6)), (0, .ref a0), (1, .int a1)]) dX6_wayItem_45 rfl (by decide) rfl ?_
        refine mw_aload_n dX6_wayItem_46 1 rfl ?_
        obtain ⟨r12, e13, h⟩ := mbd h
        refine mv_callV_v (As := []) lkV_RX6_26_yX6_next dX6_wayItem_47 (k_X6_next e13) rfl m1 rfl rfl (Nat.le_of_ble_eq_true rfl) (by decide) (by decide) ?_
        refine mw_aload_n dX6_wayItem_50 1 rfl ?_
        refine mw_iconst (v := 0) dX6_wayItem_51 (by decide) ?_
        refine mw_aload_n dX6_wayItem_52 1 rfl ?_
        obtain ⟨q14, e15, h⟩ := mbd h
        refine mv_getR fd_RX6_19_5 dX6_wayItem_53 m1 rfl e15 ?_
        obtain ⟨m16, h⟩ := mif h
        refine mv_getI fd_RX6_66_0 dX6_wayItem_56 m16 rfl ?_
        refine mw_iconst (v := 1) dX6_wayItem_59 (by decide) ?_
        refine mw_isub dX6_wayItem_60 ?_
        obtain ⟨r17, e18, h⟩ := mbd h
        refine mv_callV_i (As := [.int (0 : Int32), .int ((mmI r12 q14 0) - (1 : Int32))]) lkV_RX6_70_yX6_isNumber dX6_wayItem_61 (k_X6_isNumber e18) rfl m1 rfl rfl (Nat.le_of_ble_eq_true rfl) (by decide) (by decide) ?_
        refine mw_if_eq (tgt := 75) dX6_wayItem_64 (by decide) (fun hc => ?_) (fun hc => ?_)
        · have h := mit hc h
          refine mw_iconst (v := 0) dX6_wayItem_75 (by decide) ?_
          exact mw_zret dX6_wayItem_76 rfl (by decide) (mrs_im h) rfl rfl
        · have h := mie hc h
          refine mw_aload_n dX6_wayItem_67 1 rfl ?_
          refine mv_getI fd_RX6_74_5 dX6_wayItem_68 m1 rfl ?_
          refine mw_iload_n dX6_wayItem_71 0 rfl ?_
          refine mw_icmp_ne (tgt := 77) dX6_wayItem_72 (by decide) (fun hc => ?_) (fun hc => ?_)
          · have h := mie hc h
            refine mw_aload_n dX6_wayItem_77 1 rfl ?_
            refine mv_getI fd_RX6_74_5 dX6_wayItem_78 m1 rfl ?_
            refine mw_istore_n (L' := [(3, .int (mmI r12 a0 6)), (2, .int (mmI r5 a0 6)), (0, .ref a0), (1, .int a1)]) dX6_wayItem_81 rfl (by decide) rfl ?_
            refine mw_aload_n dX6_wayItem_82 2 rfl ?_
            obtain ⟨r19, e20, h⟩ := mbd h
            refine mv_callV_v (As := []) lkV_RX6_26_yX6_next dX6_wayItem_83 (k_X6_next e20) rfl m1 rfl rfl (Nat.le_of_ble_eq_true rfl) (by decide) (by decide) ?_
            refine mw_aload_n dX6_wayItem_86 2 rfl ?_
            obtain ⟨r21, e22, h⟩ := mbd h
            refine mv_callV_i (As := []) lkV_RX6_82_yX6_gainAndTime dX6_wayItem_87 (k_X6_gainAndTime e22) rfl m1 rfl rfl (Nat.le_of_ble_eq_true rfl) (by decide) (by decide) ?_
            refine mw_if_ne (tgt := 95) dX6_wayItem_90 (by decide) (fun hc => ?_) (fun hc => ?_)
            · have h := mie hc h
              refine mw_aload_n dX6_wayItem_95 2 rfl ?_
              obtain ⟨q23, e24, h⟩ := mbd h
              refine mv_getR fd_RX6_19_5 dX6_wayItem_96 m1 rfl e24 ?_
              refine mw_iload_n dX6_wayItem_99 3 rfl ?_
              refine mw_iload_n dX6_wayItem_100 1 rfl ?_
              refine mw_iload_n dX6_wayItem_101 0 rfl ?_
              refine mw_aload_n dX6_wayItem_102 2 rfl ?_
              refine mv_getI fd_RX6_85_5 dX6_wayItem_103 m1 rfl ?_
              refine mw_aload_n dX6_wayItem_106 2 rfl ?_
              refine mv_getI fd_RX6_88_5 dX6_wayItem_107 m1 rfl ?_
              obtain ⟨r25, e26, h⟩ := mbd h
              obtain ⟨m27, h⟩ := mif h
              refine mv_callV_i (As := [.int a1, .int (mmI r5 a0 6), .int (mmI r12 a0 6), .int (mmI r21.2 a0 7), .int (mmI r21.2 a0 8)]) lkV_RX6_98_yX1_newWay dX6_wayItem_110 (k_X1_newWay e26) rfl m27 rfl rfl (Nat.le_of_ble_eq_true rfl) (by decide) (by decide) ?_
              refine mw_istore (L' := [(4, .int r25.1), (3, .int (mmI r12 a0 6)), (2, .int (mmI r5 a0 6)), (0, .ref a0), (1, .int a1)]) dX6_wayItem_113 (by decide) rfl ?_
              refine mw_aload_n dX6_wayItem_115 3 rfl ?_
              refine mv_ldcS 12 (by decide) rfl rfl dX6_wayItem_116 ?_
              obtain ⟨r28, e29, h⟩ := mbd h
              refine mv_callV_i (As := [.ref (1000 + 12)]) lkV_RX6_41_yX6_isWord dX6_wayItem_118 (k_X6_isWord e29) rfl m1 rfl rfl (Nat.le_of_ble_eq_true rfl) (by decide) (by decide) ?_
              refine mw_if_eq (tgt := 139) dX6_wayItem_121 (by decide) (fun hc => ?_) (fun hc => ?_)
              · have h := mit hc h
                refine mw_iconst (v := 1) dX6_wayItem_139 (by decide) ?_
                exact mw_zret dX6_wayItem_140 rfl (by decide) (mrs_im h) rfl rfl
              · have h := mie hc h
                refine mw_aload_n dX6_wayItem_124 3 rfl ?_
                obtain ⟨q30, e31, h⟩ := mbd h
                refine mv_getR fd_RX6_19_5 dX6_wayItem_125 m1 rfl e31 ?_
                obtain ⟨m32, h⟩ := mif h
                obtain ⟨q33, e34, h⟩ := mbd h
                refine mv_getR fd_RX6_104_0 dX6_wayItem_128 m32 rfl e34 ?_
                refine mw_iload dX6_wayItem_131 0 rfl ?_
                refine mw_iconst (v := 1) dX6_wayItem_133 (by decide) ?_
                obtain ⟨m35, h⟩ := mif h
                refine mv_iast dX6_wayItem_134 m35 ?_
                refine mw_aload_n dX6_wayItem_135 3 rfl ?_
                obtain ⟨r36, e37, h⟩ := mbd h
                refine mv_callV_v (As := []) lkV_RX6_26_yX6_next dX6_wayItem_136 (k_X6_next e37) rfl m1 rfl rfl (Nat.le_of_ble_eq_true rfl) (by decide) (by decide) ?_
                refine mw_iconst (v := 1) dX6_wayItem_139 (by decide) ?_
                exact mw_zret dX6_wayItem_140 rfl (by decide) (mrs_im h) rfl rfl
            · have h := mit hc h
              refine mw_iconst (v := 0) dX6_wayItem_93 (by decide) ?_
              exact mw_zret dX6_wayItem_94 rfl (by decide) (mrs_im h) rfl rfl
          · have h := mit hc h
            refine mw_iconst (v := 0) dX6_wayItem_75 (by decide) ?_
            exact mw_zret dX6_wayItem_76 rfl (by decide) (mrs_im h) rfl rfl
      · have h := mit hc h
        refine mw_iconst (v := 0) dX6_wayItem_39 (by decide) ?_
        exact mw_zret dX6_wayItem_40 rfl (by decide) (mrs_im h) rfl rfl
    · have h := mie hc h
      refine mw_iconst (v := 0) dX6_wayItem_16 (by decide) ?_
      exact mw_zret dX6_wayItem_17 rfl (by decide) (mrs_im h) rfl rfl

theorem dX6_thingItem_0 : decode cX6_thingItem 0 = .ok (.aload_n 0, 1) := by decide +kernel
theorem dX6_thingItem_1 : decode cX6_thingItem 1 = .ok (.getfield 19, 3) := by decide +kernel
theorem dX6_thingItem_4 : decode cX6_thingItem 4 = .ok (.getfield 79, 3) := by decide +kernel
theorem dX6_thingItem_7 : decode cX6_thingItem 7 = .ok (.bipush 12, 2) := by decide +kernel
theorem dX6_thingItem_9 : decode cX6_thingItem 9 = .ok (.if_icmp .lt 5, 3) := by decide +kernel
theorem dX6_thingItem_12 : decode cX6_thingItem 12 = .ok (.iconst 0, 1) := by decide +kernel
theorem dX6_thingItem_13 : decode cX6_thingItem 13 = .ok (.ireturn, 1) := by decide +kernel
theorem dX6_thingItem_14 : decode cX6_thingItem 14 = .ok (.aload_n 0, 1) := by decide +kernel
theorem dX6_thingItem_15 : decode cX6_thingItem 15 = .ok (.invokevirtual 26, 3) := by decide +kernel
theorem dX6_thingItem_18 : decode cX6_thingItem 18 = .ok (.aload_n 0, 1) := by decide +kernel
theorem dX6_thingItem_19 : decode cX6_thingItem 19 = .ok (.invokevirtual 82, 3) := by decide +kernel
theorem dX6_thingItem_22 : decode cX6_thingItem 22 = .ok (.ifCond .ne 5, 3) := by decide +kernel
theorem dX6_thingItem_25 : decode cX6_thingItem 25 = .ok (.iconst 0, 1) := by decide +kernel
theorem dX6_thingItem_26 : decode cX6_thingItem 26 = .ok (.ireturn, 1) := by decide +kernel
theorem dX6_thingItem_27 : decode cX6_thingItem 27 = .ok (.aload_n 0, 1) := by decide +kernel
theorem dX6_thingItem_28 : decode cX6_thingItem 28 = .ok (.getfield 19, 3) := by decide +kernel
theorem dX6_thingItem_31 : decode cX6_thingItem 31 = .ok (.aload_n 0, 1) := by decide +kernel
theorem dX6_thingItem_32 : decode cX6_thingItem 32 = .ok (.getfield 85, 3) := by decide +kernel
theorem dX6_thingItem_35 : decode cX6_thingItem 35 = .ok (.aload_n 0, 1) := by decide +kernel
theorem dX6_thingItem_36 : decode cX6_thingItem 36 = .ok (.getfield 88, 3) := by decide +kernel
theorem dX6_thingItem_39 : decode cX6_thingItem 39 = .ok (.invokevirtual 91, 3) := by decide +kernel
theorem dX6_thingItem_42 : decode cX6_thingItem 42 = .ok (.pop, 1) := by decide +kernel
theorem dX6_thingItem_43 : decode cX6_thingItem 43 = .ok (.iconst 1, 1) := by decide +kernel
theorem dX6_thingItem_44 : decode cX6_thingItem 44 = .ok (.ireturn, 1) := by decide +kernel
def f_X6_thingItem (a0 : Nat) (σ : MSt) : Option (Int32 × MSt) := if mob 5 a0 = true then ((mmR σ a0 2).bind (fun q2 => if mob 0 q2 = true then (if (mmI σ q2 9) < (12 : Int32) then ((f_X6_next a0 σ).bind (fun r5 => (f_X6_gainAndTime a0 r5).bind (fun r7 => if r7.1 = 0 then (some ((0 : Int32), r7.2)) else ((mmR r7.2 a0 2).bind (fun q9 => (f_X1_newThing q9 (mmI r7.2 a0 7) (mmI r7.2 a0 8) r7.2).bind (fun r11 => if mob 0 q9 = true then (some ((1 : Int32), r11.2)) else none)))))) else (some ((0 : Int32), σ))) else none)) else none
set_option maxRecDepth 100000 in
set_option maxHeartbeats 4000000 in
theorem k_X6_thingItem {l : Launch} {σ : MSt} {a0 : Nat} {out : (Int32 × MSt)} (h : f_X6_thingItem a0 σ = some out) : MK l yX6_thingItem cX6_thingItem 1 (some .boolean) 7 [.ref a0] σ (some (.int out.1)) out.2 := by
  unfold f_X6_thingItem at h
  refine mw_entry (own := RX6) (ini := false) (L := [(0, .ref a0)]) (by decide +kernel) rfl (fun h => nomatch h) rfl (Nat.le_of_ble_eq_true rfl) (Nat.le_of_ble_eq_true rfl) (fun E => ?_)
  refine mw_aload_n dX6_thingItem_0 0 rfl ?_
  obtain ⟨m1, h⟩ := mif h
  obtain ⟨q2, e3, h⟩ := mbd h
  refine mv_getR fd_RX6_19_5 dX6_thingItem_1 m1 rfl e3 ?_
  obtain ⟨m4, h⟩ := mif h
  refine mv_getI fd_RX6_79_0 dX6_thingItem_4 m4 rfl ?_
  refine mw_bipush (v := 12) dX6_thingItem_7 (by decide) ?_
  refine mw_icmp_lt (tgt := 14) dX6_thingItem_9 (by decide) (fun hc => ?_) (fun hc => ?_)
  · have h := mit hc h
    refine mw_aload_n dX6_thingItem_14 0 rfl ?_
    obtain ⟨r5, e6, h⟩ := mbd h
    refine mv_callV_v (As := []) lkV_RX6_26_yX6_next dX6_thingItem_15 (k_X6_next e6) rfl m1 rfl rfl (Nat.le_of_ble_eq_true rfl) (by decide) (by decide) ?_
    refine mw_aload_n dX6_thingItem_18 0 rfl ?_
    obtain ⟨r7, e8, h⟩ := mbd h
    refine mv_callV_i (As := []) lkV_RX6_82_yX6_gainAndTime dX6_thingItem_19 (k_X6_gainAndTime e8) rfl m1 rfl rfl (Nat.le_of_ble_eq_true rfl) (by decide) (by decide) ?_
    refine mw_if_ne (tgt := 27) dX6_thingItem_22 (by decide) (fun hc => ?_) (fun hc => ?_)
    · have h := mie hc h
      refine mw_aload_n dX6_thingItem_27 0 rfl ?_
      obtain ⟨q9, e10, h⟩ := mbd h
      refine mv_getR fd_RX6_19_5 dX6_thingItem_28 m1 rfl e10 ?_
      refine mw_aload_n dX6_thingItem_31 0 rfl ?_
      refine mv_getI fd_RX6_85_5 dX6_thingItem_32 m1 rfl ?_
      refine mw_aload_n dX6_thingItem_35 0 rfl ?_
      refine mv_getI fd_RX6_88_5 dX6_thingItem_36 m1 rfl ?_
      obtain ⟨r11, e12, h⟩ := mbd h
      obtain ⟨m13, h⟩ := mif h
      refine mv_callV_i (As := [.int (mmI r7.2 a0 7), .int (mmI r7.2 a0 8)]) lkV_RX6_91_yX1_newThing dX6_thingItem_39 (k_X1_newThing e12) rfl m13 rfl rfl (Nat.le_of_ble_eq_true rfl) (by decide) (by decide) ?_
      refine mw_pop dX6_thingItem_42 rfl ?_
      refine mw_iconst (v := 1) dX6_thingItem_43 (by decide) ?_
      exact mw_zret dX6_thingItem_44 rfl (by decide) (mrs_im h) rfl rfl
    · have h := mit hc h
      refine mw_iconst (v := 0) dX6_thingItem_25 (by decide) ?_
      exact mw_zret dX6_thingItem_26 rfl (by decide) (mrs_im h) rfl rfl
  · have h := mie hc h
    refine mw_iconst (v := 0) dX6_thingItem_12 (by decide) ?_
    exact mw_zret dX6_thingItem_13 rfl (by decide) (mrs_im h) rfl rfl

theorem dX6_weatherItem_0 : decode cX6_weatherItem 0 = .ok (.aload_n 0, 1) := by decide +kernel
theorem dX6_weatherItem_1 : decode cX6_weatherItem 1 = .ok (.iconst 0, 1) := by decide +kernel
theorem dX6_weatherItem_2 : decode cX6_weatherItem 2 = .ok (.iconst 5, 1) := by decide +kernel
theorem dX6_weatherItem_3 : decode cX6_weatherItem 3 = .ok (.invokevirtual 70, 3) := by decide +kernel
theorem dX6_weatherItem_6 : decode cX6_weatherItem 6 = .ok (.ifCond .ne 5, 3) := by decide +kernel
theorem dX6_weatherItem_9 : decode cX6_weatherItem 9 = .ok (.iconst 0, 1) := by decide +kernel
theorem dX6_weatherItem_10 : decode cX6_weatherItem 10 = .ok (.ireturn, 1) := by decide +kernel
theorem dX6_weatherItem_11 : decode cX6_weatherItem 11 = .ok (.aload_n 0, 1) := by decide +kernel
theorem dX6_weatherItem_12 : decode cX6_weatherItem 12 = .ok (.getfield 19, 3) := by decide +kernel
theorem dX6_weatherItem_15 : decode cX6_weatherItem 15 = .ok (.aload_n 0, 1) := by decide +kernel
theorem dX6_weatherItem_16 : decode cX6_weatherItem 16 = .ok (.getfield 74, 3) := by decide +kernel
theorem dX6_weatherItem_19 : decode cX6_weatherItem 19 = .ok (.putfield 77, 3) := by decide +kernel
theorem dX6_weatherItem_22 : decode cX6_weatherItem 22 = .ok (.aload_n 0, 1) := by decide +kernel
theorem dX6_weatherItem_23 : decode cX6_weatherItem 23 = .ok (.invokevirtual 26, 3) := by decide +kernel
theorem dX6_weatherItem_26 : decode cX6_weatherItem 26 = .ok (.iconst 1, 1) := by decide +kernel
theorem dX6_weatherItem_27 : decode cX6_weatherItem 27 = .ok (.ireturn, 1) := by decide +kernel
def f_X6_weatherItem (a0 : Nat) (σ : MSt) : Option (Int32 × MSt) := (f_X6_isNumber σ a0 (0 : Int32) (5 : Int32)).bind (fun r1 => if mob 5 a0 = true then (if r1 = 0 then (some ((0 : Int32), σ)) else ((mmR σ a0 2).bind (fun q4 => if mob 0 q4 = true then ((f_X6_next a0 (muI σ q4 1 (mmI σ a0 6))).bind (fun r7 => some ((1 : Int32), r7))) else none))) else none)
set_option maxRecDepth 100000 in
set_option maxHeartbeats 4000000 in
theorem k_X6_weatherItem {l : Launch} {σ : MSt} {a0 : Nat} {out : (Int32 × MSt)} (h : f_X6_weatherItem a0 σ = some out) : MK l yX6_weatherItem cX6_weatherItem 1 (some .boolean) 4 [.ref a0] σ (some (.int out.1)) out.2 := by
  unfold f_X6_weatherItem at h
  refine mw_entry (own := RX6) (ini := false) (L := [(0, .ref a0)]) (by decide +kernel) rfl (fun h => nomatch h) rfl (Nat.le_of_ble_eq_true rfl) (Nat.le_of_ble_eq_true rfl) (fun E => ?_)
  refine mw_aload_n dX6_weatherItem_0 0 rfl ?_
  refine mw_iconst (v := 0) dX6_weatherItem_1 (by decide) ?_
  refine mw_iconst (v := 5) dX6_weatherItem_2 (by decide) ?_
  obtain ⟨r1, e2, h⟩ := mbd h
  obtain ⟨m3, h⟩ := mif h
  refine mv_callV_i (As := [.int (0 : Int32), .int (5 : Int32)]) lkV_RX6_70_yX6_isNumber dX6_weatherItem_3 (k_X6_isNumber e2) rfl m3 rfl rfl (Nat.le_of_ble_eq_true rfl) (by decide) (by decide) ?_
  refine mw_if_ne (tgt := 11) dX6_weatherItem_6 (by decide) (fun hc => ?_) (fun hc => ?_)
  · have h := mie hc h
    refine mw_aload_n dX6_weatherItem_11 0 rfl ?_
    obtain ⟨q4, e5, h⟩ := mbd h
    refine mv_getR fd_RX6_19_5 dX6_weatherItem_12 m3 rfl e5 ?_
    refine mw_aload_n dX6_weatherItem_15 0 rfl ?_
    refine mv_getI fd_RX6_74_5 dX6_weatherItem_16 m3 rfl ?_
    obtain ⟨m6, h⟩ := mif h
    refine mv_putI fw_RX6_77_0 dX6_weatherItem_19 m6 rfl ?_
    refine mw_aload_n dX6_weatherItem_22 0 rfl ?_
    obtain ⟨r7, e8, h⟩ := mbd h
    refine mv_callV_v (As := []) lkV_RX6_26_yX6_next dX6_weatherItem_23 (k_X6_next e8) rfl m3 rfl rfl (Nat.le_of_ble_eq_true rfl) (by decide) (by decide) ?_
    refine mw_iconst (v := 1) dX6_weatherItem_26 (by decide) ?_
    exact mw_zret dX6_weatherItem_27 rfl (by decide) (mrs_im h) rfl rfl
  · have h := mit hc h
    refine mw_iconst (v := 0) dX6_weatherItem_9 (by decide) ?_
    exact mw_zret dX6_weatherItem_10 rfl (by decide) (mrs_im h) rfl rfl

theorem dX6_placesItem_0 : decode cX6_placesItem 0 = .ok (.aload_n 0, 1) := by decide +kernel
theorem dX6_placesItem_1 : decode cX6_placesItem 1 = .ok (.aload_n 0, 1) := by decide +kernel
theorem dX6_placesItem_2 : decode cX6_placesItem 2 = .ok (.getfield 19, 3) := by decide +kernel
theorem dX6_placesItem_5 : decode cX6_placesItem 5 = .ok (.getfield 66, 3) := by decide +kernel
theorem dX6_placesItem_8 : decode cX6_placesItem 8 = .ok (.bipush 6, 2) := by decide +kernel
theorem dX6_placesItem_10 : decode cX6_placesItem 10 = .ok (.invokevirtual 70, 3) := by decide +kernel
theorem dX6_placesItem_13 : decode cX6_placesItem 13 = .ok (.ifCond .ne 5, 3) := by decide +kernel
theorem dX6_placesItem_16 : decode cX6_placesItem 16 = .ok (.iconst 0, 1) := by decide +kernel
theorem dX6_placesItem_17 : decode cX6_placesItem 17 = .ok (.ireturn, 1) := by decide +kernel
theorem dX6_placesItem_18 : decode cX6_placesItem 18 = .ok (.aload_n 0, 1) := by decide +kernel
theorem dX6_placesItem_19 : decode cX6_placesItem 19 = .ok (.getfield 19, 3) := by decide +kernel
theorem dX6_placesItem_22 : decode cX6_placesItem 22 = .ok (.aload_n 0, 1) := by decide +kernel
theorem dX6_placesItem_23 : decode cX6_placesItem 23 = .ok (.getfield 74, 3) := by decide +kernel
theorem dX6_placesItem_26 : decode cX6_placesItem 26 = .ok (.putfield 66, 3) := by decide +kernel
theorem dX6_placesItem_29 : decode cX6_placesItem 29 = .ok (.aload_n 0, 1) := by decide +kernel
theorem dX6_placesItem_30 : decode cX6_placesItem 30 = .ok (.invokevirtual 26, 3) := by decide +kernel
theorem dX6_placesItem_33 : decode cX6_placesItem 33 = .ok (.iconst 1, 1) := by decide +kernel
theorem dX6_placesItem_34 : decode cX6_placesItem 34 = .ok (.ireturn, 1) := by decide +kernel
def f_X6_placesItem (a0 : Nat) (σ : MSt) : Option (Int32 × MSt) := if mob 5 a0 = true then ((mmR σ a0 2).bind (fun q2 => if mob 0 q2 = true then ((f_X6_isNumber σ a0 (mmI σ q2 0) (6 : Int32)).bind (fun r5 => if r5 = 0 then (some ((0 : Int32), σ)) else ((f_X6_next a0 (muI σ q2 0 (mmI σ a0 6))).bind (fun r7 => some ((1 : Int32), r7))))) else none)) else none
set_option maxRecDepth 100000 in
set_option maxHeartbeats 4000000 in
theorem k_X6_placesItem {l : Launch} {σ : MSt} {a0 : Nat} {out : (Int32 × MSt)} (h : f_X6_placesItem a0 σ = some out) : MK l yX6_placesItem cX6_placesItem 1 (some .boolean) 4 [.ref a0] σ (some (.int out.1)) out.2 := by
  unfold f_X6_placesItem at h
  refine mw_entry (own := RX6) (ini := false) (L := [(0, .ref a0)]) (by decide +kernel) rfl (fun h => nomatch h) rfl (Nat.le_of_ble_eq_true rfl) (Nat.le_of_ble_eq_true rfl) (fun E => ?_)
  refine mw_aload_n dX6_placesItem_0 0 rfl ?_
  refine mw_aload_n dX6_placesItem_1 0 rfl ?_
  obtain ⟨m1, h⟩ := mif h
  obtain ⟨q2, e3, h⟩ := mbd h
  refine mv_getR fd_RX6_19_5 dX6_placesItem_2 m1 rfl e3 ?_
  obtain ⟨m4, h⟩ := mif h
  refine mv_getI fd_RX6_66_0 dX6_placesItem_5 m4 rfl ?_
  refine mw_bipush (v := 6) dX6_placesItem_8 (by decide) ?_
  obtain ⟨r5, e6, h⟩ := mbd h
  refine mv_callV_i (As := [.int (mmI σ q2 0), .int (6 : Int32)]) lkV_RX6_70_yX6_isNumber dX6_placesItem_10 (k_X6_isNumber e6) rfl m1 rfl rfl (Nat.le_of_ble_eq_true rfl) (by decide) (by decide) ?_
  refine mw_if_ne (tgt := 18) dX6_placesItem_13 (by decide) (fun hc => ?_) (fun hc => ?_)
  · have h := mie hc h
    refine mw_aload_n dX6_placesItem_18 0 rfl ?_
    refine mv_getR fd_RX6_19_5 dX6_placesItem_19 m1 rfl e3 ?_
    refine mw_aload_n dX6_placesItem_22 0 rfl ?_
    refine mv_getI fd_RX6_74_5 dX6_placesItem_23 m1 rfl ?_
    refine mv_putI fw_RX6_66_0 dX6_placesItem_26 m4 rfl ?_
    refine mw_aload_n dX6_placesItem_29 0 rfl ?_
    obtain ⟨r7, e8, h⟩ := mbd h
    refine mv_callV_v (As := []) lkV_RX6_26_yX6_next dX6_placesItem_30 (k_X6_next e8) rfl m1 rfl rfl (Nat.le_of_ble_eq_true rfl) (by decide) (by decide) ?_
    refine mw_iconst (v := 1) dX6_placesItem_33 (by decide) ?_
    exact mw_zret dX6_placesItem_34 rfl (by decide) (mrs_im h) rfl rfl
  · have h := mit hc h
    refine mw_iconst (v := 0) dX6_placesItem_16 (by decide) ?_
    exact mw_zret dX6_placesItem_17 rfl (by decide) (mrs_im h) rfl rfl

theorem dX6_item_0 : decode cX6_item 0 = .ok (.aload_n 0, 1) := by decide +kernel
theorem dX6_item_1 : decode cX6_item 1 = .ok (.ldc 39, 2) := by decide +kernel
theorem dX6_item_3 : decode cX6_item 3 = .ok (.invokevirtual 41, 3) := by decide +kernel
theorem dX6_item_6 : decode cX6_item 6 = .ok (.ifCond .eq 12, 3) := by decide +kernel
theorem dX6_item_9 : decode cX6_item 9 = .ok (.aload_n 0, 1) := by decide +kernel
theorem dX6_item_10 : decode cX6_item 10 = .ok (.invokevirtual 26, 3) := by decide +kernel
theorem dX6_item_13 : decode cX6_item 13 = .ok (.aload_n 0, 1) := by decide +kernel
theorem dX6_item_14 : decode cX6_item 14 = .ok (.invokevirtual 45, 3) := by decide +kernel
theorem dX6_item_17 : decode cX6_item 17 = .ok (.ireturn, 1) := by decide +kernel
theorem dX6_item_18 : decode cX6_item 18 = .ok (.aload_n 0, 1) := by decide +kernel
theorem dX6_item_19 : decode cX6_item 19 = .ok (.ldc 48, 2) := by decide +kernel
theorem dX6_item_21 : decode cX6_item 21 = .ok (.invokevirtual 41, 3) := by decide +kernel
theorem dX6_item_24 : decode cX6_item 24 = .ok (.ifCond .eq 12, 3) := by decide +kernel
theorem dX6_item_27 : decode cX6_item 27 = .ok (.aload_n 0, 1) := by decide +kernel
theorem dX6_item_28 : decode cX6_item 28 = .ok (.invokevirtual 26, 3) := by decide +kernel
theorem dX6_item_31 : decode cX6_item 31 = .ok (.aload_n 0, 1) := by decide +kernel
theorem dX6_item_32 : decode cX6_item 32 = .ok (.invokevirtual 50, 3) := by decide +kernel
theorem dX6_item_35 : decode cX6_item 35 = .ok (.ireturn, 1) := by decide +kernel
theorem dX6_item_36 : decode cX6_item 36 = .ok (.aload_n 0, 1) := by decide +kernel
theorem dX6_item_37 : decode cX6_item 37 = .ok (.ldc 53, 2) := by decide +kernel
theorem dX6_item_39 : decode cX6_item 39 = .ok (.invokevirtual 41, 3) := by decide +kernel
theorem dX6_item_42 : decode cX6_item 42 = .ok (.ifCond .eq 8, 3) := by decide +kernel
theorem dX6_item_45 : decode cX6_item 45 = .ok (.aload_n 0, 1) := by decide +kernel
theorem dX6_item_46 : decode cX6_item 46 = .ok (.invokevirtual 55, 3) := by decide +kernel
theorem dX6_item_49 : decode cX6_item 49 = .ok (.ireturn, 1) := by decide +kernel
theorem dX6_item_50 : decode cX6_item 50 = .ok (.aload_n 0, 1) := by decide +kernel
theorem dX6_item_51 : decode cX6_item 51 = .ok (.aload_n 0, 1) := by decide +kernel
theorem dX6_item_52 : decode cX6_item 52 = .ok (.invokevirtual 58, 3) := by decide +kernel
theorem dX6_item_55 : decode cX6_item 55 = .ok (.invokevirtual 62, 3) := by decide +kernel
theorem dX6_item_58 : decode cX6_item 58 = .ok (.ireturn, 1) := by decide +kernel
def f_X6_item (a0 : Nat) (σ : MSt) : Option (Int32 × MSt) := (f_X6_isWord σ a0 (1000 + 0)).bind (fun r1 => if mob 5 a0 = true then (if r1 = 0 then ((f_X6_isWord σ a0 (1000 + 1)).bind (fun r4 => if r4 = 0 then ((f_X6_isWord σ a0 (1000 + 2)).bind (fun r6 => if r6 = 0 then ((f_X6_kindTold σ a0).bind (fun r8 => (f_X6_wayItem a0 r8 σ).bind (fun r10 => if r10.1 = 0 ∨ r10.1 = 1 then (some (r10.1, r10.2)) else none))) else ((f_X6_thingItem a0 σ).bind (fun r13 => if r13.1 = 0 ∨ r13.1 = 1 then (some (r13.1, r13.2)) else none)))) else ((f_X6_next a0 σ).bind (fun r16 => (f_X6_weatherItem a0 r16).bind (fun r18 => if r18.1 = 0 ∨ r18.1 = 1 then (some (r18.1, r18.2)) else none))))) else ((f_X6_next a0 σ).bind (fun r21 => (f_X6_placesItem a0 r21).bind (fun r23 => if r23.1 = 0 ∨ r23.1 = 1 then (some (r23.1, r23.2)) else none)))) else none)
set_option maxRecDepth 100000 in
set_option maxHeartbeats 4000000 in
theorem k_X6_item {l : Launch} {σ : MSt} {a0 : Nat} {out : (Int32 × MSt)} (h : f_X6_item a0 σ = some out) : MK l yX6_item cX6_item 1 (some .boolean) 8 [.ref a0] σ (some (.int out.1)) out.2 := by
  unfold f_X6_item at h
  refine mw_entry (own := RX6) (ini := false) (L := [(0, .ref a0)]) (by decide +kernel) rfl (fun h => nomatch h) rfl (Nat.le_of_ble_eq_true rfl) (Nat.le_of_ble_eq_true rfl) (fun E => ?_)
  refine mw_aload_n dX6_item_0 0 rfl ?_
  refine mv_ldcS 0 (by decide) rfl rfl dX6_item_1 ?_
  obtain ⟨r1, e2, h⟩ := mbd h
  obtain ⟨m3, h⟩ := mif h
  refine mv_callV_i (As := [.ref (1000 + 0)]) lkV_RX6_41_yX6_isWord dX6_item_3 (k_X6_isWord e2) rfl m3 rfl rfl (Nat.le_of_ble_eq_true rfl) (by decide) (by decide) ?_
  refine mw_if_eq (tgt := 18) dX6_item_6 (by decide) (fun hc => ?_) (fun hc => ?_)
  · have h := mit hc h
    refine mw_aload_n dX6_item_18 0 rfl ?_
    refine mv_ldcS 1 (by decide) rfl rfl dX6_item_19 ?_
    obtain ⟨r4, e5, h⟩ := mbd h
    refine mv_callV_i (As := [.ref (1000 + 1)]) lkV_RX6_41_yX6_isWord dX6_item_21 (k_X6_isWord e5) rfl m3 rfl rfl (Nat.le_of_ble_eq_true rfl) (by decide) (by decide) ?_
    refine mw_if_eq (tgt := 36) dX6_item_24 (by decide) (fun hc => ?_) (fun hc => ?_)
    · have h := mit hc h
      refine mw_aload_n dX6_item_36 0 rfl ?_
      refine mv_ldcS 2 (by decide) rfl rfl dX6_item_37 ?_
      obtain ⟨r6, e7, h⟩ := mbd h
      refine mv_callV_i (As := [.ref (1000 + 2)]) lkV_RX6_41_yX6_isWord dX6_item_39 (k_X6_isWord e7) rfl m3 rfl rfl (Nat.le_of_ble_eq_true rfl) (by decide) (by decide) ?_
      refine mw_if_eq (tgt := 50) dX6_item_42 (by decide) (fun hc => ?_) (fun hc => ?_)
      · have h := mit hc h
        refine mw_aload_n dX6_item_50 0 rfl ?_
        refine mw_aload_n dX6_item_51 0 rfl ?_
        obtain ⟨r8, e9, h⟩ := mbd h
        refine mv_callV_i (As := []) lkV_RX6_58_yX6_kindTold dX6_item_52 (k_X6_kindTold e9) rfl m3 rfl rfl (Nat.le_of_ble_eq_true rfl) (by decide) (by decide) ?_
        obtain ⟨r10, e11, h⟩ := mbd h
        refine mv_callV_i (As := [.int r8]) lkV_RX6_62_yX6_wayItem dX6_item_55 (k_X6_wayItem e11) rfl m3 rfl rfl (Nat.le_of_ble_eq_true rfl) (by decide) (by decide) ?_
        obtain ⟨m12, h⟩ := mif h
        exact mw_zret dX6_item_58 rfl m12 (mrs_im h) rfl rfl
      · have h := mie hc h
        refine mw_aload_n dX6_item_45 0 rfl ?_
        obtain ⟨r13, e14, h⟩ := mbd h
        refine mv_callV_i (As := []) lkV_RX6_55_yX6_thingItem dX6_item_46 (k_X6_thingItem e14) rfl m3 rfl rfl (Nat.le_of_ble_eq_true rfl) (by decide) (by decide) ?_
        obtain ⟨m15, h⟩ := mif h
        exact mw_zret dX6_item_49 rfl m15 (mrs_im h) rfl rfl
    · have h := mie hc h
      refine mw_aload_n dX6_item_27 0 rfl ?_
      obtain ⟨r16, e17, h⟩ := mbd h
      refine mv_callV_v (As := []) lkV_RX6_26_yX6_next dX6_item_28 (k_X6_next e17) rfl m3 rfl rfl (Nat.le_of_ble_eq_true rfl) (by decide) (by decide) ?_
      refine mw_aload_n dX6_item_31 0 rfl ?_
      obtain ⟨r18, e19, h⟩ := mbd h
      refine mv_callV_i (As := []) lkV_RX6_50_yX6_weatherItem dX6_item_32 (k_X6_weatherItem e19) rfl m3 rfl rfl (Nat.le_of_ble_eq_true rfl) (by decide) (by decide) ?_
      obtain ⟨m20, h⟩ := mif h
      exact mw_zret dX6_item_35 rfl m20 (mrs_im h) rfl rfl
  · have h := mie hc h
    refine mw_aload_n dX6_item_9 0 rfl ?_
    obtain ⟨r21, e22, h⟩ := mbd h
    refine mv_callV_v (As := []) lkV_RX6_26_yX6_next dX6_item_10 (k_X6_next e22) rfl m3 rfl rfl (Nat.le_of_ble_eq_true rfl) (by decide) (by decide) ?_
    refine mw_aload_n dX6_item_13 0 rfl ?_
    obtain ⟨r23, e24, h⟩ := mbd h
    refine mv_callV_i (As := []) lkV_RX6_45_yX6_placesItem dX6_item_14 (k_X6_placesItem e24) rfl m3 rfl rfl (Nat.le_of_ble_eq_true rfl) (by decide) (by decide) ?_
    obtain ⟨m25, h⟩ := mif h
    exact mw_zret dX6_item_17 rfl m25 (mrs_im h) rfl rfl

theorem dX6_tellTo_0 : decode cX6_tellTo 0 = .ok (.aload_n 0, 1) := by decide +kernel
theorem dX6_tellTo_1 : decode cX6_tellTo 1 = .ok (.aload_n 1, 1) := by decide +kernel
theorem dX6_tellTo_2 : decode cX6_tellTo 2 = .ok (.putfield 19, 3) := by decide +kernel
theorem dX6_tellTo_5 : decode cX6_tellTo 5 = .ok (.aload_n 0, 1) := by decide +kernel
theorem dX6_tellTo_6 : decode cX6_tellTo 6 = .ok (.iconst 0, 1) := by decide +kernel
theorem dX6_tellTo_7 : decode cX6_tellTo 7 = .ok (.putfield 23, 3) := by decide +kernel
theorem dX6_tellTo_10 : decode cX6_tellTo 10 = .ok (.aload_n 0, 1) := by decide +kernel
theorem dX6_tellTo_11 : decode cX6_tellTo 11 = .ok (.invokevirtual 26, 3) := by decide +kernel
theorem dX6_tellTo_14 : decode cX6_tellTo 14 = .ok (.iconst 1, 1) := by decide +kernel
theorem dX6_tellTo_15 : decode cX6_tellTo 15 = .ok (.istore_n 2, 1) := by decide +kernel
theorem dX6_tellTo_16 : decode cX6_tellTo 16 = .ok (.iload_n 2, 1) := by decide +kernel
theorem dX6_tellTo_17 : decode cX6_tellTo 17 = .ok (.bipush 120, 2) := by decide +kernel
theorem dX6_tellTo_19 : decode cX6_tellTo 19 = .ok (.if_icmp .gt 51, 3) := by decide +kernel
theorem dX6_tellTo_22 : decode cX6_tellTo 22 = .ok (.aload_n 0, 1) := by decide +kernel
theorem dX6_tellTo_23 : decode cX6_tellTo 23 = .ok (.invokevirtual 29, 3) := by decide +kernel
theorem dX6_tellTo_26 : decode cX6_tellTo 26 = .ok (.ifCond .ne 10, 3) := by decide +kernel
theorem dX6_tellTo_29 : decode cX6_tellTo 29 = .ok (.iconst (-1), 1) := by decide +kernel
theorem dX6_tellTo_30 : decode cX6_tellTo 30 = .ok (.aload_n 0, 1) := by decide +kernel
theorem dX6_tellTo_31 : decode cX6_tellTo 31 = .ok (.getfield 33, 3) := by decide +kernel
theorem dX6_tellTo_34 : decode cX6_tellTo 34 = .ok (.isub, 1) := by decide +kernel
theorem dX6_tellTo_35 : decode cX6_tellTo 35 = .ok (.ireturn, 1) := by decide +kernel
theorem dX6_tellTo_36 : decode cX6_tellTo 36 = .ok (.aload_n 0, 1) := by decide +kernel
theorem dX6_tellTo_37 : decode cX6_tellTo 37 = .ok (.getfield 36, 3) := by decide +kernel
theorem dX6_tellTo_40 : decode cX6_tellTo 40 = .ok (.ifCond .ne 5, 3) := by decide +kernel
theorem dX6_tellTo_43 : decode cX6_tellTo 43 = .ok (.iload_n 2, 1) := by decide +kernel
theorem dX6_tellTo_44 : decode cX6_tellTo 44 = .ok (.ireturn, 1) := by decide +kernel
theorem dX6_tellTo_45 : decode cX6_tellTo 45 = .ok (.aload_n 0, 1) := by decide +kernel
theorem dX6_tellTo_46 : decode cX6_tellTo 46 = .ok (.getfield 36, 3) := by decide +kernel
theorem dX6_tellTo_49 : decode cX6_tellTo 49 = .ok (.iconst 3, 1) := by decide +kernel
theorem dX6_tellTo_50 : decode cX6_tellTo 50 = .ok (.if_icmp .eq 10, 3) := by decide +kernel
theorem dX6_tellTo_53 : decode cX6_tellTo 53 = .ok (.iconst (-1), 1) := by decide +kernel
theorem dX6_tellTo_54 : decode cX6_tellTo 54 = .ok (.aload_n 0, 1) := by decide +kernel
theorem dX6_tellTo_55 : decode cX6_tellTo 55 = .ok (.getfield 33, 3) := by decide +kernel
theorem dX6_tellTo_58 : decode cX6_tellTo 58 = .ok (.isub, 1) := by decide +kernel
theorem dX6_tellTo_59 : decode cX6_tellTo 59 = .ok (.ireturn, 1) := by decide +kernel
theorem dX6_tellTo_60 : decode cX6_tellTo 60 = .ok (.aload_n 0, 1) := by decide +kernel
theorem dX6_tellTo_61 : decode cX6_tellTo 61 = .ok (.invokevirtual 26, 3) := by decide +kernel
theorem dX6_tellTo_64 : decode cX6_tellTo 64 = .ok (.iinc 2 1, 3) := by decide +kernel
theorem dX6_tellTo_67 : decode cX6_tellTo 67 = .ok (.goto (-51), 3) := by decide +kernel
theorem dX6_tellTo_70 : decode cX6_tellTo 70 = .ok (.iconst (-1), 1) := by decide +kernel
theorem dX6_tellTo_71 : decode cX6_tellTo 71 = .ok (.aload_n 0, 1) := by decide +kernel
theorem dX6_tellTo_72 : decode cX6_tellTo 72 = .ok (.getfield 33, 3) := by decide +kernel
theorem dX6_tellTo_75 : decode cX6_tellTo 75 = .ok (.isub, 1) := by decide +kernel
theorem dX6_tellTo_76 : decode cX6_tellTo 76 = .ok (.ireturn, 1) := by decide +kernel
def f_X6_tellTo_L16 (a0 : Nat) (a1 : Nat) : Nat → Int32 → MSt → Option (Int32 × MSt)
  | 0, _, _ => none
  | n + 1, x2, σ => if (120 : Int32) < x2 then (if mob 5 a0 = true then (some (((-1 : Int32) - (mmI σ a0 4)), σ)) else none) else ((f_X6_item a0 σ).bind (fun r2 => if mob 5 a0 = true then (if r2.1 = 0 then (some (((-1 : Int32) - (mmI r2.2 a0 4)), r2.2)) else (if (mmI r2.2 a0 3) = 0 then (some (x2, r2.2)) else (if (mmI r2.2 a0 3) = (3 : Int32) then ((f_X6_next a0 r2.2).bind (fun r5 => f_X6_tellTo_L16 a0 a1 n (x2 + 1) r5)) else (some (((-1 : Int32) - (mmI r2.2 a0 4)), r2.2))))) else none))
set_option maxRecDepth 100000 in
set_option maxHeartbeats 4000000 in
theorem p_X6_tellTo_L16 {l : Launch} {E : MX} {out : (Int32 × MSt)} {a0 : Nat} {a1 : Nat}  : ∀ (n : Nat) (x2 : Int32) (σ : MSt), f_X6_tellTo_L16 a0 a1 n x2 σ = some out → MV l E cX6_tellTo RX6 3 (some .int) 9 (82, (some (.int out.1)), out.2) σ 16 [(0, .ref a0), (1, .ref a1), (2, .int x2)] [] := by
  intro n
  induction n with
  | zero =>
    intro x2 σ h
    exact nomatch h
  | succ n ih =>
    intro x2 σ h
    rw [f_X6_tellTo_L16] at h
    refine mw_iload_n dX6_tellTo_16 2 rfl ?_
    refine mw_bipush (v := 120) dX6_tellTo_17 (by decide) ?_
    refine mw_icmp_gt (tgt := 70) dX6_tellTo_19 (by decide) (fun hc => ?_) (fun hc => ?_)
    · have h := mit hc h
      refine mw_iconst (v := -1) dX6_tellTo_70 (by decide) ?_
      refine mw_aload_n dX6_tellTo_71 0 rfl ?_
      obtain ⟨m1, h⟩ := mif h
      refine mv_getI fd_RX6_33_5 dX6_tellTo_72 m1 rfl ?_
      refine mw_isub dX6_tellTo_75 ?_
      exact mw_iret dX6_tellTo_76 rfl (mrs_im h) rfl rfl
    · have h := mie hc h
      refine mw_aload_n dX6_tellTo_22 0 rfl ?_
      obtain ⟨r2, e3, h⟩ := mbd h
      obtain ⟨m4, h⟩ := mif h
      refine mv_callV_i (As := []) lkV_RX6_29_yX6_item dX6_tellTo_23 (k_X6_item e3) rfl m4 rfl rfl (Nat.le_of_ble_eq_true rfl) (by decide) (by decide) ?_
      refine mw_if_ne (tgt := 36) dX6_tellTo_26 (by decide) (fun hc => ?_) (fun hc => ?_)
      · have h := mie hc h
        refine mw_aload_n dX6_tellTo_36 0 rfl ?_
        refine mv_getI fd_RX6_36_5 dX6_tellTo_37 m4 rfl ?_
        refine mw_if_ne (tgt := 45) dX6_tellTo_40 (by decide) (fun hc => ?_) (fun hc => ?_)
        · have h := mie hc h
          refine mw_aload_n dX6_tellTo_45 0 rfl ?_
          refine mv_getI fd_RX6_36_5 dX6_tellTo_46 m4 rfl ?_
          refine mw_iconst (v := 3) dX6_tellTo_49 (by decide) ?_
          refine mw_icmp_eq (tgt := 60) dX6_tellTo_50 (by decide) (fun hc => ?_) (fun hc => ?_)
          · have h := mit hc h
            refine mw_aload_n dX6_tellTo_60 0 rfl ?_
            obtain ⟨r5, e6, h⟩ := mbd h
            refine mv_callV_v (As := []) lkV_RX6_26_yX6_next dX6_tellTo_61 (k_X6_next e6) rfl m4 rfl rfl (Nat.le_of_ble_eq_true rfl) (by decide) (by decide) ?_
            refine mw_iinc (v := (x2 + 1)) (L' := [(2, .int (x2 + 1)), (0, .ref a0), (1, .ref a1)]) dX6_tellTo_64 2 rfl rfl (by decide) rfl ?_
            refine mw_goto (tgt := 16) dX6_tellTo_67 (by decide) ?_
            exact mw_sub (L' := [(0, .ref a0), (1, .ref a1), (2, .int (x2 + 1))]) [1, 2, 0] rfl (ih _ _ h)
          · have h := mie hc h
            refine mw_iconst (v := -1) dX6_tellTo_53 (by decide) ?_
            refine mw_aload_n dX6_tellTo_54 0 rfl ?_
            refine mv_getI fd_RX6_33_5 dX6_tellTo_55 m4 rfl ?_
            refine mw_isub dX6_tellTo_58 ?_
            exact mw_iret dX6_tellTo_59 rfl (mrs_im h) rfl rfl
        · have h := mit hc h
          refine mw_iload_n dX6_tellTo_43 2 rfl ?_
          exact mw_iret dX6_tellTo_44 rfl (mrs_im h) rfl rfl
      · have h := mit hc h
        refine mw_iconst (v := -1) dX6_tellTo_29 (by decide) ?_
        refine mw_aload_n dX6_tellTo_30 0 rfl ?_
        refine mv_getI fd_RX6_33_5 dX6_tellTo_31 m4 rfl ?_
        refine mw_isub dX6_tellTo_34 ?_
        exact mw_iret dX6_tellTo_35 rfl (mrs_im h) rfl rfl
def f_X6_tellTo (a0 : Nat) (a1 : Nat) (σ : MSt) : Option (Int32 × MSt) := if mob 5 a0 = true then ((f_X6_next a0 (muI (muR σ a0 2 (some a1)) a0 5 (0 : Int32))).bind (fun r2 => f_X6_tellTo_L16 a0 a1 mN (1 : Int32) r2)) else none
set_option maxRecDepth 100000 in
set_option maxHeartbeats 4000000 in
theorem k_X6_tellTo {l : Launch} {σ : MSt} {a0 : Nat} {a1 : Nat} {out : (Int32 × MSt)} (h : f_X6_tellTo a0 a1 σ = some out) : MK l yX6_tellTo cX6_tellTo 3 (some .int) 9 [.ref a0, .ref a1] σ (some (.int out.1)) out.2 := by
  unfold f_X6_tellTo at h
  refine mw_entry (own := RX6) (ini := false) (L := [(0, .ref a0), (1, .ref a1)]) (by decide +kernel) rfl (fun h => nomatch h) rfl (Nat.le_of_ble_eq_true rfl) (Nat.le_of_ble_eq_true rfl) (fun E => ?_)
  refine mw_aload_n dX6_tellTo_0 0 rfl ?_
  refine mw_aload_n dX6_tellTo_1 1 rfl ?_
  obtain ⟨m1, h⟩ := mif h
  refine mv_putR fw_RX6_19_5 dX6_tellTo_2 m1 rfl rfl ?_
  refine mw_aload_n dX6_tellTo_5 0 rfl ?_
  refine mw_iconst (v := 0) dX6_tellTo_6 (by decide) ?_
  refine mv_putI fw_RX6_23_5 dX6_tellTo_7 m1 rfl ?_
  refine mw_aload_n dX6_tellTo_10 0 rfl ?_
  obtain ⟨r2, e3, h⟩ := mbd h
  refine mv_callV_v (As := []) lkV_RX6_26_yX6_next dX6_tellTo_11 (k_X6_next e3) rfl m1 rfl rfl (Nat.le_of_ble_eq_true rfl) (by decide) (by decide) ?_
  refine mw_iconst (v := 1) dX6_tellTo_14 (by decide) ?_
  refine mw_istore_n (L' := [(2, .int (1 : Int32)), (0, .ref a0), (1, .ref a1)]) dX6_tellTo_15 rfl (by decide) rfl ?_
  exact mw_sub (L' := [(0, .ref a0), (1, .ref a1), (2, .int (1 : Int32))]) [1, 2, 0] rfl (p_X6_tellTo_L16  mN _ _ h)

theorem dX9_text_0 : decode cX9_text 0 = .ok (.aload_n 0, 1) := by decide +kernel
theorem dX9_text_1 : decode cX9_text 1 = .ok (.getfield 19, 3) := by decide +kernel
theorem dX9_text_4 : decode cX9_text 4 = .ok (.aload_n 0, 1) := by decide +kernel
theorem dX9_text_5 : decode cX9_text 5 = .ok (.getfield 12, 3) := by decide +kernel
theorem dX9_text_8 : decode cX9_text 8 = .ok (.invokevirtual 231, 3) := by decide +kernel
theorem dX9_text_11 : decode cX9_text 11 = .ok (.aload_n 0, 1) := by decide +kernel
theorem dX9_text_12 : decode cX9_text 12 = .ok (.getfield 60, 3) := by decide +kernel
theorem dX9_text_15 : decode cX9_text 15 = .ok (.aload_n 0, 1) := by decide +kernel
theorem dX9_text_16 : decode cX9_text 16 = .ok (.getfield 19, 3) := by decide +kernel
theorem dX9_text_19 : decode cX9_text 19 = .ok (.invokevirtual 328, 3) := by decide +kernel
theorem dX9_text_22 : decode cX9_text 22 = .ok (.istore_n 1, 1) := by decide +kernel
theorem dX9_text_23 : decode cX9_text 23 = .ok (.iload_n 1, 1) := by decide +kernel
theorem dX9_text_24 : decode cX9_text 24 = .ok (.ifCond .le 14, 3) := by decide +kernel
theorem dX9_text_27 : decode cX9_text 27 = .ok (.aload_n 0, 1) := by decide +kernel
theorem dX9_text_28 : decode cX9_text 28 = .ok (.getfield 12, 3) := by decide +kernel
theorem dX9_text_31 : decode cX9_text 31 = .ok (.aload_n 0, 1) := by decide +kernel
theorem dX9_text_32 : decode cX9_text 32 = .ok (.getfield 19, 3) := by decide +kernel
theorem dX9_text_35 : decode cX9_text 35 = .ok (.invokevirtual 231, 3) := by decide +kernel
theorem dX9_text_38 : decode cX9_text 38 = .ok (.aload_n 0, 1) := by decide +kernel
theorem dX9_text_39 : decode cX9_text 39 = .ok (.getfield 60, 3) := by decide +kernel
theorem dX9_text_42 : decode cX9_text 42 = .ok (.iconst 0, 1) := by decide +kernel
theorem dX9_text_43 : decode cX9_text 43 = .ok (.putfield 321, 3) := by decide +kernel
theorem dX9_text_46 : decode cX9_text 46 = .ok (.iload_n 1, 1) := by decide +kernel
theorem dX9_text_47 : decode cX9_text 47 = .ok (.ireturn, 1) := by decide +kernel
def f_X9_text (a0 : Nat) (σ : MSt) : Option (Int32 × MSt) := if mob 8 a0 = true then ((mmR σ a0 2).bind (fun q2 => (mmR σ a0 0).bind (fun q4 => (f_X1_become q2 q4 σ).bind (fun r6 => if mob 0 q2 = true then ((mmR r6 a0 9).bind (fun q9 => (mmR r6 a0 2).bind (fun q11 => (f_X6_tellTo q9 q11 r6).bind (fun r13 => if mob 5 q9 = true then (if r13.1 ≤ 0 then ((mmR r13.2 a0 9).bind (fun q16 => if mob 5 q16 = true then (some (r13.1, (muI r13.2 q16 0 (0 : Int32)))) else none)) else ((mmR r13.2 a0 0).bind (fun q19 => (mmR r13.2 a0 2).bind (fun q21 => (f_X1_become q19 q21 r13.2).bind (fun r23 => if mob 0 q19 = true then ((mmR r23 a0 9).bind (fun q26 => if mob 5 q26 = true then (some (r13.1, (muI r23 q26 0 (0 : Int32)))) else none)) else none))))) else none)))) else none)))) else none
set_option maxRecDepth 100000 in
set_option maxHeartbeats 4000000 in
theorem k_X9_text {l : Launch} {σ : MSt} {a0 : Nat} {out : (Int32 × MSt)} (h : f_X9_text a0 σ = some out) : MK l yX9_text cX9_text 2 (some .int) 10 [.ref a0] σ (some (.int out.1)) out.2 := by
  unfold f_X9_text at h
  refine mw_entry (own := RX9) (ini := false) (L := [(0, .ref a0)]) (by decide +kernel) rfl (fun h => nomatch h) rfl (Nat.le_of_ble_eq_true rfl) (Nat.le_of_ble_eq_true rfl) (fun E => ?_)
  refine mw_aload_n dX9_text_0 0 rfl ?_
  obtain ⟨m1, h⟩ := mif h
  obtain ⟨q2, e3, h⟩ := mbd h
  refine mv_getR fd_RX9_19_8 dX9_text_1 m1 rfl e3 ?_
  refine mw_aload_n dX9_text_4 0 rfl ?_
  obtain ⟨q4, e5, h⟩ := mbd h
  refine mv_getR fd_RX9_12_8 dX9_text_5 m1 rfl e5 ?_
  obtain ⟨r6, e7, h⟩ := mbd h
  obtain ⟨m8, h⟩ := mif h
  refine mv_callV_v (As := [.ref q4]) lkV_RX9_231_yX1_become dX9_text_8 (k_X1_become e7) rfl m8 rfl rfl (Nat.le_of_ble_eq_true rfl) (by decide) (by decide) ?_
  refine mw_aload_n dX9_text_11 0 rfl ?_
  obtain ⟨q9, e10, h⟩ := mbd h
  refine mv_getR fd_RX9_60_8 dX9_text_12 m1 rfl e10 ?_
  refine mw_aload_n dX9_text_15 0 rfl ?_
  obtain ⟨q11, e12, h⟩ := mbd h
  refine mv_getR fd_RX9_19_8 dX9_text_16 m1 rfl e12 ?_
  obtain ⟨r13, e14, h⟩ := mbd h
  obtain ⟨m15, h⟩ := mif h
  refine mv_callV_i (As := [.ref q11]) lkV_RX9_328_yX6_tellTo dX9_text_19 (k_X6_tellTo e14) rfl m15 rfl rfl (Nat.le_of_ble_eq_true rfl) (by decide) (by decide) ?_
  refine mw_istore_n (L' := [(1, .int r13.1), (0, .ref a0)]) dX9_text_22 rfl (by decide) rfl ?_
  refine mw_iload_n dX9_text_23 0 rfl ?_
  refine mw_if_le (tgt := 38) dX9_text_24 (by decide) (fun hc => ?_) (fun hc => ?_)
  · have h := mit hc h
    refine mw_aload_n dX9_text_38 1 rfl ?_
    obtain ⟨q16, e17, h⟩ := mbd h
    refine mv_getR fd_RX9_60_8 dX9_text_39 m1 rfl e17 ?_
    refine mw_iconst (v := 0) dX9_text_42 (by decide) ?_
    obtain ⟨m18, h⟩ := mif h
    refine mv_putI fw_RX9_321_5 dX9_text_43 m18 rfl ?_
    refine mw_iload_n dX9_text_46 0 rfl ?_
    exact mw_iret dX9_text_47 rfl (mrs_im h) rfl rfl
  · have h := mie hc h
    refine mw_aload_n dX9_text_27 1 rfl ?_
    obtain ⟨q19, e20, h⟩ := mbd h
    refine mv_getR fd_RX9_12_8 dX9_text_28 m1 rfl e20 ?_
    refine mw_aload_n dX9_text_31 1 rfl ?_
    obtain ⟨q21, e22, h⟩ := mbd h
    refine mv_getR fd_RX9_19_8 dX9_text_32 m1 rfl e22 ?_
    obtain ⟨r23, e24, h⟩ := mbd h
    obtain ⟨m25, h⟩ := mif h
    refine mv_callV_v (As := [.ref q21]) lkV_RX9_231_yX1_become dX9_text_35 (k_X1_become e24) rfl m25 rfl rfl (Nat.le_of_ble_eq_true rfl) (by decide) (by decide) ?_
    refine mw_aload_n dX9_text_38 1 rfl ?_
    obtain ⟨q26, e27, h⟩ := mbd h
    refine mv_getR fd_RX9_60_8 dX9_text_39 m1 rfl e27 ?_
    refine mw_iconst (v := 0) dX9_text_42 (by decide) ?_
    obtain ⟨m28, h⟩ := mif h
    refine mv_putI fw_RX9_321_5 dX9_text_43 m28 rfl ?_
    refine mw_iload_n dX9_text_46 0 rfl ?_
    exact mw_iret dX9_text_47 rfl (mrs_im h) rfl rfl

theorem dX5_begin_0 : decode cX5_begin 0 = .ok (.aload_n 0, 1) := by decide +kernel
theorem dX5_begin_1 : decode cX5_begin 1 = .ok (.iload_n 1, 1) := by decide +kernel
theorem dX5_begin_2 : decode cX5_begin 2 = .ok (.putfield 15, 3) := by decide +kernel
theorem dX5_begin_5 : decode cX5_begin 5 = .ok (.aload_n 0, 1) := by decide +kernel
theorem dX5_begin_6 : decode cX5_begin 6 = .ok (.iload_n 2, 1) := by decide +kernel
theorem dX5_begin_7 : decode cX5_begin 7 = .ok (.putfield 19, 3) := by decide +kernel
theorem dX5_begin_10 : decode cX5_begin 10 = .ok (.iconst 0, 1) := by decide +kernel
theorem dX5_begin_11 : decode cX5_begin 11 = .ok (.istore_n 3, 1) := by decide +kernel
theorem dX5_begin_12 : decode cX5_begin 12 = .ok (.iload_n 3, 1) := by decide +kernel
theorem dX5_begin_13 : decode cX5_begin 13 = .ok (.bipush 40, 2) := by decide +kernel
theorem dX5_begin_15 : decode cX5_begin 15 = .ok (.if_icmp .ge 16, 3) := by decide +kernel
theorem dX5_begin_18 : decode cX5_begin 18 = .ok (.aload_n 0, 1) := by decide +kernel
theorem dX5_begin_19 : decode cX5_begin 19 = .ok (.getfield 9, 3) := by decide +kernel
theorem dX5_begin_22 : decode cX5_begin 22 = .ok (.iload_n 3, 1) := by decide +kernel
theorem dX5_begin_23 : decode cX5_begin 23 = .ok (.lconst 0, 1) := by decide +kernel
theorem dX5_begin_24 : decode cX5_begin 24 = .ok (.lastore, 1) := by decide +kernel
theorem dX5_begin_25 : decode cX5_begin 25 = .ok (.iinc 3 1, 3) := by decide +kernel
theorem dX5_begin_28 : decode cX5_begin 28 = .ok (.goto (-16), 3) := by decide +kernel
theorem dX5_begin_31 : decode cX5_begin 31 = .ok (.return_, 1) := by decide +kernel
def f_X5_begin_L12 (a0 : Nat) (a1 : Int32) (a2 : Int32) : Nat → Int32 → MSt → Option MSt
  | 0, _, _ => none
  | n + 1, x3, σ => if (40 : Int32) ≤ x3 then (some σ) else (if mob 4 a0 = true then ((mmR σ a0 2).bind (fun q2 => if mix 1 q2 x3 = true then (f_X5_begin_L12 a0 a1 a2 n (x3 + 1) (muL σ q2 x3.toNatClampNeg (0 : Int64))) else none)) else none)
set_option maxRecDepth 100000 in
set_option maxHeartbeats 4000000 in
theorem p_X5_begin_L12 {l : Launch} {E : MX} {out : MSt} {a0 : Nat} {a1 : Int32} {a2 : Int32}  : ∀ (n : Nat) (x3 : Int32) (σ : MSt), f_X5_begin_L12 a0 a1 a2 n x3 σ = some out → MV l E cX5_begin RX5 4 none 1 (82, none, out) σ 12 [(0, .ref a0), (1, .int a1), (2, .int a2), (3, .int x3)] [] := by
  intro n
  induction n with
  | zero =>
    intro x3 σ h
    exact nomatch h
  | succ n ih =>
    intro x3 σ h
    rw [f_X5_begin_L12] at h
    refine mw_iload_n dX5_begin_12 3 rfl ?_
    refine mw_bipush (v := 40) dX5_begin_13 (by decide) ?_
    refine mw_icmp_ge (tgt := 31) dX5_begin_15 (by decide) (fun hc => ?_) (fun hc => ?_)
    · have h := mit hc h
      exact mw_vret dX5_begin_31 rfl (mrs_vm h) rfl rfl
    · have h := mie hc h
      refine mw_aload_n dX5_begin_18 0 rfl ?_
      obtain ⟨m1, h⟩ := mif h
      obtain ⟨q2, e3, h⟩ := mbd h
      refine mv_getR fd_RX5_9_4 dX5_begin_19 m1 rfl e3 ?_
      refine mw_iload_n dX5_begin_22 3 rfl ?_
      refine mw_lconst (v := 0) dX5_begin_23 (by decide) ?_
      obtain ⟨m4, h⟩ := mif h
      refine mv_last dX5_begin_24 m4 ?_
      refine mw_iinc (v := (x3 + 1)) (L' := [(3, .int (x3 + 1)), (0, .ref a0), (1, .int a1), (2, .int a2)]) dX5_begin_25 3 rfl rfl (by decide) rfl ?_
      refine mw_goto (tgt := 12) dX5_begin_28 (by decide) ?_
      exact mw_sub (L' := [(0, .ref a0), (1, .int a1), (2, .int a2), (3, .int (x3 + 1))]) [1, 2, 3, 0] rfl (ih _ _ h)
def f_X5_begin (a0 : Nat) (a1 : Int32) (a2 : Int32) (σ : MSt) : Option MSt := if mob 4 a0 = true then (f_X5_begin_L12 a0 a1 a2 mN (0 : Int32) (muI (muI σ a0 0 a1) a0 1 a2)) else none
set_option maxRecDepth 100000 in
set_option maxHeartbeats 4000000 in
theorem k_X5_begin {l : Launch} {σ : MSt} {a0 : Nat} {a1 : Int32} {a2 : Int32} {out : MSt} (h : f_X5_begin a0 a1 a2 σ = some out) : MK l yX5_begin cX5_begin 4 none 1 [.ref a0, .int a1, .int a2] σ none out := by
  unfold f_X5_begin at h
  refine mw_entry (own := RX5) (ini := false) (L := [(0, .ref a0), (1, .int a1), (2, .int a2)]) (by decide +kernel) rfl (fun h => nomatch h) rfl (Nat.le_of_ble_eq_true rfl) (Nat.le_of_ble_eq_true rfl) (fun E => ?_)
  refine mw_aload_n dX5_begin_0 0 rfl ?_
  refine mw_iload_n dX5_begin_1 1 rfl ?_
  obtain ⟨m1, h⟩ := mif h
  refine mv_putI fw_RX5_15_4 dX5_begin_2 m1 rfl ?_
  refine mw_aload_n dX5_begin_5 0 rfl ?_
  refine mw_iload_n dX5_begin_6 2 rfl ?_
  refine mv_putI fw_RX5_19_4 dX5_begin_7 m1 rfl ?_
  refine mw_iconst (v := 0) dX5_begin_10 (by decide) ?_
  refine mw_istore_n (L' := [(3, .int (0 : Int32)), (0, .ref a0), (1, .int a1), (2, .int a2)]) dX5_begin_11 rfl (by decide) rfl ?_
  exact mw_sub (L' := [(0, .ref a0), (1, .int a1), (2, .int a2), (3, .int (0 : Int32))]) [1, 2, 3, 0] rfl (p_X5_begin_L12  mN _ _ h)

theorem dX9_sheet_0 : decode cX9_sheet 0 = .ok (.iload_n 1, 1) := by decide +kernel
theorem dX9_sheet_1 : decode cX9_sheet 1 = .ok (.iconst 0, 1) := by decide +kernel
theorem dX9_sheet_2 : decode cX9_sheet 2 = .ok (.iconst 3, 1) := by decide +kernel
theorem dX9_sheet_3 : decode cX9_sheet 3 = .ok (.invokestatic 75, 3) := by decide +kernel
theorem dX9_sheet_6 : decode cX9_sheet 6 = .ok (.ifCond .eq 25, 3) := by decide +kernel
theorem dX9_sheet_9 : decode cX9_sheet 9 = .ok (.iload_n 2, 1) := by decide +kernel
theorem dX9_sheet_10 : decode cX9_sheet 10 = .ok (.ifCond .eq 27, 3) := by decide +kernel
theorem dX9_sheet_13 : decode cX9_sheet 13 = .ok (.iload_n 2, 1) := by decide +kernel
theorem dX9_sheet_14 : decode cX9_sheet 14 = .ok (.bipush 16, 2) := by decide +kernel
theorem dX9_sheet_16 : decode cX9_sheet 16 = .ok (.if_icmp .eq 21, 3) := by decide +kernel
theorem dX9_sheet_19 : decode cX9_sheet 19 = .ok (.iload_n 2, 1) := by decide +kernel
theorem dX9_sheet_20 : decode cX9_sheet 20 = .ok (.bipush 32, 2) := by decide +kernel
theorem dX9_sheet_22 : decode cX9_sheet 22 = .ok (.if_icmp .eq 15, 3) := by decide +kernel
theorem dX9_sheet_25 : decode cX9_sheet 25 = .ok (.iload_n 2, 1) := by decide +kernel
theorem dX9_sheet_26 : decode cX9_sheet 26 = .ok (.bipush 64, 2) := by decide +kernel
theorem dX9_sheet_28 : decode cX9_sheet 28 = .ok (.if_icmp .eq 9, 3) := by decide +kernel
theorem dX9_sheet_31 : decode cX9_sheet 31 = .ok (.aload_n 0, 1) := by decide +kernel
theorem dX9_sheet_32 : decode cX9_sheet 32 = .ok (.iconst 0, 1) := by decide +kernel
theorem dX9_sheet_33 : decode cX9_sheet 33 = .ok (.invokevirtual 79, 3) := by decide +kernel
theorem dX9_sheet_36 : decode cX9_sheet 36 = .ok (.ireturn, 1) := by decide +kernel
theorem dX9_sheet_37 : decode cX9_sheet 37 = .ok (.iload_n 2, 1) := by decide +kernel
theorem dX9_sheet_38 : decode cX9_sheet 38 = .ok (.ifCond .eq 14, 3) := by decide +kernel
theorem dX9_sheet_41 : decode cX9_sheet 41 = .ok (.iload_n 3, 1) := by decide +kernel
theorem dX9_sheet_42 : decode cX9_sheet 42 = .ok (.ifCond .ge 10, 3) := by decide +kernel
theorem dX9_sheet_45 : decode cX9_sheet 45 = .ok (.aload_n 0, 1) := by decide +kernel
theorem dX9_sheet_46 : decode cX9_sheet 46 = .ok (.bipush 6, 2) := by decide +kernel
theorem dX9_sheet_48 : decode cX9_sheet 48 = .ok (.invokevirtual 79, 3) := by decide +kernel
theorem dX9_sheet_51 : decode cX9_sheet 51 = .ok (.ireturn, 1) := by decide +kernel
theorem dX9_sheet_52 : decode cX9_sheet 52 = .ok (.iload_n 2, 1) := by decide +kernel
theorem dX9_sheet_53 : decode cX9_sheet 53 = .ok (.ifCond .eq 15, 3) := by decide +kernel
theorem dX9_sheet_56 : decode cX9_sheet 56 = .ok (.iload_n 3, 1) := by decide +kernel
theorem dX9_sheet_57 : decode cX9_sheet 57 = .ok (.bipush 40, 2) := by decide +kernel
theorem dX9_sheet_59 : decode cX9_sheet 59 = .ok (.if_icmp .le 9, 3) := by decide +kernel
theorem dX9_sheet_62 : decode cX9_sheet 62 = .ok (.aload_n 0, 1) := by decide +kernel
theorem dX9_sheet_63 : decode cX9_sheet 63 = .ok (.iconst 0, 1) := by decide +kernel
theorem dX9_sheet_64 : decode cX9_sheet 64 = .ok (.invokevirtual 79, 3) := by decide +kernel
theorem dX9_sheet_67 : decode cX9_sheet 67 = .ok (.ireturn, 1) := by decide +kernel
theorem dX9_sheet_68 : decode cX9_sheet 68 = .ok (.aload_n 0, 1) := by decide +kernel
theorem dX9_sheet_69 : decode cX9_sheet 69 = .ok (.getfield 66, 3) := by decide +kernel
theorem dX9_sheet_72 : decode cX9_sheet 72 = .ok (.iload_n 1, 1) := by decide +kernel
theorem dX9_sheet_73 : decode cX9_sheet 73 = .ok (.aaload, 1) := by decide +kernel
theorem dX9_sheet_74 : decode cX9_sheet 74 = .ok (.iload_n 2, 1) := by decide +kernel
theorem dX9_sheet_75 : decode cX9_sheet 75 = .ok (.iload_n 2, 1) := by decide +kernel
theorem dX9_sheet_76 : decode cX9_sheet 76 = .ok (.ifCond .ne 7, 3) := by decide +kernel
theorem dX9_sheet_79 : decode cX9_sheet 79 = .ok (.iconst 0, 1) := by decide +kernel
theorem dX9_sheet_80 : decode cX9_sheet 80 = .ok (.goto 4, 3) := by decide +kernel
theorem dX9_sheet_83 : decode cX9_sheet 83 = .ok (.iload_n 3, 1) := by decide +kernel
theorem dX9_sheet_84 : decode cX9_sheet 84 = .ok (.invokevirtual 332, 3) := by decide +kernel
theorem dX9_sheet_87 : decode cX9_sheet 87 = .ok (.aload_n 0, 1) := by decide +kernel
theorem dX9_sheet_88 : decode cX9_sheet 88 = .ok (.getfield 66, 3) := by decide +kernel
theorem dX9_sheet_91 : decode cX9_sheet 91 = .ok (.iload_n 1, 1) := by decide +kernel
theorem dX9_sheet_92 : decode cX9_sheet 92 = .ok (.aaload, 1) := by decide +kernel
theorem dX9_sheet_93 : decode cX9_sheet 93 = .ok (.getfield 336, 3) := by decide +kernel
theorem dX9_sheet_96 : decode cX9_sheet 96 = .ok (.ireturn, 1) := by decide +kernel
def f_X9_sheet_J84 (a0 : Nat) (a1 : Int32) (a2 : Int32) (a3 : Int32) (s0 : Nat) (s1 : Int32) (s2 : Int32) (σ : MSt) : Option (Int32 × MSt) := (f_X5_begin s0 s1 s2 σ).bind (fun r1 => if mob 4 s0 = true then (if mob 8 a0 = true then ((mmR r1 a0 10).bind (fun q5 => if mix 4 q5 a1 = true then ((mmR r1 q5 a1.toNatClampNeg).bind (fun q8 => if mob 4 q8 = true then (some ((mmI r1 q8 1), r1)) else none)) else none)) else none) else none)
set_option maxRecDepth 100000 in
set_option maxHeartbeats 4000000 in
theorem p_X9_sheet_J84 {l : Launch} {E : MX} {out : (Int32 × MSt)} {a0 : Nat} {a1 : Int32} {a2 : Int32} {a3 : Int32}  {s0 : Nat} {s1 : Int32} {s2 : Int32} {σ : MSt} (h : f_X9_sheet_J84 a0 a1 a2 a3 s0 s1 s2 σ = some out) : MV l E cX9_sheet RX9 4 (some .int) 2 (82, (some (.int out.1)), out.2) σ 84 [(0, .ref a0), (1, .int a1), (2, .int a2), (3, .int a3)] [.int s2, .int s1, .ref s0] := by
  unfold f_X9_sheet_J84 at h
  obtain ⟨r1, e2, h⟩ := mbd h
  obtain ⟨m3, h⟩ := mif h
  refine mv_callV_v (As := [.int s1, .int s2]) lkV_RX9_332_yX5_begin dX9_sheet_84 (k_X5_begin e2) rfl m3 rfl rfl (Nat.le_of_ble_eq_true rfl) (by decide) (by decide) ?_
  refine mw_aload_n dX9_sheet_87 0 rfl ?_
  obtain ⟨m4, h⟩ := mif h
  obtain ⟨q5, e6, h⟩ := mbd h
  refine mv_getR fd_RX9_66_8 dX9_sheet_88 m4 rfl e6 ?_
  refine mw_iload_n dX9_sheet_91 1 rfl ?_
  obtain ⟨m7, h⟩ := mif h
  obtain ⟨q8, e9, h⟩ := mbd h
  refine mv_aald dX9_sheet_92 m7 e9 ?_
  obtain ⟨m10, h⟩ := mif h
  refine mv_getI fd_RX9_336_4 dX9_sheet_93 m10 rfl ?_
  exact mw_iret dX9_sheet_96 rfl (mrs_im h) rfl rfl
def f_X9_sheet_J68 (a0 : Nat) (a1 : Int32) (a2 : Int32) (a3 : Int32) (σ : MSt) : Option (Int32 × MSt) := if mob 8 a0 = true then ((mmR σ a0 10).bind (fun q2 => if mix 4 q2 a1 = true then ((mmR σ q2 a1.toNatClampNeg).bind (fun q5 => if a2 = 0 then (f_X9_sheet_J84 a0 a1 a2 a3 q5 a2 (0 : Int32) σ) else (f_X9_sheet_J84 a0 a1 a2 a3 q5 a2 a3 σ))) else none)) else none
set_option maxRecDepth 100000 in
set_option maxHeartbeats 4000000 in
theorem p_X9_sheet_J68 {l : Launch} {E : MX} {out : (Int32 × MSt)} {a0 : Nat} {a1 : Int32} {a2 : Int32} {a3 : Int32}  {σ : MSt} (h : f_X9_sheet_J68 a0 a1 a2 a3 σ = some out) : MV l E cX9_sheet RX9 4 (some .int) 2 (82, (some (.int out.1)), out.2) σ 68 [(0, .ref a0), (1, .int a1), (2, .int a2), (3, .int a3)] [] := by
  unfold f_X9_sheet_J68 at h
  refine mw_aload_n dX9_sheet_68 0 rfl ?_
  obtain ⟨m1, h⟩ := mif h
  obtain ⟨q2, e3, h⟩ := mbd h
  refine mv_getR fd_RX9_66_8 dX9_sheet_69 m1 rfl e3 ?_
  refine mw_iload_n dX9_sheet_72 1 rfl ?_
  obtain ⟨m4, h⟩ := mif h
  obtain ⟨q5, e6, h⟩ := mbd h
  refine mv_aald dX9_sheet_73 m4 e6 ?_
  refine mw_iload_n dX9_sheet_74 2 rfl ?_
  refine mw_iload_n dX9_sheet_75 2 rfl ?_
  refine mw_if_ne (tgt := 83) dX9_sheet_76 (by decide) (fun hc => ?_) (fun hc => ?_)
  · have h := mie hc h
    refine mw_iload_n dX9_sheet_83 3 rfl ?_
    exact mw_sub (L' := [(0, .ref a0), (1, .int a1), (2, .int a2), (3, .int a3)]) [0, 1, 2, 3] rfl (p_X9_sheet_J84  h)
  · have h := mit hc h
    refine mw_iconst (v := 0) dX9_sheet_79 (by decide) ?_
    refine mw_goto (tgt := 84) dX9_sheet_80 (by decide) ?_
    exact mw_sub (L' := [(0, .ref a0), (1, .int a1), (2, .int a2), (3, .int a3)]) [0, 1, 2, 3] rfl (p_X9_sheet_J84  h)
def f_X9_sheet_J52 (a0 : Nat) (a1 : Int32) (a2 : Int32) (a3 : Int32) (σ : MSt) : Option (Int32 × MSt) := if a2 = 0 then (f_X9_sheet_J68 a0 a1 a2 a3 σ) else (if a3 ≤ (40 : Int32) then (f_X9_sheet_J68 a0 a1 a2 a3 σ) else ((f_X9_finding a0 (0 : Int32) σ).bind (fun r1 => if mob 8 a0 = true then (some (r1.1, r1.2)) else none)))
set_option maxRecDepth 100000 in
set_option maxHeartbeats 4000000 in
theorem p_X9_sheet_J52 {l : Launch} {E : MX} {out : (Int32 × MSt)} {a0 : Nat} {a1 : Int32} {a2 : Int32} {a3 : Int32}  {σ : MSt} (h : f_X9_sheet_J52 a0 a1 a2 a3 σ = some out) : MV l E cX9_sheet RX9 4 (some .int) 2 (82, (some (.int out.1)), out.2) σ 52 [(0, .ref a0), (1, .int a1), (2, .int a2), (3, .int a3)] [] := by
  unfold f_X9_sheet_J52 at h
  refine mw_iload_n dX9_sheet_52 2 rfl ?_
  refine mw_if_eq (tgt := 68) dX9_sheet_53 (by decide) (fun hc => ?_) (fun hc => ?_)
  · have h := mit hc h
    exact mw_sub (L' := [(0, .ref a0), (1, .int a1), (2, .int a2), (3, .int a3)]) [0, 1, 2, 3] rfl (p_X9_sheet_J68  h)
  · have h := mie hc h
    refine mw_iload_n dX9_sheet_56 3 rfl ?_
    refine mw_bipush (v := 40) dX9_sheet_57 (by decide) ?_
    refine mw_icmp_le (tgt := 68) dX9_sheet_59 (by decide) (fun hc => ?_) (fun hc => ?_)
    · have h := mit hc h
      exact mw_sub (L' := [(0, .ref a0), (1, .int a1), (2, .int a2), (3, .int a3)]) [0, 1, 2, 3] rfl (p_X9_sheet_J68  h)
    · have h := mie hc h
      refine mw_aload_n dX9_sheet_62 0 rfl ?_
      refine mw_iconst (v := 0) dX9_sheet_63 (by decide) ?_
      obtain ⟨r1, e2, h⟩ := mbd h
      obtain ⟨m3, h⟩ := mif h
      refine mv_callV_i (As := [.int (0 : Int32)]) lkV_RX9_79_yX9_finding dX9_sheet_64 (k_X9_finding e2) rfl m3 rfl rfl (Nat.le_of_ble_eq_true rfl) (by decide) (by decide) ?_
      exact mw_iret dX9_sheet_67 rfl (mrs_im h) rfl rfl
def f_X9_sheet_J37 (a0 : Nat) (a1 : Int32) (a2 : Int32) (a3 : Int32) (σ : MSt) : Option (Int32 × MSt) := if a2 = 0 then (f_X9_sheet_J52 a0 a1 a2 a3 σ) else (if 0 ≤ a3 then (f_X9_sheet_J52 a0 a1 a2 a3 σ) else ((f_X9_finding a0 (6 : Int32) σ).bind (fun r1 => if mob 8 a0 = true then (some (r1.1, r1.2)) else none)))
set_option maxRecDepth 100000 in
set_option maxHeartbeats 4000000 in
theorem p_X9_sheet_J37 {l : Launch} {E : MX} {out : (Int32 × MSt)} {a0 : Nat} {a1 : Int32} {a2 : Int32} {a3 : Int32}  {σ : MSt} (h : f_X9_sheet_J37 a0 a1 a2 a3 σ = some out) : MV l E cX9_sheet RX9 4 (some .int) 2 (82, (some (.int out.1)), out.2) σ 37 [(0, .ref a0), (1, .int a1), (2, .int a2), (3, .int a3)] [] := by
  unfold f_X9_sheet_J37 at h
  refine mw_iload_n dX9_sheet_37 2 rfl ?_
  refine mw_if_eq (tgt := 52) dX9_sheet_38 (by decide) (fun hc => ?_) (fun hc => ?_)
  · have h := mit hc h
    exact mw_sub (L' := [(0, .ref a0), (1, .int a1), (2, .int a2), (3, .int a3)]) [0, 1, 2, 3] rfl (p_X9_sheet_J52  h)
  · have h := mie hc h
    refine mw_iload_n dX9_sheet_41 3 rfl ?_
    refine mw_if_ge (tgt := 52) dX9_sheet_42 (by decide) (fun hc => ?_) (fun hc => ?_)
    · have h := mit hc h
      exact mw_sub (L' := [(0, .ref a0), (1, .int a1), (2, .int a2), (3, .int a3)]) [0, 1, 2, 3] rfl (p_X9_sheet_J52  h)
    · have h := mie hc h
      refine mw_aload_n dX9_sheet_45 0 rfl ?_
      refine mw_bipush (v := 6) dX9_sheet_46 (by decide) ?_
      obtain ⟨r1, e2, h⟩ := mbd h
      obtain ⟨m3, h⟩ := mif h
      refine mv_callV_i (As := [.int (6 : Int32)]) lkV_RX9_79_yX9_finding dX9_sheet_48 (k_X9_finding e2) rfl m3 rfl rfl (Nat.le_of_ble_eq_true rfl) (by decide) (by decide) ?_
      exact mw_iret dX9_sheet_51 rfl (mrs_im h) rfl rfl
def f_X9_sheet (a0 : Nat) (a1 : Int32) (a2 : Int32) (a3 : Int32) (σ : MSt) : Option (Int32 × MSt) := (f_X9_within a1 (0 : Int32) (3 : Int32)).bind (fun r1 => if r1 = 0 then ((f_X9_finding a0 (0 : Int32) σ).bind (fun r3 => if mob 8 a0 = true then (some (r3.1, r3.2)) else none)) else (if a2 = 0 then (f_X9_sheet_J37 a0 a1 a2 a3 σ) else (if a2 = (16 : Int32) then (f_X9_sheet_J37 a0 a1 a2 a3 σ) else (if a2 = (32 : Int32) then (f_X9_sheet_J37 a0 a1 a2 a3 σ) else (if a2 = (64 : Int32) then (f_X9_sheet_J37 a0 a1 a2 a3 σ) else ((f_X9_finding a0 (0 : Int32) σ).bind (fun r6 => if mob 8 a0 = true then (some (r6.1, r6.2)) else none)))))))
set_option maxRecDepth 100000 in
set_option maxHeartbeats 4000000 in
theorem k_X9_sheet {l : Launch} {σ : MSt} {a0 : Nat} {a1 : Int32} {a2 : Int32} {a3 : Int32} {out : (Int32 × MSt)} (h : f_X9_sheet a0 a1 a2 a3 σ = some out) : MK l yX9_sheet cX9_sheet 4 (some .int) 2 [.ref a0, .int a1, .int a2, .int a3] σ (some (.int out.1)) out.2 := by
  unfold f_X9_sheet at h
  refine mw_entry (own := RX9) (ini := false) (L := [(0, .ref a0), (1, .int a1), (2, .int a2), (3, .int a3)]) (by decide +kernel) rfl (fun h => nomatch h) rfl (Nat.le_of_ble_eq_true rfl) (Nat.le_of_ble_eq_true rfl) (fun E => ?_)
  refine mw_iload_n dX9_sheet_0 1 rfl ?_
  refine mw_iconst (v := 0) dX9_sheet_1 (by decide) ?_
  refine mw_iconst (v := 3) dX9_sheet_2 (by decide) ?_
  obtain ⟨r1, e2, h⟩ := mbd h
  refine mv_callS_i (As := [.int a1, .int (0 : Int32), .int (3 : Int32)]) lkS_RX9_75_yX9_within dX9_sheet_3 (k_X9_within e2) rfl rfl (Nat.le_of_ble_eq_true rfl) (by decide) (by decide) ?_
  refine mw_if_eq (tgt := 31) dX9_sheet_6 (by decide) (fun hc => ?_) (fun hc => ?_)
  · have h := mit hc h
    refine mw_aload_n dX9_sheet_31 0 rfl ?_
    refine mw_iconst (v := 0) dX9_sheet_32 (by decide) ?_
    obtain ⟨r3, e4, h⟩ := mbd h
    obtain ⟨m5, h⟩ := mif h
    refine mv_callV_i (As := [.int (0 : Int32)]) lkV_RX9_79_yX9_finding dX9_sheet_33 (k_X9_finding e4) rfl m5 rfl rfl (Nat.le_of_ble_eq_true rfl) (by decide) (by decide) ?_
    exact mw_iret dX9_sheet_36 rfl (mrs_im h) rfl rfl
  · have h := mie hc h
    refine mw_iload_n dX9_sheet_9 2 rfl ?_
    refine mw_if_eq (tgt := 37) dX9_sheet_10 (by decide) (fun hc => ?_) (fun hc => ?_)
    · have h := mit hc h
      exact mw_sub (L' := [(0, .ref a0), (1, .int a1), (2, .int a2), (3, .int a3)]) [0, 1, 2, 3] rfl (p_X9_sheet_J37  h)
    · have h := mie hc h
      refine mw_iload_n dX9_sheet_13 2 rfl ?_
      refine mw_bipush (v := 16) dX9_sheet_14 (by decide) ?_
      refine mw_icmp_eq (tgt := 37) dX9_sheet_16 (by decide) (fun hc => ?_) (fun hc => ?_)
      · have h := mit hc h
        exact mw_sub (L' := [(0, .ref a0), (1, .int a1), (2, .int a2), (3, .int a3)]) [0, 1, 2, 3] rfl (p_X9_sheet_J37  h)
      · have h := mie hc h
        refine mw_iload_n dX9_sheet_19 2 rfl ?_
        refine mw_bipush (v := 32) dX9_sheet_20 (by decide) ?_
        refine mw_icmp_eq (tgt := 37) dX9_sheet_22 (by decide) (fun hc => ?_) (fun hc => ?_)
        · have h := mit hc h
          exact mw_sub (L' := [(0, .ref a0), (1, .int a1), (2, .int a2), (3, .int a3)]) [0, 1, 2, 3] rfl (p_X9_sheet_J37  h)
        · have h := mie hc h
          refine mw_iload_n dX9_sheet_25 2 rfl ?_
          refine mw_bipush (v := 64) dX9_sheet_26 (by decide) ?_
          refine mw_icmp_eq (tgt := 37) dX9_sheet_28 (by decide) (fun hc => ?_) (fun hc => ?_)
          · have h := mit hc h
            exact mw_sub (L' := [(0, .ref a0), (1, .int a1), (2, .int a2), (3, .int a3)]) [0, 1, 2, 3] rfl (p_X9_sheet_J37  h)
          · have h := mie hc h
            refine mw_aload_n dX9_sheet_31 0 rfl ?_
            refine mw_iconst (v := 0) dX9_sheet_32 (by decide) ?_
            obtain ⟨r6, e7, h⟩ := mbd h
            obtain ⟨m8, h⟩ := mif h
            refine mv_callV_i (As := [.int (0 : Int32)]) lkV_RX9_79_yX9_finding dX9_sheet_33 (k_X9_finding e7) rfl m8 rfl rfl (Nat.le_of_ble_eq_true rfl) (by decide) (by decide) ?_
            exact mw_iret dX9_sheet_36 rfl (mrs_im h) rfl rfl

theorem dX9_numberFault_0 : decode cX9_numberFault 0 = .ok (.aload_n 0, 1) := by decide +kernel
theorem dX9_numberFault_1 : decode cX9_numberFault 1 = .ok (.iload_n 1, 1) := by decide +kernel
theorem dX9_numberFault_2 : decode cX9_numberFault 2 = .ok (.invokevirtual 315, 3) := by decide +kernel
theorem dX9_numberFault_5 : decode cX9_numberFault 5 = .ok (.istore_n 3, 1) := by decide +kernel
theorem dX9_numberFault_6 : decode cX9_numberFault 6 = .ok (.iload_n 3, 1) := by decide +kernel
theorem dX9_numberFault_7 : decode cX9_numberFault 7 = .ok (.iconst (-1), 1) := by decide +kernel
theorem dX9_numberFault_8 : decode cX9_numberFault 8 = .ok (.if_icmp .eq 5, 3) := by decide +kernel
theorem dX9_numberFault_11 : decode cX9_numberFault 11 = .ok (.iload_n 3, 1) := by decide +kernel
theorem dX9_numberFault_12 : decode cX9_numberFault 12 = .ok (.ireturn, 1) := by decide +kernel
theorem dX9_numberFault_13 : decode cX9_numberFault 13 = .ok (.iload_n 2, 1) := by decide +kernel
theorem dX9_numberFault_14 : decode cX9_numberFault 14 = .ok (.iconst 0, 1) := by decide +kernel
theorem dX9_numberFault_15 : decode cX9_numberFault 15 = .ok (.aload_n 0, 1) := by decide +kernel
theorem dX9_numberFault_16 : decode cX9_numberFault 16 = .ok (.getfield 66, 3) := by decide +kernel
theorem dX9_numberFault_19 : decode cX9_numberFault 19 = .ok (.iload_n 1, 1) := by decide +kernel
theorem dX9_numberFault_20 : decode cX9_numberFault 20 = .ok (.aaload, 1) := by decide +kernel
theorem dX9_numberFault_21 : decode cX9_numberFault 21 = .ok (.getfield 336, 3) := by decide +kernel
theorem dX9_numberFault_24 : decode cX9_numberFault 24 = .ok (.iconst 1, 1) := by decide +kernel
theorem dX9_numberFault_25 : decode cX9_numberFault 25 = .ok (.isub, 1) := by decide +kernel
theorem dX9_numberFault_26 : decode cX9_numberFault 26 = .ok (.invokestatic 75, 3) := by decide +kernel
theorem dX9_numberFault_29 : decode cX9_numberFault 29 = .ok (.ifCond .eq 7, 3) := by decide +kernel
theorem dX9_numberFault_32 : decode cX9_numberFault 32 = .ok (.iconst (-1), 1) := by decide +kernel
theorem dX9_numberFault_33 : decode cX9_numberFault 33 = .ok (.goto 4, 3) := by decide +kernel
theorem dX9_numberFault_36 : decode cX9_numberFault 36 = .ok (.iconst 0, 1) := by decide +kernel
theorem dX9_numberFault_37 : decode cX9_numberFault 37 = .ok (.ireturn, 1) := by decide +kernel
def f_X9_numberFault (σ : MSt) (a0 : Nat) (a1 : Int32) (a2 : Int32) : Option Int32 := (f_X9_sheetFault σ a0 a1).bind (fun r1 => if mob 8 a0 = true then (if r1 = (-1 : Int32) then ((mmR σ a0 10).bind (fun q4 => if mix 4 q4 a1 = true then ((mmR σ q4 a1.toNatClampNeg).bind (fun q7 => if mob 4 q7 = true then ((f_X9_within a2 (0 : Int32) ((mmI σ q7 1) - (1 : Int32))).bind (fun r10 => if r10 = 0 then (some (0 : Int32)) else (some (-1 : Int32)))) else none)) else none)) else (some r1)) else none)
set_option maxRecDepth 100000 in
set_option maxHeartbeats 4000000 in
theorem k_X9_numberFault {l : Launch} {σ : MSt} {a0 : Nat} {a1 : Int32} {a2 : Int32} {out : Int32} (h : f_X9_numberFault σ a0 a1 a2 = some out) : MK l yX9_numberFault cX9_numberFault 4 (some .int) 3 [.ref a0, .int a1, .int a2] σ (some (.int out)) σ := by
  unfold f_X9_numberFault at h
  refine mw_entry (own := RX9) (ini := false) (L := [(0, .ref a0), (1, .int a1), (2, .int a2)]) (by decide +kernel) rfl (fun h => nomatch h) rfl (Nat.le_of_ble_eq_true rfl) (Nat.le_of_ble_eq_true rfl) (fun E => ?_)
  refine mw_aload_n dX9_numberFault_0 0 rfl ?_
  refine mw_iload_n dX9_numberFault_1 1 rfl ?_
  obtain ⟨r1, e2, h⟩ := mbd h
  obtain ⟨m3, h⟩ := mif h
  refine mv_callV_i (As := [.int a1]) lkV_RX9_315_yX9_sheetFault dX9_numberFault_2 (k_X9_sheetFault e2) rfl m3 rfl rfl (Nat.le_of_ble_eq_true rfl) (by decide) (by decide) ?_
  refine mw_istore_n (L' := [(3, .int r1), (0, .ref a0), (1, .int a1), (2, .int a2)]) dX9_numberFault_5 rfl (by decide) rfl ?_
  refine mw_iload_n dX9_numberFault_6 0 rfl ?_
  refine mw_iconst (v := -1) dX9_numberFault_7 (by decide) ?_
  refine mw_icmp_eq (tgt := 13) dX9_numberFault_8 (by decide) (fun hc => ?_) (fun hc => ?_)
  · have h := mit hc h
    refine mw_iload_n dX9_numberFault_13 3 rfl ?_
    refine mw_iconst (v := 0) dX9_numberFault_14 (by decide) ?_
    refine mw_aload_n dX9_numberFault_15 1 rfl ?_
    obtain ⟨q4, e5, h⟩ := mbd h
    refine mv_getR fd_RX9_66_8 dX9_numberFault_16 m3 rfl e5 ?_
    refine mw_iload_n dX9_numberFault_19 2 rfl ?_
    obtain ⟨m6, h⟩ := mif h
    obtain ⟨q7, e8, h⟩ := mbd h
    refine mv_aald dX9_numberFault_20 m6 e8 ?_
    obtain ⟨m9, h⟩ := mif h
    refine mv_getI fd_RX9_336_4 dX9_numberFault_21 m9 rfl ?_
    refine mw_iconst (v := 1) dX9_numberFault_24 (by decide) ?_
    refine mw_isub dX9_numberFault_25 ?_
    obtain ⟨r10, e11, h⟩ := mbd h
    refine mv_callS_i (As := [.int a2, .int (0 : Int32), .int ((mmI σ q7 1) - (1 : Int32))]) lkS_RX9_75_yX9_within dX9_numberFault_26 (k_X9_within e11) rfl rfl (Nat.le_of_ble_eq_true rfl) (by decide) (by decide) ?_
    refine mw_if_eq (tgt := 36) dX9_numberFault_29 (by decide) (fun hc => ?_) (fun hc => ?_)
    · have h := mit hc h
      refine mw_iconst (v := 0) dX9_numberFault_36 (by decide) ?_
      exact mw_iret dX9_numberFault_37 rfl (mrs_i h) rfl rfl
    · have h := mie hc h
      refine mw_iconst (v := -1) dX9_numberFault_32 (by decide) ?_
      refine mw_goto (tgt := 37) dX9_numberFault_33 (by decide) ?_
      exact mw_iret dX9_numberFault_37 rfl (mrs_i h) rfl rfl
  · have h := mie hc h
    refine mw_iload_n dX9_numberFault_11 0 rfl ?_
    exact mw_iret dX9_numberFault_12 rfl (mrs_i h) rfl rfl

theorem dX9_write_0 : decode cX9_write 0 = .ok (.aload_n 0, 1) := by decide +kernel
theorem dX9_write_1 : decode cX9_write 1 = .ok (.iload_n 1, 1) := by decide +kernel
theorem dX9_write_2 : decode cX9_write 2 = .ok (.iload_n 2, 1) := by decide +kernel
theorem dX9_write_3 : decode cX9_write 3 = .ok (.invokevirtual 337, 3) := by decide +kernel
theorem dX9_write_6 : decode cX9_write 6 = .ok (.istore 5, 2) := by decide +kernel
theorem dX9_write_8 : decode cX9_write 8 = .ok (.iload 5, 2) := by decide +kernel
theorem dX9_write_10 : decode cX9_write 10 = .ok (.iconst (-1), 1) := by decide +kernel
theorem dX9_write_11 : decode cX9_write 11 = .ok (.if_icmp .eq 10, 3) := by decide +kernel
theorem dX9_write_14 : decode cX9_write 14 = .ok (.aload_n 0, 1) := by decide +kernel
theorem dX9_write_15 : decode cX9_write 15 = .ok (.iload 5, 2) := by decide +kernel
theorem dX9_write_17 : decode cX9_write 17 = .ok (.invokevirtual 79, 3) := by decide +kernel
theorem dX9_write_20 : decode cX9_write 20 = .ok (.ireturn, 1) := by decide +kernel
theorem dX9_write_21 : decode cX9_write 21 = .ok (.aload_n 0, 1) := by decide +kernel
theorem dX9_write_22 : decode cX9_write 22 = .ok (.getfield 66, 3) := by decide +kernel
theorem dX9_write_25 : decode cX9_write 25 = .ok (.iload_n 1, 1) := by decide +kernel
theorem dX9_write_26 : decode cX9_write 26 = .ok (.aaload, 1) := by decide +kernel
theorem dX9_write_27 : decode cX9_write 27 = .ok (.iload_n 2, 1) := by decide +kernel
theorem dX9_write_28 : decode cX9_write 28 = .ok (.lload_n 3, 1) := by decide +kernel
theorem dX9_write_29 : decode cX9_write 29 = .ok (.invokevirtual 309, 3) := by decide +kernel
theorem dX9_write_32 : decode cX9_write 32 = .ok (.iconst 1, 1) := by decide +kernel
theorem dX9_write_33 : decode cX9_write 33 = .ok (.ireturn, 1) := by decide +kernel
def f_X9_write (a0 : Nat) (a1 : Int32) (a2 : Int32) (a3 : Int64) (σ : MSt) : Option (Int32 × MSt) := (f_X9_numberFault σ a0 a1 a2).bind (fun r1 => if mob 8 a0 = true then (if r1 = (-1 : Int32) then ((mmR σ a0 10).bind (fun q4 => if mix 4 q4 a1 = true then ((mmR σ q4 a1.toNatClampNeg).bind (fun q7 => (f_X5_put q7 a2 a3 σ).bind (fun r9 => if mob 4 q7 = true then (some ((1 : Int32), r9)) else none))) else none)) else ((f_X9_finding a0 r1 σ).bind (fun r12 => some (r12.1, r12.2)))) else none)
set_option maxRecDepth 100000 in
set_option maxHeartbeats 4000000 in
theorem k_X9_write {l : Launch} {σ : MSt} {a0 : Nat} {a1 : Int32} {a2 : Int32} {a3 : Int64} {out : (Int32 × MSt)} (h : f_X9_write a0 a1 a2 a3 σ = some out) : MK l yX9_write cX9_write 6 (some .int) 4 [.ref a0, .int a1, .int a2, .long a3] σ (some (.int out.1)) out.2 := by
  unfold f_X9_write at h
  refine mw_entry (own := RX9) (ini := false) (L := [(0, .ref a0), (1, .int a1), (2, .int a2), (3, .long a3)]) (by decide +kernel) rfl (fun h => nomatch h) rfl (Nat.le_of_ble_eq_true rfl) (Nat.le_of_ble_eq_true rfl) (fun E => ?_)
  refine mw_aload_n dX9_write_0 0 rfl ?_
  refine mw_iload_n dX9_write_1 1 rfl ?_
  refine mw_iload_n dX9_write_2 2 rfl ?_
  obtain ⟨r1, e2, h⟩ := mbd h
  obtain ⟨m3, h⟩ := mif h
  refine mv_callV_i (As := [.int a1, .int a2]) lkV_RX9_337_yX9_numberFault dX9_write_3 (k_X9_numberFault e2) rfl m3 rfl rfl (Nat.le_of_ble_eq_true rfl) (by decide) (by decide) ?_
  refine mw_istore (L' := [(5, .int r1), (0, .ref a0), (1, .int a1), (2, .int a2), (3, .long a3)]) dX9_write_6 (by decide) rfl ?_
  refine mw_iload dX9_write_8 0 rfl ?_
  refine mw_iconst (v := -1) dX9_write_10 (by decide) ?_
  refine mw_icmp_eq (tgt := 21) dX9_write_11 (by decide) (fun hc => ?_) (fun hc => ?_)
  · have h := mit hc h
    refine mw_aload_n dX9_write_21 1 rfl ?_
    obtain ⟨q4, e5, h⟩ := mbd h
    refine mv_getR fd_RX9_66_8 dX9_write_22 m3 rfl e5 ?_
    refine mw_iload_n dX9_write_25 2 rfl ?_
    obtain ⟨m6, h⟩ := mif h
    obtain ⟨q7, e8, h⟩ := mbd h
    refine mv_aald dX9_write_26 m6 e8 ?_
    refine mw_iload_n dX9_write_27 3 rfl ?_
    refine mw_lload_n dX9_write_28 4 rfl ?_
    obtain ⟨r9, e10, h⟩ := mbd h
    obtain ⟨m11, h⟩ := mif h
    refine mv_callV_v (As := [.int a2, .long a3]) lkV_RX9_309_yX5_put dX9_write_29 (k_X5_put e10) rfl m11 rfl rfl (Nat.le_of_ble_eq_true rfl) (by decide) (by decide) ?_
    refine mw_iconst (v := 1) dX9_write_32 (by decide) ?_
    exact mw_iret dX9_write_33 rfl (mrs_im h) rfl rfl
  · have h := mie hc h
    refine mw_aload_n dX9_write_14 1 rfl ?_
    refine mw_iload dX9_write_15 0 rfl ?_
    obtain ⟨r12, e13, h⟩ := mbd h
    refine mv_callV_i (As := [.int r1]) lkV_RX9_79_yX9_finding dX9_write_17 (k_X9_finding e13) rfl m3 rfl rfl (Nat.le_of_ble_eq_true rfl) (by decide) (by decide) ?_
    exact mw_iret dX9_write_20 rfl (mrs_im h) rfl rfl

theorem dX9_read_0 : decode cX9_read 0 = .ok (.aload_n 0, 1) := by decide +kernel
theorem dX9_read_1 : decode cX9_read 1 = .ok (.iload_n 1, 1) := by decide +kernel
theorem dX9_read_2 : decode cX9_read 2 = .ok (.iload_n 2, 1) := by decide +kernel
theorem dX9_read_3 : decode cX9_read 3 = .ok (.invokevirtual 337, 3) := by decide +kernel
theorem dX9_read_6 : decode cX9_read 6 = .ok (.istore_n 3, 1) := by decide +kernel
theorem dX9_read_7 : decode cX9_read 7 = .ok (.iload_n 3, 1) := by decide +kernel
theorem dX9_read_8 : decode cX9_read 8 = .ok (.iconst (-1), 1) := by decide +kernel
theorem dX9_read_9 : decode cX9_read 9 = .ok (.if_icmp .eq 9, 3) := by decide +kernel
theorem dX9_read_12 : decode cX9_read 12 = .ok (.aload_n 0, 1) := by decide +kernel
theorem dX9_read_13 : decode cX9_read 13 = .ok (.iload_n 3, 1) := by decide +kernel
theorem dX9_read_14 : decode cX9_read 14 = .ok (.invokevirtual 164, 3) := by decide +kernel
theorem dX9_read_17 : decode cX9_read 17 = .ok (.lreturn, 1) := by decide +kernel
theorem dX9_read_18 : decode cX9_read 18 = .ok (.aload_n 0, 1) := by decide +kernel
theorem dX9_read_19 : decode cX9_read 19 = .ok (.getfield 66, 3) := by decide +kernel
theorem dX9_read_22 : decode cX9_read 22 = .ok (.iload_n 1, 1) := by decide +kernel
theorem dX9_read_23 : decode cX9_read 23 = .ok (.aaload, 1) := by decide +kernel
theorem dX9_read_24 : decode cX9_read 24 = .ok (.getfield 295, 3) := by decide +kernel
theorem dX9_read_27 : decode cX9_read 27 = .ok (.iload_n 2, 1) := by decide +kernel
theorem dX9_read_28 : decode cX9_read 28 = .ok (.laload, 1) := by decide +kernel
theorem dX9_read_29 : decode cX9_read 29 = .ok (.lreturn, 1) := by decide +kernel
def f_X9_read (a0 : Nat) (a1 : Int32) (a2 : Int32) (σ : MSt) : Option (Int64 × MSt) := (f_X9_numberFault σ a0 a1 a2).bind (fun r1 => if mob 8 a0 = true then (if r1 = (-1 : Int32) then ((mmR σ a0 10).bind (fun q4 => if mix 4 q4 a1 = true then ((mmR σ q4 a1.toNatClampNeg).bind (fun q7 => if mob 4 q7 = true then ((mmR σ q7 2).bind (fun q10 => if mix 1 q10 a2 = true then (some ((mmL σ q10 a2.toNatClampNeg), σ)) else none)) else none)) else none)) else ((f_X9_longFinding a0 r1 σ).bind (fun r13 => some (r13.1, r13.2)))) else none)
set_option maxRecDepth 100000 in
set_option maxHeartbeats 4000000 in
theorem k_X9_read {l : Launch} {σ : MSt} {a0 : Nat} {a1 : Int32} {a2 : Int32} {out : (Int64 × MSt)} (h : f_X9_read a0 a1 a2 σ = some out) : MK l yX9_read cX9_read 4 (some .long) 4 [.ref a0, .int a1, .int a2] σ (some (.long out.1)) out.2 := by
  unfold f_X9_read at h
  refine mw_entry (own := RX9) (ini := false) (L := [(0, .ref a0), (1, .int a1), (2, .int a2)]) (by decide +kernel) rfl (fun h => nomatch h) rfl (Nat.le_of_ble_eq_true rfl) (Nat.le_of_ble_eq_true rfl) (fun E => ?_)
  refine mw_aload_n dX9_read_0 0 rfl ?_
  refine mw_iload_n dX9_read_1 1 rfl ?_
  refine mw_iload_n dX9_read_2 2 rfl ?_
  obtain ⟨r1, e2, h⟩ := mbd h
  obtain ⟨m3, h⟩ := mif h
  refine mv_callV_i (As := [.int a1, .int a2]) lkV_RX9_337_yX9_numberFault dX9_read_3 (k_X9_numberFault e2) rfl m3 rfl rfl (Nat.le_of_ble_eq_true rfl) (by decide) (by decide) ?_
  refine mw_istore_n (L' := [(3, .int r1), (0, .ref a0), (1, .int a1), (2, .int a2)]) dX9_read_6 rfl (by decide) rfl ?_
  refine mw_iload_n dX9_read_7 0 rfl ?_
  refine mw_iconst (v := -1) dX9_read_8 (by decide) ?_
  refine mw_icmp_eq (tgt := 18) dX9_read_9 (by decide) (fun hc => ?_) (fun hc => ?_)
  · have h := mit hc h
    refine mw_aload_n dX9_read_18 1 rfl ?_
    obtain ⟨q4, e5, h⟩ := mbd h
    refine mv_getR fd_RX9_66_8 dX9_read_19 m3 rfl e5 ?_
    refine mw_iload_n dX9_read_22 2 rfl ?_
    obtain ⟨m6, h⟩ := mif h
    obtain ⟨q7, e8, h⟩ := mbd h
    refine mv_aald dX9_read_23 m6 e8 ?_
    obtain ⟨m9, h⟩ := mif h
    obtain ⟨q10, e11, h⟩ := mbd h
    refine mv_getR fd_RX9_295_4 dX9_read_24 m9 rfl e11 ?_
    refine mw_iload_n dX9_read_27 3 rfl ?_
    obtain ⟨m12, h⟩ := mif h
    refine mv_lald dX9_read_28 m12 ?_
    exact mw_lret dX9_read_29 rfl (mrs_lm h) rfl rfl
  · have h := mie hc h
    refine mw_aload_n dX9_read_12 1 rfl ?_
    refine mw_iload_n dX9_read_13 0 rfl ?_
    obtain ⟨r13, e14, h⟩ := mbd h
    refine mv_callV_l (As := [.int r1]) lkV_RX9_164_yX9_longFinding dX9_read_14 (k_X9_longFinding e14) rfl m3 rfl rfl (Nat.le_of_ble_eq_true rfl) (by decide) (by decide) ?_
    exact mw_lret dX9_read_17 rfl (mrs_lm h) rfl rfl

theorem dX5_hasRun_0 : decode cX5_hasRun 0 = .ok (.iload_n 1, 1) := by decide +kernel
theorem dX5_hasRun_1 : decode cX5_hasRun 1 = .ok (.ifCond .lt 29, 3) := by decide +kernel
theorem dX5_hasRun_4 : decode cX5_hasRun 4 = .ok (.iload_n 2, 1) := by decide +kernel
theorem dX5_hasRun_5 : decode cX5_hasRun 5 = .ok (.iconst 0, 1) := by decide +kernel
theorem dX5_hasRun_6 : decode cX5_hasRun 6 = .ok (.aload_n 0, 1) := by decide +kernel
theorem dX5_hasRun_7 : decode cX5_hasRun 7 = .ok (.getfield 19, 3) := by decide +kernel
theorem dX5_hasRun_10 : decode cX5_hasRun 10 = .ok (.invokestatic 22, 3) := by decide +kernel
theorem dX5_hasRun_13 : decode cX5_hasRun 13 = .ok (.ifCond .eq 17, 3) := by decide +kernel
theorem dX5_hasRun_16 : decode cX5_hasRun 16 = .ok (.iload_n 1, 1) := by decide +kernel
theorem dX5_hasRun_17 : decode cX5_hasRun 17 = .ok (.aload_n 0, 1) := by decide +kernel
theorem dX5_hasRun_18 : decode cX5_hasRun 18 = .ok (.getfield 19, 3) := by decide +kernel
theorem dX5_hasRun_21 : decode cX5_hasRun 21 = .ok (.iload_n 2, 1) := by decide +kernel
theorem dX5_hasRun_22 : decode cX5_hasRun 22 = .ok (.isub, 1) := by decide +kernel
theorem dX5_hasRun_23 : decode cX5_hasRun 23 = .ok (.if_icmp .gt 7, 3) := by decide +kernel
theorem dX5_hasRun_26 : decode cX5_hasRun 26 = .ok (.iconst 1, 1) := by decide +kernel
theorem dX5_hasRun_27 : decode cX5_hasRun 27 = .ok (.goto 4, 3) := by decide +kernel
theorem dX5_hasRun_30 : decode cX5_hasRun 30 = .ok (.iconst 0, 1) := by decide +kernel
theorem dX5_hasRun_31 : decode cX5_hasRun 31 = .ok (.ireturn, 1) := by decide +kernel
def f_X5_hasRun (σ : MSt) (a0 : Nat) (a1 : Int32) (a2 : Int32) : Option Int32 := if a1 < 0 then (some (0 : Int32)) else (if mob 4 a0 = true then ((f_X9_within a2 (0 : Int32) (mmI σ a0 1)).bind (fun r2 => if r2 = 0 then (some (0 : Int32)) else (if ((mmI σ a0 1) - a2) < a1 then (some (0 : Int32)) else (some (1 : Int32))))) else none)
set_option maxRecDepth 100000 in
set_option maxHeartbeats 4000000 in
theorem k_X5_hasRun {l : Launch} {σ : MSt} {a0 : Nat} {a1 : Int32} {a2 : Int32} {out : Int32} (h : f_X5_hasRun σ a0 a1 a2 = some out) : MK l yX5_hasRun cX5_hasRun 3 (some .boolean) 2 [.ref a0, .int a1, .int a2] σ (some (.int out)) σ := by
  unfold f_X5_hasRun at h
  refine mw_entry (own := RX5) (ini := false) (L := [(0, .ref a0), (1, .int a1), (2, .int a2)]) (by decide +kernel) rfl (fun h => nomatch h) rfl (Nat.le_of_ble_eq_true rfl) (Nat.le_of_ble_eq_true rfl) (fun E => ?_)
  refine mw_iload_n dX5_hasRun_0 1 rfl ?_
  refine mw_if_lt (tgt := 30) dX5_hasRun_1 (by decide) (fun hc => ?_) (fun hc => ?_)
  · have h := mit hc h
    refine mw_iconst (v := 0) dX5_hasRun_30 (by decide) ?_
    exact mw_zret dX5_hasRun_31 rfl (by decide) (mrs_i h) rfl rfl
  · have h := mie hc h
    refine mw_iload_n dX5_hasRun_4 2 rfl ?_
    refine mw_iconst (v := 0) dX5_hasRun_5 (by decide) ?_
    refine mw_aload_n dX5_hasRun_6 0 rfl ?_
    obtain ⟨m1, h⟩ := mif h
    refine mv_getI fd_RX5_19_4 dX5_hasRun_7 m1 rfl ?_
    obtain ⟨r2, e3, h⟩ := mbd h
    refine mv_callSN_i (As := [.int a2, .int (0 : Int32), .int (mmI σ a0 1)]) lkN_RX5_22_yX9_within dX5_hasRun_10 (k_X9_within e3) rfl rfl (Nat.le_of_ble_eq_true rfl) (by decide) (by decide) ?_
    refine mw_if_eq (tgt := 30) dX5_hasRun_13 (by decide) (fun hc => ?_) (fun hc => ?_)
    · have h := mit hc h
      refine mw_iconst (v := 0) dX5_hasRun_30 (by decide) ?_
      exact mw_zret dX5_hasRun_31 rfl (by decide) (mrs_i h) rfl rfl
    · have h := mie hc h
      refine mw_iload_n dX5_hasRun_16 1 rfl ?_
      refine mw_aload_n dX5_hasRun_17 0 rfl ?_
      refine mv_getI fd_RX5_19_4 dX5_hasRun_18 m1 rfl ?_
      refine mw_iload_n dX5_hasRun_21 2 rfl ?_
      refine mw_isub dX5_hasRun_22 ?_
      refine mw_icmp_gt (tgt := 30) dX5_hasRun_23 (by decide) (fun hc => ?_) (fun hc => ?_)
      · have h := mit hc h
        refine mw_iconst (v := 0) dX5_hasRun_30 (by decide) ?_
        exact mw_zret dX5_hasRun_31 rfl (by decide) (mrs_i h) rfl rfl
      · have h := mie hc h
        refine mw_iconst (v := 1) dX5_hasRun_26 (by decide) ?_
        refine mw_goto (tgt := 31) dX5_hasRun_27 (by decide) ?_
        exact mw_zret dX5_hasRun_31 rfl (by decide) (mrs_i h) rfl rfl

theorem dX9_copy_0 : decode cX9_copy 0 = .ok (.iload_n 1, 1) := by decide +kernel
theorem dX9_copy_1 : decode cX9_copy 1 = .ok (.iconst 0, 1) := by decide +kernel
theorem dX9_copy_2 : decode cX9_copy 2 = .ok (.iconst 3, 1) := by decide +kernel
theorem dX9_copy_3 : decode cX9_copy 3 = .ok (.invokestatic 75, 3) := by decide +kernel
theorem dX9_copy_6 : decode cX9_copy 6 = .ok (.ifCond .eq 12, 3) := by decide +kernel
theorem dX9_copy_9 : decode cX9_copy 9 = .ok (.iload_n 3, 1) := by decide +kernel
theorem dX9_copy_10 : decode cX9_copy 10 = .ok (.iconst 0, 1) := by decide +kernel
theorem dX9_copy_11 : decode cX9_copy 11 = .ok (.iconst 3, 1) := by decide +kernel
theorem dX9_copy_12 : decode cX9_copy 12 = .ok (.invokestatic 75, 3) := by decide +kernel
theorem dX9_copy_15 : decode cX9_copy 15 = .ok (.ifCond .ne 9, 3) := by decide +kernel
theorem dX9_copy_18 : decode cX9_copy 18 = .ok (.aload_n 0, 1) := by decide +kernel
theorem dX9_copy_19 : decode cX9_copy 19 = .ok (.iconst 0, 1) := by decide +kernel
theorem dX9_copy_20 : decode cX9_copy 20 = .ok (.invokevirtual 79, 3) := by decide +kernel
theorem dX9_copy_23 : decode cX9_copy 23 = .ok (.ireturn, 1) := by decide +kernel
theorem dX9_copy_24 : decode cX9_copy 24 = .ok (.aload_n 0, 1) := by decide +kernel
theorem dX9_copy_25 : decode cX9_copy 25 = .ok (.getfield 66, 3) := by decide +kernel
theorem dX9_copy_28 : decode cX9_copy 28 = .ok (.iload_n 1, 1) := by decide +kernel
theorem dX9_copy_29 : decode cX9_copy 29 = .ok (.aaload, 1) := by decide +kernel
theorem dX9_copy_30 : decode cX9_copy 30 = .ok (.getfield 340, 3) := by decide +kernel
theorem dX9_copy_33 : decode cX9_copy 33 = .ok (.ifCond .eq 15, 3) := by decide +kernel
theorem dX9_copy_36 : decode cX9_copy 36 = .ok (.aload_n 0, 1) := by decide +kernel
theorem dX9_copy_37 : decode cX9_copy 37 = .ok (.getfield 66, 3) := by decide +kernel
theorem dX9_copy_40 : decode cX9_copy 40 = .ok (.iload_n 3, 1) := by decide +kernel
theorem dX9_copy_41 : decode cX9_copy 41 = .ok (.aaload, 1) := by decide +kernel
theorem dX9_copy_42 : decode cX9_copy 42 = .ok (.getfield 340, 3) := by decide +kernel
theorem dX9_copy_45 : decode cX9_copy 45 = .ok (.ifCond .ne 9, 3) := by decide +kernel
theorem dX9_copy_48 : decode cX9_copy 48 = .ok (.aload_n 0, 1) := by decide +kernel
theorem dX9_copy_49 : decode cX9_copy 49 = .ok (.iconst 5, 1) := by decide +kernel
theorem dX9_copy_50 : decode cX9_copy 50 = .ok (.invokevirtual 79, 3) := by decide +kernel
theorem dX9_copy_53 : decode cX9_copy 53 = .ok (.ireturn, 1) := by decide +kernel
theorem dX9_copy_54 : decode cX9_copy 54 = .ok (.aload_n 0, 1) := by decide +kernel
theorem dX9_copy_55 : decode cX9_copy 55 = .ok (.getfield 66, 3) := by decide +kernel
theorem dX9_copy_58 : decode cX9_copy 58 = .ok (.iload_n 1, 1) := by decide +kernel
theorem dX9_copy_59 : decode cX9_copy 59 = .ok (.aaload, 1) := by decide +kernel
theorem dX9_copy_60 : decode cX9_copy 60 = .ok (.getfield 340, 3) := by decide +kernel
theorem dX9_copy_63 : decode cX9_copy 63 = .ok (.aload_n 0, 1) := by decide +kernel
theorem dX9_copy_64 : decode cX9_copy 64 = .ok (.getfield 66, 3) := by decide +kernel
theorem dX9_copy_67 : decode cX9_copy 67 = .ok (.iload_n 3, 1) := by decide +kernel
theorem dX9_copy_68 : decode cX9_copy 68 = .ok (.aaload, 1) := by decide +kernel
theorem dX9_copy_69 : decode cX9_copy 69 = .ok (.getfield 340, 3) := by decide +kernel
theorem dX9_copy_72 : decode cX9_copy 72 = .ok (.if_icmp .eq 9, 3) := by decide +kernel
theorem dX9_copy_75 : decode cX9_copy 75 = .ok (.aload_n 0, 1) := by decide +kernel
theorem dX9_copy_76 : decode cX9_copy 76 = .ok (.iconst 2, 1) := by decide +kernel
theorem dX9_copy_77 : decode cX9_copy 77 = .ok (.invokevirtual 79, 3) := by decide +kernel
theorem dX9_copy_80 : decode cX9_copy 80 = .ok (.ireturn, 1) := by decide +kernel
theorem dX9_copy_81 : decode cX9_copy 81 = .ok (.aload_n 0, 1) := by decide +kernel
theorem dX9_copy_82 : decode cX9_copy 82 = .ok (.getfield 66, 3) := by decide +kernel
theorem dX9_copy_85 : decode cX9_copy 85 = .ok (.iload_n 1, 1) := by decide +kernel
theorem dX9_copy_86 : decode cX9_copy 86 = .ok (.aaload, 1) := by decide +kernel
theorem dX9_copy_87 : decode cX9_copy 87 = .ok (.iload_n 2, 1) := by decide +kernel
theorem dX9_copy_88 : decode cX9_copy 88 = .ok (.iload 5, 2) := by decide +kernel
theorem dX9_copy_90 : decode cX9_copy 90 = .ok (.invokevirtual 343, 3) := by decide +kernel
theorem dX9_copy_93 : decode cX9_copy 93 = .ok (.ifCond .eq 19, 3) := by decide +kernel
theorem dX9_copy_96 : decode cX9_copy 96 = .ok (.aload_n 0, 1) := by decide +kernel
theorem dX9_copy_97 : decode cX9_copy 97 = .ok (.getfield 66, 3) := by decide +kernel
theorem dX9_copy_100 : decode cX9_copy 100 = .ok (.iload_n 3, 1) := by decide +kernel
theorem dX9_copy_101 : decode cX9_copy 101 = .ok (.aaload, 1) := by decide +kernel
theorem dX9_copy_102 : decode cX9_copy 102 = .ok (.iload 4, 2) := by decide +kernel
theorem dX9_copy_104 : decode cX9_copy 104 = .ok (.iload 5, 2) := by decide +kernel
theorem dX9_copy_106 : decode cX9_copy 106 = .ok (.invokevirtual 343, 3) := by decide +kernel
theorem dX9_copy_109 : decode cX9_copy 109 = .ok (.ifCond .ne 9, 3) := by decide +kernel
theorem dX9_copy_112 : decode cX9_copy 112 = .ok (.aload_n 0, 1) := by decide +kernel
theorem dX9_copy_113 : decode cX9_copy 113 = .ok (.iconst 0, 1) := by decide +kernel
theorem dX9_copy_114 : decode cX9_copy 114 = .ok (.invokevirtual 79, 3) := by decide +kernel
theorem dX9_copy_117 : decode cX9_copy 117 = .ok (.ireturn, 1) := by decide +kernel
theorem dX9_copy_118 : decode cX9_copy 118 = .ok (.aload_n 0, 1) := by decide +kernel
theorem dX9_copy_119 : decode cX9_copy 119 = .ok (.getfield 66, 3) := by decide +kernel
theorem dX9_copy_122 : decode cX9_copy 122 = .ok (.iload_n 1, 1) := by decide +kernel
theorem dX9_copy_123 : decode cX9_copy 123 = .ok (.aaload, 1) := by decide +kernel
theorem dX9_copy_124 : decode cX9_copy 124 = .ok (.getfield 295, 3) := by decide +kernel
theorem dX9_copy_127 : decode cX9_copy 127 = .ok (.iload_n 2, 1) := by decide +kernel
theorem dX9_copy_128 : decode cX9_copy 128 = .ok (.aload_n 0, 1) := by decide +kernel
theorem dX9_copy_129 : decode cX9_copy 129 = .ok (.getfield 66, 3) := by decide +kernel
theorem dX9_copy_132 : decode cX9_copy 132 = .ok (.iload_n 3, 1) := by decide +kernel
theorem dX9_copy_133 : decode cX9_copy 133 = .ok (.aaload, 1) := by decide +kernel
theorem dX9_copy_134 : decode cX9_copy 134 = .ok (.getfield 295, 3) := by decide +kernel
theorem dX9_copy_137 : decode cX9_copy 137 = .ok (.iload 4, 2) := by decide +kernel
theorem dX9_copy_139 : decode cX9_copy 139 = .ok (.iload 5, 2) := by decide +kernel
theorem dX9_copy_141 : decode cX9_copy 141 = .ok (.invokestatic 346, 3) := by decide +kernel
theorem dX9_copy_144 : decode cX9_copy 144 = .ok (.iload 5, 2) := by decide +kernel
theorem dX9_copy_146 : decode cX9_copy 146 = .ok (.ireturn, 1) := by decide +kernel
def f_X9_copy (a0 : Nat) (a1 : Int32) (a2 : Int32) (a3 : Int32) (a4 : Int32) (a5 : Int32) (σ : MSt) : Option (Int32 × MSt) := (f_X9_within a1 (0 : Int32) (3 : Int32)).bind (fun r1 => if r1 = 0 then ((f_X9_finding a0 (0 : Int32) σ).bind (fun r3 => if mob 8 a0 = true then (some (r3.1, r3.2)) else none)) else ((f_X9_within a3 (0 : Int32) (3 : Int32)).bind (fun r6 => if r6 = 0 then ((f_X9_finding a0 (0 : Int32) σ).bind (fun r38 => if mob 8 a0 = true then (some (r38.1, r38.2)) else none)) else (if mob 8 a0 = true then ((mmR σ a0 10).bind (fun q9 => if mix 4 q9 a1 = true then ((mmR σ q9 a1.toNatClampNeg).bind (fun q12 => if mob 4 q12 = true then (if (mmI σ q12 0) = 0 then ((f_X9_finding a0 (5 : Int32) σ).bind (fun r15 => some (r15.1, r15.2))) else (if mix 4 q9 a3 = true then ((mmR σ q9 a3.toNatClampNeg).bind (fun q18 => if mob 4 q18 = true then (if (mmI σ q18 0) = 0 then ((f_X9_finding a0 (5 : Int32) σ).bind (fun r36 => some (r36.1, r36.2))) else (if (mmI σ q12 0) = (mmI σ q18 0) then ((f_X5_hasRun σ q12 a2 a5).bind (fun r21 => if r21 = 0 then ((f_X9_finding a0 (0 : Int32) σ).bind (fun r23 => some (r23.1, r23.2))) else ((f_X5_hasRun σ q18 a4 a5).bind (fun r25 => if r25 = 0 then ((f_X9_finding a0 (0 : Int32) σ).bind (fun r32 => some (r32.1, r32.2))) else ((mmR σ q12 2).bind (fun q27 => (mmR σ q18 2).bind (fun q29 => if mcpk 1 q27 q29 a2 a4 a5 = true then (some (a5, (mcpL σ q27 a2.toNatClampNeg q29 a4.toNatClampNeg a5.toNatClampNeg))) else none))))))) else ((f_X9_finding a0 (2 : Int32) σ).bind (fun r34 => some (r34.1, r34.2))))) else none)) else none)) else none)) else none)) else none))))
set_option maxRecDepth 100000 in
set_option maxHeartbeats 4000000 in
theorem k_X9_copy {l : Launch} {σ : MSt} {a0 : Nat} {a1 : Int32} {a2 : Int32} {a3 : Int32} {a4 : Int32} {a5 : Int32} {out : (Int32 × MSt)} (h : f_X9_copy a0 a1 a2 a3 a4 a5 σ = some out) : MK l yX9_copy cX9_copy 6 (some .int) 3 [.ref a0, .int a1, .int a2, .int a3, .int a4, .int a5] σ (some (.int out.1)) out.2 := by
  unfold f_X9_copy at h
  refine mw_entry (own := RX9) (ini := false) (L := [(0, .ref a0), (1, .int a1), (2, .int a2), (3, .int a3), (4, .int a4), (5, .int a5)]) (by decide +kernel) rfl (fun h => nomatch h) rfl (Nat.le_of_ble_eq_true rfl) (Nat.le_of_ble_eq_true rfl) (fun E => ?_)
  refine mw_iload_n dX9_copy_0 1 rfl ?_
  refine mw_iconst (v := 0) dX9_copy_1 (by decide) ?_
  refine mw_iconst (v := 3) dX9_copy_2 (by decide) ?_
  obtain ⟨r1, e2, h⟩ := mbd h
  refine mv_callS_i (As := [.int a1, .int (0 : Int32), .int (3 : Int32)]) lkS_RX9_75_yX9_within dX9_copy_3 (k_X9_within e2) rfl rfl (Nat.le_of_ble_eq_true rfl) (by decide) (by decide) ?_
  refine mw_if_eq (tgt := 18) dX9_copy_6 (by decide) (fun hc => ?_) (fun hc => ?_)
  · have h := mit hc h
    refine mw_aload_n dX9_copy_18 0 rfl ?_
    refine mw_iconst (v := 0) dX9_copy_19 (by decide) ?_
    obtain ⟨r3, e4, h⟩ := mbd h
    obtain ⟨m5, h⟩ := mif h
    refine mv_callV_i (As := [.int (0 : Int32)]) lkV_RX9_79_yX9_finding dX9_copy_20 (k_X9_finding e4) rfl m5 rfl rfl (Nat.le_of_ble_eq_true rfl) (by decide) (by decide) ?_
    exact mw_iret dX9_copy_23 rfl (mrs_im h) rfl rfl
  · have h := mie hc h
    refine mw_iload_n dX9_copy_9 3 rfl ?_
    refine mw_iconst (v := 0) dX9_copy_10 (by decide) ?_
    refine mw_iconst (v := 3) dX9_copy_11 (by decide) ?_
    obtain ⟨r6, e7, h⟩ := mbd h
    refine mv_callS_i (As := [.int a3, .int (0 : Int32), .int (3 : Int32)]) lkS_RX9_75_yX9_within dX9_copy_12 (k_X9_within e7) rfl rfl (Nat.le_of_ble_eq_true rfl) (by decide) (by decide) ?_
    refine mw_if_ne (tgt := 24) dX9_copy_15 (by decide) (fun hc => ?_) (fun hc => ?_)
    · have h := mie hc h
      refine mw_aload_n dX9_copy_24 0 rfl ?_
      obtain ⟨m8, h⟩ := mif h
      obtain ⟨q9, e10, h⟩ := mbd h
      refine mv_getR fd_RX9_66_8 dX9_copy_25 m8 rfl e10 ?_
      refine mw_iload_n dX9_copy_28 1 rfl ?_
      obtain ⟨m11, h⟩ := mif h
      obtain ⟨q12, e13, h⟩ := mbd h
      refine mv_aald dX9_copy_29 m11 e13 ?_
      obtain ⟨m14, h⟩ := mif h
      refine mv_getI fd_RX9_340_4 dX9_copy_30 m14 rfl ?_
      refine mw_if_eq (tgt := 48) dX9_copy_33 (by decide) (fun hc => ?_) (fun hc => ?_)
      · have h := mit hc h
        refine mw_aload_n dX9_copy_48 0 rfl ?_
        refine mw_iconst (v := 5) dX9_copy_49 (by decide) ?_
        obtain ⟨r15, e16, h⟩ := mbd h
        refine mv_callV_i (As := [.int (5 : Int32)]) lkV_RX9_79_yX9_finding dX9_copy_50 (k_X9_finding e16) rfl m8 rfl rfl (Nat.le_of_ble_eq_true rfl) (by decide) (by decide) ?_
        exact mw_iret dX9_copy_53 rfl (mrs_im h) rfl rfl
      · have h := mie hc h
        refine mw_aload_n dX9_copy_36 0 rfl ?_
        refine mv_getR fd_RX9_66_8 dX9_copy_37 m8 rfl e10 ?_
        refine mw_iload_n dX9_copy_40 3 rfl ?_
        obtain ⟨m17, h⟩ := mif h
        obtain ⟨q18, e19, h⟩ := mbd h
        refine mv_aald dX9_copy_41 m17 e19 ?_
        obtain ⟨m20, h⟩ := mif h
        refine mv_getI fd_RX9_340_4 dX9_copy_42 m20 rfl ?_
        refine mw_if_ne (tgt := 54) dX9_copy_45 (by decide) (fun hc => ?_) (fun hc => ?_)
        · have h := mie hc h
          refine mw_aload_n dX9_copy_54 0 rfl ?_
          refine mv_getR fd_RX9_66_8 dX9_copy_55 m8 rfl e10 ?_
          refine mw_iload_n dX9_copy_58 1 rfl ?_
          refine mv_aald dX9_copy_59 m11 e13 ?_
          refine mv_getI fd_RX9_340_4 dX9_copy_60 m14 rfl ?_
          refine mw_aload_n dX9_copy_63 0 rfl ?_
          refine mv_getR fd_RX9_66_8 dX9_copy_64 m8 rfl e10 ?_
          refine mw_iload_n dX9_copy_67 3 rfl ?_
          refine mv_aald dX9_copy_68 m17 e19 ?_
          refine mv_getI fd_RX9_340_4 dX9_copy_69 m20 rfl ?_
          refine mw_icmp_eq (tgt := 81) dX9_copy_72 (by decide) (fun hc => ?_) (fun hc => ?_)
          · have h := mit hc h
            refine mw_aload_n dX9_copy_81 0 rfl ?_
            refine mv_getR fd_RX9_66_8 dX9_copy_82 m8 rfl e10 ?_
            refine mw_iload_n dX9_copy_85 1 rfl ?_
            refine mv_aald dX9_copy_86 m11 e13 ?_
            refine mw_iload_n dX9_copy_87 2 rfl ?_
            refine mw_iload dX9_copy_88 5 rfl ?_
            obtain ⟨r21, e22, h⟩ := mbd h
            refine mv_callV_i (As := [.int a2, .int a5]) lkV_RX9_343_yX5_hasRun dX9_copy_90 (k_X5_hasRun e22) rfl m14 rfl rfl (Nat.le_of_ble_eq_true rfl) (by decide) (by decide) ?_
            refine mw_if_eq (tgt := 112) dX9_copy_93 (by decide) (fun hc => ?_) (fun hc => ?_)
            · have h := mit hc h
              refine mw_aload_n dX9_copy_112 0 rfl ?_
              refine mw_iconst (v := 0) dX9_copy_113 (by decide) ?_
              obtain ⟨r23, e24, h⟩ := mbd h
              refine mv_callV_i (As := [.int (0 : Int32)]) lkV_RX9_79_yX9_finding dX9_copy_114 (k_X9_finding e24) rfl m8 rfl rfl (Nat.le_of_ble_eq_true rfl) (by decide) (by decide) ?_
              exact mw_iret dX9_copy_117 rfl (mrs_im h) rfl rfl
            · have h := mie hc h
              refine mw_aload_n dX9_copy_96 0 rfl ?_
              refine mv_getR fd_RX9_66_8 dX9_copy_97 m8 rfl e10 ?_
              refine mw_iload_n dX9_copy_100 3 rfl ?_
              refine mv_aald dX9_copy_101 m17 e19 ?_
              refine mw_iload dX9_copy_102 4 rfl ?_
              refine mw_iload dX9_copy_104 5 rfl ?_
              obtain ⟨r25, e26, h⟩ := mbd h
              refine mv_callV_i (As := [.int a4, .int a5]) lkV_RX9_343_yX5_hasRun dX9_copy_106 (k_X5_hasRun e26) rfl m20 rfl rfl (Nat.le_of_ble_eq_true rfl) (by decide) (by decide) ?_
              refine mw_if_ne (tgt := 118) dX9_copy_109 (by decide) (fun hc => ?_) (fun hc => ?_)
              · have h := mie hc h
                refine mw_aload_n dX9_copy_118 0 rfl ?_
                refine mv_getR fd_RX9_66_8 dX9_copy_119 m8 rfl e10 ?_
                refine mw_iload_n dX9_copy_122 1 rfl ?_
                refine mv_aald dX9_copy_123 m11 e13 ?_
                obtain ⟨q27, e28, h⟩ := mbd h
                refine mv_getR fd_RX9_295_4 dX9_copy_124 m14 rfl e28 ?_
                refine mw_iload_n dX9_copy_127 2 rfl ?_
                refine mw_aload_n dX9_copy_128 0 rfl ?_
                refine mv_getR fd_RX9_66_8 dX9_copy_129 m8 rfl e10 ?_
                refine mw_iload_n dX9_copy_132 3 rfl ?_
                refine mv_aald dX9_copy_133 m17 e19 ?_
                obtain ⟨q29, e30, h⟩ := mbd h
                refine mv_getR fd_RX9_295_4 dX9_copy_134 m20 rfl e30 ?_
                refine mw_iload dX9_copy_137 4 rfl ?_
                refine mw_iload dX9_copy_139 5 rfl ?_
                obtain ⟨m31, h⟩ := mif h
                refine mv_copyL dX9_copy_141 wt_567 wt_203 wt_204 wt_205 m31 (by decide) (Nat.le_of_ble_eq_true rfl) ?_
                refine mw_iload dX9_copy_144 5 rfl ?_
                exact mw_iret dX9_copy_146 rfl (mrs_im h) rfl rfl
              · have h := mit hc h
                refine mw_aload_n dX9_copy_112 0 rfl ?_
                refine mw_iconst (v := 0) dX9_copy_113 (by decide) ?_
                obtain ⟨r32, e33, h⟩ := mbd h
                refine mv_callV_i (As := [.int (0 : Int32)]) lkV_RX9_79_yX9_finding dX9_copy_114 (k_X9_finding e33) rfl m8 rfl rfl (Nat.le_of_ble_eq_true rfl) (by decide) (by decide) ?_
                exact mw_iret dX9_copy_117 rfl (mrs_im h) rfl rfl
          · have h := mie hc h
            refine mw_aload_n dX9_copy_75 0 rfl ?_
            refine mw_iconst (v := 2) dX9_copy_76 (by decide) ?_
            obtain ⟨r34, e35, h⟩ := mbd h
            refine mv_callV_i (As := [.int (2 : Int32)]) lkV_RX9_79_yX9_finding dX9_copy_77 (k_X9_finding e35) rfl m8 rfl rfl (Nat.le_of_ble_eq_true rfl) (by decide) (by decide) ?_
            exact mw_iret dX9_copy_80 rfl (mrs_im h) rfl rfl
        · have h := mit hc h
          refine mw_aload_n dX9_copy_48 0 rfl ?_
          refine mw_iconst (v := 5) dX9_copy_49 (by decide) ?_
          obtain ⟨r36, e37, h⟩ := mbd h
          refine mv_callV_i (As := [.int (5 : Int32)]) lkV_RX9_79_yX9_finding dX9_copy_50 (k_X9_finding e37) rfl m8 rfl rfl (Nat.le_of_ble_eq_true rfl) (by decide) (by decide) ?_
          exact mw_iret dX9_copy_53 rfl (mrs_im h) rfl rfl
    · have h := mit hc h
      refine mw_aload_n dX9_copy_18 0 rfl ?_
      refine mw_iconst (v := 0) dX9_copy_19 (by decide) ?_
      obtain ⟨r38, e39, h⟩ := mbd h
      obtain ⟨m40, h⟩ := mif h
      refine mv_callV_i (As := [.int (0 : Int32)]) lkV_RX9_79_yX9_finding dX9_copy_20 (k_X9_finding e39) rfl m40 rfl rfl (Nat.le_of_ble_eq_true rfl) (by decide) (by decide) ?_
      exact mw_iret dX9_copy_23 rfl (mrs_im h) rfl rfl

theorem dX9_lays_0 : decode cX9_lays 0 = .ok (.aload_n 0, 1) := by decide +kernel
theorem dX9_lays_1 : decode cX9_lays 1 = .ok (.iload_n 1, 1) := by decide +kernel
theorem dX9_lays_2 : decode cX9_lays 2 = .ok (.invokevirtual 315, 3) := by decide +kernel
theorem dX9_lays_5 : decode cX9_lays 5 = .ok (.istore_n 2, 1) := by decide +kernel
theorem dX9_lays_6 : decode cX9_lays 6 = .ok (.iload_n 2, 1) := by decide +kernel
theorem dX9_lays_7 : decode cX9_lays 7 = .ok (.iconst (-1), 1) := by decide +kernel
theorem dX9_lays_8 : decode cX9_lays 8 = .ok (.if_icmp .eq 9, 3) := by decide +kernel
theorem dX9_lays_11 : decode cX9_lays 11 = .ok (.aload_n 0, 1) := by decide +kernel
theorem dX9_lays_12 : decode cX9_lays 12 = .ok (.iload_n 2, 1) := by decide +kernel
theorem dX9_lays_13 : decode cX9_lays 13 = .ok (.invokevirtual 79, 3) := by decide +kernel
theorem dX9_lays_16 : decode cX9_lays 16 = .ok (.ireturn, 1) := by decide +kernel
theorem dX9_lays_17 : decode cX9_lays 17 = .ok (.iconst 0, 1) := by decide +kernel
theorem dX9_lays_18 : decode cX9_lays 18 = .ok (.istore_n 3, 1) := by decide +kernel
theorem dX9_lays_19 : decode cX9_lays 19 = .ok (.aload_n 0, 1) := by decide +kernel
theorem dX9_lays_20 : decode cX9_lays 20 = .ok (.getfield 66, 3) := by decide +kernel
theorem dX9_lays_23 : decode cX9_lays 23 = .ok (.iload_n 1, 1) := by decide +kernel
theorem dX9_lays_24 : decode cX9_lays 24 = .ok (.aaload, 1) := by decide +kernel
theorem dX9_lays_25 : decode cX9_lays 25 = .ok (.getfield 336, 3) := by decide +kernel
theorem dX9_lays_28 : decode cX9_lays 28 = .ok (.aload_n 0, 1) := by decide +kernel
theorem dX9_lays_29 : decode cX9_lays 29 = .ok (.getfield 12, 3) := by decide +kernel
theorem dX9_lays_32 : decode cX9_lays 32 = .ok (.getfield 83, 3) := by decide +kernel
theorem dX9_lays_35 : decode cX9_lays 35 = .ok (.invokestatic 352, 3) := by decide +kernel
theorem dX9_lays_38 : decode cX9_lays 38 = .ok (.istore 4, 2) := by decide +kernel
theorem dX9_lays_40 : decode cX9_lays 40 = .ok (.iconst 0, 1) := by decide +kernel
theorem dX9_lays_41 : decode cX9_lays 41 = .ok (.istore 5, 2) := by decide +kernel
theorem dX9_lays_43 : decode cX9_lays 43 = .ok (.iload 5, 2) := by decide +kernel
theorem dX9_lays_45 : decode cX9_lays 45 = .ok (.iload 4, 2) := by decide +kernel
theorem dX9_lays_47 : decode cX9_lays 47 = .ok (.if_icmp .ge 57, 3) := by decide +kernel
theorem dX9_lays_50 : decode cX9_lays 50 = .ok (.aload_n 0, 1) := by decide +kernel
theorem dX9_lays_51 : decode cX9_lays 51 = .ok (.getfield 66, 3) := by decide +kernel
theorem dX9_lays_54 : decode cX9_lays 54 = .ok (.iload_n 1, 1) := by decide +kernel
theorem dX9_lays_55 : decode cX9_lays 55 = .ok (.aaload, 1) := by decide +kernel
theorem dX9_lays_56 : decode cX9_lays 56 = .ok (.getfield 295, 3) := by decide +kernel
theorem dX9_lays_59 : decode cX9_lays 59 = .ok (.iload 5, 2) := by decide +kernel
theorem dX9_lays_61 : decode cX9_lays 61 = .ok (.laload, 1) := by decide +kernel
theorem dX9_lays_62 : decode cX9_lays 62 = .ok (.lstore 6, 2) := by decide +kernel
theorem dX9_lays_64 : decode cX9_lays 64 = .ok (.lload 6, 2) := by decide +kernel
theorem dX9_lays_66 : decode cX9_lays 66 = .ok (.ldc2_w 214, 3) := by decide +kernel
theorem dX9_lays_69 : decode cX9_lays 69 = .ok (.lcmp, 1) := by decide +kernel
theorem dX9_lays_70 : decode cX9_lays 70 = .ok (.ifCond .lt 28, 3) := by decide +kernel
theorem dX9_lays_73 : decode cX9_lays 73 = .ok (.lload 6, 2) := by decide +kernel
theorem dX9_lays_75 : decode cX9_lays 75 = .ok (.ldc2_w 226, 3) := by decide +kernel
theorem dX9_lays_78 : decode cX9_lays 78 = .ok (.lcmp, 1) := by decide +kernel
theorem dX9_lays_79 : decode cX9_lays 79 = .ok (.ifCond .gt 19, 3) := by decide +kernel
theorem dX9_lays_82 : decode cX9_lays 82 = .ok (.aload_n 0, 1) := by decide +kernel
theorem dX9_lays_83 : decode cX9_lays 83 = .ok (.getfield 12, 3) := by decide +kernel
theorem dX9_lays_86 : decode cX9_lays 86 = .ok (.getfield 122, 3) := by decide +kernel
theorem dX9_lays_89 : decode cX9_lays 89 = .ok (.iload 5, 2) := by decide +kernel
theorem dX9_lays_91 : decode cX9_lays 91 = .ok (.lload 6, 2) := by decide +kernel
theorem dX9_lays_93 : decode cX9_lays 93 = .ok (.l2i, 1) := by decide +kernel
theorem dX9_lays_94 : decode cX9_lays 94 = .ok (.iastore, 1) := by decide +kernel
theorem dX9_lays_95 : decode cX9_lays 95 = .ok (.iinc 3 1, 3) := by decide +kernel
theorem dX9_lays_98 : decode cX9_lays 98 = .ok (.iinc 5 1, 3) := by decide +kernel
theorem dX9_lays_101 : decode cX9_lays 101 = .ok (.goto (-58), 3) := by decide +kernel
theorem dX9_lays_104 : decode cX9_lays 104 = .ok (.iload_n 3, 1) := by decide +kernel
theorem dX9_lays_105 : decode cX9_lays 105 = .ok (.ireturn, 1) := by decide +kernel
def f_X9_lays_L43 (a0 : Nat) (a1 : Int32) : Nat → Int32 → Int32 → Int32 → MSt → Option (Int32 × MSt)
  | 0, _, _, _, _ => none
  | n + 1, x3, x4, x5, σ => if x4 ≤ x5 then (some (x3, σ)) else (if mob 8 a0 = true then ((mmR σ a0 10).bind (fun q2 => if mix 4 q2 a1 = true then ((mmR σ q2 a1.toNatClampNeg).bind (fun q5 => if mob 4 q5 = true then ((mmR σ q5 2).bind (fun q8 => if mix 1 q8 x5 = true then (if (mmL σ q8 x5.toNatClampNeg) < (-999999999 : Int64) then (f_X9_lays_L43 a0 a1 n x3 x4 (x5 + 1) σ) else (if (999999999 : Int64) < (mmL σ q8 x5.toNatClampNeg) then (f_X9_lays_L43 a0 a1 n x3 x4 (x5 + 1) σ) else ((mmR σ a0 0).bind (fun q11 => if mob 0 q11 = true then ((mmR σ q11 6).bind (fun q14 => if mix 0 q14 x5 = true then (f_X9_lays_L43 a0 a1 n (x3 + 1) x4 (x5 + 1) (muI σ q14 x5.toNatClampNeg ((mmL σ q8 x5.toNatClampNeg).toInt32))) else none)) else none)))) else none)) else none)) else none)) else none)
set_option maxRecDepth 100000 in
set_option maxHeartbeats 4000000 in
theorem p_X9_lays_L43 {l : Launch} {E : MX} {out : (Int32 × MSt)} {a0 : Nat} {a1 : Int32}  : ∀ (n : Nat) (x3 : Int32) (x4 : Int32) (x5 : Int32) (σ : MSt), f_X9_lays_L43 a0 a1 n x3 x4 x5 σ = some out → MV l E cX9_lays RX9 8 (some .int) 3 (82, (some (.int out.1)), out.2) σ 43 [(0, .ref a0), (1, .int a1), (3, .int x3), (4, .int x4), (5, .int x5)] [] := by
  intro n
  induction n with
  | zero =>
    intro x3 x4 x5 σ h
    exact nomatch h
  | succ n ih =>
    intro x3 x4 x5 σ h
    rw [f_X9_lays_L43] at h
    refine mw_iload dX9_lays_43 4 rfl ?_
    refine mw_iload dX9_lays_45 3 rfl ?_
    refine mw_icmp_ge (tgt := 104) dX9_lays_47 (by decide) (fun hc => ?_) (fun hc => ?_)
    · have h := mit hc h
      refine mw_iload_n dX9_lays_104 2 rfl ?_
      exact mw_iret dX9_lays_105 rfl (mrs_im h) rfl rfl
    · have h := mie hc h
      refine mw_aload_n dX9_lays_50 0 rfl ?_
      obtain ⟨m1, h⟩ := mif h
      obtain ⟨q2, e3, h⟩ := mbd h
      refine mv_getR fd_RX9_66_8 dX9_lays_51 m1 rfl e3 ?_
      refine mw_iload_n dX9_lays_54 1 rfl ?_
      obtain ⟨m4, h⟩ := mif h
      obtain ⟨q5, e6, h⟩ := mbd h
      refine mv_aald dX9_lays_55 m4 e6 ?_
      obtain ⟨m7, h⟩ := mif h
      obtain ⟨q8, e9, h⟩ := mbd h
      refine mv_getR fd_RX9_295_4 dX9_lays_56 m7 rfl e9 ?_
      refine mw_iload dX9_lays_59 4 rfl ?_
      obtain ⟨m10, h⟩ := mif h
      refine mv_lald dX9_lays_61 m10 ?_
      refine mw_lstore (L' := [(6, .long (mmL σ q8 x5.toNatClampNeg)), (0, .ref a0), (1, .int a1), (3, .int x3), (4, .int x4), (5, .int x5)]) dX9_lays_62 (by decide) rfl ?_
      refine mw_lload dX9_lays_64 0 rfl ?_
      refine mw_ldc2 dX9_lays_66 wt_176 ?_
      refine mw_lc_lt (tgt := 98) dX9_lays_69 dX9_lays_70 (by decide) (fun hc => ?_) (fun hc => ?_)
      · have h := mit hc h
        refine mw_iinc (v := (x5 + 1)) (L' := [(5, .int (x5 + 1)), (6, .long (mmL σ q8 x5.toNatClampNeg)), (0, .ref a0), (1, .int a1), (3, .int x3), (4, .int x4)]) dX9_lays_98 5 rfl rfl (by decide) rfl ?_
        refine mw_goto (tgt := 43) dX9_lays_101 (by decide) ?_
        exact mw_sub (L' := [(0, .ref a0), (1, .int a1), (3, .int x3), (4, .int x4), (5, .int (x5 + 1))]) [2, 3, 4, 5, 0] rfl (ih _ _ _ _ h)
      · have h := mie hc h
        refine mw_lload dX9_lays_73 0 rfl ?_
        refine mw_ldc2 dX9_lays_75 wt_175 ?_
        refine mw_lc_gt (tgt := 98) dX9_lays_78 dX9_lays_79 (by decide) (fun hc => ?_) (fun hc => ?_)
        · have h := mit hc h
          refine mw_iinc (v := (x5 + 1)) (L' := [(5, .int (x5 + 1)), (6, .long (mmL σ q8 x5.toNatClampNeg)), (0, .ref a0), (1, .int a1), (3, .int x3), (4, .int x4)]) dX9_lays_98 5 rfl rfl (by decide) rfl ?_
          refine mw_goto (tgt := 43) dX9_lays_101 (by decide) ?_
          exact mw_sub (L' := [(0, .ref a0), (1, .int a1), (3, .int x3), (4, .int x4), (5, .int (x5 + 1))]) [2, 3, 4, 5, 0] rfl (ih _ _ _ _ h)
        · have h := mie hc h
          refine mw_aload_n dX9_lays_82 1 rfl ?_
          obtain ⟨q11, e12, h⟩ := mbd h
          refine mv_getR fd_RX9_12_8 dX9_lays_83 m1 rfl e12 ?_
          obtain ⟨m13, h⟩ := mif h
          obtain ⟨q14, e15, h⟩ := mbd h
          refine mv_getR fd_RX9_122_0 dX9_lays_86 m13 rfl e15 ?_
          refine mw_iload dX9_lays_89 5 rfl ?_
          refine mw_lload dX9_lays_91 0 rfl ?_
          refine mw_l2i dX9_lays_93 ?_
          obtain ⟨m16, h⟩ := mif h
          refine mv_iast dX9_lays_94 m16 ?_
          refine mw_iinc (v := (x3 + 1)) (L' := [(3, .int (x3 + 1)), (6, .long (mmL σ q8 x5.toNatClampNeg)), (0, .ref a0), (1, .int a1), (4, .int x4), (5, .int x5)]) dX9_lays_95 3 rfl rfl (by decide) rfl ?_
          refine mw_iinc (v := (x5 + 1)) (L' := [(5, .int (x5 + 1)), (3, .int (x3 + 1)), (6, .long (mmL σ q8 x5.toNatClampNeg)), (0, .ref a0), (1, .int a1), (4, .int x4)]) dX9_lays_98 5 rfl rfl (by decide) rfl ?_
          refine mw_goto (tgt := 43) dX9_lays_101 (by decide) ?_
          exact mw_sub (L' := [(0, .ref a0), (1, .int a1), (3, .int (x3 + 1)), (4, .int x4), (5, .int (x5 + 1))]) [3, 4, 1, 5, 0] rfl (ih _ _ _ _ h)
def f_X9_lays (a0 : Nat) (a1 : Int32) (σ : MSt) : Option (Int32 × MSt) := (f_X9_sheetFault σ a0 a1).bind (fun r1 => if mob 8 a0 = true then (if r1 = (-1 : Int32) then ((mmR σ a0 10).bind (fun q4 => if mix 4 q4 a1 = true then ((mmR σ q4 a1.toNatClampNeg).bind (fun q7 => if mob 4 q7 = true then ((mmR σ a0 0).bind (fun q10 => if mob 0 q10 = true then (f_X9_lays_L43 a0 a1 mN (0 : Int32) (if (mmI σ q10 2) < (mmI σ q7 1) then (mmI σ q10 2) else (mmI σ q7 1)) (0 : Int32) σ) else none)) else none)) else none)) else ((f_X9_finding a0 r1 σ).bind (fun r13 => some (r13.1, r13.2)))) else none)
set_option maxRecDepth 100000 in
set_option maxHeartbeats 4000000 in
theorem k_X9_lays {l : Launch} {σ : MSt} {a0 : Nat} {a1 : Int32} {out : (Int32 × MSt)} (h : f_X9_lays a0 a1 σ = some out) : MK l yX9_lays cX9_lays 8 (some .int) 3 [.ref a0, .int a1] σ (some (.int out.1)) out.2 := by
  unfold f_X9_lays at h
  refine mw_entry (own := RX9) (ini := false) (L := [(0, .ref a0), (1, .int a1)]) (by decide +kernel) rfl (fun h => nomatch h) rfl (Nat.le_of_ble_eq_true rfl) (Nat.le_of_ble_eq_true rfl) (fun E => ?_)
  refine mw_aload_n dX9_lays_0 0 rfl ?_
  refine mw_iload_n dX9_lays_1 1 rfl ?_
  obtain ⟨r1, e2, h⟩ := mbd h
  obtain ⟨m3, h⟩ := mif h
  refine mv_callV_i (As := [.int a1]) lkV_RX9_315_yX9_sheetFault dX9_lays_2 (k_X9_sheetFault e2) rfl m3 rfl rfl (Nat.le_of_ble_eq_true rfl) (by decide) (by decide) ?_
  refine mw_istore_n (L' := [(2, .int r1), (0, .ref a0), (1, .int a1)]) dX9_lays_5 rfl (by decide) rfl ?_
  refine mw_iload_n dX9_lays_6 0 rfl ?_
  refine mw_iconst (v := -1) dX9_lays_7 (by decide) ?_
  refine mw_icmp_eq (tgt := 17) dX9_lays_8 (by decide) (fun hc => ?_) (fun hc => ?_)
  · have h := mit hc h
    refine mw_iconst (v := 0) dX9_lays_17 (by decide) ?_
    refine mw_istore_n (L' := [(3, .int (0 : Int32)), (2, .int r1), (0, .ref a0), (1, .int a1)]) dX9_lays_18 rfl (by decide) rfl ?_
    refine mw_aload_n dX9_lays_19 2 rfl ?_
    obtain ⟨q4, e5, h⟩ := mbd h
    refine mv_getR fd_RX9_66_8 dX9_lays_20 m3 rfl e5 ?_
    refine mw_iload_n dX9_lays_23 3 rfl ?_
    obtain ⟨m6, h⟩ := mif h
    obtain ⟨q7, e8, h⟩ := mbd h
    refine mv_aald dX9_lays_24 m6 e8 ?_
    obtain ⟨m9, h⟩ := mif h
    refine mv_getI fd_RX9_336_4 dX9_lays_25 m9 rfl ?_
    refine mw_aload_n dX9_lays_28 2 rfl ?_
    obtain ⟨q10, e11, h⟩ := mbd h
    refine mv_getR fd_RX9_12_8 dX9_lays_29 m3 rfl e11 ?_
    obtain ⟨m12, h⟩ := mif h
    refine mv_getI fd_RX9_83_0 dX9_lays_32 m12 rfl ?_
    refine mv_mini dX9_lays_35 wt_568 wt_523 wt_173 wt_524 (by decide) (Nat.le_of_ble_eq_true rfl) ?_
    refine mw_istore (L' := [(4, .int (if (mmI σ q10 2) < (mmI σ q7 1) then (mmI σ q10 2) else (mmI σ q7 1))), (3, .int (0 : Int32)), (2, .int r1), (0, .ref a0), (1, .int a1)]) dX9_lays_38 (by decide) rfl ?_
    refine mw_iconst (v := 0) dX9_lays_40 (by decide) ?_
    refine mw_istore (L' := [(5, .int (0 : Int32)), (4, .int (if (mmI σ q10 2) < (mmI σ q7 1) then (mmI σ q10 2) else (mmI σ q7 1))), (3, .int (0 : Int32)), (2, .int r1), (0, .ref a0), (1, .int a1)]) dX9_lays_41 (by decide) rfl ?_
    exact mw_sub (L' := [(0, .ref a0), (1, .int a1), (3, .int (0 : Int32)), (4, .int (if (mmI σ q10 2) < (mmI σ q7 1) then (mmI σ q10 2) else (mmI σ q7 1))), (5, .int (0 : Int32))]) [4, 5, 2, 1, 0] rfl (p_X9_lays_L43  mN _ _ _ _ h)
  · have h := mie hc h
    refine mw_aload_n dX9_lays_11 1 rfl ?_
    refine mw_iload_n dX9_lays_12 0 rfl ?_
    obtain ⟨r13, e14, h⟩ := mbd h
    refine mv_callV_i (As := [.int r1]) lkV_RX9_79_yX9_finding dX9_lays_13 (k_X9_finding e14) rfl m3 rfl rfl (Nat.le_of_ble_eq_true rfl) (by decide) (by decide) ?_
    exact mw_iret dX9_lays_16 rfl (mrs_im h) rfl rfl

theorem dX9_image_0 : decode cX9_image 0 = .ok (.aload_n 0, 1) := by decide +kernel
theorem dX9_image_1 : decode cX9_image 1 = .ok (.getfield 16, 3) := by decide +kernel
theorem dX9_image_4 : decode cX9_image 4 = .ok (.aload_n 0, 1) := by decide +kernel
theorem dX9_image_5 : decode cX9_image 5 = .ok (.getfield 12, 3) := by decide +kernel
theorem dX9_image_8 : decode cX9_image 8 = .ok (.invokevirtual 231, 3) := by decide +kernel
theorem dX9_image_11 : decode cX9_image 11 = .ok (.aload_n 0, 1) := by decide +kernel
theorem dX9_image_12 : decode cX9_image 12 = .ok (.iconst 1, 1) := by decide +kernel
theorem dX9_image_13 : decode cX9_image 13 = .ok (.putfield 354, 3) := by decide +kernel
theorem dX9_image_16 : decode cX9_image 16 = .ok (.iconst 1, 1) := by decide +kernel
theorem dX9_image_17 : decode cX9_image 17 = .ok (.ireturn, 1) := by decide +kernel
def f_X9_image (a0 : Nat) (σ : MSt) : Option (Int32 × MSt) := if mob 8 a0 = true then ((mmR σ a0 1).bind (fun q2 => (mmR σ a0 0).bind (fun q4 => (f_X1_become q2 q4 σ).bind (fun r6 => if mob 0 q2 = true then (some ((1 : Int32), (muI r6 a0 3 (1 : Int32)))) else none)))) else none
set_option maxRecDepth 100000 in
set_option maxHeartbeats 4000000 in
theorem k_X9_image {l : Launch} {σ : MSt} {a0 : Nat} {out : (Int32 × MSt)} (h : f_X9_image a0 σ = some out) : MK l yX9_image cX9_image 1 (some .int) 2 [.ref a0] σ (some (.int out.1)) out.2 := by
  unfold f_X9_image at h
  refine mw_entry (own := RX9) (ini := false) (L := [(0, .ref a0)]) (by decide +kernel) rfl (fun h => nomatch h) rfl (Nat.le_of_ble_eq_true rfl) (Nat.le_of_ble_eq_true rfl) (fun E => ?_)
  refine mw_aload_n dX9_image_0 0 rfl ?_
  obtain ⟨m1, h⟩ := mif h
  obtain ⟨q2, e3, h⟩ := mbd h
  refine mv_getR fd_RX9_16_8 dX9_image_1 m1 rfl e3 ?_
  refine mw_aload_n dX9_image_4 0 rfl ?_
  obtain ⟨q4, e5, h⟩ := mbd h
  refine mv_getR fd_RX9_12_8 dX9_image_5 m1 rfl e5 ?_
  obtain ⟨r6, e7, h⟩ := mbd h
  obtain ⟨m8, h⟩ := mif h
  refine mv_callV_v (As := [.ref q4]) lkV_RX9_231_yX1_become dX9_image_8 (k_X1_become e7) rfl m8 rfl rfl (Nat.le_of_ble_eq_true rfl) (by decide) (by decide) ?_
  refine mw_aload_n dX9_image_11 0 rfl ?_
  refine mw_iconst (v := 1) dX9_image_12 (by decide) ?_
  refine mv_putZ fw_RX9_354_8 dX9_image_13 m1 rfl (by decide) ?_
  refine mw_iconst (v := 1) dX9_image_16 (by decide) ?_
  exact mw_iret dX9_image_17 rfl (mrs_im h) rfl rfl

theorem dX9_undo_0 : decode cX9_undo 0 = .ok (.aload_n 0, 1) := by decide +kernel
theorem dX9_undo_1 : decode cX9_undo 1 = .ok (.getfield 354, 3) := by decide +kernel
theorem dX9_undo_4 : decode cX9_undo 4 = .ok (.ifCond .ne 9, 3) := by decide +kernel
theorem dX9_undo_7 : decode cX9_undo 7 = .ok (.aload_n 0, 1) := by decide +kernel
theorem dX9_undo_8 : decode cX9_undo 8 = .ok (.iconst 3, 1) := by decide +kernel
theorem dX9_undo_9 : decode cX9_undo 9 = .ok (.invokevirtual 79, 3) := by decide +kernel
theorem dX9_undo_12 : decode cX9_undo 12 = .ok (.ireturn, 1) := by decide +kernel
theorem dX9_undo_13 : decode cX9_undo 13 = .ok (.aload_n 0, 1) := by decide +kernel
theorem dX9_undo_14 : decode cX9_undo 14 = .ok (.getfield 12, 3) := by decide +kernel
theorem dX9_undo_17 : decode cX9_undo 17 = .ok (.aload_n 0, 1) := by decide +kernel
theorem dX9_undo_18 : decode cX9_undo 18 = .ok (.getfield 16, 3) := by decide +kernel
theorem dX9_undo_21 : decode cX9_undo 21 = .ok (.invokevirtual 231, 3) := by decide +kernel
theorem dX9_undo_24 : decode cX9_undo 24 = .ok (.aload_n 0, 1) := by decide +kernel
theorem dX9_undo_25 : decode cX9_undo 25 = .ok (.getfield 12, 3) := by decide +kernel
theorem dX9_undo_28 : decode cX9_undo 28 = .ok (.getfield 83, 3) := by decide +kernel
theorem dX9_undo_31 : decode cX9_undo 31 = .ok (.ireturn, 1) := by decide +kernel
def f_X9_undo (a0 : Nat) (σ : MSt) : Option (Int32 × MSt) := if mob 8 a0 = true then (if (mmI σ a0 3) = 0 then ((f_X9_finding a0 (3 : Int32) σ).bind (fun r12 => some (r12.1, r12.2))) else ((mmR σ a0 0).bind (fun q2 => (mmR σ a0 1).bind (fun q4 => (f_X1_become q2 q4 σ).bind (fun r6 => if mob 0 q2 = true then ((mmR r6 a0 0).bind (fun q9 => if mob 0 q9 = true then (some ((mmI r6 q9 2), r6)) else none)) else none))))) else none
set_option maxRecDepth 100000 in
set_option maxHeartbeats 4000000 in
theorem k_X9_undo {l : Launch} {σ : MSt} {a0 : Nat} {out : (Int32 × MSt)} (h : f_X9_undo a0 σ = some out) : MK l yX9_undo cX9_undo 1 (some .int) 2 [.ref a0] σ (some (.int out.1)) out.2 := by
  unfold f_X9_undo at h
  refine mw_entry (own := RX9) (ini := false) (L := [(0, .ref a0)]) (by decide +kernel) rfl (fun h => nomatch h) rfl (Nat.le_of_ble_eq_true rfl) (Nat.le_of_ble_eq_true rfl) (fun E => ?_)
  refine mw_aload_n dX9_undo_0 0 rfl ?_
  obtain ⟨m1, h⟩ := mif h
  refine mv_getZ fd_RX9_354_8 dX9_undo_1 m1 rfl ?_
  refine mw_if_ne (tgt := 13) dX9_undo_4 (by decide) (fun hc => ?_) (fun hc => ?_)
  · have h := mie hc h
    refine mw_aload_n dX9_undo_13 0 rfl ?_
    obtain ⟨q2, e3, h⟩ := mbd h
    refine mv_getR fd_RX9_12_8 dX9_undo_14 m1 rfl e3 ?_
    refine mw_aload_n dX9_undo_17 0 rfl ?_
    obtain ⟨q4, e5, h⟩ := mbd h
    refine mv_getR fd_RX9_16_8 dX9_undo_18 m1 rfl e5 ?_
    obtain ⟨r6, e7, h⟩ := mbd h
    obtain ⟨m8, h⟩ := mif h
    refine mv_callV_v (As := [.ref q4]) lkV_RX9_231_yX1_become dX9_undo_21 (k_X1_become e7) rfl m8 rfl rfl (Nat.le_of_ble_eq_true rfl) (by decide) (by decide) ?_
    refine mw_aload_n dX9_undo_24 0 rfl ?_
    obtain ⟨q9, e10, h⟩ := mbd h
    refine mv_getR fd_RX9_12_8 dX9_undo_25 m1 rfl e10 ?_
    obtain ⟨m11, h⟩ := mif h
    refine mv_getI fd_RX9_83_0 dX9_undo_28 m11 rfl ?_
    exact mw_iret dX9_undo_31 rfl (mrs_im h) rfl rfl
  · have h := mit hc h
    refine mw_aload_n dX9_undo_7 0 rfl ?_
    refine mw_iconst (v := 3) dX9_undo_8 (by decide) ?_
    obtain ⟨r12, e13, h⟩ := mbd h
    refine mv_callV_i (As := [.int (3 : Int32)]) lkV_RX9_79_yX9_finding dX9_undo_9 (k_X9_finding e13) rfl m1 rfl rfl (Nat.le_of_ble_eq_true rfl) (by decide) (by decide) ?_
    exact mw_iret dX9_undo_12 rfl (mrs_im h) rfl rfl

theorem dX9_tear_0 : decode cX9_tear 0 = .ok (.aload_n 0, 1) := by decide +kernel
theorem dX9_tear_1 : decode cX9_tear 1 = .ok (.getfield 354, 3) := by decide +kernel
theorem dX9_tear_4 : decode cX9_tear 4 = .ok (.ifCond .eq 7, 3) := by decide +kernel
theorem dX9_tear_7 : decode cX9_tear 7 = .ok (.iconst 1, 1) := by decide +kernel
theorem dX9_tear_8 : decode cX9_tear 8 = .ok (.goto 4, 3) := by decide +kernel
theorem dX9_tear_11 : decode cX9_tear 11 = .ok (.iconst 0, 1) := by decide +kernel
theorem dX9_tear_12 : decode cX9_tear 12 = .ok (.istore_n 1, 1) := by decide +kernel
theorem dX9_tear_13 : decode cX9_tear 13 = .ok (.aload_n 0, 1) := by decide +kernel
theorem dX9_tear_14 : decode cX9_tear 14 = .ok (.iconst 0, 1) := by decide +kernel
theorem dX9_tear_15 : decode cX9_tear 15 = .ok (.putfield 354, 3) := by decide +kernel
theorem dX9_tear_18 : decode cX9_tear 18 = .ok (.iload_n 1, 1) := by decide +kernel
theorem dX9_tear_19 : decode cX9_tear 19 = .ok (.ireturn, 1) := by decide +kernel
def f_X9_tear (a0 : Nat) (σ : MSt) : Option (Int32 × MSt) := if mob 8 a0 = true then (if (mmI σ a0 3) = 0 then (some ((0 : Int32), (muI σ a0 3 (0 : Int32)))) else (some ((1 : Int32), (muI σ a0 3 (0 : Int32))))) else none
set_option maxRecDepth 100000 in
set_option maxHeartbeats 4000000 in
theorem k_X9_tear {l : Launch} {σ : MSt} {a0 : Nat} {out : (Int32 × MSt)} (h : f_X9_tear a0 σ = some out) : MK l yX9_tear cX9_tear 2 (some .int) 1 [.ref a0] σ (some (.int out.1)) out.2 := by
  unfold f_X9_tear at h
  refine mw_entry (own := RX9) (ini := false) (L := [(0, .ref a0)]) (by decide +kernel) rfl (fun h => nomatch h) rfl (Nat.le_of_ble_eq_true rfl) (Nat.le_of_ble_eq_true rfl) (fun E => ?_)
  refine mw_aload_n dX9_tear_0 0 rfl ?_
  obtain ⟨m1, h⟩ := mif h
  refine mv_getZ fd_RX9_354_8 dX9_tear_1 m1 rfl ?_
  refine mw_if_eq (tgt := 11) dX9_tear_4 (by decide) (fun hc => ?_) (fun hc => ?_)
  · have h := mit hc h
    refine mw_iconst (v := 0) dX9_tear_11 (by decide) ?_
    refine mw_istore_n (L' := [(1, .int (0 : Int32)), (0, .ref a0)]) dX9_tear_12 rfl (by decide) rfl ?_
    refine mw_aload_n dX9_tear_13 1 rfl ?_
    refine mw_iconst (v := 0) dX9_tear_14 (by decide) ?_
    refine mv_putZ fw_RX9_354_8 dX9_tear_15 m1 rfl (by decide) ?_
    refine mw_iload_n dX9_tear_18 0 rfl ?_
    exact mw_iret dX9_tear_19 rfl (mrs_im h) rfl rfl
  · have h := mie hc h
    refine mw_iconst (v := 1) dX9_tear_7 (by decide) ?_
    refine mw_goto (tgt := 12) dX9_tear_8 (by decide) ?_
    refine mw_istore_n (L' := [(1, .int (1 : Int32)), (0, .ref a0)]) dX9_tear_12 rfl (by decide) rfl ?_
    refine mw_aload_n dX9_tear_13 1 rfl ?_
    refine mw_iconst (v := 0) dX9_tear_14 (by decide) ?_
    refine mv_putZ fw_RX9_354_8 dX9_tear_15 m1 rfl (by decide) ?_
    refine mw_iload_n dX9_tear_18 0 rfl ?_
    exact mw_iret dX9_tear_19 rfl (mrs_im h) rfl rfl

theorem dX1_shutWays_0 : decode cX1_shutWays 0 = .ok (.iconst 0, 1) := by decide +kernel
theorem dX1_shutWays_1 : decode cX1_shutWays 1 = .ok (.istore_n 1, 1) := by decide +kernel
theorem dX1_shutWays_2 : decode cX1_shutWays 2 = .ok (.iconst 0, 1) := by decide +kernel
theorem dX1_shutWays_3 : decode cX1_shutWays 3 = .ok (.istore_n 2, 1) := by decide +kernel
theorem dX1_shutWays_4 : decode cX1_shutWays 4 = .ok (.iload_n 2, 1) := by decide +kernel
theorem dX1_shutWays_5 : decode cX1_shutWays 5 = .ok (.aload_n 0, 1) := by decide +kernel
theorem dX1_shutWays_6 : decode cX1_shutWays 6 = .ok (.getfield 44, 3) := by decide +kernel
theorem dX1_shutWays_9 : decode cX1_shutWays 9 = .ok (.if_icmp .ge 18, 3) := by decide +kernel
theorem dX1_shutWays_12 : decode cX1_shutWays 12 = .ok (.iload_n 1, 1) := by decide +kernel
theorem dX1_shutWays_13 : decode cX1_shutWays 13 = .ok (.aload_n 0, 1) := by decide +kernel
theorem dX1_shutWays_14 : decode cX1_shutWays 14 = .ok (.getfield 31, 3) := by decide +kernel
theorem dX1_shutWays_17 : decode cX1_shutWays 17 = .ok (.iload_n 2, 1) := by decide +kernel
theorem dX1_shutWays_18 : decode cX1_shutWays 18 = .ok (.iaload, 1) := by decide +kernel
theorem dX1_shutWays_19 : decode cX1_shutWays 19 = .ok (.iadd, 1) := by decide +kernel
theorem dX1_shutWays_20 : decode cX1_shutWays 20 = .ok (.istore_n 1, 1) := by decide +kernel
theorem dX1_shutWays_21 : decode cX1_shutWays 21 = .ok (.iinc 2 1, 3) := by decide +kernel
theorem dX1_shutWays_24 : decode cX1_shutWays 24 = .ok (.goto (-20), 3) := by decide +kernel
theorem dX1_shutWays_27 : decode cX1_shutWays 27 = .ok (.iload_n 1, 1) := by decide +kernel
theorem dX1_shutWays_28 : decode cX1_shutWays 28 = .ok (.ireturn, 1) := by decide +kernel
def f_X1_shutWays_L4 (σ : MSt) (a0 : Nat) : Nat → Int32 → Int32 → Option Int32
  | 0, _, _ => none
  | n + 1, x1, x2 => if mob 0 a0 = true then (if (mmI σ a0 2) ≤ x2 then (some x1) else ((mmR σ a0 8).bind (fun q2 => if mix 0 q2 x2 = true then (f_X1_shutWays_L4 σ a0 n (x1 + (mmI σ q2 x2.toNatClampNeg)) (x2 + 1)) else none))) else none
set_option maxRecDepth 100000 in
set_option maxHeartbeats 4000000 in
theorem p_X1_shutWays_L4 {l : Launch} {E : MX} {out : Int32} {σ : MSt} {a0 : Nat}  : ∀ (n : Nat) (x1 : Int32) (x2 : Int32), f_X1_shutWays_L4 σ a0 n x1 x2 = some out → MV l E cX1_shutWays RX1 3 (some .int) 1 (82, (some (.int out)), σ) σ 4 [(0, .ref a0), (1, .int x1), (2, .int x2)] [] := by
  intro n
  induction n with
  | zero =>
    intro x1 x2 h
    exact nomatch h
  | succ n ih =>
    intro x1 x2 h
    rw [f_X1_shutWays_L4] at h
    refine mw_iload_n dX1_shutWays_4 2 rfl ?_
    refine mw_aload_n dX1_shutWays_5 0 rfl ?_
    obtain ⟨m1, h⟩ := mif h
    refine mv_getI fd_RX1_44_0 dX1_shutWays_6 m1 rfl ?_
    refine mw_icmp_ge (tgt := 27) dX1_shutWays_9 (by decide) (fun hc => ?_) (fun hc => ?_)
    · have h := mit hc h
      refine mw_iload_n dX1_shutWays_27 1 rfl ?_
      exact mw_iret dX1_shutWays_28 rfl (mrs_i h) rfl rfl
    · have h := mie hc h
      refine mw_iload_n dX1_shutWays_12 1 rfl ?_
      refine mw_aload_n dX1_shutWays_13 0 rfl ?_
      obtain ⟨q2, e3, h⟩ := mbd h
      refine mv_getR fd_RX1_31_0 dX1_shutWays_14 m1 rfl e3 ?_
      refine mw_iload_n dX1_shutWays_17 2 rfl ?_
      obtain ⟨m4, h⟩ := mif h
      refine mv_iald dX1_shutWays_18 m4 ?_
      refine mw_iadd dX1_shutWays_19 ?_
      refine mw_istore_n (L' := [(1, .int (x1 + (mmI σ q2 x2.toNatClampNeg))), (0, .ref a0), (2, .int x2)]) dX1_shutWays_20 rfl (by decide) rfl ?_
      refine mw_iinc (v := (x2 + 1)) (L' := [(2, .int (x2 + 1)), (1, .int (x1 + (mmI σ q2 x2.toNatClampNeg))), (0, .ref a0)]) dX1_shutWays_21 2 rfl rfl (by decide) rfl ?_
      refine mw_goto (tgt := 4) dX1_shutWays_24 (by decide) ?_
      exact mw_sub (L' := [(0, .ref a0), (1, .int (x1 + (mmI σ q2 x2.toNatClampNeg))), (2, .int (x2 + 1))]) [2, 1, 0] rfl (ih _ _ h)
def f_X1_shutWays (σ : MSt) (a0 : Nat) : Option Int32 := f_X1_shutWays_L4 σ a0 mN (0 : Int32) (0 : Int32)
set_option maxRecDepth 100000 in
set_option maxHeartbeats 4000000 in
theorem k_X1_shutWays {l : Launch} {σ : MSt} {a0 : Nat} {out : Int32} (h : f_X1_shutWays σ a0 = some out) : MK l yX1_shutWays cX1_shutWays 3 (some .int) 1 [.ref a0] σ (some (.int out)) σ := by
  unfold f_X1_shutWays at h
  refine mw_entry (own := RX1) (ini := false) (L := [(0, .ref a0)]) (by decide +kernel) rfl (fun h => nomatch h) rfl (Nat.le_of_ble_eq_true rfl) (Nat.le_of_ble_eq_true rfl) (fun E => ?_)
  refine mw_iconst (v := 0) dX1_shutWays_0 (by decide) ?_
  refine mw_istore_n (L' := [(1, .int (0 : Int32)), (0, .ref a0)]) dX1_shutWays_1 rfl (by decide) rfl ?_
  refine mw_iconst (v := 0) dX1_shutWays_2 (by decide) ?_
  refine mw_istore_n (L' := [(2, .int (0 : Int32)), (1, .int (0 : Int32)), (0, .ref a0)]) dX1_shutWays_3 rfl (by decide) rfl ?_
  exact mw_sub (L' := [(0, .ref a0), (1, .int (0 : Int32)), (2, .int (0 : Int32))]) [2, 1, 0] rfl (p_X1_shutWays_L4  mN _ _ h)

theorem dX9_count_0 : decode cX9_count 0 = .ok (.iload_n 1, 1) := by decide +kernel
theorem dX9_count_1 : decode cX9_count 1 = .ok (.tableswitch 87 0 5 #[39, 47, 55, 63, 71, 79], 39) := by decide +kernel
theorem dX9_count_40 : decode cX9_count 40 = .ok (.aload_n 0, 1) := by decide +kernel
theorem dX9_count_41 : decode cX9_count 41 = .ok (.getfield 12, 3) := by decide +kernel
theorem dX9_count_44 : decode cX9_count 44 = .ok (.getfield 93, 3) := by decide +kernel
theorem dX9_count_47 : decode cX9_count 47 = .ok (.ireturn, 1) := by decide +kernel
theorem dX9_count_48 : decode cX9_count 48 = .ok (.aload_n 0, 1) := by decide +kernel
theorem dX9_count_49 : decode cX9_count 49 = .ok (.getfield 12, 3) := by decide +kernel
theorem dX9_count_52 : decode cX9_count 52 = .ok (.getfield 83, 3) := by decide +kernel
theorem dX9_count_55 : decode cX9_count 55 = .ok (.ireturn, 1) := by decide +kernel
theorem dX9_count_56 : decode cX9_count 56 = .ok (.aload_n 0, 1) := by decide +kernel
theorem dX9_count_57 : decode cX9_count 57 = .ok (.getfield 12, 3) := by decide +kernel
theorem dX9_count_60 : decode cX9_count 60 = .ok (.getfield 148, 3) := by decide +kernel
theorem dX9_count_63 : decode cX9_count 63 = .ok (.ireturn, 1) := by decide +kernel
theorem dX9_count_64 : decode cX9_count 64 = .ok (.aload_n 0, 1) := by decide +kernel
theorem dX9_count_65 : decode cX9_count 65 = .ok (.getfield 12, 3) := by decide +kernel
theorem dX9_count_68 : decode cX9_count 68 = .ok (.invokevirtual 358, 3) := by decide +kernel
theorem dX9_count_71 : decode cX9_count 71 = .ok (.ireturn, 1) := by decide +kernel
theorem dX9_count_72 : decode cX9_count 72 = .ok (.aload_n 0, 1) := by decide +kernel
theorem dX9_count_73 : decode cX9_count 73 = .ok (.getfield 12, 3) := by decide +kernel
theorem dX9_count_76 : decode cX9_count 76 = .ok (.getfield 96, 3) := by decide +kernel
theorem dX9_count_79 : decode cX9_count 79 = .ok (.ireturn, 1) := by decide +kernel
theorem dX9_count_80 : decode cX9_count 80 = .ok (.aload_n 0, 1) := by decide +kernel
theorem dX9_count_81 : decode cX9_count 81 = .ok (.getfield 60, 3) := by decide +kernel
theorem dX9_count_84 : decode cX9_count 84 = .ok (.getfield 321, 3) := by decide +kernel
theorem dX9_count_87 : decode cX9_count 87 = .ok (.ireturn, 1) := by decide +kernel
theorem dX9_count_88 : decode cX9_count 88 = .ok (.aload_n 0, 1) := by decide +kernel
theorem dX9_count_89 : decode cX9_count 89 = .ok (.iconst 0, 1) := by decide +kernel
theorem dX9_count_90 : decode cX9_count 90 = .ok (.invokevirtual 79, 3) := by decide +kernel
theorem dX9_count_93 : decode cX9_count 93 = .ok (.ireturn, 1) := by decide +kernel
def f_X9_count (a0 : Nat) (a1 : Int32) (σ : MSt) : Option (Int32 × MSt) := if a1 = 0 then (if mob 8 a0 = true then ((mmR σ a0 0).bind (fun q2 => if mob 0 q2 = true then (some ((mmI σ q2 0), σ)) else none)) else none) else (if a1 = 1 then (if mob 8 a0 = true then ((mmR σ a0 0).bind (fun q6 => if mob 0 q6 = true then (some ((mmI σ q6 2), σ)) else none)) else none) else (if a1 = 2 then (if mob 8 a0 = true then ((mmR σ a0 0).bind (fun q10 => if mob 0 q10 = true then (some ((mmI σ q10 9), σ)) else none)) else none) else (if a1 = 3 then (if mob 8 a0 = true then ((mmR σ a0 0).bind (fun q14 => (f_X1_shutWays σ q14).bind (fun r16 => if mob 0 q14 = true then (some (r16, σ)) else none))) else none) else (if a1 = 4 then (if mob 8 a0 = true then ((mmR σ a0 0).bind (fun q20 => if mob 0 q20 = true then (some ((mmI σ q20 1), σ)) else none)) else none) else (if a1 = 5 then (if mob 8 a0 = true then ((mmR σ a0 9).bind (fun q24 => if mob 5 q24 = true then (some ((mmI σ q24 0), σ)) else none)) else none) else ((f_X9_finding a0 (0 : Int32) σ).bind (fun r27 => if mob 8 a0 = true then (some (r27.1, r27.2)) else none)))))))
set_option maxRecDepth 100000 in
set_option maxHeartbeats 4000000 in
theorem k_X9_count {l : Launch} {σ : MSt} {a0 : Nat} {a1 : Int32} {out : (Int32 × MSt)} (h : f_X9_count a0 a1 σ = some out) : MK l yX9_count cX9_count 2 (some .int) 2 [.ref a0, .int a1] σ (some (.int out.1)) out.2 := by
  unfold f_X9_count at h
  refine mw_entry (own := RX9) (ini := false) (L := [(0, .ref a0), (1, .int a1)]) (by decide +kernel) rfl (fun h => nomatch h) rfl (Nat.le_of_ble_eq_true rfl) (Nat.le_of_ble_eq_true rfl) (fun E => ?_)
  refine mw_iload_n dX9_count_0 1 rfl ?_
  by_cases hs0 : a1 = 0
  · have h := mit hs0 h
    refine mv_tabIn (tgt := 40) 0 dX9_count_1 hs0 (by decide) (by decide) rfl (by decide) ?_
    refine mw_aload_n dX9_count_40 0 rfl ?_
    obtain ⟨m1, h⟩ := mif h
    obtain ⟨q2, e3, h⟩ := mbd h
    refine mv_getR fd_RX9_12_8 dX9_count_41 m1 rfl e3 ?_
    obtain ⟨m4, h⟩ := mif h
    refine mv_getI fd_RX9_93_0 dX9_count_44 m4 rfl ?_
    exact mw_iret dX9_count_47 rfl (mrs_im h) rfl rfl
  have h := mie hs0 h
  by_cases hs1 : a1 = 1
  · have h := mit hs1 h
    refine mv_tabIn (tgt := 48) 1 dX9_count_1 hs1 (by decide) (by decide) rfl (by decide) ?_
    refine mw_aload_n dX9_count_48 0 rfl ?_
    obtain ⟨m5, h⟩ := mif h
    obtain ⟨q6, e7, h⟩ := mbd h
    refine mv_getR fd_RX9_12_8 dX9_count_49 m5 rfl e7 ?_
    obtain ⟨m8, h⟩ := mif h
    refine mv_getI fd_RX9_83_0 dX9_count_52 m8 rfl ?_
    exact mw_iret dX9_count_55 rfl (mrs_im h) rfl rfl
  have h := mie hs1 h
  by_cases hs2 : a1 = 2
  · have h := mit hs2 h
    refine mv_tabIn (tgt := 56) 2 dX9_count_1 hs2 (by decide) (by decide) rfl (by decide) ?_
    refine mw_aload_n dX9_count_56 0 rfl ?_
    obtain ⟨m9, h⟩ := mif h
    obtain ⟨q10, e11, h⟩ := mbd h
    refine mv_getR fd_RX9_12_8 dX9_count_57 m9 rfl e11 ?_
    obtain ⟨m12, h⟩ := mif h
    refine mv_getI fd_RX9_148_0 dX9_count_60 m12 rfl ?_
    exact mw_iret dX9_count_63 rfl (mrs_im h) rfl rfl
  have h := mie hs2 h
  by_cases hs3 : a1 = 3
  · have h := mit hs3 h
    refine mv_tabIn (tgt := 64) 3 dX9_count_1 hs3 (by decide) (by decide) rfl (by decide) ?_
    refine mw_aload_n dX9_count_64 0 rfl ?_
    obtain ⟨m13, h⟩ := mif h
    obtain ⟨q14, e15, h⟩ := mbd h
    refine mv_getR fd_RX9_12_8 dX9_count_65 m13 rfl e15 ?_
    obtain ⟨r16, e17, h⟩ := mbd h
    obtain ⟨m18, h⟩ := mif h
    refine mv_callV_i (As := []) lkV_RX9_358_yX1_shutWays dX9_count_68 (k_X1_shutWays e17) rfl m18 rfl rfl (Nat.le_of_ble_eq_true rfl) (by decide) (by decide) ?_
    exact mw_iret dX9_count_71 rfl (mrs_im h) rfl rfl
  have h := mie hs3 h
  by_cases hs4 : a1 = 4
  · have h := mit hs4 h
    refine mv_tabIn (tgt := 72) 4 dX9_count_1 hs4 (by decide) (by decide) rfl (by decide) ?_
    refine mw_aload_n dX9_count_72 0 rfl ?_
    obtain ⟨m19, h⟩ := mif h
    obtain ⟨q20, e21, h⟩ := mbd h
    refine mv_getR fd_RX9_12_8 dX9_count_73 m19 rfl e21 ?_
    obtain ⟨m22, h⟩ := mif h
    refine mv_getI fd_RX9_96_0 dX9_count_76 m22 rfl ?_
    exact mw_iret dX9_count_79 rfl (mrs_im h) rfl rfl
  have h := mie hs4 h
  by_cases hs5 : a1 = 5
  · have h := mit hs5 h
    refine mv_tabIn (tgt := 80) 5 dX9_count_1 hs5 (by decide) (by decide) rfl (by decide) ?_
    refine mw_aload_n dX9_count_80 0 rfl ?_
    obtain ⟨m23, h⟩ := mif h
    obtain ⟨q24, e25, h⟩ := mbd h
    refine mv_getR fd_RX9_60_8 dX9_count_81 m23 rfl e25 ?_
    obtain ⟨m26, h⟩ := mif h
    refine mv_getI fd_RX9_321_5 dX9_count_84 m26 rfl ?_
    exact mw_iret dX9_count_87 rfl (mrs_im h) rfl rfl
  have h := mie hs5 h
  have g0 := mne32 hs0
  have g1 := mne32 hs1
  have g2 := mne32 hs2
  have g3 := mne32 hs3
  have g4 := mne32 hs4
  have g5 := mne32 hs5
  refine mv_tabOut (tgt := 88) dX9_count_1 (by simp only [mti_0, mti_1, mti_2, mti_3, mti_4, mti_5] at g0 g1 g2 g3 g4 g5; omega) (by decide) ?_
  refine mw_aload_n dX9_count_88 0 rfl ?_
  refine mw_iconst (v := 0) dX9_count_89 (by decide) ?_
  obtain ⟨r27, e28, h⟩ := mbd h
  obtain ⟨m29, h⟩ := mif h
  refine mv_callV_i (As := [.int (0 : Int32)]) lkV_RX9_79_yX9_finding dX9_count_90 (k_X9_finding e28) rfl m29 rfl rfl (Nat.le_of_ble_eq_true rfl) (by decide) (by decide) ?_
  exact mw_iret dX9_count_93 rfl (mrs_im h) rfl rfl

theorem dX9_status_0 : decode cX9_status 0 = .ok (.iload_n 1, 1) := by decide +kernel
theorem dX9_status_1 : decode cX9_status 1 = .ok (.iconst (-1), 1) := by decide +kernel
theorem dX9_status_2 : decode cX9_status 2 = .ok (.bipush 8, 2) := by decide +kernel
theorem dX9_status_4 : decode cX9_status 4 = .ok (.invokestatic 75, 3) := by decide +kernel
theorem dX9_status_7 : decode cX9_status 7 = .ok (.ifCond .ne 9, 3) := by decide +kernel
theorem dX9_status_10 : decode cX9_status 10 = .ok (.aload_n 0, 1) := by decide +kernel
theorem dX9_status_11 : decode cX9_status 11 = .ok (.iconst 0, 1) := by decide +kernel
theorem dX9_status_12 : decode cX9_status 12 = .ok (.invokevirtual 79, 3) := by decide +kernel
theorem dX9_status_15 : decode cX9_status 15 = .ok (.ireturn, 1) := by decide +kernel
theorem dX9_status_16 : decode cX9_status 16 = .ok (.iload_n 1, 1) := by decide +kernel
theorem dX9_status_17 : decode cX9_status 17 = .ok (.ifCond .lt 10, 3) := by decide +kernel
theorem dX9_status_20 : decode cX9_status 20 = .ok (.aload_n 0, 1) := by decide +kernel
theorem dX9_status_21 : decode cX9_status 21 = .ok (.getfield 70, 3) := by decide +kernel
theorem dX9_status_24 : decode cX9_status 24 = .ok (.iload_n 1, 1) := by decide +kernel
theorem dX9_status_25 : decode cX9_status 25 = .ok (.iaload, 1) := by decide +kernel
theorem dX9_status_26 : decode cX9_status 26 = .ok (.ireturn, 1) := by decide +kernel
theorem dX9_status_27 : decode cX9_status 27 = .ok (.iconst 0, 1) := by decide +kernel
theorem dX9_status_28 : decode cX9_status 28 = .ok (.istore_n 2, 1) := by decide +kernel
theorem dX9_status_29 : decode cX9_status 29 = .ok (.iconst 0, 1) := by decide +kernel
theorem dX9_status_30 : decode cX9_status 30 = .ok (.istore_n 3, 1) := by decide +kernel
theorem dX9_status_31 : decode cX9_status 31 = .ok (.iload_n 3, 1) := by decide +kernel
theorem dX9_status_32 : decode cX9_status 32 = .ok (.bipush 9, 2) := by decide +kernel
theorem dX9_status_34 : decode cX9_status 34 = .ok (.if_icmp .ge 18, 3) := by decide +kernel
theorem dX9_status_37 : decode cX9_status 37 = .ok (.iload_n 2, 1) := by decide +kernel
theorem dX9_status_38 : decode cX9_status 38 = .ok (.aload_n 0, 1) := by decide +kernel
theorem dX9_status_39 : decode cX9_status 39 = .ok (.getfield 70, 3) := by decide +kernel
theorem dX9_status_42 : decode cX9_status 42 = .ok (.iload_n 3, 1) := by decide +kernel
theorem dX9_status_43 : decode cX9_status 43 = .ok (.iaload, 1) := by decide +kernel
theorem dX9_status_44 : decode cX9_status 44 = .ok (.iadd, 1) := by decide +kernel
theorem dX9_status_45 : decode cX9_status 45 = .ok (.istore_n 2, 1) := by decide +kernel
theorem dX9_status_46 : decode cX9_status 46 = .ok (.iinc 3 1, 3) := by decide +kernel
theorem dX9_status_49 : decode cX9_status 49 = .ok (.goto (-18), 3) := by decide +kernel
theorem dX9_status_52 : decode cX9_status 52 = .ok (.iload_n 2, 1) := by decide +kernel
theorem dX9_status_53 : decode cX9_status 53 = .ok (.ireturn, 1) := by decide +kernel
def f_X9_status_L31 (a0 : Nat) (a1 : Int32) : Nat → Int32 → Int32 → MSt → Option (Int32 × MSt)
  | 0, _, _, _ => none
  | n + 1, x2, x3, σ => if (9 : Int32) ≤ x3 then (some (x2, σ)) else (if mob 8 a0 = true then ((mmR σ a0 11).bind (fun q2 => if mix 0 q2 x3 = true then (f_X9_status_L31 a0 a1 n (x2 + (mmI σ q2 x3.toNatClampNeg)) (x3 + 1) σ) else none)) else none)
set_option maxRecDepth 100000 in
set_option maxHeartbeats 4000000 in
theorem p_X9_status_L31 {l : Launch} {E : MX} {out : (Int32 × MSt)} {a0 : Nat} {a1 : Int32}  : ∀ (n : Nat) (x2 : Int32) (x3 : Int32) (σ : MSt), f_X9_status_L31 a0 a1 n x2 x3 σ = some out → MV l E cX9_status RX9 4 (some .int) 2 (82, (some (.int out.1)), out.2) σ 31 [(0, .ref a0), (1, .int a1), (2, .int x2), (3, .int x3)] [] := by
  intro n
  induction n with
  | zero =>
    intro x2 x3 σ h
    exact nomatch h
  | succ n ih =>
    intro x2 x3 σ h
    rw [f_X9_status_L31] at h
    refine mw_iload_n dX9_status_31 3 rfl ?_
    refine mw_bipush (v := 9) dX9_status_32 (by decide) ?_
    refine mw_icmp_ge (tgt := 52) dX9_status_34 (by decide) (fun hc => ?_) (fun hc => ?_)
    · have h := mit hc h
      refine mw_iload_n dX9_status_52 2 rfl ?_
      exact mw_iret dX9_status_53 rfl (mrs_im h) rfl rfl
    · have h := mie hc h
      refine mw_iload_n dX9_status_37 2 rfl ?_
      refine mw_aload_n dX9_status_38 0 rfl ?_
      obtain ⟨m1, h⟩ := mif h
      obtain ⟨q2, e3, h⟩ := mbd h
      refine mv_getR fd_RX9_70_8 dX9_status_39 m1 rfl e3 ?_
      refine mw_iload_n dX9_status_42 3 rfl ?_
      obtain ⟨m4, h⟩ := mif h
      refine mv_iald dX9_status_43 m4 ?_
      refine mw_iadd dX9_status_44 ?_
      refine mw_istore_n (L' := [(2, .int (x2 + (mmI σ q2 x3.toNatClampNeg))), (0, .ref a0), (1, .int a1), (3, .int x3)]) dX9_status_45 rfl (by decide) rfl ?_
      refine mw_iinc (v := (x3 + 1)) (L' := [(3, .int (x3 + 1)), (2, .int (x2 + (mmI σ q2 x3.toNatClampNeg))), (0, .ref a0), (1, .int a1)]) dX9_status_46 3 rfl rfl (by decide) rfl ?_
      refine mw_goto (tgt := 31) dX9_status_49 (by decide) ?_
      exact mw_sub (L' := [(0, .ref a0), (1, .int a1), (2, .int (x2 + (mmI σ q2 x3.toNatClampNeg))), (3, .int (x3 + 1))]) [2, 3, 1, 0] rfl (ih _ _ _ h)
def f_X9_status (a0 : Nat) (a1 : Int32) (σ : MSt) : Option (Int32 × MSt) := (f_X9_within a1 (-1 : Int32) (8 : Int32)).bind (fun r1 => if r1 = 0 then ((f_X9_finding a0 (0 : Int32) σ).bind (fun r7 => if mob 8 a0 = true then (some (r7.1, r7.2)) else none)) else (if a1 < 0 then (f_X9_status_L31 a0 a1 mN (0 : Int32) (0 : Int32) σ) else (if mob 8 a0 = true then ((mmR σ a0 11).bind (fun q4 => if mix 0 q4 a1 = true then (some ((mmI σ q4 a1.toNatClampNeg), σ)) else none)) else none)))
set_option maxRecDepth 100000 in
set_option maxHeartbeats 4000000 in
theorem k_X9_status {l : Launch} {σ : MSt} {a0 : Nat} {a1 : Int32} {out : (Int32 × MSt)} (h : f_X9_status a0 a1 σ = some out) : MK l yX9_status cX9_status 4 (some .int) 2 [.ref a0, .int a1] σ (some (.int out.1)) out.2 := by
  unfold f_X9_status at h
  refine mw_entry (own := RX9) (ini := false) (L := [(0, .ref a0), (1, .int a1)]) (by decide +kernel) rfl (fun h => nomatch h) rfl (Nat.le_of_ble_eq_true rfl) (Nat.le_of_ble_eq_true rfl) (fun E => ?_)
  refine mw_iload_n dX9_status_0 1 rfl ?_
  refine mw_iconst (v := -1) dX9_status_1 (by decide) ?_
  refine mw_bipush (v := 8) dX9_status_2 (by decide) ?_
  obtain ⟨r1, e2, h⟩ := mbd h
  refine mv_callS_i (As := [.int a1, .int (-1 : Int32), .int (8 : Int32)]) lkS_RX9_75_yX9_within dX9_status_4 (k_X9_within e2) rfl rfl (Nat.le_of_ble_eq_true rfl) (by decide) (by decide) ?_
  refine mw_if_ne (tgt := 16) dX9_status_7 (by decide) (fun hc => ?_) (fun hc => ?_)
  · have h := mie hc h
    refine mw_iload_n dX9_status_16 1 rfl ?_
    refine mw_if_lt (tgt := 27) dX9_status_17 (by decide) (fun hc => ?_) (fun hc => ?_)
    · have h := mit hc h
      refine mw_iconst (v := 0) dX9_status_27 (by decide) ?_
      refine mw_istore_n (L' := [(2, .int (0 : Int32)), (0, .ref a0), (1, .int a1)]) dX9_status_28 rfl (by decide) rfl ?_
      refine mw_iconst (v := 0) dX9_status_29 (by decide) ?_
      refine mw_istore_n (L' := [(3, .int (0 : Int32)), (2, .int (0 : Int32)), (0, .ref a0), (1, .int a1)]) dX9_status_30 rfl (by decide) rfl ?_
      exact mw_sub (L' := [(0, .ref a0), (1, .int a1), (2, .int (0 : Int32)), (3, .int (0 : Int32))]) [2, 3, 1, 0] rfl (p_X9_status_L31  mN _ _ _ h)
    · have h := mie hc h
      refine mw_aload_n dX9_status_20 0 rfl ?_
      obtain ⟨m3, h⟩ := mif h
      obtain ⟨q4, e5, h⟩ := mbd h
      refine mv_getR fd_RX9_70_8 dX9_status_21 m3 rfl e5 ?_
      refine mw_iload_n dX9_status_24 1 rfl ?_
      obtain ⟨m6, h⟩ := mif h
      refine mv_iald dX9_status_25 m6 ?_
      exact mw_iret dX9_status_26 rfl (mrs_im h) rfl rfl
  · have h := mit hc h
    refine mw_aload_n dX9_status_10 0 rfl ?_
    refine mw_iconst (v := 0) dX9_status_11 (by decide) ?_
    obtain ⟨r7, e8, h⟩ := mbd h
    obtain ⟨m9, h⟩ := mif h
    refine mv_callV_i (As := [.int (0 : Int32)]) lkV_RX9_79_yX9_finding dX9_status_12 (k_X9_finding e8) rfl m9 rfl rfl (Nat.le_of_ble_eq_true rfl) (by decide) (by decide) ?_
    exact mw_iret dX9_status_15 rfl (mrs_im h) rfl rfl

theorem dX10_at_0 : decode cX10_at 0 = .ok (.aload_n 0, 1) := by decide +kernel
theorem dX10_at_1 : decode cX10_at 1 = .ok (.getfield 19, 3) := by decide +kernel
theorem dX10_at_4 : decode cX10_at 4 = .ok (.bipush 6, 2) := by decide +kernel
theorem dX10_at_6 : decode cX10_at 6 = .ok (.iload_n 1, 1) := by decide +kernel
theorem dX10_at_7 : decode cX10_at 7 = .ok (.imul, 1) := by decide +kernel
theorem dX10_at_8 : decode cX10_at 8 = .ok (.iload_n 2, 1) := by decide +kernel
theorem dX10_at_9 : decode cX10_at 9 = .ok (.iadd, 1) := by decide +kernel
theorem dX10_at_10 : decode cX10_at 10 = .ok (.iaload, 1) := by decide +kernel
theorem dX10_at_11 : decode cX10_at 11 = .ok (.ireturn, 1) := by decide +kernel
def f_X10_at (σ : MSt) (a0 : Nat) (a1 : Int32) (a2 : Int32) : Option Int32 := if mob 9 a0 = true then ((mmR σ a0 4).bind (fun q2 => if mix 0 q2 (((6 : Int32) * a1) + a2) = true then (some (mmI σ q2 (((6 : Int32) * a1) + a2).toNatClampNeg)) else none)) else none
set_option maxRecDepth 100000 in
set_option maxHeartbeats 4000000 in
theorem k_X10_at {l : Launch} {σ : MSt} {a0 : Nat} {a1 : Int32} {a2 : Int32} {out : Int32} (h : f_X10_at σ a0 a1 a2 = some out) : MK l yX10_at cX10_at 3 (some .int) 1 [.ref a0, .int a1, .int a2] σ (some (.int out)) σ := by
  unfold f_X10_at at h
  refine mw_entry (own := RX10) (ini := false) (L := [(0, .ref a0), (1, .int a1), (2, .int a2)]) (by decide +kernel) rfl (fun h => nomatch h) rfl (Nat.le_of_ble_eq_true rfl) (Nat.le_of_ble_eq_true rfl) (fun E => ?_)
  refine mw_aload_n dX10_at_0 0 rfl ?_
  obtain ⟨m1, h⟩ := mif h
  obtain ⟨q2, e3, h⟩ := mbd h
  refine mv_getR fd_RX10_19_9 dX10_at_1 m1 rfl e3 ?_
  refine mw_bipush (v := 6) dX10_at_4 (by decide) ?_
  refine mw_iload_n dX10_at_6 1 rfl ?_
  refine mw_imul dX10_at_7 ?_
  refine mw_iload_n dX10_at_8 2 rfl ?_
  refine mw_iadd dX10_at_9 ?_
  obtain ⟨m4, h⟩ := mif h
  refine mv_iald dX10_at_10 m4 ?_
  exact mw_iret dX10_at_11 rfl (mrs_i h) rfl rfl

theorem dX10_finds_0 : decode cX10_finds 0 = .ok (.aload_n 0, 1) := by decide +kernel
theorem dX10_finds_1 : decode cX10_finds 1 = .ok (.getfield 9, 3) := by decide +kernel
theorem dX10_finds_4 : decode cX10_finds 4 = .ok (.iload_n 1, 1) := by decide +kernel
theorem dX10_finds_5 : decode cX10_finds 5 = .ok (.dup2, 1) := by decide +kernel
theorem dX10_finds_6 : decode cX10_finds 6 = .ok (.iaload, 1) := by decide +kernel
theorem dX10_finds_7 : decode cX10_finds 7 = .ok (.iconst 1, 1) := by decide +kernel
theorem dX10_finds_8 : decode cX10_finds 8 = .ok (.iadd, 1) := by decide +kernel
theorem dX10_finds_9 : decode cX10_finds 9 = .ok (.iastore, 1) := by decide +kernel
theorem dX10_finds_10 : decode cX10_finds 10 = .ok (.ldc 54, 2) := by decide +kernel
theorem dX10_finds_12 : decode cX10_finds 12 = .ok (.iload_n 1, 1) := by decide +kernel
theorem dX10_finds_13 : decode cX10_finds 13 = .ok (.isub, 1) := by decide +kernel
theorem dX10_finds_14 : decode cX10_finds 14 = .ok (.ireturn, 1) := by decide +kernel
def f_X10_finds (a0 : Nat) (a1 : Int32) (σ : MSt) : Option (Int32 × MSt) := if mob 9 a0 = true then ((mmR σ a0 0).bind (fun q2 => if mix 0 q2 a1 = true then (some (((-2000000001 : Int32) - a1), (muI σ q2 a1.toNatClampNeg ((mmI σ q2 a1.toNatClampNeg) + (1 : Int32))))) else none)) else none
set_option maxRecDepth 100000 in
set_option maxHeartbeats 4000000 in
theorem k_X10_finds {l : Launch} {σ : MSt} {a0 : Nat} {a1 : Int32} {out : (Int32 × MSt)} (h : f_X10_finds a0 a1 σ = some out) : MK l yX10_finds cX10_finds 2 (some .int) 1 [.ref a0, .int a1] σ (some (.int out.1)) out.2 := by
  unfold f_X10_finds at h
  refine mw_entry (own := RX10) (ini := false) (L := [(0, .ref a0), (1, .int a1)]) (by decide +kernel) rfl (fun h => nomatch h) rfl (Nat.le_of_ble_eq_true rfl) (Nat.le_of_ble_eq_true rfl) (fun E => ?_)
  refine mw_aload_n dX10_finds_0 0 rfl ?_
  obtain ⟨m1, h⟩ := mif h
  obtain ⟨q2, e3, h⟩ := mbd h
  refine mv_getR fd_RX10_9_9 dX10_finds_1 m1 rfl e3 ?_
  refine mw_iload_n dX10_finds_4 1 rfl ?_
  refine mw_dup2 dX10_finds_5 rfl rfl ?_
  obtain ⟨m4, h⟩ := mif h
  refine mv_iald dX10_finds_6 m4 ?_
  refine mw_iconst (v := 1) dX10_finds_7 (by decide) ?_
  refine mw_iadd dX10_finds_8 ?_
  refine mv_iast dX10_finds_9 m4 ?_
  refine mw_ldc dX10_finds_10 wt_588 ?_
  refine mw_iload_n dX10_finds_12 1 rfl ?_
  refine mw_isub dX10_finds_13 ?_
  exact mw_iret dX10_finds_14 rfl (mrs_im h) rfl rfl

theorem dX10_in_0 : decode cX10_in 0 = .ok (.lload_n 0, 1) := by decide +kernel
theorem dX10_in_1 : decode cX10_in 1 = .ok (.lload_n 2, 1) := by decide +kernel
theorem dX10_in_2 : decode cX10_in 2 = .ok (.lcmp, 1) := by decide +kernel
theorem dX10_in_3 : decode cX10_in 3 = .ok (.ifCond .lt 14, 3) := by decide +kernel
theorem dX10_in_6 : decode cX10_in 6 = .ok (.lload_n 0, 1) := by decide +kernel
theorem dX10_in_7 : decode cX10_in 7 = .ok (.lload 4, 2) := by decide +kernel
theorem dX10_in_9 : decode cX10_in 9 = .ok (.lcmp, 1) := by decide +kernel
theorem dX10_in_10 : decode cX10_in 10 = .ok (.ifCond .gt 7, 3) := by decide +kernel
theorem dX10_in_13 : decode cX10_in 13 = .ok (.iconst 1, 1) := by decide +kernel
theorem dX10_in_14 : decode cX10_in 14 = .ok (.goto 4, 3) := by decide +kernel
theorem dX10_in_17 : decode cX10_in 17 = .ok (.iconst 0, 1) := by decide +kernel
theorem dX10_in_18 : decode cX10_in 18 = .ok (.ireturn, 1) := by decide +kernel
def f_X10_in (a0 : Int64) (a2 : Int64) (a4 : Int64) : Option Int32 := if a0 < a2 then (some (0 : Int32)) else (if a4 < a0 then (some (0 : Int32)) else (some (1 : Int32)))
set_option maxRecDepth 100000 in
set_option maxHeartbeats 4000000 in
theorem k_X10_in {l : Launch} {σ : MSt} {a0 : Int64} {a2 : Int64} {a4 : Int64} {out : Int32} (h : f_X10_in a0 a2 a4 = some out) : MK l yX10_in cX10_in 6 (some .boolean) 1 [.long a0, .long a2, .long a4] σ (some (.int out)) σ := by
  unfold f_X10_in at h
  refine mw_entry (own := RX10) (ini := false) (L := [(0, .long a0), (2, .long a2), (4, .long a4)]) (by decide +kernel) rfl (fun h => nomatch h) rfl (Nat.le_of_ble_eq_true rfl) (Nat.le_of_ble_eq_true rfl) (fun E => ?_)
  refine mw_lload_n dX10_in_0 0 rfl ?_
  refine mw_lload_n dX10_in_1 1 rfl ?_
  refine mw_lc_lt (tgt := 17) dX10_in_2 dX10_in_3 (by decide) (fun hc => ?_) (fun hc => ?_)
  · have h := mit hc h
    refine mw_iconst (v := 0) dX10_in_17 (by decide) ?_
    exact mw_zret dX10_in_18 rfl (by decide) (mrs_i h) rfl rfl
  · have h := mie hc h
    refine mw_lload_n dX10_in_6 0 rfl ?_
    refine mw_lload dX10_in_7 2 rfl ?_
    refine mw_lc_gt (tgt := 17) dX10_in_9 dX10_in_10 (by decide) (fun hc => ?_) (fun hc => ?_)
    · have h := mit hc h
      refine mw_iconst (v := 0) dX10_in_17 (by decide) ?_
      exact mw_zret dX10_in_18 rfl (by decide) (mrs_i h) rfl rfl
    · have h := mie hc h
      refine mw_iconst (v := 1) dX10_in_13 (by decide) ?_
      refine mw_goto (tgt := 18) dX10_in_14 (by decide) ?_
      exact mw_zret dX10_in_18 rfl (by decide) (mrs_i h) rfl rfl

theorem dX10_places_0 : decode cX10_places 0 = .ok (.iload_n 1, 1) := by decide +kernel
theorem dX10_places_1 : decode cX10_places 1 = .ok (.i2l, 1) := by decide +kernel
theorem dX10_places_2 : decode cX10_places 2 = .ok (.ldc2_w 77, 3) := by decide +kernel
theorem dX10_places_5 : decode cX10_places 5 = .ok (.ldc2_w 79, 3) := by decide +kernel
theorem dX10_places_8 : decode cX10_places 8 = .ok (.invokestatic 57, 3) := by decide +kernel
theorem dX10_places_11 : decode cX10_places 11 = .ok (.ifCond .ne 9, 3) := by decide +kernel
theorem dX10_places_14 : decode cX10_places 14 = .ok (.aload_n 0, 1) := by decide +kernel
theorem dX10_places_15 : decode cX10_places 15 = .ok (.iconst 0, 1) := by decide +kernel
theorem dX10_places_16 : decode cX10_places 16 = .ok (.invokevirtual 81, 3) := by decide +kernel
theorem dX10_places_19 : decode cX10_places 19 = .ok (.ireturn, 1) := by decide +kernel
theorem dX10_places_20 : decode cX10_places 20 = .ok (.iconst 0, 1) := by decide +kernel
theorem dX10_places_21 : decode cX10_places 21 = .ok (.istore_n 2, 1) := by decide +kernel
theorem dX10_places_22 : decode cX10_places 22 = .ok (.iload_n 2, 1) := by decide +kernel
theorem dX10_places_23 : decode cX10_places 23 = .ok (.aload_n 0, 1) := by decide +kernel
theorem dX10_places_24 : decode cX10_places 24 = .ok (.getfield 61, 3) := by decide +kernel
theorem dX10_places_27 : decode cX10_places 27 = .ok (.if_icmp .ge 35, 3) := by decide +kernel
theorem dX10_places_30 : decode cX10_places 30 = .ok (.aload_n 0, 1) := by decide +kernel
theorem dX10_places_31 : decode cX10_places 31 = .ok (.iload_n 2, 1) := by decide +kernel
theorem dX10_places_32 : decode cX10_places 32 = .ok (.iconst 1, 1) := by decide +kernel
theorem dX10_places_33 : decode cX10_places 33 = .ok (.invokevirtual 70, 3) := by decide +kernel
theorem dX10_places_36 : decode cX10_places 36 = .ok (.iload_n 1, 1) := by decide +kernel
theorem dX10_places_37 : decode cX10_places 37 = .ok (.if_icmp .ge 13, 3) := by decide +kernel
theorem dX10_places_40 : decode cX10_places 40 = .ok (.aload_n 0, 1) := by decide +kernel
theorem dX10_places_41 : decode cX10_places 41 = .ok (.iload_n 2, 1) := by decide +kernel
theorem dX10_places_42 : decode cX10_places 42 = .ok (.iconst 2, 1) := by decide +kernel
theorem dX10_places_43 : decode cX10_places 43 = .ok (.invokevirtual 70, 3) := by decide +kernel
theorem dX10_places_46 : decode cX10_places 46 = .ok (.iload_n 1, 1) := by decide +kernel
theorem dX10_places_47 : decode cX10_places 47 = .ok (.if_icmp .lt 9, 3) := by decide +kernel
theorem dX10_places_50 : decode cX10_places 50 = .ok (.aload_n 0, 1) := by decide +kernel
theorem dX10_places_51 : decode cX10_places 51 = .ok (.iconst 4, 1) := by decide +kernel
theorem dX10_places_52 : decode cX10_places 52 = .ok (.invokevirtual 81, 3) := by decide +kernel
theorem dX10_places_55 : decode cX10_places 55 = .ok (.ireturn, 1) := by decide +kernel
theorem dX10_places_56 : decode cX10_places 56 = .ok (.iinc 2 1, 3) := by decide +kernel
theorem dX10_places_59 : decode cX10_places 59 = .ok (.goto (-37), 3) := by decide +kernel
theorem dX10_places_62 : decode cX10_places 62 = .ok (.aload_n 0, 1) := by decide +kernel
theorem dX10_places_63 : decode cX10_places 63 = .ok (.getfield 15, 3) := by decide +kernel
theorem dX10_places_66 : decode cX10_places 66 = .ok (.istore_n 2, 1) := by decide +kernel
theorem dX10_places_67 : decode cX10_places 67 = .ok (.aload_n 0, 1) := by decide +kernel
theorem dX10_places_68 : decode cX10_places 68 = .ok (.iload_n 1, 1) := by decide +kernel
theorem dX10_places_69 : decode cX10_places 69 = .ok (.putfield 15, 3) := by decide +kernel
theorem dX10_places_72 : decode cX10_places 72 = .ok (.iload_n 2, 1) := by decide +kernel
theorem dX10_places_73 : decode cX10_places 73 = .ok (.ireturn, 1) := by decide +kernel
def f_X10_places_L22 (a0 : Nat) (a1 : Int32) : Nat → Int32 → MSt → Option (Int32 × MSt)
  | 0, _, _ => none
  | n + 1, x2, σ => if mob 9 a0 = true then (if (mmI σ a0 3) ≤ x2 then (some ((mmI σ a0 1), (muI σ a0 1 a1))) else ((f_X10_at σ a0 x2 (1 : Int32)).bind (fun r2 => if a1 ≤ r2 then ((f_X10_finds a0 (4 : Int32) σ).bind (fun r4 => some (r4.1, r4.2))) else ((f_X10_at σ a0 x2 (2 : Int32)).bind (fun r6 => if r6 < a1 then (f_X10_places_L22 a0 a1 n (x2 + 1) σ) else ((f_X10_finds a0 (4 : Int32) σ).bind (fun r8 => some (r8.1, r8.2)))))))) else none
set_option maxRecDepth 100000 in
set_option maxHeartbeats 4000000 in
theorem p_X10_places_L22 {l : Launch} {E : MX} {out : (Int32 × MSt)} {a0 : Nat} {a1 : Int32}  : ∀ (n : Nat) (x2 : Int32) (σ : MSt), f_X10_places_L22 a0 a1 n x2 σ = some out → MV l E cX10_places RX10 3 (some .int) 2 (82, (some (.int out.1)), out.2) σ 22 [(0, .ref a0), (1, .int a1), (2, .int x2)] [] := by
  intro n
  induction n with
  | zero =>
    intro x2 σ h
    exact nomatch h
  | succ n ih =>
    intro x2 σ h
    rw [f_X10_places_L22] at h
    refine mw_iload_n dX10_places_22 2 rfl ?_
    refine mw_aload_n dX10_places_23 0 rfl ?_
    obtain ⟨m1, h⟩ := mif h
    refine mv_getI fd_RX10_61_9 dX10_places_24 m1 rfl ?_
    refine mw_icmp_ge (tgt := 62) dX10_places_27 (by decide) (fun hc => ?_) (fun hc => ?_)
    · have h := mit hc h
      refine mw_aload_n dX10_places_62 0 rfl ?_
      refine mv_getI fd_RX10_15_9 dX10_places_63 m1 rfl ?_
      refine mw_istore_n (L' := [(2, .int (mmI σ a0 1)), (0, .ref a0), (1, .int a1)]) dX10_places_66 rfl (by decide) rfl ?_
      refine mw_aload_n dX10_places_67 1 rfl ?_
      refine mw_iload_n dX10_places_68 2 rfl ?_
      refine mv_putI fw_RX10_15_9 dX10_places_69 m1 rfl ?_
      refine mw_iload_n dX10_places_72 0 rfl ?_
      exact mw_iret dX10_places_73 rfl (mrs_im h) rfl rfl
    · have h := mie hc h
      refine mw_aload_n dX10_places_30 0 rfl ?_
      refine mw_iload_n dX10_places_31 2 rfl ?_
      refine mw_iconst (v := 1) dX10_places_32 (by decide) ?_
      obtain ⟨r2, e3, h⟩ := mbd h
      refine mv_callV_i (As := [.int x2, .int (1 : Int32)]) lkV_RX10_70_yX10_at dX10_places_33 (k_X10_at e3) rfl m1 rfl rfl (Nat.le_of_ble_eq_true rfl) (by decide) (by decide) ?_
      refine mw_iload_n dX10_places_36 1 rfl ?_
      refine mw_icmp_ge (tgt := 50) dX10_places_37 (by decide) (fun hc => ?_) (fun hc => ?_)
      · have h := mit hc h
        refine mw_aload_n dX10_places_50 0 rfl ?_
        refine mw_iconst (v := 4) dX10_places_51 (by decide) ?_
        obtain ⟨r4, e5, h⟩ := mbd h
        refine mv_callV_i (As := [.int (4 : Int32)]) lkV_RX10_81_yX10_finds dX10_places_52 (k_X10_finds e5) rfl m1 rfl rfl (Nat.le_of_ble_eq_true rfl) (by decide) (by decide) ?_
        exact mw_iret dX10_places_55 rfl (mrs_im h) rfl rfl
      · have h := mie hc h
        refine mw_aload_n dX10_places_40 0 rfl ?_
        refine mw_iload_n dX10_places_41 2 rfl ?_
        refine mw_iconst (v := 2) dX10_places_42 (by decide) ?_
        obtain ⟨r6, e7, h⟩ := mbd h
        refine mv_callV_i (As := [.int x2, .int (2 : Int32)]) lkV_RX10_70_yX10_at dX10_places_43 (k_X10_at e7) rfl m1 rfl rfl (Nat.le_of_ble_eq_true rfl) (by decide) (by decide) ?_
        refine mw_iload_n dX10_places_46 1 rfl ?_
        refine mw_icmp_lt (tgt := 56) dX10_places_47 (by decide) (fun hc => ?_) (fun hc => ?_)
        · have h := mit hc h
          refine mw_iinc (v := (x2 + 1)) (L' := [(2, .int (x2 + 1)), (0, .ref a0), (1, .int a1)]) dX10_places_56 2 rfl rfl (by decide) rfl ?_
          refine mw_goto (tgt := 22) dX10_places_59 (by decide) ?_
          exact mw_sub (L' := [(0, .ref a0), (1, .int a1), (2, .int (x2 + 1))]) [1, 2, 0] rfl (ih _ _ h)
        · have h := mie hc h
          refine mw_aload_n dX10_places_50 0 rfl ?_
          refine mw_iconst (v := 4) dX10_places_51 (by decide) ?_
          obtain ⟨r8, e9, h⟩ := mbd h
          refine mv_callV_i (As := [.int (4 : Int32)]) lkV_RX10_81_yX10_finds dX10_places_52 (k_X10_finds e9) rfl m1 rfl rfl (Nat.le_of_ble_eq_true rfl) (by decide) (by decide) ?_
          exact mw_iret dX10_places_55 rfl (mrs_im h) rfl rfl
def f_X10_places (a0 : Nat) (a1 : Int32) (σ : MSt) : Option (Int32 × MSt) := (f_X10_in a1.toInt64 (2 : Int64) (6 : Int64)).bind (fun r1 => if r1 = 0 then ((f_X10_finds a0 (0 : Int32) σ).bind (fun r3 => if mob 9 a0 = true then (some (r3.1, r3.2)) else none)) else (f_X10_places_L22 a0 a1 mN (0 : Int32) σ))
set_option maxRecDepth 100000 in
set_option maxHeartbeats 4000000 in
theorem k_X10_places {l : Launch} {σ : MSt} {a0 : Nat} {a1 : Int32} {out : (Int32 × MSt)} (h : f_X10_places a0 a1 σ = some out) : MK l yX10_places cX10_places 3 (some .int) 2 [.ref a0, .int a1] σ (some (.int out.1)) out.2 := by
  unfold f_X10_places at h
  refine mw_entry (own := RX10) (ini := false) (L := [(0, .ref a0), (1, .int a1)]) (by decide +kernel) rfl (fun h => nomatch h) rfl (Nat.le_of_ble_eq_true rfl) (Nat.le_of_ble_eq_true rfl) (fun E => ?_)
  refine mw_iload_n dX10_places_0 1 rfl ?_
  refine mw_i2l dX10_places_1 ?_
  refine mw_ldc2 dX10_places_2 wt_589 ?_
  refine mw_ldc2 dX10_places_5 wt_590 ?_
  obtain ⟨r1, e2, h⟩ := mbd h
  refine mv_callS_i (As := [.long a1.toInt64, .long (2 : Int64), .long (6 : Int64)]) lkS_RX10_57_yX10_in dX10_places_8 (k_X10_in e2) rfl rfl (Nat.le_of_ble_eq_true rfl) (by decide) (by decide) ?_
  refine mw_if_ne (tgt := 20) dX10_places_11 (by decide) (fun hc => ?_) (fun hc => ?_)
  · have h := mie hc h
    refine mw_iconst (v := 0) dX10_places_20 (by decide) ?_
    refine mw_istore_n (L' := [(2, .int (0 : Int32)), (0, .ref a0), (1, .int a1)]) dX10_places_21 rfl (by decide) rfl ?_
    exact mw_sub (L' := [(0, .ref a0), (1, .int a1), (2, .int (0 : Int32))]) [1, 2, 0] rfl (p_X10_places_L22  mN _ _ h)
  · have h := mit hc h
    refine mw_aload_n dX10_places_14 0 rfl ?_
    refine mw_iconst (v := 0) dX10_places_15 (by decide) ?_
    obtain ⟨r3, e4, h⟩ := mbd h
    obtain ⟨m5, h⟩ := mif h
    refine mv_callV_i (As := [.int (0 : Int32)]) lkV_RX10_81_yX10_finds dX10_places_16 (k_X10_finds e4) rfl m5 rfl rfl (Nat.le_of_ble_eq_true rfl) (by decide) (by decide) ?_
    exact mw_iret dX10_places_19 rfl (mrs_im h) rfl rfl

theorem dX10_weather_0 : decode cX10_weather 0 = .ok (.iload_n 1, 1) := by decide +kernel
theorem dX10_weather_1 : decode cX10_weather 1 = .ok (.i2l, 1) := by decide +kernel
theorem dX10_weather_2 : decode cX10_weather 2 = .ok (.lconst 0, 1) := by decide +kernel
theorem dX10_weather_3 : decode cX10_weather 3 = .ok (.ldc2_w 85, 3) := by decide +kernel
theorem dX10_weather_6 : decode cX10_weather 6 = .ok (.invokestatic 57, 3) := by decide +kernel
theorem dX10_weather_9 : decode cX10_weather 9 = .ok (.ifCond .ne 9, 3) := by decide +kernel
theorem dX10_weather_12 : decode cX10_weather 12 = .ok (.aload_n 0, 1) := by decide +kernel
theorem dX10_weather_13 : decode cX10_weather 13 = .ok (.iconst 0, 1) := by decide +kernel
theorem dX10_weather_14 : decode cX10_weather 14 = .ok (.invokevirtual 81, 3) := by decide +kernel
theorem dX10_weather_17 : decode cX10_weather 17 = .ok (.ireturn, 1) := by decide +kernel
theorem dX10_weather_18 : decode cX10_weather 18 = .ok (.aload_n 0, 1) := by decide +kernel
theorem dX10_weather_19 : decode cX10_weather 19 = .ok (.getfield 74, 3) := by decide +kernel
theorem dX10_weather_22 : decode cX10_weather 22 = .ok (.istore_n 2, 1) := by decide +kernel
theorem dX10_weather_23 : decode cX10_weather 23 = .ok (.aload_n 0, 1) := by decide +kernel
theorem dX10_weather_24 : decode cX10_weather 24 = .ok (.iload_n 1, 1) := by decide +kernel
theorem dX10_weather_25 : decode cX10_weather 25 = .ok (.putfield 74, 3) := by decide +kernel
theorem dX10_weather_28 : decode cX10_weather 28 = .ok (.iload_n 2, 1) := by decide +kernel
theorem dX10_weather_29 : decode cX10_weather 29 = .ok (.ireturn, 1) := by decide +kernel
def f_X10_weather (a0 : Nat) (a1 : Int32) (σ : MSt) : Option (Int32 × MSt) := (f_X10_in a1.toInt64 (0 : Int64) (5 : Int64)).bind (fun r1 => if r1 = 0 then ((f_X10_finds a0 (0 : Int32) σ).bind (fun r4 => if mob 9 a0 = true then (some (r4.1, r4.2)) else none)) else (if mob 9 a0 = true then (some ((mmI σ a0 2), (muI σ a0 2 a1))) else none))
set_option maxRecDepth 100000 in
set_option maxHeartbeats 4000000 in
theorem k_X10_weather {l : Launch} {σ : MSt} {a0 : Nat} {a1 : Int32} {out : (Int32 × MSt)} (h : f_X10_weather a0 a1 σ = some out) : MK l yX10_weather cX10_weather 3 (some .int) 2 [.ref a0, .int a1] σ (some (.int out.1)) out.2 := by
  unfold f_X10_weather at h
  refine mw_entry (own := RX10) (ini := false) (L := [(0, .ref a0), (1, .int a1)]) (by decide +kernel) rfl (fun h => nomatch h) rfl (Nat.le_of_ble_eq_true rfl) (Nat.le_of_ble_eq_true rfl) (fun E => ?_)
  refine mw_iload_n dX10_weather_0 1 rfl ?_
  refine mw_i2l dX10_weather_1 ?_
  refine mw_lconst (v := 0) dX10_weather_2 (by decide) ?_
  refine mw_ldc2 dX10_weather_3 wt_594 ?_
  obtain ⟨r1, e2, h⟩ := mbd h
  refine mv_callS_i (As := [.long a1.toInt64, .long (0 : Int64), .long (5 : Int64)]) lkS_RX10_57_yX10_in dX10_weather_6 (k_X10_in e2) rfl rfl (Nat.le_of_ble_eq_true rfl) (by decide) (by decide) ?_
  refine mw_if_ne (tgt := 18) dX10_weather_9 (by decide) (fun hc => ?_) (fun hc => ?_)
  · have h := mie hc h
    refine mw_aload_n dX10_weather_18 0 rfl ?_
    obtain ⟨m3, h⟩ := mif h
    refine mv_getI fd_RX10_74_9 dX10_weather_19 m3 rfl ?_
    refine mw_istore_n (L' := [(2, .int (mmI σ a0 2)), (0, .ref a0), (1, .int a1)]) dX10_weather_22 rfl (by decide) rfl ?_
    refine mw_aload_n dX10_weather_23 1 rfl ?_
    refine mw_iload_n dX10_weather_24 2 rfl ?_
    refine mv_putI fw_RX10_74_9 dX10_weather_25 m3 rfl ?_
    refine mw_iload_n dX10_weather_28 0 rfl ?_
    exact mw_iret dX10_weather_29 rfl (mrs_im h) rfl rfl
  · have h := mit hc h
    refine mw_aload_n dX10_weather_12 0 rfl ?_
    refine mw_iconst (v := 0) dX10_weather_13 (by decide) ?_
    obtain ⟨r4, e5, h⟩ := mbd h
    obtain ⟨m6, h⟩ := mif h
    refine mv_callV_i (As := [.int (0 : Int32)]) lkV_RX10_81_yX10_finds dX10_weather_14 (k_X10_finds e5) rfl m6 rfl rfl (Nat.le_of_ble_eq_true rfl) (by decide) (by decide) ?_
    exact mw_iret dX10_weather_17 rfl (mrs_im h) rfl rfl

theorem dX10_isPlace_0 : decode cX10_isPlace 0 = .ok (.iload_n 1, 1) := by decide +kernel
theorem dX10_isPlace_1 : decode cX10_isPlace 1 = .ok (.i2l, 1) := by decide +kernel
theorem dX10_isPlace_2 : decode cX10_isPlace 2 = .ok (.lconst 0, 1) := by decide +kernel
theorem dX10_isPlace_3 : decode cX10_isPlace 3 = .ok (.aload_n 0, 1) := by decide +kernel
theorem dX10_isPlace_4 : decode cX10_isPlace 4 = .ok (.getfield 15, 3) := by decide +kernel
theorem dX10_isPlace_7 : decode cX10_isPlace 7 = .ok (.iconst 1, 1) := by decide +kernel
theorem dX10_isPlace_8 : decode cX10_isPlace 8 = .ok (.isub, 1) := by decide +kernel
theorem dX10_isPlace_9 : decode cX10_isPlace 9 = .ok (.i2l, 1) := by decide +kernel
theorem dX10_isPlace_10 : decode cX10_isPlace 10 = .ok (.invokestatic 57, 3) := by decide +kernel
theorem dX10_isPlace_13 : decode cX10_isPlace 13 = .ok (.ireturn, 1) := by decide +kernel
def f_X10_isPlace (σ : MSt) (a0 : Nat) (a1 : Int32) : Option Int32 := if mob 9 a0 = true then ((f_X10_in a1.toInt64 (0 : Int64) (((mmI σ a0 1) - (1 : Int32)).toInt64)).bind (fun r2 => if r2 = 0 ∨ r2 = 1 then (some r2) else none)) else none
set_option maxRecDepth 100000 in
set_option maxHeartbeats 4000000 in
theorem k_X10_isPlace {l : Launch} {σ : MSt} {a0 : Nat} {a1 : Int32} {out : Int32} (h : f_X10_isPlace σ a0 a1 = some out) : MK l yX10_isPlace cX10_isPlace 2 (some .boolean) 2 [.ref a0, .int a1] σ (some (.int out)) σ := by
  unfold f_X10_isPlace at h
  refine mw_entry (own := RX10) (ini := false) (L := [(0, .ref a0), (1, .int a1)]) (by decide +kernel) rfl (fun h => nomatch h) rfl (Nat.le_of_ble_eq_true rfl) (Nat.le_of_ble_eq_true rfl) (fun E => ?_)
  refine mw_iload_n dX10_isPlace_0 1 rfl ?_
  refine mw_i2l dX10_isPlace_1 ?_
  refine mw_lconst (v := 0) dX10_isPlace_2 (by decide) ?_
  refine mw_aload_n dX10_isPlace_3 0 rfl ?_
  obtain ⟨m1, h⟩ := mif h
  refine mv_getI fd_RX10_15_9 dX10_isPlace_4 m1 rfl ?_
  refine mw_iconst (v := 1) dX10_isPlace_7 (by decide) ?_
  refine mw_isub dX10_isPlace_8 ?_
  refine mw_i2l dX10_isPlace_9 ?_
  obtain ⟨r2, e3, h⟩ := mbd h
  refine mv_callS_i (As := [.long a1.toInt64, .long (0 : Int64), .long ((mmI σ a0 1) - (1 : Int32)).toInt64]) lkS_RX10_57_yX10_in dX10_isPlace_10 (k_X10_in e3) rfl rfl (Nat.le_of_ble_eq_true rfl) (by decide) (by decide) ?_
  obtain ⟨m4, h⟩ := mif h
  exact mw_zret dX10_isPlace_13 rfl m4 (mrs_i h) rfl rfl

theorem dX10_isGain_0 : decode cX10_isGain 0 = .ok (.lload_n 0, 1) := by decide +kernel
theorem dX10_isGain_1 : decode cX10_isGain 1 = .ok (.ldc2_w 64, 3) := by decide +kernel
theorem dX10_isGain_4 : decode cX10_isGain 4 = .ok (.ldc2_w 66, 3) := by decide +kernel
theorem dX10_isGain_7 : decode cX10_isGain 7 = .ok (.invokestatic 57, 3) := by decide +kernel
theorem dX10_isGain_10 : decode cX10_isGain 10 = .ok (.ireturn, 1) := by decide +kernel
def f_X10_isGain (a0 : Int64) : Option Int32 := (f_X10_in a0 (-999999999 : Int64) (999999999 : Int64)).bind (fun r1 => if r1 = 0 ∨ r1 = 1 then (some r1) else none)
set_option maxRecDepth 100000 in
set_option maxHeartbeats 4000000 in
theorem k_X10_isGain {l : Launch} {σ : MSt} {a0 : Int64} {out : Int32} (h : f_X10_isGain a0 = some out) : MK l yX10_isGain cX10_isGain 2 (some .boolean) 2 [.long a0] σ (some (.int out)) σ := by
  unfold f_X10_isGain at h
  refine mw_entry (own := RX10) (ini := false) (L := [(0, .long a0)]) (by decide +kernel) rfl (fun h => nomatch h) rfl (Nat.le_of_ble_eq_true rfl) (Nat.le_of_ble_eq_true rfl) (fun E => ?_)
  refine mw_lload_n dX10_isGain_0 0 rfl ?_
  refine mw_ldc2 dX10_isGain_1 wt_603 ?_
  refine mw_ldc2 dX10_isGain_4 wt_604 ?_
  obtain ⟨r1, e2, h⟩ := mbd h
  refine mv_callS_i (As := [.long a0, .long (-999999999 : Int64), .long (999999999 : Int64)]) lkS_RX10_57_yX10_in dX10_isGain_7 (k_X10_in e2) rfl rfl (Nat.le_of_ble_eq_true rfl) (by decide) (by decide) ?_
  obtain ⟨m3, h⟩ := mif h
  exact mw_zret dX10_isGain_10 rfl m3 (mrs_i h) rfl rfl

theorem dX10_isTime_0 : decode cX10_isTime 0 = .ok (.iload_n 0, 1) := by decide +kernel
theorem dX10_isTime_1 : decode cX10_isTime 1 = .ok (.i2l, 1) := by decide +kernel
theorem dX10_isTime_2 : decode cX10_isTime 2 = .ok (.lconst 1, 1) := by decide +kernel
theorem dX10_isTime_3 : decode cX10_isTime 3 = .ok (.ldc2_w 68, 3) := by decide +kernel
theorem dX10_isTime_6 : decode cX10_isTime 6 = .ok (.invokestatic 57, 3) := by decide +kernel
theorem dX10_isTime_9 : decode cX10_isTime 9 = .ok (.ireturn, 1) := by decide +kernel
def f_X10_isTime (a0 : Int32) : Option Int32 := (f_X10_in a0.toInt64 (1 : Int64) (999999 : Int64)).bind (fun r1 => if r1 = 0 ∨ r1 = 1 then (some r1) else none)
set_option maxRecDepth 100000 in
set_option maxHeartbeats 4000000 in
theorem k_X10_isTime {l : Launch} {σ : MSt} {a0 : Int32} {out : Int32} (h : f_X10_isTime a0 = some out) : MK l yX10_isTime cX10_isTime 1 (some .boolean) 2 [.int a0] σ (some (.int out)) σ := by
  unfold f_X10_isTime at h
  refine mw_entry (own := RX10) (ini := false) (L := [(0, .int a0)]) (by decide +kernel) rfl (fun h => nomatch h) rfl (Nat.le_of_ble_eq_true rfl) (Nat.le_of_ble_eq_true rfl) (fun E => ?_)
  refine mw_iload_n dX10_isTime_0 0 rfl ?_
  refine mw_i2l dX10_isTime_1 ?_
  refine mw_lconst (v := 1) dX10_isTime_2 (by decide) ?_
  refine mw_ldc2 dX10_isTime_3 wt_608 ?_
  obtain ⟨r1, e2, h⟩ := mbd h
  refine mv_callS_i (As := [.long a0.toInt64, .long (1 : Int64), .long (999999 : Int64)]) lkS_RX10_57_yX10_in dX10_isTime_6 (k_X10_in e2) rfl rfl (Nat.le_of_ble_eq_true rfl) (by decide) (by decide) ?_
  obtain ⟨m3, h⟩ := mif h
  exact mw_zret dX10_isTime_9 rfl m3 (mrs_i h) rfl rfl

theorem dX10_addWay_0 : decode cX10_addWay 0 = .ok (.bipush 6, 2) := by decide +kernel
theorem dX10_addWay_2 : decode cX10_addWay 2 = .ok (.aload_n 0, 1) := by decide +kernel
theorem dX10_addWay_3 : decode cX10_addWay 3 = .ok (.getfield 61, 3) := by decide +kernel
theorem dX10_addWay_6 : decode cX10_addWay 6 = .ok (.imul, 1) := by decide +kernel
theorem dX10_addWay_7 : decode cX10_addWay 7 = .ok (.istore 6, 2) := by decide +kernel
theorem dX10_addWay_9 : decode cX10_addWay 9 = .ok (.aload_n 0, 1) := by decide +kernel
theorem dX10_addWay_10 : decode cX10_addWay 10 = .ok (.getfield 19, 3) := by decide +kernel
theorem dX10_addWay_13 : decode cX10_addWay 13 = .ok (.iload 6, 2) := by decide +kernel
theorem dX10_addWay_15 : decode cX10_addWay 15 = .ok (.iload_n 1, 1) := by decide +kernel
theorem dX10_addWay_16 : decode cX10_addWay 16 = .ok (.iastore, 1) := by decide +kernel
theorem dX10_addWay_17 : decode cX10_addWay 17 = .ok (.aload_n 0, 1) := by decide +kernel
theorem dX10_addWay_18 : decode cX10_addWay 18 = .ok (.getfield 19, 3) := by decide +kernel
theorem dX10_addWay_21 : decode cX10_addWay 21 = .ok (.iload 6, 2) := by decide +kernel
theorem dX10_addWay_23 : decode cX10_addWay 23 = .ok (.iconst 1, 1) := by decide +kernel
theorem dX10_addWay_24 : decode cX10_addWay 24 = .ok (.iadd, 1) := by decide +kernel
theorem dX10_addWay_25 : decode cX10_addWay 25 = .ok (.iload_n 2, 1) := by decide +kernel
theorem dX10_addWay_26 : decode cX10_addWay 26 = .ok (.iastore, 1) := by decide +kernel
theorem dX10_addWay_27 : decode cX10_addWay 27 = .ok (.aload_n 0, 1) := by decide +kernel
theorem dX10_addWay_28 : decode cX10_addWay 28 = .ok (.getfield 19, 3) := by decide +kernel
theorem dX10_addWay_31 : decode cX10_addWay 31 = .ok (.iload 6, 2) := by decide +kernel
theorem dX10_addWay_33 : decode cX10_addWay 33 = .ok (.iconst 2, 1) := by decide +kernel
theorem dX10_addWay_34 : decode cX10_addWay 34 = .ok (.iadd, 1) := by decide +kernel
theorem dX10_addWay_35 : decode cX10_addWay 35 = .ok (.iload_n 3, 1) := by decide +kernel
theorem dX10_addWay_36 : decode cX10_addWay 36 = .ok (.iastore, 1) := by decide +kernel
theorem dX10_addWay_37 : decode cX10_addWay 37 = .ok (.aload_n 0, 1) := by decide +kernel
theorem dX10_addWay_38 : decode cX10_addWay 38 = .ok (.getfield 19, 3) := by decide +kernel
theorem dX10_addWay_41 : decode cX10_addWay 41 = .ok (.iload 6, 2) := by decide +kernel
theorem dX10_addWay_43 : decode cX10_addWay 43 = .ok (.iconst 3, 1) := by decide +kernel
theorem dX10_addWay_44 : decode cX10_addWay 44 = .ok (.iadd, 1) := by decide +kernel
theorem dX10_addWay_45 : decode cX10_addWay 45 = .ok (.iload 4, 2) := by decide +kernel
theorem dX10_addWay_47 : decode cX10_addWay 47 = .ok (.iastore, 1) := by decide +kernel
theorem dX10_addWay_48 : decode cX10_addWay 48 = .ok (.aload_n 0, 1) := by decide +kernel
theorem dX10_addWay_49 : decode cX10_addWay 49 = .ok (.getfield 19, 3) := by decide +kernel
theorem dX10_addWay_52 : decode cX10_addWay 52 = .ok (.iload 6, 2) := by decide +kernel
theorem dX10_addWay_54 : decode cX10_addWay 54 = .ok (.iconst 4, 1) := by decide +kernel
theorem dX10_addWay_55 : decode cX10_addWay 55 = .ok (.iadd, 1) := by decide +kernel
theorem dX10_addWay_56 : decode cX10_addWay 56 = .ok (.iload 5, 2) := by decide +kernel
theorem dX10_addWay_58 : decode cX10_addWay 58 = .ok (.iastore, 1) := by decide +kernel
theorem dX10_addWay_59 : decode cX10_addWay 59 = .ok (.aload_n 0, 1) := by decide +kernel
theorem dX10_addWay_60 : decode cX10_addWay 60 = .ok (.getfield 19, 3) := by decide +kernel
theorem dX10_addWay_63 : decode cX10_addWay 63 = .ok (.iload 6, 2) := by decide +kernel
theorem dX10_addWay_65 : decode cX10_addWay 65 = .ok (.iconst 5, 1) := by decide +kernel
theorem dX10_addWay_66 : decode cX10_addWay 66 = .ok (.iadd, 1) := by decide +kernel
theorem dX10_addWay_67 : decode cX10_addWay 67 = .ok (.iconst 0, 1) := by decide +kernel
theorem dX10_addWay_68 : decode cX10_addWay 68 = .ok (.iastore, 1) := by decide +kernel
theorem dX10_addWay_69 : decode cX10_addWay 69 = .ok (.aload_n 0, 1) := by decide +kernel
theorem dX10_addWay_70 : decode cX10_addWay 70 = .ok (.dup, 1) := by decide +kernel
theorem dX10_addWay_71 : decode cX10_addWay 71 = .ok (.getfield 61, 3) := by decide +kernel
theorem dX10_addWay_74 : decode cX10_addWay 74 = .ok (.iconst 1, 1) := by decide +kernel
theorem dX10_addWay_75 : decode cX10_addWay 75 = .ok (.iadd, 1) := by decide +kernel
theorem dX10_addWay_76 : decode cX10_addWay 76 = .ok (.putfield 61, 3) := by decide +kernel
theorem dX10_addWay_79 : decode cX10_addWay 79 = .ok (.return_, 1) := by decide +kernel
def f_X10_addWay (a0 : Nat) (a1 : Int32) (a2 : Int32) (a3 : Int32) (a4 : Int32) (a5 : Int32) (σ : MSt) : Option MSt := if mob 9 a0 = true then ((mmR σ a0 4).bind (fun q2 => if mix 0 q2 ((6 : Int32) * (mmI σ a0 3)) = true then ((mmR (muI σ q2 ((6 : Int32) * (mmI σ a0 3)).toNatClampNeg a1) a0 4).bind (fun q5 => if mix 0 q5 (((6 : Int32) * (mmI σ a0 3)) + (1 : Int32)) = true then ((mmR (muI (muI σ q2 ((6 : Int32) * (mmI σ a0 3)).toNatClampNeg a1) q5 (((6 : Int32) * (mmI σ a0 3)) + (1 : Int32)).toNatClampNeg a2) a0 4).bind (fun q8 => if mix 0 q8 (((6 : Int32) * (mmI σ a0 3)) + (2 : Int32)) = true then ((mmR (muI (muI (muI σ q2 ((6 : Int32) * (mmI σ a0 3)).toNatClampNeg a1) q5 (((6 : Int32) * (mmI σ a0 3)) + (1 : Int32)).toNatClampNeg a2) q8 (((6 : Int32) * (mmI σ a0 3)) + (2 : Int32)).toNatClampNeg a3) a0 4).bind (fun q11 => if mix 0 q11 (((6 : Int32) * (mmI σ a0 3)) + (3 : Int32)) = true then ((mmR (muI (muI (muI (muI σ q2 ((6 : Int32) * (mmI σ a0 3)).toNatClampNeg a1) q5 (((6 : Int32) * (mmI σ a0 3)) + (1 : Int32)).toNatClampNeg a2) q8 (((6 : Int32) * (mmI σ a0 3)) + (2 : Int32)).toNatClampNeg a3) q11 (((6 : Int32) * (mmI σ a0 3)) + (3 : Int32)).toNatClampNeg a4) a0 4).bind (fun q14 => if mix 0 q14 (((6 : Int32) * (mmI σ a0 3)) + (4 : Int32)) = true then ((mmR (muI (muI (muI (muI (muI σ q2 ((6 : Int32) * (mmI σ a0 3)).toNatClampNeg a1) q5 (((6 : Int32) * (mmI σ a0 3)) + (1 : Int32)).toNatClampNeg a2) q8 (((6 : Int32) * (mmI σ a0 3)) + (2 : Int32)).toNatClampNeg a3) q11 (((6 : Int32) * (mmI σ a0 3)) + (3 : Int32)).toNatClampNeg a4) q14 (((6 : Int32) * (mmI σ a0 3)) + (4 : Int32)).toNatClampNeg a5) a0 4).bind (fun q17 => if mix 0 q17 (((6 : Int32) * (mmI σ a0 3)) + (5 : Int32)) = true then (some (muI (muI (muI (muI (muI (muI (muI σ q2 ((6 : Int32) * (mmI σ a0 3)).toNatClampNeg a1) q5 (((6 : Int32) * (mmI σ a0 3)) + (1 : Int32)).toNatClampNeg a2) q8 (((6 : Int32) * (mmI σ a0 3)) + (2 : Int32)).toNatClampNeg a3) q11 (((6 : Int32) * (mmI σ a0 3)) + (3 : Int32)).toNatClampNeg a4) q14 (((6 : Int32) * (mmI σ a0 3)) + (4 : Int32)).toNatClampNeg a5) q17 (((6 : Int32) * (mmI σ a0 3)) + (5 : Int32)).toNatClampNeg (0 : Int32)) a0 3 ((mmI (muI (muI (muI (muI (muI (muI σ q2 ((6 : Int32) * (mmI σ a0 3)).toNatClampNeg a1) q5 (((6 : Int32) * (mmI σ a0 3)) + (1 : Int32)).toNatClampNeg a2) q8 (((6 : Int32) * (mmI σ a0 3)) + (2 : Int32)).toNatClampNeg a3) q11 (((6 : Int32) * (mmI σ a0 3)) + (3 : Int32)).toNatClampNeg a4) q14 (((6 : Int32) * (mmI σ a0 3)) + (4 : Int32)).toNatClampNeg a5) q17 (((6 : Int32) * (mmI σ a0 3)) + (5 : Int32)).toNatClampNeg (0 : Int32)) a0 3) + (1 : Int32)))) else none)) else none)) else none)) else none)) else none)) else none)) else none
set_option maxRecDepth 100000 in
set_option maxHeartbeats 4000000 in
theorem k_X10_addWay {l : Launch} {σ : MSt} {a0 : Nat} {a1 : Int32} {a2 : Int32} {a3 : Int32} {a4 : Int32} {a5 : Int32} {out : MSt} (h : f_X10_addWay a0 a1 a2 a3 a4 a5 σ = some out) : MK l yX10_addWay cX10_addWay 7 none 1 [.ref a0, .int a1, .int a2, .int a3, .int a4, .int a5] σ none out := by
  unfold f_X10_addWay at h
  refine mw_entry (own := RX10) (ini := false) (L := [(0, .ref a0), (1, .int a1), (2, .int a2), (3, .int a3), (4, .int a4), (5, .int a5)]) (by decide +kernel) rfl (fun h => nomatch h) rfl (Nat.le_of_ble_eq_true rfl) (Nat.le_of_ble_eq_true rfl) (fun E => ?_)
  refine mw_bipush (v := 6) dX10_addWay_0 (by decide) ?_
  refine mw_aload_n dX10_addWay_2 0 rfl ?_
  obtain ⟨m1, h⟩ := mif h
  refine mv_getI fd_RX10_61_9 dX10_addWay_3 m1 rfl ?_
  refine mw_imul dX10_addWay_6 ?_
  refine mw_istore (L' := [(6, .int ((6 : Int32) * (mmI σ a0 3))), (0, .ref a0), (1, .int a1), (2, .int a2), (3, .int a3), (4, .int a4), (5, .int a5)]) dX10_addWay_7 (by decide) rfl ?_
  refine mw_aload_n dX10_addWay_9 1 rfl ?_
  obtain ⟨q2, e3, h⟩ := mbd h
  refine mv_getR fd_RX10_19_9 dX10_addWay_10 m1 rfl e3 ?_
  refine mw_iload dX10_addWay_13 0 rfl ?_
  refine mw_iload_n dX10_addWay_15 2 rfl ?_
  obtain ⟨m4, h⟩ := mif h
  refine mv_iast dX10_addWay_16 m4 ?_
  refine mw_aload_n dX10_addWay_17 1 rfl ?_
  obtain ⟨q5, e6, h⟩ := mbd h
  refine mv_getR fd_RX10_19_9 dX10_addWay_18 m1 rfl e6 ?_
  refine mw_iload dX10_addWay_21 0 rfl ?_
  refine mw_iconst (v := 1) dX10_addWay_23 (by decide) ?_
  refine mw_iadd dX10_addWay_24 ?_
  refine mw_iload_n dX10_addWay_25 3 rfl ?_
  obtain ⟨m7, h⟩ := mif h
  refine mv_iast dX10_addWay_26 m7 ?_
  refine mw_aload_n dX10_addWay_27 1 rfl ?_
  obtain ⟨q8, e9, h⟩ := mbd h
  refine mv_getR fd_RX10_19_9 dX10_addWay_28 m1 rfl e9 ?_
  refine mw_iload dX10_addWay_31 0 rfl ?_
  refine mw_iconst (v := 2) dX10_addWay_33 (by decide) ?_
  refine mw_iadd dX10_addWay_34 ?_
  refine mw_iload_n dX10_addWay_35 4 rfl ?_
  obtain ⟨m10, h⟩ := mif h
  refine mv_iast dX10_addWay_36 m10 ?_
  refine mw_aload_n dX10_addWay_37 1 rfl ?_
  obtain ⟨q11, e12, h⟩ := mbd h
  refine mv_getR fd_RX10_19_9 dX10_addWay_38 m1 rfl e12 ?_
  refine mw_iload dX10_addWay_41 0 rfl ?_
  refine mw_iconst (v := 3) dX10_addWay_43 (by decide) ?_
  refine mw_iadd dX10_addWay_44 ?_
  refine mw_iload dX10_addWay_45 5 rfl ?_
  obtain ⟨m13, h⟩ := mif h
  refine mv_iast dX10_addWay_47 m13 ?_
  refine mw_aload_n dX10_addWay_48 1 rfl ?_
  obtain ⟨q14, e15, h⟩ := mbd h
  refine mv_getR fd_RX10_19_9 dX10_addWay_49 m1 rfl e15 ?_
  refine mw_iload dX10_addWay_52 0 rfl ?_
  refine mw_iconst (v := 4) dX10_addWay_54 (by decide) ?_
  refine mw_iadd dX10_addWay_55 ?_
  refine mw_iload dX10_addWay_56 6 rfl ?_
  obtain ⟨m16, h⟩ := mif h
  refine mv_iast dX10_addWay_58 m16 ?_
  refine mw_aload_n dX10_addWay_59 1 rfl ?_
  obtain ⟨q17, e18, h⟩ := mbd h
  refine mv_getR fd_RX10_19_9 dX10_addWay_60 m1 rfl e18 ?_
  refine mw_iload dX10_addWay_63 0 rfl ?_
  refine mw_iconst (v := 5) dX10_addWay_65 (by decide) ?_
  refine mw_iadd dX10_addWay_66 ?_
  refine mw_iconst (v := 0) dX10_addWay_67 (by decide) ?_
  obtain ⟨m19, h⟩ := mif h
  refine mv_iast dX10_addWay_68 m19 ?_
  refine mw_aload_n dX10_addWay_69 1 rfl ?_
  refine mw_dup dX10_addWay_70 rfl ?_
  refine mv_getI fd_RX10_61_9 dX10_addWay_71 m1 rfl ?_
  refine mw_iconst (v := 1) dX10_addWay_74 (by decide) ?_
  refine mw_iadd dX10_addWay_75 ?_
  refine mv_putI fw_RX10_61_9 dX10_addWay_76 m1 rfl ?_
  exact mw_vret dX10_addWay_79 rfl (mrs_vm h) rfl rfl
