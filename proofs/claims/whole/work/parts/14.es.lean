/-! ===== the memory behind the constructors: the references are fixed, but for three fields 'land' ===== -/
abbrev ES : Type := (Nat → Nat → Int32) × (Nat → Nat → Int64) × (Nat → Option Nat)
def eI (σ : ES) (k j : Nat) : Int32 := σ.1 k j
def eL (σ : ES) (k j : Nat) : Int64 := σ.2.1 k j
def eT (σ : ES) (i : Nat) : Option Nat := σ.2.2 i
def uI (σ : ES) (k j : Nat) (v : Int32) : ES := (mup2 σ.1 k j v, σ.2)
def uL (σ : ES) (k j : Nat) (v : Int64) : ES := (σ.1, mup2 σ.2.1 k j v, σ.2.2)
def uT (σ : ES) (i : Nat) (v : Option Nat) : ES := (σ.1, σ.2.1, fun a => if a = i then v else σ.2.2 a)
def ecI (σ : ES) (k0 sp k1 dp n : Nat) : ES := (fun a b => if a = k1 then va_cpy (σ.1 k0) (σ.1 k1) sp dp n b else σ.1 a b, σ.2)
def ecL (σ : ES) (k0 sp k1 dp n : Nat) : ES := (σ.1, fun a b => if a = k1 then va_cpy (σ.2.1 k0) (σ.2.1 k1) sp dp n b else σ.2.1 a b, σ.2.2)
def eR1 (T : Nat → Option Nat) (k j : Nat) : Option Nat := match k with
  | 0 => (match j with | 0 => some 1 | 1 => some 10 | 2 => some 19 | 4 => some 28 | 5 => some 39 | 6 => some 45 | 7 => some 51 | 8 => some 55 | 9 => some 57 | 10 => some 59 | 11 => some 60 | _ => none)
  | 1 => (match j with | 3 => some 2 | 4 => some 3 | 5 => some 4 | 6 => some 5 | 7 => some 6 | 8 => some 7 | 10 => some 8 | 11 => some 9 | _ => none)
  | 10 => (match j with | 3 => some 11 | 4 => some 12 | 5 => some 13 | 6 => some 14 | 7 => some 15 | 8 => some 16 | 10 => some 17 | 11 => some 18 | _ => none)
  | 19 => (match j with | 3 => some 20 | 4 => some 21 | 5 => some 22 | 6 => some 23 | 7 => some 24 | 8 => some 25 | 10 => some 26 | 11 => some 27 | _ => none)
  | 28 => (match j with | 1 => some 29 | 2 => some 30 | 3 => some 31 | 4 => some 32 | 5 => some 33 | 6 => some 34 | 7 => some 35 | 8 => some 36 | 9 => some 37 | 10 => some 38 | _ => none)
  | 39 => (match j with | 7 => some 40 | 8 => some 41 | 9 => some 42 | 10 => some 43 | 11 => T 0 | _ => none)
  | 43 => (match j with | 0 => some 44 | _ => none)
  | 45 => (match j with | 7 => some 46 | 8 => some 47 | 9 => some 48 | 10 => some 49 | 11 => some 50 | 12 => T 1 | _ => none)
  | 51 => (match j with | 7 => some 52 | 8 => some 53 | 9 => some 54 | _ => none)
  | 55 => (match j with | 0 => some 56 | _ => none)
  | 57 => (match j with | 1 => some 58 | 2 => T 2 | _ => none)
  | 61 => (match j with | 2 => some 62 | _ => none)
  | 63 => (match j with | 2 => some 64 | _ => none)
  | 65 => (match j with | 2 => some 66 | _ => none)
  | 67 => (match j with | 2 => some 68 | _ => none)
  | 69 => (match j with | 0 => some 70 | 4 => some 71 | 6 => some 72 | 7 => some 73 | 14 => some 74 | 20 => some 75 | 21 => some 76 | 22 => some 77 | 23 => some 78 | 24 => some 79 | 31 => some 80 | 34 => some 81 | _ => none)
  | 59 => if j < 4 then some (61 + 2 * j) else none
  | _ => none
def mkS (σ : ES) : MSt := (σ.1, σ.2.1, eR1 σ.2.2)
def msh (k : Nat) : Bool := k == 61 || k == 63 || k == 65 || k == 67
theorem msh_c {k : Nat} (h : msh k = true) : k = 61 ∨ k = 63 ∨ k = 65 ∨ k = 67 := by
  simp only [msh, Bool.or_eq_true, beq_iff_eq] at h
  omega
theorem msh_ob {k : Nat} (h : msh k = true) : mob 4 k = true := by
  rcases msh_c h with e | e | e | e <;> subst e <;> decide
theorem msh_n1 {k : Nat} (h : msh k = true) : k + 1 < 82 := by
  rcases msh_c h with e | e | e | e <;> subst e <;> decide
theorem msh_n2 {k : Nat} (h : msh k = true) : mshp (k + 1) = .inl (1, 40) := by
  rcases msh_c h with e | e | e | e <;> subst e <;> rfl
theorem msh_r {k : Nat} {T : Nat → Option Nat} (h : msh k = true) : eR1 T k 2 = some (k + 1) := by
  rcases msh_c h with e | e | e | e <;> subst e <;> rfl
theorem mib_lt {i : Int32} {N : Nat} (h : mib i N = true) : i.toNatClampNeg < N := by
  simp only [mib, Bool.and_eq_true, decide_eq_true_eq] at h
  exact h.2
theorem esh {i : Int32} {T : Nat → Option Nat} (h : mib i 4 = true) : eR1 T 59 i.toNatClampNeg = some (61 + 2 * i.toNatClampNeg) := by
  have := mib_lt h
  show (if _ < 4 then _ else _) = _
  rw [if_pos this]
theorem esh2 {i : Int32} (h : mib i 4 = true) : msh (61 + 2 * i.toNatClampNeg) = true := by
  have := mib_lt h
  generalize i.toNatClampNeg = n at *
  rcases n with _ | _ | _ | _ | n
  · rfl
  · rfl
  · rfl
  · rfl
  · omega
def mcpl (N0 N1 : Nat) (sp dp z : Int32) : Bool := !decide (sp < 0) && !decide (dp < 0) && !decide (z < 0) && decide (sp.toNatClampNeg + z.toNatClampNeg ≤ N0) && decide (dp.toNatClampNeg + z.toNatClampNeg ≤ N1)
theorem mcpl1 {N0 N1 : Nat} {sp dp z : Int32} (h : mcpl N0 N1 sp dp z = true) : ¬ sp < 0 ∧ ¬ dp < 0 ∧ ¬ z < 0 ∧ sp.toNatClampNeg + z.toNatClampNeg ≤ N0 ∧ dp.toNatClampNeg + z.toNatClampNeg ≤ N1 := by
  simp only [mcpl, Bool.and_eq_true, Bool.not_eq_true', decide_eq_false_iff_not, decide_eq_true_eq] at h
  exact ⟨h.1.1.1.1, h.1.1.1.2, h.1.1.2, h.1.2, h.2⟩
theorem ers_i {x out : Int32} {σ : ES} (h : some x = some out) : ((82, some (.int out), mkS σ) : Nat × Option Value × MSt) = (82, some (.int x), mkS σ) := by cases h; rfl
theorem ers_l {x out : Int64} {σ : ES} (h : some x = some out) : ((82, some (.long out), mkS σ) : Nat × Option Value × MSt) = (82, some (.long x), mkS σ) := by cases h; rfl
theorem ers_im {x : Int32} {out : Int32 × ES} {σ : ES} (h : some (x, σ) = some out) : ((82, some (.int out.1), mkS out.2) : Nat × Option Value × MSt) = (82, some (.int x), mkS σ) := by cases h; rfl
theorem ers_lm {x : Int64} {out : Int64 × ES} {σ : ES} (h : some (x, σ) = some out) : ((82, some (.long out.1), mkS out.2) : Nat × Option Value × MSt) = (82, some (.long x), mkS σ) := by cases h; rfl
theorem ers_vm {out σ : ES} (h : some σ = some out) : ((82, none, mkS out) : Nat × Option Value × MSt) = (82, none, mkS σ) := by cases h; rfl

theorem mkS_T0 (σ : ES) (v : Option Nat) : muR (mkS σ) 39 11 v = mkS (uT σ 0 v) := by
  have : mup2 (eR1 σ.2.2) 39 11 v = eR1 (fun a => if a = 0 then v else σ.2.2 a) := by
    funext a b
    by_cases h : a = 39 ∧ b = 11
    · obtain ⟨rfl, rfl⟩ := h
      simp [mup2, eR1]
    · simp only [mup2, if_neg h]
      unfold eR1
      split <;> first | rfl | (split <;> first | rfl | (exfalso; exact h ⟨rfl, rfl⟩))
  show (_, _, mup2 (eR1 σ.2.2) 39 11 v) = _
  rw [this]
  rfl
theorem mkS_T1 (σ : ES) (v : Option Nat) : muR (mkS σ) 45 12 v = mkS (uT σ 1 v) := by
  have : mup2 (eR1 σ.2.2) 45 12 v = eR1 (fun a => if a = 1 then v else σ.2.2 a) := by
    funext a b
    by_cases h : a = 45 ∧ b = 12
    · obtain ⟨rfl, rfl⟩ := h
      simp [mup2, eR1]
    · simp only [mup2, if_neg h]
      unfold eR1
      split <;> first | rfl | (split <;> first | rfl | (exfalso; exact h ⟨rfl, rfl⟩))
  show (_, _, mup2 (eR1 σ.2.2) 45 12 v) = _
  rw [this]
  rfl
theorem mkS_T2 (σ : ES) (v : Option Nat) : muR (mkS σ) 57 2 v = mkS (uT σ 2 v) := by
  have : mup2 (eR1 σ.2.2) 57 2 v = eR1 (fun a => if a = 2 then v else σ.2.2 a) := by
    funext a b
    by_cases h : a = 57 ∧ b = 2
    · obtain ⟨rfl, rfl⟩ := h
      simp [mup2, eR1]
    · simp only [mup2, if_neg h]
      unfold eR1
      split <;> first | rfl | (split <;> first | rfl | (exfalso; exact h ⟨rfl, rfl⟩))
  show (_, _, mup2 (eR1 σ.2.2) 57 2 v) = _
  rw [this]
  rfl
section ERules
variable {l : Launch} {E : MX} {cc : ByteArray} {own : String} {nL : Nat} {ret : Option FieldType} {d : Nat} {res : Nat × Option Value × MSt} {σ : ES} {pc : Nat} {L L' : List (Nat × Value)} {st : List Value}

theorem ev_getI {k j ci i0 : Nat} (hf : MFd own i0 ci j) (hd : decode cc pc = .ok (.getfield i0, 3)) (hm : mob ci k = true) (ht : mft ci j = .int) (kk : MV l E cc own nL ret d res (mkS σ) (pc + 3) L (.int (eI σ k j) :: st)) : MV l E cc own nL ret d res (mkS σ) pc L (.ref k :: st) := mv_getI hf hd hm ht kk

theorem ev_getZ {k j ci i0 : Nat} (hf : MFd own i0 ci j) (hd : decode cc pc = .ok (.getfield i0, 3)) (hm : mob ci k = true) (ht : mft ci j = .boolean) (kk : MV l E cc own nL ret d res (mkS σ) (pc + 3) L (.int (eI σ k j) :: st)) : MV l E cc own nL ret d res (mkS σ) pc L (.ref k :: st) := mv_getZ hf hd hm ht kk

theorem ev_getL {k j ci i0 : Nat} (hf : MFd own i0 ci j) (hd : decode cc pc = .ok (.getfield i0, 3)) (hm : mob ci k = true) (ht : mft ci j = .long) (kk : MV l E cc own nL ret d res (mkS σ) (pc + 3) L (.long (eL σ k j) :: st)) : MV l E cc own nL ret d res (mkS σ) pc L (.ref k :: st) := mv_getL hf hd hm ht kk

theorem ev_getR {k j ci i0 q : Nat} (hf : MFd own i0 ci j) (hd : decode cc pc = .ok (.getfield i0, 3)) (hm : mob ci k = true) (ht : mfr (mft ci j) = true) (hq : eR1 σ.2.2 k j = some q) (kk : MV l E cc own nL ret d res (mkS σ) (pc + 3) L (.ref q :: st)) : MV l E cc own nL ret d res (mkS σ) pc L (.ref k :: st) := mv_getR hf hd hm ht hq kk

theorem ev_putI {k j ci i0 : Nat} {x : Int32} (hf : MFw own i0 ci j .int) (hd : decode cc pc = .ok (.putfield i0, 3)) (hm : mob ci k = true) (ht : mft ci j = .int) (kk : MV l E cc own nL ret d res (mkS (uI σ k j x)) (pc + 3) L st) : MV l E cc own nL ret d res (mkS σ) pc L (.int x :: .ref k :: st) := mv_putI hf hd hm ht kk

theorem ev_putZ {k j ci i0 : Nat} {x : Int32} (hf : MFw own i0 ci j .boolean) (hd : decode cc pc = .ok (.putfield i0, 3)) (hm : mob ci k = true) (ht : mft ci j = .boolean) (hx : x = 0 ∨ x = 1) (kk : MV l E cc own nL ret d res (mkS (uI σ k j x)) (pc + 3) L st) : MV l E cc own nL ret d res (mkS σ) pc L (.int x :: .ref k :: st) := mv_putZ hf hd hm ht hx kk

theorem ev_putL {k j ci i0 : Nat} {x : Int64} (hf : MFw own i0 ci j .long) (hd : decode cc pc = .ok (.putfield i0, 3)) (hm : mob ci k = true) (ht : mft ci j = .long) (kk : MV l E cc own nL ret d res (mkS (uL σ k j x)) (pc + 3) L st) : MV l E cc own nL ret d res (mkS σ) pc L (.long x :: .ref k :: st) := mv_putL hf hd hm ht kk

theorem ev_putT0 {i0 x : Nat} (hf : MFw own i0 6 11 (.object "RoundsPerHour$Country")) (hd : decode cc pc = .ok (.putfield i0, 3)) (kk : MV l E cc own nL ret d res (mkS (uT σ 0 (some x))) (pc + 3) L st) : MV l E cc own nL ret d res (mkS σ) pc L (.ref x :: .ref 39 :: st) := by
  refine mv_putR hf hd rfl rfl rfl ?_
  rw [mkS_T0]
  exact kk

theorem ev_putT1 {i0 x : Nat} (hf : MFw own i0 7 12 (.object "RoundsPerHour$Country")) (hd : decode cc pc = .ok (.putfield i0, 3)) (kk : MV l E cc own nL ret d res (mkS (uT σ 1 (some x))) (pc + 3) L st) : MV l E cc own nL ret d res (mkS σ) pc L (.ref x :: .ref 45 :: st) := by
  refine mv_putR hf hd rfl rfl rfl ?_
  rw [mkS_T1]
  exact kk

theorem ev_putT2 {i0 x : Nat} (hf : MFw own i0 5 2 (.object "RoundsPerHour$Country")) (hd : decode cc pc = .ok (.putfield i0, 3)) (kk : MV l E cc own nL ret d res (mkS (uT σ 2 (some x))) (pc + 3) L st) : MV l E cc own nL ret d res (mkS σ) pc L (.ref x :: .ref 57 :: st) := by
  refine mv_putR hf hd rfl rfl rfl ?_
  rw [mkS_T2]
  exact kk

theorem ev_iald {k N : Nat} {i : Int32} (hd : decode cc pc = .ok (.iaload, 1)) (hk : k < 82) (hs : mshp k = .inl (0, N)) (hm : mib i N = true) (kk : MV l E cc own nL ret d res (mkS σ) (pc + 1) L (.int (eI σ k i.toNatClampNeg) :: st)) : MV l E cc own nL ret d res (mkS σ) pc L (.int i :: .ref k :: st) := mw_iald hd hk hs (mib1 hm) kk

theorem ev_lald {k N : Nat} {i : Int32} (hd : decode cc pc = .ok (.laload, 1)) (hk : k < 82) (hs : mshp k = .inl (1, N)) (hm : mib i N = true) (kk : MV l E cc own nL ret d res (mkS σ) (pc + 1) L (.long (eL σ k i.toNatClampNeg) :: st)) : MV l E cc own nL ret d res (mkS σ) pc L (.int i :: .ref k :: st) := mw_lald hd hk hs (mib1 hm) kk

theorem ev_zald {k N : Nat} {i : Int32} (hd : decode cc pc = .ok (.baload, 1)) (hk : k < 82) (hs : mshp k = .inl (2, N)) (hm : mib i N = true) (kk : MV l E cc own nL ret d res (mkS σ) (pc + 1) L (.int (eI σ k i.toNatClampNeg) :: st)) : MV l E cc own nL ret d res (mkS σ) pc L (.int i :: .ref k :: st) := mw_zald hd hk hs (mib1 hm) kk

theorem ev_cald {k N : Nat} {i : Int32} (hd : decode cc pc = .ok (.caload, 1)) (hk : k < 82) (hs : mshp k = .inl (3, N)) (hm : mib i N = true) (kk : MV l E cc own nL ret d res (mkS σ) (pc + 1) L (.int (eI σ k i.toNatClampNeg) :: st)) : MV l E cc own nL ret d res (mkS σ) pc L (.int i :: .ref k :: st) := mw_cald hd hk hs (mib1 hm) kk

theorem ev_aald {i : Int32} (hd : decode cc pc = .ok (.aaload, 1)) (hm : mib i 4 = true) (kk : MV l E cc own nL ret d res (mkS σ) (pc + 1) L (.ref (61 + 2 * i.toNatClampNeg) :: st)) : MV l E cc own nL ret d res (mkS σ) pc L (.int i :: .ref 59 :: st) := mw_aald (N := 4) hd (by decide) rfl (mib1 hm) (esh (T := σ.2.2) hm) kk

theorem ev_iast {k N : Nat} {i : Int32} {x : Int32} (hd : decode cc pc = .ok (.iastore, 1)) (hk : k < 82) (hs : mshp k = .inl (0, N)) (hm : mib i N = true) (kk : MV l E cc own nL ret d res (mkS (uI σ k i.toNatClampNeg x)) (pc + 1) L st) : MV l E cc own nL ret d res (mkS σ) pc L (.int x :: .int i :: .ref k :: st) := mw_iast hd hk hs (mib1 hm) kk

theorem ev_last {k N : Nat} {i : Int32} {x : Int64} (hd : decode cc pc = .ok (.lastore, 1)) (hk : k < 82) (hs : mshp k = .inl (1, N)) (hm : mib i N = true) (kk : MV l E cc own nL ret d res (mkS (uL σ k i.toNatClampNeg x)) (pc + 1) L st) : MV l E cc own nL ret d res (mkS σ) pc L (.long x :: .int i :: .ref k :: st) := mw_last hd hk hs (mib1 hm) kk

theorem ev_zast {k N : Nat} {i : Int32} {x : Int32} (hd : decode cc pc = .ok (.bastore, 1)) (hk : k < 82) (hs : mshp k = .inl (2, N)) (hm : mib i N = true) (kk : MV l E cc own nL ret d res (mkS (uI σ k i.toNatClampNeg (vp_nar .boolean x))) (pc + 1) L st) : MV l E cc own nL ret d res (mkS σ) pc L (.int x :: .int i :: .ref k :: st) := mw_zast hd hk hs (mib1 hm) kk

theorem ev_copyI {k0 k1 i0 N0 N1 : Nat} {sp dp z : Int32} (hd : decode cc pc = .ok (.invokestatic i0, 3)) (hw1 : Cond.methodLink own i0 arraycopyName ∈ mWT) (hw2 : Cond.native arraycopyName ∈ mWT) (hw3 : Cond.static arraycopyName ∈ mWT) (hw4 : Cond.initialized "java/lang/System" ∈ mWT) (hk0 : k0 < 82) (hk1 : k1 < 82) (hs0 : mshp k0 = .inl (0, N0)) (hs1 : mshp k1 = .inl (0, N1)) (hm : mcpl N0 N1 sp dp z = true) (hR : 1 ≤ d) (hs : (st.map fun v => v.category).sum ≤ 8) (kk : MV l E cc own nL ret d res (mkS (ecI σ k0 sp.toNatClampNeg k1 dp.toNatClampNeg z.toNatClampNeg)) (pc + 3) L st) : MV l E cc own nL ret d res (mkS σ) pc L (.int z :: .int dp :: .ref k1 :: .int sp :: .ref k0 :: st) := by
  obtain ⟨h5, h6, h7, h8, h9⟩ := mcpl1 hm
  exact mw_copyI hd hw1 hw2 hw3 hw4 hk0 hk1 hs0 hs1 h5 h6 h7 h8 h9 hR (by
    have : nativeFrameWords "java/lang/System" "arraycopy" 5 + 11 ≤ 50 := by decide +kernel
    simp only [mrm]
    omega) kk

theorem ev_copyL {k0 k1 i0 N0 N1 : Nat} {sp dp z : Int32} (hd : decode cc pc = .ok (.invokestatic i0, 3)) (hw1 : Cond.methodLink own i0 arraycopyName ∈ mWT) (hw2 : Cond.native arraycopyName ∈ mWT) (hw3 : Cond.static arraycopyName ∈ mWT) (hw4 : Cond.initialized "java/lang/System" ∈ mWT) (hk0 : k0 < 82) (hk1 : k1 < 82) (hs0 : mshp k0 = .inl (1, N0)) (hs1 : mshp k1 = .inl (1, N1)) (hm : mcpl N0 N1 sp dp z = true) (hR : 1 ≤ d) (hs : (st.map fun v => v.category).sum ≤ 8) (kk : MV l E cc own nL ret d res (mkS (ecL σ k0 sp.toNatClampNeg k1 dp.toNatClampNeg z.toNatClampNeg)) (pc + 3) L st) : MV l E cc own nL ret d res (mkS σ) pc L (.int z :: .int dp :: .ref k1 :: .int sp :: .ref k0 :: st) := by
  obtain ⟨h5, h6, h7, h8, h9⟩ := mcpl1 hm
  exact mw_copyL hd hw1 hw2 hw3 hw4 hk0 hk1 hs0 hs1 h5 h6 h7 h8 h9 hR (by
    have : nativeFrameWords "java/lang/System" "arraycopy" 5 + 11 ≤ 50 := by decide +kernel
    simp only [mrm]
    omega) kk

end ERules
