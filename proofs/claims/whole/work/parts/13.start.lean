/-! ===== rows for what is there from the start ===== -/
def mst (k : Nat) : Bool := decide (1000 ≤ k) && decide (k < 1013)
def msv (k : Nat) : Bool := decide (1100 ≤ k) && decide (k < 1113)
def mbytes (i : Nat) : List Int32 := (mstr.getD i (0, "", [])).2.2
theorem mst1 {k : Nat} (h : mst k = true) : ∃ i, i < 13 ∧ k = 1000 + i := by
  simp only [mst, Bool.and_eq_true, decide_eq_true_eq] at h
  exact ⟨k - 1000, by omega, by omega⟩
theorem msv1 {k : Nat} (h : msv k = true) : ∃ i, i < 13 ∧ k = 1100 + i := by
  simp only [msv, Bool.and_eq_true, decide_eq_true_eq] at h
  exact ⟨k - 1100, by omega, by omega⟩
theorem mad_hi {E : MX} {k : Nat} (h : 1000 ≤ k) : mad E k = E.2.2.2 k := by unfold mad; rw [if_neg (by omega)]
theorem mbytes_len {i : Nat} (h : i < 13) : (mstr.map (fun q => q.2.2.length)).getD i 0 = (mbytes i).length := by
  rcases i with _|_|_|_|_|_|_|_|_|_|_|_|_|i <;> first | rfl | omega
theorem mbytes_at {i : Nat} (h : i < 13) : (mstr.map (fun q => q.2.2)).getD i [] = mbytes i := by
  rcases i with _|_|_|_|_|_|_|_|_|_|_|_|_|i <;> first | rfl | omega
theorem mnar_ty {ty : FieldType} {x : Int32} (ht : ty = .char ∨ ty = .byte) (h : vp_nar ty x = x) : narrow ty (.int x) = .int x := by
  rcases ht with e | e <;> subst e
  · have : narrow .char (.int x) = .int (vp_nar .char x) := rfl
    rw [this, h]
  · have : narrow .byte (.int x) = .int (vp_nar .byte x) := rfl
    rw [this, h]
theorem mlook2 {x : Int32} {a b : Int32} {p q df : Int} {oa ob : Int} (h1 : ¬ x.toInt = a.toInt) (h2 : ¬ x.toInt = b.toInt) (ha : a.toInt = p := by decide) (hb : b.toInt = q := by decide) : Op.lookupswitch.offset [(p, oa), (q, ob)] df x.toInt = df := by
  rw [ha] at h1
  rw [hb] at h2
  simp [Op.lookupswitch.offset, Ne.symm h1, Ne.symm h2, h1, h2]
section MRules3
variable {l : Launch} {E : MX} {cc : ByteArray} {own : String} {nL : Nat} {ret : Option FieldType} {d : Nat} {res : Nat × Option Value × MSt} {σ σ' : MSt} {pc : Nat} {L L' : List (Nat × Value)} {st : List Value}

theorem mw_i2c {x : Int32} (hd : decode cc pc = .ok (.i2c, 1)) (k : MV l E cc own nL ret d res σ (pc + 1) L (.int ((x.toUInt32 % 65536).toInt32) :: st)) : MV l E cc own nL ret d res σ pc L (.int x :: st) :=
  fun p e s0 m args below meth c0 H locs ls C X hl => lv_i2c C.1 C.2.1 hd rfl (k p e s0 m args below meth c0 H locs ls C X hl)
theorem mv_kab {i0 : Nat} (hw : Cond.fieldLink own i0 "RoundsPerHour" "KIND_ABOVE" "[I" ∈ mWT) (hd : decode cc pc = .ok (.getstatic i0, 3)) (k : MV l E cc own nL ret d res σ (pc + 3) L (.ref 2000 :: st)) : MV l E cc own nL ret d res σ pc L st :=
  fun p e s0 m args below meth c0 H locs ls C X hl => va_gets (ref := "RoundsPerHour") (v := .ref (E.2.2.2 2000)) C.1 C.2.1 C.2.2.2.2.2.2.2.1.2.2.2.1 X.2.2.1 C.2.2.2.2.2.1 (C.2.2.2.2.1 _ hw) (fun _ h => h) hd (k p e s0 m args below meth c0 H locs ls C X hl)
theorem mv_kabat {i : Int32} (hd : decode cc pc = .ok (.iaload, 1)) (hm : mib i 6 = true) (k : MV l E cc own nL ret d res σ (pc + 1) L (.int (mkab i.toNatClampNeg) :: st)) : MV l E cc own nL ret d res σ pc L (.int i :: .ref 2000 :: st) :=
  fun p e s0 m args below meth c0 H locs ls C X hl => va_ti C.1 C.2.1 C.2.2.2.2.2.2.2.1.2.2.2.2.1 X.2.2.1 (mib1 hm) rfl hd (k p e s0 m args below meth c0 H locs ls C X hl)
theorem mv_ldcS {i0 : Nat} (i : Nat) (hi : i < 13) (hx : (mstr.getD i (0, "", [])).1 = i0) (ho : own = "RoundsPerHour$Tape") (hd : decode cc pc = .ok (.ldc i0, 2)) (k : MV l E cc own nL ret d res σ (pc + 2) L (.ref (1000 + i) :: st)) : MV l E cc own nL ret d res σ pc L st := by
  intro p e s0 m args below meth c0 H locs ls C X hl
  have h := C.2.2.2.2.2.2.2.1.2.2.2.2.2.2.1 i hi
  rw [hx, ← ho] at h
  refine va_ldcS C.1 C.2.1 C.2.2.2.2.2.1 h hd ?_
  have := k p e s0 m args below meth c0 H locs ls C X hl
  simp only [List.map_cons, mtv, mad_hi (Nat.le_add_right 1000 i)] at this
  exact this
theorem mv_sval {k i0 : Nat} (hw : Cond.fieldLink own i0 "java/lang/String" "value" "[B" ∈ mWT) (hd : decode cc pc = .ok (.getfield i0, 3)) (hm : mst k = true) (kk : MV l E cc own nL ret d res σ (pc + 3) L (.ref (k + 100) :: st)) : MV l E cc own nL ret d res σ pc L (.ref k :: st) := by
  obtain ⟨i, hi, rfl⟩ := mst1 hm
  intro p e s0 m args below meth c0 H locs ls C X hl
  have h := (C.2.2.2.2.2.2.2.1.2.2.2.2.2.1.1 i hi).2.2.1
  have := kk p e s0 m args below meth c0 H locs ls C X hl
  simp only [List.map_cons, mtv, mad_hi (Nat.le_add_right 1000 i), show 1000 + i + 100 = 1100 + i by omega, mad_hi (show 1000 ≤ 1100 + i by omega)] at this ⊢
  exact vk_getf C.1 C.2.1 h X.2.2.1 C.2.2.2.2.2.1 (C.2.2.2.2.1 _ hw) (fun _ h => h) hd this
theorem mv_scod {k i0 : Nat} (hw : Cond.fieldLink own i0 "java/lang/String" "coder" "B" ∈ mWT) (hd : decode cc pc = .ok (.getfield i0, 3)) (hm : mst k = true) (kk : MV l E cc own nL ret d res σ (pc + 3) L (.int 0 :: st)) : MV l E cc own nL ret d res σ pc L (.ref k :: st) := by
  obtain ⟨i, hi, rfl⟩ := mst1 hm
  intro p e s0 m args below meth c0 H locs ls C X hl
  have h := (C.2.2.2.2.2.2.2.1.2.2.2.2.2.1.1 i hi).2.1
  have := kk p e s0 m args below meth c0 H locs ls C X hl
  simp only [List.map_cons, mtv, mad_hi (Nat.le_add_right 1000 i)] at this ⊢
  exact vk_getf C.1 C.2.1 h X.2.2.1 C.2.2.2.2.2.1 (C.2.2.2.2.1 _ hw) (fun _ h => h) hd this
theorem mv_alenS {k : Nat} (hd : decode cc pc = .ok (.arraylength, 1)) (hm : msv k = true) (kk : MV l E cc own nL ret d res σ (pc + 1) L (.int (Int32.ofNat (mbytes (k - 1100)).length) :: st)) : MV l E cc own nL ret d res σ pc L (.ref k :: st) := by
  obtain ⟨i, hi, rfl⟩ := msv1 hm
  intro p e s0 m args below meth c0 H locs ls C X hl
  have h := (C.2.2.2.2.2.2.2.1.2.2.2.2.2.1.1 i hi).2.2.2
  rw [mbytes_len hi] at h
  have := kk p e s0 m args below meth c0 H locs ls C X hl
  simp only [List.map_cons, mtv, mad_hi (show 1000 ≤ 1100 + i by omega), show 1100 + i - 1100 = i by omega] at this ⊢
  exact va_tlen C.1 C.2.1 h X.2.2.1 rfl hd this
theorem mv_baldS {k : Nat} {i : Int32} (hd : decode cc pc = .ok (.baload, 1)) (hm : msv k = true) (hi : mib i (mbytes (k - 1100)).length = true) (kk : MV l E cc own nL ret d res σ (pc + 1) L (.int ((mbytes (k - 1100)).getD i.toNatClampNeg 0) :: st)) : MV l E cc own nL ret d res σ pc L (.int i :: .ref k :: st) := by
  obtain ⟨j, hj, rfl⟩ := msv1 hm
  intro p e s0 m args below meth c0 H locs ls C X hl
  have h := (C.2.2.2.2.2.2.2.1.2.2.2.2.2.1.1 j hj).2.2.2
  rw [mbytes_len hj, mbytes_at hj] at h
  have := kk p e s0 m args below meth c0 H locs ls C X hl
  simp only [List.map_cons, mtv, mad_hi (show 1000 ≤ 1100 + j by omega), show 1100 + j - 1100 = j by omega] at this hi ⊢
  exact va_tb C.1 C.2.1 h X.2.2.1 (mib1 hi) rfl hd this
theorem mv_cmpS {i0 : Nat} (hw : Cond.fieldLink own i0 "java/lang/String" "COMPACT_STRINGS" "Z" ∈ mWT) (hd : decode cc pc = .ok (.getstatic i0, 3)) (k : MV l E cc own nL ret d res σ (pc + 3) L (.int 1 :: st)) : MV l E cc own nL ret d res σ pc L st :=
  fun p e s0 m args below meth c0 H locs ls C X hl => va_gets (ref := "java/lang/String") (v := .int 1) C.1 C.2.1 C.2.2.2.2.2.2.2.1.2.2.2.2.2.2.2.1 X.2.2.1 C.2.2.2.2.2.1 (C.2.2.2.2.1 _ hw) (fun _ h => h) hd (k p e s0 m args below meth c0 H locs ls C X hl)
theorem mv_sioobe {i0 : Nat} (hw : Cond.fieldLink own i0 "jdk/internal/util/Preconditions" "SIOOBE_FORMATTER" "Ljava/util/function/BiFunction;" ∈ mWT) (hd : decode cc pc = .ok (.getstatic i0, 3)) (k1 : MV l E cc own nL ret d res σ (pc + 3) L (.null :: st)) (k2 : MV l E cc own nL ret d res σ (pc + 3) L (.ref 2001 :: st)) : MV l E cc own nL ret d res σ pc L st := by
  intro p e s0 m args below meth c0 H locs ls C X hl
  rcases C.2.2.2.2.2.2.2.1.2.2.2.2.2.2.2.2.1 with h | h
  · exact va_gets (ref := "jdk/internal/util/Preconditions") (v := .null) C.1 C.2.1 h X.2.2.1 C.2.2.2.2.2.1 (C.2.2.2.2.1 _ hw) (fun _ h => h) hd (k1 p e s0 m args below meth c0 H locs ls C X hl)
  · exact va_gets (ref := "jdk/internal/util/Preconditions") (v := .ref (E.2.2.2 2001)) C.1 C.2.1 h X.2.2.1 C.2.2.2.2.2.1 (C.2.2.2.2.1 _ hw) (fun _ h => h) hd (k2 p e s0 m args below meth c0 H locs ls C X hl)
theorem mrecvS {n c k : Nat} {s : State} {H : Heap} {locs : List Loc} (X : MHx E n c σ s H locs) (hC : mCX E s) (hm : mst k = true) : ∃ cell : Cell, H[mad E k]? = some cell ∧ cell.vm.isStatics = false ∧ s.vm.findClass "java/lang/String" = some cell.cls := by
  obtain ⟨i, hi, rfl⟩ := mst1 hm
  rw [mad_hi (Nat.le_add_right 1000 i)]
  exact vk_recv (i := i) hC.2.2.2.2.2.1 hi X.2.2.1
theorem mv_callVS_i {y : MethodName} {bytes1 : ByteArray} {maxL1 na i0 d1 b : Nat} {ret1 : Option FieldType} {As st0 : List Value} {r : Int32} (hw : MLv own i0 "java/lang/String" y bytes1 maxL1 ret1 na) (hd : decode cc pc = .ok (.invokevirtual i0, 3)) (hM : MK l y bytes1 maxL1 ret1 d1 (.ref b :: As) σ (some (.int r)) σ') (hna : As.length = na) (hm : mst b = true) (hst : As.reverse ++ .ref b :: st = st0) (hcs : (st.map fun v => v.category).sum ≤ 8) (hR : d1 + 1 ≤ d) (hmx : maxL1 ≤ 45) (kk : MV l E cc own nL ret d res σ' (pc + 3) L (.int r :: st)) : MV l E cc own nL ret d res σ pc L st0 := by
  intro p e s0 m args below meth c0 H locs ls C X hl
  subst hst
  refine X.size (fun hz => ?_)
  refine mrun X hz rfl (Nat.le_of_ble_eq_true rfl) (va_runV (As := As.map (mtv E)) (rest := st.map (mtv E)) ⟨C.1, C.2.1, C.2.2.2.1, C.2.2.2.2.2.1, C.2.2.2.2.1⟩ (hM E) (cwV na C.2.2.2.2.1 hw.g rfl rfl rfl hw.2.2.2.2.2 (mrm_ok hR hmx)) (let P := mpre X hz C.2.2.2.2.2.2.2.1 (.ref b :: As); ⟨P.1, mrecvS X C.2.2.2.2.2.2.2.1 hm, P.2⟩) rfl (by rw [List.length_map]; exact hna) hl.1 (by simp [F0, mtv]) (lv_room (by rw [mcatsum]; exact hcs)) hd ⟨Nat.le_refl _, Nat.le_refl _⟩) (fun H1 locs1 X1 => kk p e s0 m args below meth c0 H1 locs1 ls C X1 hl)

end MRules3
