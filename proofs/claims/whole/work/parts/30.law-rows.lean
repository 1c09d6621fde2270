def R_law : String := "RoundsPerHourLaw"
def lw_P (b : Addr) (xs : List Int32) (args : Array Value) (s : State) : Prop := args = #[.ref b] ∧ s.IntsAt b xs ∧ xs.length ≤ 3072 ∧ (Jvm.Cond.and given_1 narrow_1).before args s = true
def lw_Q (_ : Array Value) (s : State) (o : Outcome) (t : State) : Prop := o = .returned (some (.int 1)) ∧ Framed s o t [] 600000 7302250
def lw_Z (below : List Frame) (a : Array Value) (s : State) : State → Prop := fun t => ∃ o, t.status = .running ∧ Ended t below o ∧ lw_Q a s o t
/-- the law's own end, with 1 on the stack, nothing written that was there before, its room as the claim has it -/
theorem lw_ret {p : Program} {l : Launch} {e : Env} {s : State} {m : MethodId} {below : List Frame} {meth : Method} {c : Code} {b : Nat} (hx : p.tables.exec = Jvm.exec) (hb : c.code = code) (hr : meth.sig.returnType = ret) (hlocks : meth.locks = false) {pc : Nat} {H : Heap} {ls : Array Slot} (hdg : decode code pc = .ok (.ireturn, 1)) : W p l e room_1 s m #[Value.ref b] below meth c H [] 600000 7302250 (lw_Z below #[Value.ref b] s) (F0 m pc ls [.int 1]) := by
  intro T hT X
  obtain ⟨fs, hret, hrun, hended, hW, hframe⟩ := X.leave (v := some (.int 1)) (hlocks := hlocks) (fun h => by rw [hr] at h; cases h)
  have hmeth' : T.vm.method? m = some meth := X.method'
  refine ⟨T.setFrames fs, ?_, .returned (some (.int 1)), hrun, hended, rfl, ⟨_, rfl⟩, hW, hframe⟩
  jvm_step X.here [X.here.top, hx, hb, hdg, hmeth', hr, ret, narrow_b1]
  (try refine ⟨rfl, ?_⟩); (try refine ⟨rfl, ?_⟩)
  first | (intro acts; rw [hret _ acts rfl rfl rfl]) | rw [hret _ _ rfl rfl rfl]
  exact Steps.refl _
/-- what holds at the law's entry: the machine, the code, the tables' words (any of lw_tbl by 'hts w (by decide +kernel)'), the script of L ints xs at the cell b, what the Statement gives of the start (any of its parts by flat_of_before) -/
def lw_At (p : Program) (s : State) (m : MethodId) (meth : Method) (c : Code) (b L : Nat) (xs : Nat → Int32) : Prop :=
  p.tables.exec = Jvm.exec ∧ c.code = code ∧ meth.sig.returnType = ret ∧ c.maxLocals = 4 ∧ s.vm.findClass R_law = some m.cls ∧ (∀ w ∈ lw_tbl, w.before #[Value.ref b] s = true) ∧ va_X b L xs s s.heap ∧ b < s.heap.size ∧ meth.locks = false ∧ (Jvm.Cond.and given_1 narrow_1).before #[Value.ref b] s = true
/-! ===== the law's own rows ===== -/

def LW (l : Launch) (E : MX) (b Ln : Nat) (xs : Nat → Int32) (n c s : Nat) (σ : MSt) (pc : Nat) (L : List (Nat × Value)) (st : List Value) : Prop :=
  ∀ (p : Program) (e : Env) (s0 : State) (m : MethodId) (below : List Frame) (meth : Method) (c0 : Code) (H : Heap) (locs : List Loc) (ls : Array Slot),
    lw_At p s0 m meth c0 b Ln xs → mCX E s0 → E.2.2.2 2002 = b → E.2.2.1 = s0.heap.size → MHx E n c σ s0 H locs → lv_has ls 4 (mtl E L) →
    W p l e room_1 s0 m #[Value.ref b] below meth c0 H locs c s (lw_Z below #[Value.ref b] s0) (F0 m pc ls (st.map (mtv E)))
theorem lw_w {p : Program} {s0 : State} {m : MethodId} {meth : Method} {c0 : Code} {b Ln : Nat} {xs : Nat → Int32} (A : lw_At p s0 m meth c0 b Ln xs) : ∀ w ∈ mWT, w.before #[Value.ref b] s0 = true := fun w hw => lw_x_ok A.2.2.2.2.2.1 w (mwt_in hw)
section LRules
variable {l : Launch} {E : MX} {b Ln : Nat} {xs : Nat → Int32} {n c s : Nat} {σ σ' : MSt} {pc : Nat} {L L' : List (Nat × Value)} {st : List Value}

theorem lw_iconst {k0 : Int} {v : Int32} (hd : decode code pc = .ok (.iconst k0, 1)) (hv : Int32.ofInt k0 = v) (k : LW l E b Ln xs n c s σ (pc + 1) L (.int v :: st)) : LW l E b Ln xs n c s σ pc L st :=
  fun p e s0 m below meth c0 H locs ls A C eb es X hl => lv_iconst A.1 A.2.1 hd hv (k p e s0 m below meth c0 H locs ls A C eb es X hl)

theorem lw_bipush {k0 : Int} {v : Int32} (hd : decode code pc = .ok (.bipush k0, 2)) (hv : (Int8.ofInt k0).toInt32 = v) (k : LW l E b Ln xs n c s σ (pc + 2) L (.int v :: st)) : LW l E b Ln xs n c s σ pc L st :=
  fun p e s0 m below meth c0 H locs ls A C eb es X hl => lv_bipush A.1 A.2.1 hd hv (k p e s0 m below meth c0 H locs ls A C eb es X hl)

theorem lw_iload_n {q0 : Fin 4} {x : Int32} (hd : decode code pc = .ok (.iload_n q0, 1)) (q : Nat) (hq : L[q]? = some ((q0 : Nat), .int x)) (k : LW l E b Ln xs n c s σ (pc + 1) L (.int x :: st)) : LW l E b Ln xs n c s σ pc L st :=
  fun p e s0 m below meth c0 H locs ls A C eb es X hl => lv_iload_n A.1 A.2.1 hd rfl (lv_at hl q (mtl_at hq)) (k p e s0 m below meth c0 H locs ls A C eb es X hl)

theorem lw_istore_n {q0 : Fin 4} {i : Nat} {x : Int32} (hd : decode code pc = .ok (.istore_n q0, 1)) (hi : (q0 : Nat) = i) (hn : i < 4) (hL : (i, Value.int x) :: L.filter (fun q => !(q.1 == i) && !(q.1 + 1 == i && q.2.category == 2)) = L') (k : LW l E b Ln xs n c s σ (pc + 1) L' st) : LW l E b Ln xs n c s σ pc L (.int x :: st) :=
  fun p e s0 m below meth c0 H locs ls A C eb es X hl => lv_istore_n (lv' := mtl E L') A.1 A.2.1 hd hi hl hn (by rw [← hL]; exact congrArg (List.cons _) (mtl_filter1 E i L).symm) (fun ls hl => k p e s0 m below meth c0 H locs ls A C eb es X hl)

theorem lw_aload_n {q0 : Fin 4} {x : Nat} (hd : decode code pc = .ok (.aload_n q0, 1)) (q : Nat) (hq : L[q]? = some ((q0 : Nat), .ref x)) (k : LW l E b Ln xs n c s σ (pc + 1) L (.ref x :: st)) : LW l E b Ln xs n c s σ pc L st :=
  fun p e s0 m below meth c0 H locs ls A C eb es X hl => lv_aload_n A.1 A.2.1 hd rfl (lv_at hl q (mtl_at hq)) (k p e s0 m below meth c0 H locs ls A C eb es X hl)

theorem lw_astore_n {q0 : Fin 4} {i : Nat} {x : Nat} (hd : decode code pc = .ok (.astore_n q0, 1)) (hi : (q0 : Nat) = i) (hn : i < 4) (hL : (i, Value.ref x) :: L.filter (fun q => !(q.1 == i) && !(q.1 + 1 == i && q.2.category == 2)) = L') (k : LW l E b Ln xs n c s σ (pc + 1) L' st) : LW l E b Ln xs n c s σ pc L (.ref x :: st) :=
  fun p e s0 m below meth c0 H locs ls A C eb es X hl => lv_astore_n (lv' := mtl E L') A.1 A.2.1 hd hi hl hn (by rw [← hL]; exact congrArg (List.cons _) (mtl_filter1 E i L).symm) (fun ls hl => k p e s0 m below meth c0 H locs ls A C eb es X hl)

theorem lw_iinc {i : Nat} {k0 : Int} {x v : Int32} (hd : decode code pc = .ok (.iinc i k0, 3)) (q : Nat) (hq : L[q]? = some (i, .int x)) (hv : x + Int32.ofInt k0 = v) (hn : i < 4) (hL : (i, Value.int v) :: L.filter (fun q => !(q.1 == i) && !(q.1 + 1 == i && q.2.category == 2)) = L') (k : LW l E b Ln xs n c s σ (pc + 3) L' st) : LW l E b Ln xs n c s σ pc L st :=
  fun p e s0 m below meth c0 H locs ls A C eb es X hl => lv_iinc (lv' := mtl E L') A.1 A.2.1 hd hl (mtl_at hq) hv hn (by rw [← hL]; exact congrArg (List.cons _) (mtl_filter1 E i L).symm) (fun ls hl => k p e s0 m below meth c0 H locs ls A C eb es X hl)

theorem lw_iadd {x y : Int32} (hd : decode code pc = .ok (.iadd, 1)) (k : LW l E b Ln xs n c s σ (pc + 1) L (.int (x + y) :: st)) : LW l E b Ln xs n c s σ pc L (.int y :: .int x :: st) :=
  fun p e s0 m below meth c0 H locs ls A C eb es X hl => lv_iadd A.1 A.2.1 hd (k p e s0 m below meth c0 H locs ls A C eb es X hl)

theorem lw_isub {x y : Int32} (hd : decode code pc = .ok (.isub, 1)) (k : LW l E b Ln xs n c s σ (pc + 1) L (.int (x - y) :: st)) : LW l E b Ln xs n c s σ pc L (.int y :: .int x :: st) :=
  fun p e s0 m below meth c0 H locs ls A C eb es X hl => lv_isub A.1 A.2.1 hd (k p e s0 m below meth c0 H locs ls A C eb es X hl)

theorem lw_iand {x y : Int32} (hd : decode code pc = .ok (.iand, 1)) (k : LW l E b Ln xs n c s σ (pc + 1) L (.int (x &&& y) :: st)) : LW l E b Ln xs n c s σ pc L (.int y :: .int x :: st) :=
  fun p e s0 m below meth c0 H locs ls A C eb es X hl => lv_iand A.1 A.2.1 hd (k p e s0 m below meth c0 H locs ls A C eb es X hl)

theorem lw_land {x y : Int64} (hd : decode code pc = .ok (.land, 1)) (k : LW l E b Ln xs n c s σ (pc + 1) L (.long (x &&& y) :: st)) : LW l E b Ln xs n c s σ pc L (.long y :: .long x :: st) :=
  fun p e s0 m below meth c0 H locs ls A C eb es X hl => lv_land A.1 A.2.1 hd (k p e s0 m below meth c0 H locs ls A C eb es X hl)

theorem lw_lor {x y : Int64} (hd : decode code pc = .ok (.lor, 1)) (k : LW l E b Ln xs n c s σ (pc + 1) L (.long (x ||| y) :: st)) : LW l E b Ln xs n c s σ pc L (.long y :: .long x :: st) :=
  fun p e s0 m below meth c0 H locs ls A C eb es X hl => lv_lor A.1 A.2.1 hd (k p e s0 m below meth c0 H locs ls A C eb es X hl)

theorem lw_lshl {x : Int64} {y : Int32} (hd : decode code pc = .ok (.lshl, 1)) (k : LW l E b Ln xs n c s σ (pc + 1) L (.long (x <<< (y.toInt64 &&& 63)) :: st)) : LW l E b Ln xs n c s σ pc L (.int y :: .long x :: st) :=
  fun p e s0 m below meth c0 H locs ls A C eb es X hl => lv_lshl A.1 A.2.1 hd rfl (k p e s0 m below meth c0 H locs ls A C eb es X hl)

theorem lw_i2l {x : Int32} (hd : decode code pc = .ok (.i2l, 1)) (k : LW l E b Ln xs n c s σ (pc + 1) L (.long (x.toInt64) :: st)) : LW l E b Ln xs n c s σ pc L (.int x :: st) :=
  fun p e s0 m below meth c0 H locs ls A C eb es X hl => lv_i2l A.1 A.2.1 hd rfl (k p e s0 m below meth c0 H locs ls A C eb es X hl)

theorem lw_ldc2 {i0 : Nat} {v : Int64} (hd : decode code pc = .ok (.ldc2_w i0, 3)) (hw : Cond.constantLong RL i0 v ∈ mWT) (k : LW l E b Ln xs n c s σ (pc + 3) L (.long v :: st)) : LW l E b Ln xs n c s σ pc L st :=
  fun p e s0 m below meth c0 H locs ls A C eb es X hl => lv_ldc2 A.1 A.2.1 A.2.2.2.2.1 (lw_w A _ hw) hd (k p e s0 m below meth c0 H locs ls A C eb es X hl)
theorem lw_dup {v : Value} (hd : decode code pc = .ok (.dup, 1)) (hv : v.category = 1) (k : LW l E b Ln xs n c s σ (pc + 1) L (v :: v :: st)) : LW l E b Ln xs n c s σ pc L (v :: st) :=
  fun p e s0 m below meth c0 H locs ls A C eb es X hl => lv_dup A.1 A.2.1 hd ((mtv_cat E v).trans hv) (k p e s0 m below meth c0 H locs ls A C eb es X hl)
theorem lw_goto {off : Int} {tgt : Nat} (hd : decode code pc = .ok (.goto off, 3)) (ht : (pc : Int) + off = (tgt : Int)) (k : LW l E b Ln xs n c s σ tgt L st) : LW l E b Ln xs n c s σ pc L st :=
  fun p e s0 m below meth c0 H locs ls A C eb es X hl => lv_goto A.1 A.2.1 hd ht (k p e s0 m below meth c0 H locs ls A C eb es X hl)
theorem lw_icmp_gt {x y : Int32} {off : Int} {tgt : Nat} (hd : decode code pc = .ok (.if_icmp .gt off, 3)) (ht : (pc : Int) + off = (tgt : Int)) (kt : y < x → LW l E b Ln xs n c s σ tgt L st) (kf : ¬ y < x → LW l E b Ln xs n c s σ (pc + 3) L st) : LW l E b Ln xs n c s σ pc L (.int y :: .int x :: st) :=
  fun p e s0 m below meth c0 H locs ls A C eb es X hl => lv_icmp_gt A.1 A.2.1 hd ht (fun h => kt h p e s0 m below meth c0 H locs ls A C eb es X hl) (fun h => kf h p e s0 m below meth c0 H locs ls A C eb es X hl)
theorem lw_same_i {x : Int32} {off : Int} {tgt : Nat} (hd : decode code pc = .ok (.if_icmp .eq off, 3)) (ht : (pc : Int) + off = (tgt : Int)) (kt : LW l E b Ln xs n c s σ tgt L st) : LW l E b Ln xs n c s σ pc L (.int x :: .int x :: st) :=
  fun p e s0 m below meth c0 H locs ls A C eb es X hl => lv_icmp_eq A.1 A.2.1 hd ht (fun _ => kt p e s0 m below meth c0 H locs ls A C eb es X hl) (fun h => absurd rfl h)
theorem lw_same_l {x : Int64} {off : Int} {tgt : Nat} (hd0 : decode code pc = .ok (.lcmp, 1)) (hd : decode code (pc + 1) = .ok (.ifCond .eq off, 3)) (ht : ((pc + 1 : Nat) : Int) + off = (tgt : Int)) (kt : LW l E b Ln xs n c s σ tgt L st) : LW l E b Ln xs n c s σ pc L (.long x :: .long x :: st) :=
  fun p e s0 m below meth c0 H locs ls A C eb es X hl => W.lcmp A.1 A.2.1 hd0 (lv_if_eq A.1 A.2.1 hd ht (fun _ => kt p e s0 m below meth c0 H locs ls A C eb es X hl) (fun h => absurd ((lg_cmp_eq x x).mpr rfl) h))
theorem lw_tabIn {x : Int32} (v : Int32) {dflt lo hi : Int} {offs : Array Int} {len : Nat} {off : Int} {tgt : Nat} (hd : decode code pc = .ok (.tableswitch dflt lo hi offs, len)) (hx : x = v) (h1 : ¬ v.toInt < lo) (h2 : ¬ hi < v.toInt) (ho : offs[(v.toInt - lo).toNat]? = some off) (ht : (pc : Int) + off = (tgt : Int)) (kk : LW l E b Ln xs n c s σ tgt L st) : LW l E b Ln xs n c s σ pc L (.int x :: st) := by
  subst hx
  exact fun p e s0 m below meth c0 H locs ls A C eb es X hl => lv_tableIn A.1 A.2.1 hd h1 h2 ho ht (kk p e s0 m below meth c0 H locs ls A C eb es X hl)
theorem lw_tabOut {x : Int32} {dflt lo hi : Int} {offs : Array Int} {len : Nat} {tgt : Nat} (hd : decode code pc = .ok (.tableswitch dflt lo hi offs, len)) (h : x.toInt < lo ∨ hi < x.toInt) (ht : (pc : Int) + dflt = (tgt : Int)) (kk : LW l E b Ln xs n c s σ tgt L st) : LW l E b Ln xs n c s σ pc L (.int x :: st) :=
  fun p e s0 m below meth c0 H locs ls A C eb es X hl => lv_tableOut A.1 A.2.1 hd h ht (kk p e s0 m below meth c0 H locs ls A C eb es X hl)
theorem lw_scr {E : MX} (eb : E.2.2.2 2002 = b) : mad E 2002 = b := by
  unfold mad
  rw [if_neg (by decide), eb]
theorem lw_len (hd : decode code pc = .ok (.arraylength, 1)) (k : LW l E b Ln xs n c s σ (pc + 1) L (.int (nI Ln) :: st)) : LW l E b Ln xs n c s σ pc L (.ref 2002 :: st) := by
  intro p e s0 m below meth c0 H locs ls A C eb es X hl
  have hb := A.2.2.2.2.2.2.2.1
  simp only [List.map_cons, mtv, lw_scr eb]
  exact va_slen A.1 A.2.1 A.2.2.2.2.2.2.1 hb (by rw [es]; exact Nat.not_le.mpr hb) X.2.2.1 hd (k p e s0 m below meth c0 H locs ls A C eb es X hl)
theorem lw_ld {i : Nat} {j : Int32} (hd : decode code pc = .ok (.iaload, 1)) (hj : j = nI i) (hi : i < Ln) (hL : Ln ≤ 3072) (k : LW l E b Ln xs n c s σ (pc + 1) L (.int (xs i) :: st)) : LW l E b Ln xs n c s σ pc L (.int j :: .ref 2002 :: st) := by
  intro p e s0 m below meth c0 H locs ls A C eb es X hl
  have hb := A.2.2.2.2.2.2.2.1
  subst hj
  simp only [List.map_cons, mtv, lw_scr eb]
  refine va_sld A.1 A.2.1 A.2.2.2.2.2.2.1 hb (by rw [es]; exact Nat.not_le.mpr hb) X.2.2.1 (vp_in_nI hi (by omega)) hd ?_
  rw [nI_clamp (by omega)]
  exact k p e s0 m below meth c0 H locs ls A C eb es X hl
theorem lw_new {ci i0 N n' c' s' : Nat} {C0 : String} {T : u_T} (e1 : n + 1 = n') (e2 : c + 1 = c') (e3 : s + N = s') (ty0 : Nat → FieldType) (hd : decode code pc = .ok (.new i0, 3)) (hc : vwCl[ci]? = some (C0, T, N)) (hN : mnF ci = N) (hs : mshp n = .inr ci) (hin : ∀ w ∈ u_ws C0 T N, w ∈ mWT) (hty : ∀ k, k < N → parseFieldDescriptor (T k).2.2.1 = some (ty0 k)) (hmt : ∀ k, k < N → mft ci k = ty0 k ∧ mdef (ty0 k) = true) (hcl : Cond.classLink RL i0 C0 ∈ mWT) (hinst : Cond.instantiable C0 N ∈ mWT) (hini : Cond.initialized C0 ∈ mWT) (hz : zc σ n) (hcells : c + 1 ≤ 600000) (hslots : s + N ≤ 7302250) (hn : n + 1 ≤ 1000) (k : LW l E b Ln xs n' c' s' σ (pc + 3) L (.ref n :: st)) : LW l E b Ln xs n c s σ pc L st := by
  subst e1; subst e2; subst e3
  intro p e s0 m below meth c0 H locs ls A C eb es X hl
  refine X.size (fun hsz => ?_)
  have hKn := C.1.1 ci _ hc
  refine W.newcK A.1 A.2.1 A.2.2.2.2.1 (lw_w A _ hcl) (lw_w A _ hinst) (lw_w A _ hini) rfl hd hcells hslots hKn.2.1 rfl fun H1 kC hkC e1 z1 o1 => ?_
  have ha := mad_n (E := E) hsz hn
  have hX := mva_push X hsz hn z1 o1 (by
    rw [mcel_obj hs]
    refine ⟨_, hc, ?_⟩
    rw [ha]
    refine (u_born ty0 (lw_w A) hin hKn hkC e1 hty).to (fun j hj => ?_)
    show _ = ((List.range (mnF ci)).map (fun j => maf E (mft ci j) σ n j)).getD j .null
    rw [hN]
    have hm := hmt j hj
    simp [hj, hm.1, maf_zero hm.2 hz])
  have := k p e s0 m below meth c0 H1 locs ls A C eb es hX hl
  simp only [List.map_cons, mtv, ha] at this
  exact this
theorem lw_callI {n' c' s' : Nat} {y : MethodName} {bytes1 : ByteArray} {maxL1 mc1 ms1 i0 x : Nat} {rm1 : Room} (hw : MLi RL i0 y bytes1 maxL1 none 0) (hd : decode code pc = .ok (.invokespecial i0, 3)) (hM : MCt l y bytes1 maxL1 none rm1 [.ref x] n σ mc1 ms1 (n', none, σ')) (hcs : (st.map fun v => v.category).sum ≤ 8) (hR : rm1.frames + 1 ≤ 2048 ∧ 8 + (maxL1 + 11) + rm1.locals ≤ 84000) (hrc : rm1.cells = mc1) (hrs : rm1.slots = ms1) (hn : n' = n + mc1) (e2 : c + mc1 = c') (e3 : s + ms1 = s') (hn2 : n' ≤ 1000) (hf : c + mc1 ≤ 600000 ∧ s + ms1 ≤ 7302250) (kk : LW l E b Ln xs n' c' s' σ' (pc + 3) L st) : LW l E b Ln xs n c s σ pc L (.ref x :: st) := by
  subst e2; subst e3
  intro p e s0 m below meth c0 H locs ls A C eb es X hl
  refine X.size (fun hz => ?_)
  exact mrun X hz hn hn2 (va_runI (As := []) (rest := st.map (mtv E)) ⟨A.1, A.2.1, A.2.2.2.1, A.2.2.2.2.1, lw_w A⟩ (hM E) (cwI 0 (lw_w A) (mwt_good (mwt_cons hw.1)) rfl hrc hrs (lw_w A _ hw.2.2.2.1) (lw_w A _ hw.2.1) (lw_w A _ hw.2.2.1) hw.2.2.2.2.1 hw.2.2.2.2.2 hR) (mpre X hz C [.ref x]) rfl rfl hl.1 rfl (lv_room (by rw [mcatsum]; exact hcs)) hd hf) (fun H1 locs1 X1 => kk p e s0 m below meth c0 H1 locs1 ls A C eb es X1 hl)
theorem lw_ret1 (hd : decode code pc = .ok (.ireturn, 1)) (hc : c ≤ 600000) (hs : s ≤ 7302250) : LW l E b Ln xs n c s σ pc L [.int 1] := by
  intro p e s0 m below meth c0 H locs ls A C eb es X hl
  refine va_forget (fun q hq => by rw [← es]; exact X.2.2.1.2.2 q hq) ?_
  refine W.widen (k := 600000) (n := 7302250) hc hs ?_
  exact lw_ret A.1 A.2.1 A.2.2.1 A.2.2.2.2.2.2.2.2.1 hd
theorem lw_sub (qs : List Nat) (hL : lv_pick L qs = L') (k : LW l E b Ln xs n c s σ pc L' st) : LW l E b Ln xs n c s σ pc L st :=
  fun p e s0 m below meth c0 H locs ls A C eb es X hl => k p e s0 m below meth c0 H locs ls A C eb es X (lv_sub hl qs (by rw [← hL]; exact mtl_pick E L qs))
end LRules
section LCalls
variable {l : Launch} {E : MX} {b Ln : Nat} {xs : Nat → Int32} {c s : Nat} {σ σ' : MSt} {pc : Nat} {L L' : List (Nat × Value)} {st : List Value}

theorem lw_call_i {y : MethodName} {bytes1 : ByteArray} {maxL1 na i0 d1 x ci N1 : Nat} {ret1 : Option FieldType} {As st0 : List Value} {C1 : String} {T1 : u_T} {r : Int32} (hw : MLv RL i0 C1 y bytes1 maxL1 ret1 na) (hd : decode code pc = .ok (.invokevirtual i0, 3)) (hM : MK l y bytes1 maxL1 ret1 d1 (.ref x :: As) σ (some (.int r)) σ') (hna : As.length = na) (hm : mob ci x = true) (hcl : vwCl[ci]? = some (C1, T1, N1)) (hst : As.reverse ++ .ref x :: st = st0) (hcs : (st.map fun v => v.category).sum ≤ 8) (hR : d1 ≤ 1000) (hmx : maxL1 ≤ 45) (hc : c ≤ 600000) (hs : s ≤ 7302250) (kk : LW l E b Ln xs 82 c s σ' (pc + 3) L (.int r :: st)) : LW l E b Ln xs 82 c s σ pc L st0 := by
  intro p e s0 m below meth c0 H locs ls A C eb es X hl
  subst hst
  refine X.size (fun hz => ?_)
  exact mrun X hz rfl (Nat.le_of_ble_eq_true rfl) (va_runV (As := As.map (mtv E)) (rest := st.map (mtv E)) ⟨A.1, A.2.1, A.2.2.2.1, A.2.2.2.2.1, lw_w A⟩ (hM E) (cwV na (lw_w A) hw.g rfl rfl rfl hw.2.2.2.2.2 ⟨by show d1 + 1 ≤ 2048; omega, by show 8 + (maxL1 + 11) + 64 * d1 ≤ 84000; omega⟩) (let P := mpre X hz C (.ref x :: As); ⟨P.1, mrecv X C (mob1 hm) (mob2 hm) hcl, P.2⟩) rfl (by rw [List.length_map]; exact hna) hl.1 (by simp [F0, mtv]) (lv_room (by rw [mcatsum]; exact hcs)) hd ⟨hc, hs⟩) (fun H1 locs1 X1 => kk p e s0 m below meth c0 H1 locs1 ls A C eb es X1 hl)

theorem lw_call_l {y : MethodName} {bytes1 : ByteArray} {maxL1 na i0 d1 x ci N1 : Nat} {ret1 : Option FieldType} {As st0 : List Value} {C1 : String} {T1 : u_T} {r : Int64} (hw : MLv RL i0 C1 y bytes1 maxL1 ret1 na) (hd : decode code pc = .ok (.invokevirtual i0, 3)) (hM : MK l y bytes1 maxL1 ret1 d1 (.ref x :: As) σ (some (.long r)) σ') (hna : As.length = na) (hm : mob ci x = true) (hcl : vwCl[ci]? = some (C1, T1, N1)) (hst : As.reverse ++ .ref x :: st = st0) (hcs : (st.map fun v => v.category).sum ≤ 8) (hR : d1 ≤ 1000) (hmx : maxL1 ≤ 45) (hc : c ≤ 600000) (hs : s ≤ 7302250) (kk : LW l E b Ln xs 82 c s σ' (pc + 3) L (.long r :: st)) : LW l E b Ln xs 82 c s σ pc L st0 := by
  intro p e s0 m below meth c0 H locs ls A C eb es X hl
  subst hst
  refine X.size (fun hz => ?_)
  exact mrun X hz rfl (Nat.le_of_ble_eq_true rfl) (va_runV (As := As.map (mtv E)) (rest := st.map (mtv E)) ⟨A.1, A.2.1, A.2.2.2.1, A.2.2.2.2.1, lw_w A⟩ (hM E) (cwV na (lw_w A) hw.g rfl rfl rfl hw.2.2.2.2.2 ⟨by show d1 + 1 ≤ 2048; omega, by show 8 + (maxL1 + 11) + 64 * d1 ≤ 84000; omega⟩) (let P := mpre X hz C (.ref x :: As); ⟨P.1, mrecv X C (mob1 hm) (mob2 hm) hcl, P.2⟩) rfl (by rw [List.length_map]; exact hna) hl.1 (by simp [F0, mtv]) (lv_room (by rw [mcatsum]; exact hcs)) hd ⟨hc, hs⟩) (fun H1 locs1 X1 => kk p e s0 m below meth c0 H1 locs1 ls A C eb es X1 hl)

end LCalls
