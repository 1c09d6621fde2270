/-! ===== the small machine: what a row says ===== -/
def mtys (E : MX) : List (ClassId × FieldType) := [(E.2.1 0, .int), (E.2.1 1, .long), (E.2.1 2, .boolean), (E.2.1 3, .char), (E.2.1 4, .object "RoundsPerHour$Sheet")]
def mCX (E : MX) (U : State) : Prop := va_K E.1 vwCl (mtys E) U ∧ (∀ q ∈ mnl, va_Nw (.methodLinkNest q.1 q.2.1 q.2.2.1 q.2.2.2) U) ∧ va_Nw (.declares ⟨"RoundsPerHour$Climb", "pick", "()I"⟩) U ∧ mST E U
theorem mCX.warm {E : MX} {s U : State} {H : Heap} (hW : s.WarmedH U.vm) (hH : U.heap = H) (hq : ∀ a : Nat, a < s.heap.size → ¬ E.2.2.1 ≤ a → H[a]? = s.heap[a]?) (h : mCX E s) : mCX E U := by
  subst hH
  exact ⟨va_K.moved hW.alike h.1, fun q hq => va_Nw.warmM hW (h.2.1 q hq), va_Nw.warmD hW h.2.2.1, mST.warm hW hq h.2.2.2⟩
theorem mCX.same {E : MX} {s U : State} (hv : U.vm = s.vm) (hH : U.heap = s.heap) (h : mCX E s) : mCX E U :=
  ⟨va_K.moved (by rw [hv]; exact Vm.Alike.refl _) h.1, fun q hq => va_Nw.same rfl hv.symm (h.2.1 q hq), va_Nw.same rfl hv.symm h.2.2.1, mST.same hv hH h.2.2.2⟩
def MCx (E : MX) (cc : ByteArray) (own : String) (nL : Nat) (ret : Option FieldType) (ini : Bool) (p : Program) (s : State) (m : MethodId) (args : Array Value) (meth : Method) (c : Code) : Prop :=
  p.tables.exec = Jvm.exec ∧ c.code = cc ∧ meth.sig.returnType = ret ∧ c.maxLocals = nL ∧ (∀ w ∈ mWT, w.before args s = true) ∧ s.vm.findClass own = some m.cls ∧ meth.locks = false ∧ mCX E s ∧ (ini = true → meth.name = "<init>")
def MHx (E : MX) (n c : Nat) (σ : MSt) (s : State) (H : Heap) (locs : List Loc) : Prop :=
  n ≤ 1000 ∧ E.2.2.1 ≤ s.heap.size ∧ va_S (fun q => E.2.2.1 ≤ q) s.heap H locs ∧ va_P E.1 vwCl (mwd E n σ) H ∧ s.heap.size + c = E.2.2.1 + n
theorem MHx.size {p : Program} {l : Launch} {e : Env} {R : Room} {s : State} {m : MethodId} {args : Array Value} {below : List Frame} {meth : Method} {c0 : Code} {H : Heap} {locs : List Loc} {cells slots : Nat} {Q : State → Prop} {g : JFrame} {E : MX} {n : Nat} {σ : MSt} (X : MHx E n cells σ s H locs) (k : H.size = E.2.2.1 + n → W p l e R s m args below meth c0 H locs cells slots Q g) : W p l e R s m args below meth c0 H locs cells slots Q g := by
  intro T hT Y
  refine k ?_ T hT Y
  have h1 : T.heap.size ≤ s.heap.size + cells := Y.same.2.2.1
  have h2 : s.heap.size ≤ T.heap.size := Y.same.2.1
  rw [hT] at h1 h2
  obtain ⟨x1, x2, -, x4, x5⟩ := X
  rcases Nat.eq_zero_or_pos n with h | h
  · subst h; omega
  · have h3 := (x4 (n - 1) _ (mwd_at (by omega))).lt
    have h4 : mad E (n - 1) = E.2.2.1 + (n - 1) := by unfold mad; rw [if_pos (by omega)]
    rw [h4] at h3
    omega
def MQc (E : MX) (res : Nat × Option Value × MSt) : Array Value → State → Outcome → State → Prop := fun _ st oc t =>
  oc = .returned (res.2.1.map (mtv E)) ∧ va_P E.1 vwCl (mwd E res.1 res.2.2) t.heap ∧ t.heap.size = E.2.2.1 + res.1 ∧ va_F (fun q => E.2.2.1 ≤ q) st t
/-- from here the method returns, with res: how many cells there are, the answer, the memory -/
def MW (l : Launch) (E : MX) (cc : ByteArray) (own : String) (nL : Nat) (ret : Option FieldType) (ini : Bool) (R : Room) (mc ms : Nat) (res : Nat × Option Value × MSt) (n c s : Nat) (σ : MSt) (pc : Nat) (L : List (Nat × Value)) (st : List Value) : Prop :=
  ∀ (p : Program) (e : Env) (s0 : State) (m : MethodId) (args : Array Value) (below : List Frame) (meth : Method) (c0 : Code) (H : Heap) (locs : List Loc) (ls : Array Slot),
    MCx E cc own nL ret ini p s0 m args meth c0 → MHx E n c σ s0 H locs → lv_has ls nL (mtl E L) →
    W p l e R s0 m args below meth c0 H locs c s (MQ below (MQc E res) args s0 mc ms (fun q => E.2.2.1 ≤ q)) (F0 m pc ls (st.map (mtv E)))
/-- a method's contract: called with args in memory σ it returns with res -/
def MCt (l : Launch) (y : MethodName) (cc : ByteArray) (nL : Nat) (ret : Option FieldType) (R : Room) (args : List Value) (n : Nat) (σ : MSt) (mc ms : Nat) (res : Nat × Option Value × MSt) : Prop :=
  ∀ E : MX, Met l y (Cond.code y cc nL ret :: mWT) R (va_Pc (args.map (mtv E)) (fun U => n ≤ 1000 ∧ va_P E.1 vwCl (mwd E n σ) U.heap ∧ U.heap.size = E.2.2.1 + n ∧ mCX E U)) (MQc E res) mc ms (fun q => E.2.2.1 ≤ q)

/-- what the tables say of a call: of a method of the receiver's class; of one that its class inherits; of an abstract one; of a static one; of nest mates -/
def MLv (own : String) (i0 : Nat) (C : String) (y : MethodName) (bytes : ByteArray) (maxL : Nat) (ret : Option FieldType) (na : Nat) : Prop := Cond.code y bytes maxL ret ∈ mWT ∧ Cond.methodLink own i0 y ∈ mWT ∧ Cond.instanceMethod y ∈ mWT ∧ Cond.selects C y y ∈ mWT ∧ Cond.initialized C ∈ mWT ∧ y.cls = C ∧ y.cls ≠ "java/lang/invoke/MethodHandle" ∧ y.cls ≠ "java/lang/invoke/VarHandle" ∧ (parseMethodDescriptor y.desc).map (fun d => d.parameters.length) = some na
def MLu (own : String) (i0 : Nat) (C owner : String) (x : MethodName) (y : MethodName) (bytes : ByteArray) (maxL : Nat) (ret : Option FieldType) (na : Nat) : Prop := Cond.code y bytes maxL ret ∈ mWT ∧ Cond.methodLink own i0 x ∈ mWT ∧ Cond.sameMethod x.cls owner x.name x.desc ∈ mWT ∧ Cond.selects C x y ∈ mWT ∧ Cond.instanceMethod y ∈ mWT ∧ Cond.initialized y.cls ∈ mWT ∧ owner ≠ "java/lang/invoke/MethodHandle" ∧ owner ≠ "java/lang/invoke/VarHandle" ∧ (parseMethodDescriptor x.desc).map (fun d => d.parameters.length) = some na
def MLs (own : String) (i0 : Nat) (y : MethodName) (bytes : ByteArray) (maxL : Nat) (ret : Option FieldType) (na : Nat) : Prop := Cond.code y bytes maxL ret ∈ mWT ∧ Cond.methodLink own i0 y ∈ mWT ∧ Cond.static y ∈ mWT ∧ Cond.initialized y.cls ∈ mWT ∧ y.cls ≠ "java/lang/invoke/MethodHandle" ∧ y.cls ≠ "java/lang/invoke/VarHandle" ∧ (parseMethodDescriptor y.desc).map (fun d => d.parameters.length) = some na
def MLn (own : String) (i0 : Nat) (host : String) (y : MethodName) (bytes : ByteArray) (maxL : Nat) (ret : Option FieldType) (na : Nat) : Prop := Cond.code y bytes maxL ret ∈ mWT ∧ (own, i0, y, host) ∈ mnl ∧ Cond.static y ∈ mWT ∧ Cond.initialized y.cls ∈ mWT ∧ y.cls ≠ "java/lang/invoke/MethodHandle" ∧ y.cls ≠ "java/lang/invoke/VarHandle" ∧ (parseMethodDescriptor y.desc).map (fun d => d.parameters.length) = some na
def MLi (own : String) (i0 : Nat) (y : MethodName) (bytes : ByteArray) (maxL : Nat) (ret : Option FieldType) (na : Nat) : Prop := Cond.code y bytes maxL ret ∈ mWT ∧ Cond.methodLink own i0 y ∈ mWT ∧ Cond.instanceMethod y ∈ mWT ∧ Cond.initialized y.cls ∈ mWT ∧ y.name = "<init>" ∧ y.cls ≠ "java/lang/invoke/MethodHandle" ∧ y.cls ≠ "java/lang/invoke/VarHandle" ∧ (parseMethodDescriptor y.desc).map (fun d => d.parameters.length) = some na
def MLj (own : String) (i0 : Nat) (host : String) (y : MethodName) (bytes : ByteArray) (maxL : Nat) (ret : Option FieldType) (na : Nat) : Prop := Cond.code y bytes maxL ret ∈ mWT ∧ (own, i0, y, host) ∈ mnl ∧ Cond.instanceMethod y ∈ mWT ∧ Cond.initialized y.cls ∈ mWT ∧ y.name = "<init>" ∧ y.cls ≠ "java/lang/invoke/MethodHandle" ∧ y.cls ≠ "java/lang/invoke/VarHandle" ∧ (parseMethodDescriptor y.desc).map (fun d => d.parameters.length) = some na
theorem MLv.g {own C : String} {i0 maxL na : Nat} {y : MethodName} {bytes : ByteArray} {ret : Option FieldType} (h : MLv own i0 C y bytes maxL ret na) : GoodIn mWT (wsV own i0 C y (Cond.code y bytes maxL ret :: mWT)) := by
  refine mwt_good (fun w hw => ?_)
  unfold wsV at hw
  rcases List.mem_append.mp hw with hw | hw
  · simp only [List.mem_cons, List.not_mem_nil, or_false] at hw
    rcases hw with e | e | e | e <;> subst e
    · exact h.2.1
    · exact h.2.2.1
    · exact h.2.2.2.1
    · exact h.2.2.2.2.1
  · exact mwt_cons h.1 w hw
theorem MLu.g {own C owner : String} {i0 maxL na : Nat} {x y : MethodName} {bytes : ByteArray} {ret : Option FieldType} (h : MLu own i0 C owner x y bytes maxL ret na) : GoodIn mWT (va_wsU own i0 C owner x y (Cond.code y bytes maxL ret :: mWT)) := by
  refine mwt_good (fun w hw => ?_)
  unfold va_wsU at hw
  rcases List.mem_append.mp hw with hw | hw
  · simp only [List.mem_cons, List.not_mem_nil, or_false] at hw
    rcases hw with e | e | e | e | e <;> subst e
    · exact h.2.1
    · exact h.2.2.1
    · exact h.2.2.2.1
    · exact h.2.2.2.2.1
    · exact h.2.2.2.2.2.1
  · exact mwt_cons h.1 w hw
theorem MLs.g {own : String} {i0 maxL na : Nat} {y : MethodName} {bytes : ByteArray} {ret : Option FieldType} (h : MLs own i0 y bytes maxL ret na) : GoodIn mWT (va_wsS own i0 y (Cond.code y bytes maxL ret :: mWT)) := by
  refine mwt_good (fun w hw => ?_)
  unfold va_wsS at hw
  rcases List.mem_append.mp hw with hw | hw
  · simp only [List.mem_cons, List.not_mem_nil, or_false] at hw
    rcases hw with e | e | e <;> subst e
    · exact h.2.1
    · exact h.2.2.1
    · exact h.2.2.2.1
  · exact mwt_cons h.1 w hw

theorem mb01 {x : Int32} (h : x = 0 ∨ x = 1) : narrow .boolean (.int x) = .int x ∧ fits .boolean (.int x) = true := by
  rcases h with h | h <;> subst h <;> decide
def mfr (ty : FieldType) : Bool := match ty with
  | .object _ => true
  | .array _ => true
  | _ => false
theorem mfr_nar {ty : FieldType} (h : mfr ty = true) {E : MX} (x : Nat) : narrow ty (mtv E (.ref x)) = mtv E (.ref x) := by
  cases ty <;> first | rfl | simp [mfr] at h
theorem mfr_fit {ty : FieldType} (h : mfr ty = true) {E : MX} (x : Nat) : fits ty (mtv E (.ref x)) = true := by
  cases ty <;> first | rfl | simp [mfr] at h
theorem mmI_upd (σ : MSt) (k j : Nat) (v : Int32) : mmI (muI σ k j v) k = upd (mmI σ k) j v := by
  funext b
  by_cases h : b = j
  · subst h; simp [mmI_uI, upd]
  · simp [mmI_uI, upd, h]
theorem mmL_upd (σ : MSt) (k j : Nat) (v : Int64) : mmL (muL σ k j v) k = vp_updL (mmL σ k) j v := by
  funext b
  by_cases h : b = j
  · subst h; simp [mmL_uL, vp_updL]
  · simp [mmL_uL, vp_updL, h]
theorem mty {E : MX} {i : Nat} {q : ClassId × FieldType} (h : (mtys E)[i]? = some q) : (mtys E)[i]? = some q := h
theorem mcpI_cel {E : MX} {σ : MSt} {k0 sp k1 dp z a : Nat} (h : a ≠ k1) : mcel E (mcpI σ k0 sp k1 dp z) a = mcel E σ a :=
  mcel_congr (fun b => by show (if a = k1 then _ else _) = _; rw [if_neg h]; rfl) (fun _ => rfl) (fun _ => rfl)
theorem mcpL_cel {E : MX} {σ : MSt} {k0 sp k1 dp z a : Nat} (h : a ≠ k1) : mcel E (mcpL σ k0 sp k1 dp z) a = mcel E σ a :=
  mcel_congr (fun _ => rfl) (fun b => by show (if a = k1 then _ else _) = _; rw [if_neg h]; rfl) (fun _ => rfl)
theorem mmI_cp (σ : MSt) (k0 sp k1 dp z : Nat) : mmI (mcpI σ k0 sp k1 dp z) k1 = va_cpy (mmI σ k0) (mmI σ k1) sp dp z := by
  funext b; show (if k1 = k1 then _ else _) = _; rw [if_pos rfl]; rfl
theorem mmL_cp (σ : MSt) (k0 sp k1 dp z : Nat) : mmL (mcpL σ k0 sp k1 dp z) k1 = va_cpy (mmL σ k0) (mmL σ k1) sp dp z := by
  funext b; show (if k1 = k1 then _ else _) = _; rw [if_pos rfl]; rfl
theorem mrun {p : Program} {l : Launch} {e : Env} {R : Room} {s : State} {m : MethodId} {args : Array Value} {below : List Frame} {meth : Method} {c0 : Code} {H : Heap} {locs : List Loc} {cells slots mc ms : Nat} {Q : State → Prop} {pc : Nat} {ls : Array Slot} {st0 rest : List Value} {E : MX} {res : Nat × Option Value × MSt} {a : Array Value} {n : Nat} {σ : MSt} (X : MHx E n cells σ s H locs) (hz : H.size = E.2.2.1 + n) (hn : res.1 = n + mc) (hn2 : res.1 ≤ 1000)
    (hr : va_Run p l e R s m args below meth c0 H locs cells slots mc ms (F0 m pc ls st0) rest (MQc E res a) (fun q => E.2.2.1 ≤ q))
    (kk : ∀ (H1 : Heap) (locs1 : List Loc), MHx E res.1 (cells + mc) res.2.2 s H1 locs1 → W p l e R s m args below meth c0 H1 locs1 (cells + mc) (slots + ms) Q (F0 m (pc + 3) ls ((res.2.1.map (mtv E)).toList ++ rest))) : W p l e R s m args below meth c0 H locs cells slots Q (F0 m pc ls st0) := by
  intro T hT Y
  obtain ⟨v, st₀, t, T', L, h0, X', hL, e1, e2, ⟨hv, hP, hz2, hz3, hk⟩, stp⟩ := hr T hT Y
  cases hv
  obtain ⟨x1, x2, x3, x4, x5⟩ := X
  rw [h0] at hz3 hk
  obtain ⟨t2, a1, b1⟩ := kk T'.heap (locs ++ L) ⟨hn2, x2, ⟨Nat.le_trans x3.1 (by rw [e1]; exact hz3), fun q h1 h2 => by rw [e1, hk q (Nat.lt_of_lt_of_le h1 x3.1) h2]; exact x3.2.1 q h1 h2, fun q hq => by
      rcases List.mem_append.mp hq with h | h
      · exact x3.2.2 q h
      · exact hL q h⟩, by rw [e1]; exact hP, by omega⟩ T' rfl X'
  exact ⟨t2, stp t2 a1, b1⟩
theorem mpre {E : MX} {n c : Nat} {σ : MSt} {s : State} {H : Heap} {locs : List Loc} (X : MHx E n c σ s H locs) (hz : H.size = E.2.2.1 + n) (hC : mCX E s) (av : List Value) : PreS s H (va_Pc (av.map (mtv E)) (fun U => n ≤ 1000 ∧ va_P E.1 vwCl (mwd E n σ) U.heap ∧ U.heap.size = E.2.2.1 + n ∧ mCX E U)) (av.map (mtv E)) := by
  refine ⟨fun a U g mk q => ⟨q.1, q.2.1, q.2.2.1, q.2.2.2.1, mCX.same rfl rfl q.2.2.2.2⟩, fun U hU hW => ⟨rfl, X.1, by rw [hU]; exact X.2.2.2.1, by rw [hU]; exact hz, mCX.warm hW hU X.2.2.1.2.1 hC⟩⟩
theorem mrecv {E : MX} {n c k ci : Nat} {q : vw_C} {σ : MSt} {s : State} {H : Heap} {locs : List Loc} (X : MHx E n c σ s H locs) (hC : mCX E s) (hk : k < n) (hs : mshp k = .inr ci) (hc : vwCl[ci]? = some q) : ∃ cell : Cell, H[mad E k]? = some cell ∧ cell.vm.isStatics = false ∧ s.vm.findClass q.1 = some cell.cls :=
  va_recv hC.1 X.2.2.2.1 hc (q0 := k) (by rw [mwd_at hk, mcel_obj hs])

section MRules
variable {l : Launch} {E : MX} {cc : ByteArray} {own : String} {nL : Nat} {ret : Option FieldType} {ini : Bool} {R : Room} {mc ms : Nat} {res : Nat × Option Value × MSt} {n c s : Nat} {σ σ' : MSt} {pc : Nat} {L L' : List (Nat × Value)} {st : List Value}

theorem mw_iconst {k0 : Int} {v : Int32} (hd : decode cc pc = .ok (.iconst k0, 1)) (hv : Int32.ofInt k0 = v) (k : MW l E cc own nL ret ini R mc ms res n c s σ (pc + 1) L (.int v :: st)) : MW l E cc own nL ret ini R mc ms res n c s σ pc L st :=
  fun p e s0 m args below meth c0 H locs ls C X hl => lv_iconst C.1 C.2.1 hd hv (k p e s0 m args below meth c0 H locs ls C X hl)

theorem mw_bipush {k0 : Int} {v : Int32} (hd : decode cc pc = .ok (.bipush k0, 2)) (hv : (Int8.ofInt k0).toInt32 = v) (k : MW l E cc own nL ret ini R mc ms res n c s σ (pc + 2) L (.int v :: st)) : MW l E cc own nL ret ini R mc ms res n c s σ pc L st :=
  fun p e s0 m args below meth c0 H locs ls C X hl => lv_bipush C.1 C.2.1 hd hv (k p e s0 m args below meth c0 H locs ls C X hl)

theorem mw_sipush {k0 : Int} {v : Int32} (hd : decode cc pc = .ok (.sipush k0, 3)) (hv : (Int16.ofInt k0).toInt32 = v) (k : MW l E cc own nL ret ini R mc ms res n c s σ (pc + 3) L (.int v :: st)) : MW l E cc own nL ret ini R mc ms res n c s σ pc L st :=
  fun p e s0 m args below meth c0 H locs ls C X hl => lv_sipush C.1 C.2.1 hd hv (k p e s0 m args below meth c0 H locs ls C X hl)

theorem mw_lconst {k0 : Fin 2} {v : Int64} (hd : decode cc pc = .ok (.lconst k0, 1)) (hv : Int64.ofNat (k0 : Nat) = v) (k : MW l E cc own nL ret ini R mc ms res n c s σ (pc + 1) L (.long v :: st)) : MW l E cc own nL ret ini R mc ms res n c s σ pc L st :=
  fun p e s0 m args below meth c0 H locs ls C X hl => lv_lconst C.1 C.2.1 hd hv (k p e s0 m args below meth c0 H locs ls C X hl)

theorem mw_iload_n {q0 : Fin 4} {x : Int32} (hd : decode cc pc = .ok (.iload_n q0, 1)) (q : Nat) (hq : L[q]? = some ((q0 : Nat), .int x)) (k : MW l E cc own nL ret ini R mc ms res n c s σ (pc + 1) L (.int x :: st)) : MW l E cc own nL ret ini R mc ms res n c s σ pc L st :=
  fun p e s0 m args below meth c0 H locs ls C X hl => lv_iload_n C.1 C.2.1 hd rfl (lv_at hl q (mtl_at hq)) (k p e s0 m args below meth c0 H locs ls C X hl)

theorem mw_iload {i : Nat} {x : Int32} (hd : decode cc pc = .ok (.iload i, 2)) (q : Nat) (hq : L[q]? = some (i, .int x)) (k : MW l E cc own nL ret ini R mc ms res n c s σ (pc + 2) L (.int x :: st)) : MW l E cc own nL ret ini R mc ms res n c s σ pc L st :=
  fun p e s0 m args below meth c0 H locs ls C X hl => lv_iload C.1 C.2.1 hd (lv_at hl q (mtl_at hq)) (k p e s0 m args below meth c0 H locs ls C X hl)

theorem mw_istore_n {q0 : Fin 4} {i : Nat} {x : Int32} (hd : decode cc pc = .ok (.istore_n q0, 1)) (hi : (q0 : Nat) = i) (hn : i < nL) (hL : (i, Value.int x) :: L.filter (fun q => !(q.1 == i) && !(q.1 + 1 == i && q.2.category == 2)) = L') (k : MW l E cc own nL ret ini R mc ms res n c s σ (pc + 1) L' st) : MW l E cc own nL ret ini R mc ms res n c s σ pc L (.int x :: st) :=
  fun p e s0 m args below meth c0 H locs ls C X hl => lv_istore_n (lv' := mtl E L') C.1 C.2.1 hd hi hl hn (by rw [← hL]; exact congrArg (List.cons _) (mtl_filter1 E i L).symm) (fun ls hl => k p e s0 m args below meth c0 H locs ls C X hl)

theorem mw_istore {i : Nat} {x : Int32} (hd : decode cc pc = .ok (.istore i, 2)) (hn : i < nL) (hL : (i, Value.int x) :: L.filter (fun q => !(q.1 == i) && !(q.1 + 1 == i && q.2.category == 2)) = L') (k : MW l E cc own nL ret ini R mc ms res n c s σ (pc + 2) L' st) : MW l E cc own nL ret ini R mc ms res n c s σ pc L (.int x :: st) :=
  fun p e s0 m args below meth c0 H locs ls C X hl => lv_istore (lv' := mtl E L') C.1 C.2.1 hd hl hn (by rw [← hL]; exact congrArg (List.cons _) (mtl_filter1 E i L).symm) (fun ls hl => k p e s0 m args below meth c0 H locs ls C X hl)

theorem mw_lload_n {q0 : Fin 4} {x : Int64} (hd : decode cc pc = .ok (.lload_n q0, 1)) (q : Nat) (hq : L[q]? = some ((q0 : Nat), .long x)) (k : MW l E cc own nL ret ini R mc ms res n c s σ (pc + 1) L (.long x :: st)) : MW l E cc own nL ret ini R mc ms res n c s σ pc L st :=
  fun p e s0 m args below meth c0 H locs ls C X hl => lv_lload_n C.1 C.2.1 hd rfl (lv_at hl q (mtl_at hq)) (k p e s0 m args below meth c0 H locs ls C X hl)

theorem mw_lload {i : Nat} {x : Int64} (hd : decode cc pc = .ok (.lload i, 2)) (q : Nat) (hq : L[q]? = some (i, .long x)) (k : MW l E cc own nL ret ini R mc ms res n c s σ (pc + 2) L (.long x :: st)) : MW l E cc own nL ret ini R mc ms res n c s σ pc L st :=
  fun p e s0 m args below meth c0 H locs ls C X hl => lv_lload C.1 C.2.1 hd (lv_at hl q (mtl_at hq)) (k p e s0 m args below meth c0 H locs ls C X hl)

theorem mw_lstore_n {q0 : Fin 4} {i : Nat} {x : Int64} (hd : decode cc pc = .ok (.lstore_n q0, 1)) (hi : (q0 : Nat) = i) (hn : i + 1 < nL) (hL : (i, Value.long x) :: L.filter (fun q => !(q.1 == i) && (!(q.1 == i + 1) && !(q.1 + 1 == i && q.2.category == 2))) = L') (k : MW l E cc own nL ret ini R mc ms res n c s σ (pc + 1) L' st) : MW l E cc own nL ret ini R mc ms res n c s σ pc L (.long x :: st) :=
  fun p e s0 m args below meth c0 H locs ls C X hl => lv_lstore_n (lv' := mtl E L') C.1 C.2.1 hd hi hl hn (by rw [← hL]; exact congrArg (List.cons _) (mtl_filter2 E i L).symm) (fun ls hl => k p e s0 m args below meth c0 H locs ls C X hl)

theorem mw_lstore {i : Nat} {x : Int64} (hd : decode cc pc = .ok (.lstore i, 2)) (hn : i + 1 < nL) (hL : (i, Value.long x) :: L.filter (fun q => !(q.1 == i) && (!(q.1 == i + 1) && !(q.1 + 1 == i && q.2.category == 2))) = L') (k : MW l E cc own nL ret ini R mc ms res n c s σ (pc + 2) L' st) : MW l E cc own nL ret ini R mc ms res n c s σ pc L (.long x :: st) :=
  fun p e s0 m args below meth c0 H locs ls C X hl => lv_lstore (lv' := mtl E L') C.1 C.2.1 hd hl hn (by rw [← hL]; exact congrArg (List.cons _) (mtl_filter2 E i L).symm) (fun ls hl => k p e s0 m args below meth c0 H locs ls C X hl)

theorem mw_aload_n {q0 : Fin 4} {x : Nat} (hd : decode cc pc = .ok (.aload_n q0, 1)) (q : Nat) (hq : L[q]? = some ((q0 : Nat), .ref x)) (k : MW l E cc own nL ret ini R mc ms res n c s σ (pc + 1) L (.ref x :: st)) : MW l E cc own nL ret ini R mc ms res n c s σ pc L st :=
  fun p e s0 m args below meth c0 H locs ls C X hl => lv_aload_n C.1 C.2.1 hd rfl (lv_at hl q (mtl_at hq)) (k p e s0 m args below meth c0 H locs ls C X hl)

theorem mw_aload {i : Nat} {x : Nat} (hd : decode cc pc = .ok (.aload i, 2)) (q : Nat) (hq : L[q]? = some (i, .ref x)) (k : MW l E cc own nL ret ini R mc ms res n c s σ (pc + 2) L (.ref x :: st)) : MW l E cc own nL ret ini R mc ms res n c s σ pc L st :=
  fun p e s0 m args below meth c0 H locs ls C X hl => lv_aload C.1 C.2.1 hd (lv_at hl q (mtl_at hq)) (k p e s0 m args below meth c0 H locs ls C X hl)

theorem mw_astore_n {q0 : Fin 4} {i : Nat} {x : Nat} (hd : decode cc pc = .ok (.astore_n q0, 1)) (hi : (q0 : Nat) = i) (hn : i < nL) (hL : (i, Value.ref x) :: L.filter (fun q => !(q.1 == i) && !(q.1 + 1 == i && q.2.category == 2)) = L') (k : MW l E cc own nL ret ini R mc ms res n c s σ (pc + 1) L' st) : MW l E cc own nL ret ini R mc ms res n c s σ pc L (.ref x :: st) :=
  fun p e s0 m args below meth c0 H locs ls C X hl => lv_astore_n (lv' := mtl E L') C.1 C.2.1 hd hi hl hn (by rw [← hL]; exact congrArg (List.cons _) (mtl_filter1 E i L).symm) (fun ls hl => k p e s0 m args below meth c0 H locs ls C X hl)

theorem mw_astore {i : Nat} {x : Nat} (hd : decode cc pc = .ok (.astore i, 2)) (hn : i < nL) (hL : (i, Value.ref x) :: L.filter (fun q => !(q.1 == i) && !(q.1 + 1 == i && q.2.category == 2)) = L') (k : MW l E cc own nL ret ini R mc ms res n c s σ (pc + 2) L' st) : MW l E cc own nL ret ini R mc ms res n c s σ pc L (.ref x :: st) :=
  fun p e s0 m args below meth c0 H locs ls C X hl => lv_astore (lv' := mtl E L') C.1 C.2.1 hd hl hn (by rw [← hL]; exact congrArg (List.cons _) (mtl_filter1 E i L).symm) (fun ls hl => k p e s0 m args below meth c0 H locs ls C X hl)

theorem mw_iinc {i : Nat} {k0 : Int} {x v : Int32} (hd : decode cc pc = .ok (.iinc i k0, 3)) (q : Nat) (hq : L[q]? = some (i, .int x)) (hv : x + Int32.ofInt k0 = v) (hn : i < nL) (hL : (i, Value.int v) :: L.filter (fun q => !(q.1 == i) && !(q.1 + 1 == i && q.2.category == 2)) = L') (k : MW l E cc own nL ret ini R mc ms res n c s σ (pc + 3) L' st) : MW l E cc own nL ret ini R mc ms res n c s σ pc L st :=
  fun p e s0 m args below meth c0 H locs ls C X hl => lv_iinc (lv' := mtl E L') C.1 C.2.1 hd hl (mtl_at hq) hv hn (by rw [← hL]; exact congrArg (List.cons _) (mtl_filter1 E i L).symm) (fun ls hl => k p e s0 m args below meth c0 H locs ls C X hl)

theorem mw_iadd {x y : Int32} (hd : decode cc pc = .ok (.iadd, 1)) (k : MW l E cc own nL ret ini R mc ms res n c s σ (pc + 1) L (.int (x + y) :: st)) : MW l E cc own nL ret ini R mc ms res n c s σ pc L (.int y :: .int x :: st) :=
  fun p e s0 m args below meth c0 H locs ls C X hl => lv_iadd C.1 C.2.1 hd (k p e s0 m args below meth c0 H locs ls C X hl)

theorem mw_isub {x y : Int32} (hd : decode cc pc = .ok (.isub, 1)) (k : MW l E cc own nL ret ini R mc ms res n c s σ (pc + 1) L (.int (x - y) :: st)) : MW l E cc own nL ret ini R mc ms res n c s σ pc L (.int y :: .int x :: st) :=
  fun p e s0 m args below meth c0 H locs ls C X hl => lv_isub C.1 C.2.1 hd (k p e s0 m args below meth c0 H locs ls C X hl)

theorem mw_imul {x y : Int32} (hd : decode cc pc = .ok (.imul, 1)) (k : MW l E cc own nL ret ini R mc ms res n c s σ (pc + 1) L (.int (x * y) :: st)) : MW l E cc own nL ret ini R mc ms res n c s σ pc L (.int y :: .int x :: st) :=
  fun p e s0 m args below meth c0 H locs ls C X hl => lv_imul C.1 C.2.1 hd (k p e s0 m args below meth c0 H locs ls C X hl)

theorem mw_iand {x y : Int32} (hd : decode cc pc = .ok (.iand, 1)) (k : MW l E cc own nL ret ini R mc ms res n c s σ (pc + 1) L (.int (x &&& y) :: st)) : MW l E cc own nL ret ini R mc ms res n c s σ pc L (.int y :: .int x :: st) :=
  fun p e s0 m args below meth c0 H locs ls C X hl => lv_iand C.1 C.2.1 hd (k p e s0 m args below meth c0 H locs ls C X hl)

theorem mw_ior {x y : Int32} (hd : decode cc pc = .ok (.ior, 1)) (k : MW l E cc own nL ret ini R mc ms res n c s σ (pc + 1) L (.int (x ||| y) :: st)) : MW l E cc own nL ret ini R mc ms res n c s σ pc L (.int y :: .int x :: st) :=
  fun p e s0 m args below meth c0 H locs ls C X hl => lv_ior C.1 C.2.1 hd (k p e s0 m args below meth c0 H locs ls C X hl)

theorem mw_ixor {x y : Int32} (hd : decode cc pc = .ok (.ixor, 1)) (k : MW l E cc own nL ret ini R mc ms res n c s σ (pc + 1) L (.int (x ^^^ y) :: st)) : MW l E cc own nL ret ini R mc ms res n c s σ pc L (.int y :: .int x :: st) :=
  fun p e s0 m args below meth c0 H locs ls C X hl => lv_ixor C.1 C.2.1 hd (k p e s0 m args below meth c0 H locs ls C X hl)

theorem mw_ladd {x y : Int64} (hd : decode cc pc = .ok (.ladd, 1)) (k : MW l E cc own nL ret ini R mc ms res n c s σ (pc + 1) L (.long (x + y) :: st)) : MW l E cc own nL ret ini R mc ms res n c s σ pc L (.long y :: .long x :: st) :=
  fun p e s0 m args below meth c0 H locs ls C X hl => lv_ladd C.1 C.2.1 hd (k p e s0 m args below meth c0 H locs ls C X hl)

theorem mw_lsub {x y : Int64} (hd : decode cc pc = .ok (.lsub, 1)) (k : MW l E cc own nL ret ini R mc ms res n c s σ (pc + 1) L (.long (x - y) :: st)) : MW l E cc own nL ret ini R mc ms res n c s σ pc L (.long y :: .long x :: st) :=
  fun p e s0 m args below meth c0 H locs ls C X hl => lv_lsub C.1 C.2.1 hd (k p e s0 m args below meth c0 H locs ls C X hl)

theorem mw_lmul {x y : Int64} (hd : decode cc pc = .ok (.lmul, 1)) (k : MW l E cc own nL ret ini R mc ms res n c s σ (pc + 1) L (.long (x * y) :: st)) : MW l E cc own nL ret ini R mc ms res n c s σ pc L (.long y :: .long x :: st) :=
  fun p e s0 m args below meth c0 H locs ls C X hl => lv_lmul C.1 C.2.1 hd (k p e s0 m args below meth c0 H locs ls C X hl)

theorem mw_land {x y : Int64} (hd : decode cc pc = .ok (.land, 1)) (k : MW l E cc own nL ret ini R mc ms res n c s σ (pc + 1) L (.long (x &&& y) :: st)) : MW l E cc own nL ret ini R mc ms res n c s σ pc L (.long y :: .long x :: st) :=
  fun p e s0 m args below meth c0 H locs ls C X hl => lv_land C.1 C.2.1 hd (k p e s0 m args below meth c0 H locs ls C X hl)

theorem mw_lor {x y : Int64} (hd : decode cc pc = .ok (.lor, 1)) (k : MW l E cc own nL ret ini R mc ms res n c s σ (pc + 1) L (.long (x ||| y) :: st)) : MW l E cc own nL ret ini R mc ms res n c s σ pc L (.long y :: .long x :: st) :=
  fun p e s0 m args below meth c0 H locs ls C X hl => lv_lor C.1 C.2.1 hd (k p e s0 m args below meth c0 H locs ls C X hl)

theorem mw_lxor {x y : Int64} (hd : decode cc pc = .ok (.lxor, 1)) (k : MW l E cc own nL ret ini R mc ms res n c s σ (pc + 1) L (.long (x ^^^ y) :: st)) : MW l E cc own nL ret ini R mc ms res n c s σ pc L (.long y :: .long x :: st) :=
  fun p e s0 m args below meth c0 H locs ls C X hl => lv_lxor C.1 C.2.1 hd (k p e s0 m args below meth c0 H locs ls C X hl)

theorem mw_idiv {x y : Int32} (hd : decode cc pc = .ok (.idiv, 1)) (h0 : ¬ y = 0) (k : MW l E cc own nL ret ini R mc ms res n c s σ (pc + 1) L (.int (x / y) :: st)) : MW l E cc own nL ret ini R mc ms res n c s σ pc L (.int y :: .int x :: st) :=
  fun p e s0 m args below meth c0 H locs ls C X hl => lv_idiv C.1 C.2.1 hd h0 (k p e s0 m args below meth c0 H locs ls C X hl)

theorem mw_irem {x y : Int32} (hd : decode cc pc = .ok (.irem, 1)) (h0 : ¬ y = 0) (k : MW l E cc own nL ret ini R mc ms res n c s σ (pc + 1) L (.int (x - x / y * y) :: st)) : MW l E cc own nL ret ini R mc ms res n c s σ pc L (.int y :: .int x :: st) :=
  fun p e s0 m args below meth c0 H locs ls C X hl => lv_irem C.1 C.2.1 hd h0 (k p e s0 m args below meth c0 H locs ls C X hl)

theorem mw_ldiv {x y : Int64} (hd : decode cc pc = .ok (.ldiv, 1)) (h0 : ¬ y = 0) (k : MW l E cc own nL ret ini R mc ms res n c s σ (pc + 1) L (.long (x / y) :: st)) : MW l E cc own nL ret ini R mc ms res n c s σ pc L (.long y :: .long x :: st) :=
  fun p e s0 m args below meth c0 H locs ls C X hl => lv_ldiv C.1 C.2.1 hd h0 (k p e s0 m args below meth c0 H locs ls C X hl)

theorem mw_lrem {x y : Int64} (hd : decode cc pc = .ok (.lrem, 1)) (h0 : ¬ y = 0) (k : MW l E cc own nL ret ini R mc ms res n c s σ (pc + 1) L (.long (x - x / y * y) :: st)) : MW l E cc own nL ret ini R mc ms res n c s σ pc L (.long y :: .long x :: st) :=
  fun p e s0 m args below meth c0 H locs ls C X hl => lv_lrem C.1 C.2.1 hd h0 (k p e s0 m args below meth c0 H locs ls C X hl)

theorem mw_ineg {x : Int32} (hd : decode cc pc = .ok (.ineg, 1)) (k : MW l E cc own nL ret ini R mc ms res n c s σ (pc + 1) L (.int (-x) :: st)) : MW l E cc own nL ret ini R mc ms res n c s σ pc L (.int x :: st) :=
  fun p e s0 m args below meth c0 H locs ls C X hl => lv_ineg C.1 C.2.1 hd (k p e s0 m args below meth c0 H locs ls C X hl)

theorem mw_lneg {x : Int64} (hd : decode cc pc = .ok (.lneg, 1)) (k : MW l E cc own nL ret ini R mc ms res n c s σ (pc + 1) L (.long (-x) :: st)) : MW l E cc own nL ret ini R mc ms res n c s σ pc L (.long x :: st) :=
  fun p e s0 m args below meth c0 H locs ls C X hl => lv_lneg C.1 C.2.1 hd (k p e s0 m args below meth c0 H locs ls C X hl)

theorem mw_ishl {x y : Int32} (hd : decode cc pc = .ok (.ishl, 1)) (k : MW l E cc own nL ret ini R mc ms res n c s σ (pc + 1) L (.int (x <<< (y &&& 31)) :: st)) : MW l E cc own nL ret ini R mc ms res n c s σ pc L (.int y :: .int x :: st) :=
  fun p e s0 m args below meth c0 H locs ls C X hl => lv_ishl C.1 C.2.1 hd (k p e s0 m args below meth c0 H locs ls C X hl)

theorem mw_ishr {x y : Int32} (hd : decode cc pc = .ok (.ishr, 1)) (k : MW l E cc own nL ret ini R mc ms res n c s σ (pc + 1) L (.int (x >>> (y &&& 31)) :: st)) : MW l E cc own nL ret ini R mc ms res n c s σ pc L (.int y :: .int x :: st) :=
  fun p e s0 m args below meth c0 H locs ls C X hl => lv_ishr C.1 C.2.1 hd (k p e s0 m args below meth c0 H locs ls C X hl)

theorem mw_iushr {x y : Int32} (hd : decode cc pc = .ok (.iushr, 1)) (k : MW l E cc own nL ret ini R mc ms res n c s σ (pc + 1) L (.int ((x.toUInt32 >>> (y.toUInt32 &&& Int32.toUInt32 31)).toInt32) :: st)) : MW l E cc own nL ret ini R mc ms res n c s σ pc L (.int y :: .int x :: st) :=
  fun p e s0 m args below meth c0 H locs ls C X hl => lv_iushr C.1 C.2.1 hd rfl (k p e s0 m args below meth c0 H locs ls C X hl)

theorem mw_lshl {x : Int64} {y : Int32} (hd : decode cc pc = .ok (.lshl, 1)) (k : MW l E cc own nL ret ini R mc ms res n c s σ (pc + 1) L (.long (x <<< (y.toInt64 &&& 63)) :: st)) : MW l E cc own nL ret ini R mc ms res n c s σ pc L (.int y :: .long x :: st) :=
  fun p e s0 m args below meth c0 H locs ls C X hl => lv_lshl C.1 C.2.1 hd rfl (k p e s0 m args below meth c0 H locs ls C X hl)

theorem mw_i2l {x : Int32} (hd : decode cc pc = .ok (.i2l, 1)) (k : MW l E cc own nL ret ini R mc ms res n c s σ (pc + 1) L (.long (x.toInt64) :: st)) : MW l E cc own nL ret ini R mc ms res n c s σ pc L (.int x :: st) :=
  fun p e s0 m args below meth c0 H locs ls C X hl => lv_i2l C.1 C.2.1 hd rfl (k p e s0 m args below meth c0 H locs ls C X hl)

theorem mw_l2i {x : Int64} (hd : decode cc pc = .ok (.l2i, 1)) (k : MW l E cc own nL ret ini R mc ms res n c s σ (pc + 1) L (.int (x.toInt32) :: st)) : MW l E cc own nL ret ini R mc ms res n c s σ pc L (.long x :: st) :=
  fun p e s0 m args below meth c0 H locs ls C X hl => lv_l2i C.1 C.2.1 hd rfl (k p e s0 m args below meth c0 H locs ls C X hl)

theorem mw_i2s {x : Int32} (hd : decode cc pc = .ok (.i2s, 1)) (k : MW l E cc own nL ret ini R mc ms res n c s σ (pc + 1) L (.int (x.toInt16.toInt32) :: st)) : MW l E cc own nL ret ini R mc ms res n c s σ pc L (.int x :: st) :=
  fun p e s0 m args below meth c0 H locs ls C X hl => lv_i2s C.1 C.2.1 hd rfl (k p e s0 m args below meth c0 H locs ls C X hl)

theorem mw_dup {v : Value} (hd : decode cc pc = .ok (.dup, 1)) (hv : v.category = 1) (k : MW l E cc own nL ret ini R mc ms res n c s σ (pc + 1) L (v :: v :: st)) : MW l E cc own nL ret ini R mc ms res n c s σ pc L (v :: st) :=
  fun p e s0 m args below meth c0 H locs ls C X hl => lv_dup C.1 C.2.1 hd ((mtv_cat E v).trans hv) (k p e s0 m args below meth c0 H locs ls C X hl)
theorem mw_dup2 {v w : Value} (hd : decode cc pc = .ok (.dup2, 1)) (hv : v.category = 1) (hw : w.category = 1) (k : MW l E cc own nL ret ini R mc ms res n c s σ (pc + 1) L (v :: w :: v :: w :: st)) : MW l E cc own nL ret ini R mc ms res n c s σ pc L (v :: w :: st) :=
  fun p e s0 m args below meth c0 H locs ls C X hl => lv_dup2_11 C.1 C.2.1 hd ((mtv_cat E v).trans hv) ((mtv_cat E w).trans hw) (k p e s0 m args below meth c0 H locs ls C X hl)
theorem mw_pop {v : Value} (hd : decode cc pc = .ok (.pop, 1)) (hv : v.category = 1) (k : MW l E cc own nL ret ini R mc ms res n c s σ (pc + 1) L st) : MW l E cc own nL ret ini R mc ms res n c s σ pc L (v :: st) :=
  fun p e s0 m args below meth c0 H locs ls C X hl => lv_pop C.1 C.2.1 hd ((mtv_cat E v).trans hv) (k p e s0 m args below meth c0 H locs ls C X hl)

theorem mw_if_eq {x : Int32} {off : Int} {tgt : Nat} (hd : decode cc pc = .ok (.ifCond .eq off, 3)) (ht : (pc : Int) + off = (tgt : Int)) (kt : x = 0 → MW l E cc own nL ret ini R mc ms res n c s σ tgt L st) (kf : ¬ x = 0 → MW l E cc own nL ret ini R mc ms res n c s σ (pc + 3) L st) : MW l E cc own nL ret ini R mc ms res n c s σ pc L (.int x :: st) :=
  fun p e s0 m args below meth c0 H locs ls C X hl => lv_if_eq C.1 C.2.1 hd ht (fun h => kt h p e s0 m args below meth c0 H locs ls C X hl) (fun h => kf h p e s0 m args below meth c0 H locs ls C X hl)

theorem mw_if_ne {x : Int32} {off : Int} {tgt : Nat} (hd : decode cc pc = .ok (.ifCond .ne off, 3)) (ht : (pc : Int) + off = (tgt : Int)) (kt : ¬ x = 0 → MW l E cc own nL ret ini R mc ms res n c s σ tgt L st) (kf : x = 0 → MW l E cc own nL ret ini R mc ms res n c s σ (pc + 3) L st) : MW l E cc own nL ret ini R mc ms res n c s σ pc L (.int x :: st) :=
  fun p e s0 m args below meth c0 H locs ls C X hl => lv_if_ne C.1 C.2.1 hd ht (fun h => kt h p e s0 m args below meth c0 H locs ls C X hl) (fun h => kf h p e s0 m args below meth c0 H locs ls C X hl)

theorem mw_if_lt {x : Int32} {off : Int} {tgt : Nat} (hd : decode cc pc = .ok (.ifCond .lt off, 3)) (ht : (pc : Int) + off = (tgt : Int)) (kt : x < 0 → MW l E cc own nL ret ini R mc ms res n c s σ tgt L st) (kf : ¬ x < 0 → MW l E cc own nL ret ini R mc ms res n c s σ (pc + 3) L st) : MW l E cc own nL ret ini R mc ms res n c s σ pc L (.int x :: st) :=
  fun p e s0 m args below meth c0 H locs ls C X hl => lv_if_lt C.1 C.2.1 hd ht (fun h => kt h p e s0 m args below meth c0 H locs ls C X hl) (fun h => kf h p e s0 m args below meth c0 H locs ls C X hl)

theorem mw_if_ge {x : Int32} {off : Int} {tgt : Nat} (hd : decode cc pc = .ok (.ifCond .ge off, 3)) (ht : (pc : Int) + off = (tgt : Int)) (kt : 0 ≤ x → MW l E cc own nL ret ini R mc ms res n c s σ tgt L st) (kf : ¬ 0 ≤ x → MW l E cc own nL ret ini R mc ms res n c s σ (pc + 3) L st) : MW l E cc own nL ret ini R mc ms res n c s σ pc L (.int x :: st) :=
  fun p e s0 m args below meth c0 H locs ls C X hl => lv_if_ge C.1 C.2.1 hd ht (fun h => kt h p e s0 m args below meth c0 H locs ls C X hl) (fun h => kf h p e s0 m args below meth c0 H locs ls C X hl)

theorem mw_if_gt {x : Int32} {off : Int} {tgt : Nat} (hd : decode cc pc = .ok (.ifCond .gt off, 3)) (ht : (pc : Int) + off = (tgt : Int)) (kt : 0 < x → MW l E cc own nL ret ini R mc ms res n c s σ tgt L st) (kf : ¬ 0 < x → MW l E cc own nL ret ini R mc ms res n c s σ (pc + 3) L st) : MW l E cc own nL ret ini R mc ms res n c s σ pc L (.int x :: st) :=
  fun p e s0 m args below meth c0 H locs ls C X hl => lv_if_gt C.1 C.2.1 hd ht (fun h => kt h p e s0 m args below meth c0 H locs ls C X hl) (fun h => kf h p e s0 m args below meth c0 H locs ls C X hl)

theorem mw_if_le {x : Int32} {off : Int} {tgt : Nat} (hd : decode cc pc = .ok (.ifCond .le off, 3)) (ht : (pc : Int) + off = (tgt : Int)) (kt : x ≤ 0 → MW l E cc own nL ret ini R mc ms res n c s σ tgt L st) (kf : ¬ x ≤ 0 → MW l E cc own nL ret ini R mc ms res n c s σ (pc + 3) L st) : MW l E cc own nL ret ini R mc ms res n c s σ pc L (.int x :: st) :=
  fun p e s0 m args below meth c0 H locs ls C X hl => lv_if_le C.1 C.2.1 hd ht (fun h => kt h p e s0 m args below meth c0 H locs ls C X hl) (fun h => kf h p e s0 m args below meth c0 H locs ls C X hl)

theorem mw_icmp_eq {x y : Int32} {off : Int} {tgt : Nat} (hd : decode cc pc = .ok (.if_icmp .eq off, 3)) (ht : (pc : Int) + off = (tgt : Int)) (kt : x = y → MW l E cc own nL ret ini R mc ms res n c s σ tgt L st) (kf : ¬ x = y → MW l E cc own nL ret ini R mc ms res n c s σ (pc + 3) L st) : MW l E cc own nL ret ini R mc ms res n c s σ pc L (.int y :: .int x :: st) :=
  fun p e s0 m args below meth c0 H locs ls C X hl => lv_icmp_eq C.1 C.2.1 hd ht (fun h => kt h p e s0 m args below meth c0 H locs ls C X hl) (fun h => kf h p e s0 m args below meth c0 H locs ls C X hl)

theorem mw_icmp_lt {x y : Int32} {off : Int} {tgt : Nat} (hd : decode cc pc = .ok (.if_icmp .lt off, 3)) (ht : (pc : Int) + off = (tgt : Int)) (kt : x < y → MW l E cc own nL ret ini R mc ms res n c s σ tgt L st) (kf : ¬ x < y → MW l E cc own nL ret ini R mc ms res n c s σ (pc + 3) L st) : MW l E cc own nL ret ini R mc ms res n c s σ pc L (.int y :: .int x :: st) :=
  fun p e s0 m args below meth c0 H locs ls C X hl => lv_icmp_lt C.1 C.2.1 hd ht (fun h => kt h p e s0 m args below meth c0 H locs ls C X hl) (fun h => kf h p e s0 m args below meth c0 H locs ls C X hl)

theorem mw_icmp_ge {x y : Int32} {off : Int} {tgt : Nat} (hd : decode cc pc = .ok (.if_icmp .ge off, 3)) (ht : (pc : Int) + off = (tgt : Int)) (kt : y ≤ x → MW l E cc own nL ret ini R mc ms res n c s σ tgt L st) (kf : ¬ y ≤ x → MW l E cc own nL ret ini R mc ms res n c s σ (pc + 3) L st) : MW l E cc own nL ret ini R mc ms res n c s σ pc L (.int y :: .int x :: st) :=
  fun p e s0 m args below meth c0 H locs ls C X hl => lv_icmp_ge C.1 C.2.1 hd ht (fun h => kt h p e s0 m args below meth c0 H locs ls C X hl) (fun h => kf h p e s0 m args below meth c0 H locs ls C X hl)

theorem mw_icmp_gt {x y : Int32} {off : Int} {tgt : Nat} (hd : decode cc pc = .ok (.if_icmp .gt off, 3)) (ht : (pc : Int) + off = (tgt : Int)) (kt : y < x → MW l E cc own nL ret ini R mc ms res n c s σ tgt L st) (kf : ¬ y < x → MW l E cc own nL ret ini R mc ms res n c s σ (pc + 3) L st) : MW l E cc own nL ret ini R mc ms res n c s σ pc L (.int y :: .int x :: st) :=
  fun p e s0 m args below meth c0 H locs ls C X hl => lv_icmp_gt C.1 C.2.1 hd ht (fun h => kt h p e s0 m args below meth c0 H locs ls C X hl) (fun h => kf h p e s0 m args below meth c0 H locs ls C X hl)

theorem mw_icmp_le {x y : Int32} {off : Int} {tgt : Nat} (hd : decode cc pc = .ok (.if_icmp .le off, 3)) (ht : (pc : Int) + off = (tgt : Int)) (kt : x ≤ y → MW l E cc own nL ret ini R mc ms res n c s σ tgt L st) (kf : ¬ x ≤ y → MW l E cc own nL ret ini R mc ms res n c s σ (pc + 3) L st) : MW l E cc own nL ret ini R mc ms res n c s σ pc L (.int y :: .int x :: st) :=
  fun p e s0 m args below meth c0 H locs ls C X hl => lv_icmp_le C.1 C.2.1 hd ht (fun h => kt h p e s0 m args below meth c0 H locs ls C X hl) (fun h => kf h p e s0 m args below meth c0 H locs ls C X hl)

theorem mw_icmp_ne {x y : Int32} {off : Int} {tgt : Nat} (hd : decode cc pc = .ok (.if_icmp .ne off, 3)) (ht : (pc : Int) + off = (tgt : Int)) (kt : ¬ x = y → MW l E cc own nL ret ini R mc ms res n c s σ tgt L st) (kf : x = y → MW l E cc own nL ret ini R mc ms res n c s σ (pc + 3) L st) : MW l E cc own nL ret ini R mc ms res n c s σ pc L (.int y :: .int x :: st) :=
  fun p e s0 m args below meth c0 H locs ls C X hl => lv_icmp_ne C.1 C.2.1 hd ht (fun h => kt h p e s0 m args below meth c0 H locs ls C X hl) (fun h => kf h p e s0 m args below meth c0 H locs ls C X hl)
theorem mw_goto {off : Int} {tgt : Nat} (hd : decode cc pc = .ok (.goto off, 3)) (ht : (pc : Int) + off = (tgt : Int)) (k : MW l E cc own nL ret ini R mc ms res n c s σ tgt L st) : MW l E cc own nL ret ini R mc ms res n c s σ pc L st :=
  fun p e s0 m args below meth c0 H locs ls C X hl => lv_goto C.1 C.2.1 hd ht (k p e s0 m args below meth c0 H locs ls C X hl)

theorem mw_lcmp {x y : Int64} (hd : decode cc pc = .ok (.lcmp, 1)) (k : MW l E cc own nL ret ini R mc ms res n c s σ (pc + 1) L (.int (lg_cmp x y) :: st)) : MW l E cc own nL ret ini R mc ms res n c s σ pc L (.long y :: .long x :: st) :=
  fun p e s0 m args below meth c0 H locs ls C X hl => W.lcmp C.1 C.2.1 hd (k p e s0 m args below meth c0 H locs ls C X hl)

theorem mw_lc_eq {x y : Int64} {off : Int} {tgt : Nat} (hd0 : decode cc pc = .ok (.lcmp, 1)) (hd : decode cc (pc + 1) = .ok (.ifCond .eq off, 3)) (ht : ((pc + 1 : Nat) : Int) + off = (tgt : Int)) (kt : x = y → MW l E cc own nL ret ini R mc ms res n c s σ tgt L st) (kf : ¬ x = y → MW l E cc own nL ret ini R mc ms res n c s σ (pc + 1 + 3) L st) : MW l E cc own nL ret ini R mc ms res n c s σ pc L (.long y :: .long x :: st) :=
  mw_lcmp hd0 (mw_if_eq hd ht (fun h => kt ((lg_cmp_eq x y).mp h)) (fun h => kf (fun q => h ((lg_cmp_eq x y).mpr q))))

theorem mw_lc_ne {x y : Int64} {off : Int} {tgt : Nat} (hd0 : decode cc pc = .ok (.lcmp, 1)) (hd : decode cc (pc + 1) = .ok (.ifCond .ne off, 3)) (ht : ((pc + 1 : Nat) : Int) + off = (tgt : Int)) (kt : ¬ x = y → MW l E cc own nL ret ini R mc ms res n c s σ tgt L st) (kf : x = y → MW l E cc own nL ret ini R mc ms res n c s σ (pc + 1 + 3) L st) : MW l E cc own nL ret ini R mc ms res n c s σ pc L (.long y :: .long x :: st) :=
  mw_lcmp hd0 (mw_if_ne hd ht (fun h => kt (fun q => h ((lg_cmp_eq x y).mpr q))) (fun h => kf ((lg_cmp_eq x y).mp h)))

theorem mw_lc_lt {x y : Int64} {off : Int} {tgt : Nat} (hd0 : decode cc pc = .ok (.lcmp, 1)) (hd : decode cc (pc + 1) = .ok (.ifCond .lt off, 3)) (ht : ((pc + 1 : Nat) : Int) + off = (tgt : Int)) (kt : x < y → MW l E cc own nL ret ini R mc ms res n c s σ tgt L st) (kf : ¬ x < y → MW l E cc own nL ret ini R mc ms res n c s σ (pc + 1 + 3) L st) : MW l E cc own nL ret ini R mc ms res n c s σ pc L (.long y :: .long x :: st) :=
  mw_lcmp hd0 (mw_if_lt hd ht (fun h => kt ((lg_cmp_lt x y).mp h)) (fun h => kf (fun q => h ((lg_cmp_lt x y).mpr q))))

theorem mw_lc_ge {x y : Int64} {off : Int} {tgt : Nat} (hd0 : decode cc pc = .ok (.lcmp, 1)) (hd : decode cc (pc + 1) = .ok (.ifCond .ge off, 3)) (ht : ((pc + 1 : Nat) : Int) + off = (tgt : Int)) (kt : y ≤ x → MW l E cc own nL ret ini R mc ms res n c s σ tgt L st) (kf : ¬ y ≤ x → MW l E cc own nL ret ini R mc ms res n c s σ (pc + 1 + 3) L st) : MW l E cc own nL ret ini R mc ms res n c s σ pc L (.long y :: .long x :: st) :=
  mw_lcmp hd0 (mw_if_ge hd ht (fun h => kt ((lg_cmp_ge x y).mp h)) (fun h => kf (fun q => h ((lg_cmp_ge x y).mpr q))))

theorem mw_lc_gt {x y : Int64} {off : Int} {tgt : Nat} (hd0 : decode cc pc = .ok (.lcmp, 1)) (hd : decode cc (pc + 1) = .ok (.ifCond .gt off, 3)) (ht : ((pc + 1 : Nat) : Int) + off = (tgt : Int)) (kt : y < x → MW l E cc own nL ret ini R mc ms res n c s σ tgt L st) (kf : ¬ y < x → MW l E cc own nL ret ini R mc ms res n c s σ (pc + 1 + 3) L st) : MW l E cc own nL ret ini R mc ms res n c s σ pc L (.long y :: .long x :: st) :=
  mw_lcmp hd0 (mw_if_gt hd ht (fun h => kt ((lg_cmp_gt x y).mp h)) (fun h => kf (fun q => h ((lg_cmp_gt x y).mpr q))))

theorem mw_lc_le {x y : Int64} {off : Int} {tgt : Nat} (hd0 : decode cc pc = .ok (.lcmp, 1)) (hd : decode cc (pc + 1) = .ok (.ifCond .le off, 3)) (ht : ((pc + 1 : Nat) : Int) + off = (tgt : Int)) (kt : x ≤ y → MW l E cc own nL ret ini R mc ms res n c s σ tgt L st) (kf : ¬ x ≤ y → MW l E cc own nL ret ini R mc ms res n c s σ (pc + 1 + 3) L st) : MW l E cc own nL ret ini R mc ms res n c s σ pc L (.long y :: .long x :: st) :=
  mw_lcmp hd0 (mw_if_le hd ht (fun h => kt ((lg_cmp_le x y).mp h)) (fun h => kf (fun q => h ((lg_cmp_le x y).mpr q))))

theorem mw_ldc {i0 : Nat} {v : Int32} (hd : decode cc pc = .ok (.ldc i0, 2)) (hw : Cond.constant own i0 v ∈ mWT) (k : MW l E cc own nL ret ini R mc ms res n c s σ (pc + 2) L (.int v :: st)) : MW l E cc own nL ret ini R mc ms res n c s σ pc L st :=
  fun p e s0 m args below meth c0 H locs ls C X hl => lv_ldc C.1 C.2.1 C.2.2.2.2.2.1 (C.2.2.2.2.1 _ hw) hd (k p e s0 m args below meth c0 H locs ls C X hl)
theorem mw_ldcw {i0 : Nat} {v : Int32} (hd : decode cc pc = .ok (.ldc_w i0, 3)) (hw : Cond.constant own i0 v ∈ mWT) (k : MW l E cc own nL ret ini R mc ms res n c s σ (pc + 3) L (.int v :: st)) : MW l E cc own nL ret ini R mc ms res n c s σ pc L st :=
  fun p e s0 m args below meth c0 H locs ls C X hl => lv_ldcw C.1 C.2.1 C.2.2.2.2.2.1 (C.2.2.2.2.1 _ hw) hd (k p e s0 m args below meth c0 H locs ls C X hl)
theorem mw_ldc2 {i0 : Nat} {v : Int64} (hd : decode cc pc = .ok (.ldc2_w i0, 3)) (hw : Cond.constantLong own i0 v ∈ mWT) (k : MW l E cc own nL ret ini R mc ms res n c s σ (pc + 3) L (.long v :: st)) : MW l E cc own nL ret ini R mc ms res n c s σ pc L st :=
  fun p e s0 m args below meth c0 H locs ls C X hl => lv_ldc2 C.1 C.2.1 C.2.2.2.2.2.1 (C.2.2.2.2.1 _ hw) hd (k p e s0 m args below meth c0 H locs ls C X hl)

theorem mw_get {k j ci i0 : Nat} {ref C0 : String} {T : u_T} {N : Nat} {v : Value} (hd : decode cc pc = .ok (.getfield i0, 3)) (hk : k < n) (hs : mshp k = .inr ci) (hc : vwCl[ci]? = some (C0, T, N)) (hN : mnF ci = N) (hj : j < N) (hin : ∀ w ∈ u_ws C0 T N, w ∈ mWT) (hw : Cond.fieldLink own i0 ref (T j).2.1 (T j).2.2.1 ∈ mWT) (hsm : ref = (T j).1 ∨ Cond.sameField ref (T j).1 (T j).2.1 (T j).2.2.1 ∈ mWT) (hv : mfv (mft ci j) σ k j = v) (kk : MW l E cc own nL ret ini R mc ms res n c s σ (pc + 3) L (v :: st)) : MW l E cc own nL ret ini R mc ms res n c s σ pc L (.ref k :: st) := by
  intro p e s0 m args below meth c0 H locs ls C X hl
  have hn : k < 1000 := Nat.lt_of_lt_of_le hk X.1
  have ha : (mwd E n σ)[k]? = some (mad E k, .inr (ci, (List.range (mnF ci)).map (fun j => maf E (mft ci j) σ k j))) := by rw [mwd_at hk, mcel_obj hs]
  have hf : ((List.range (mnF ci)).map (fun j => maf E (mft ci j) σ k j))[j]? = some (mtv E v) := by
    rw [← hv, mtv_mfv, hN]
    simp [hj]
  refine va_get C.1 C.2.1 C.2.2.2.2.1 hin C.2.2.2.2.2.1 C.2.2.2.2.2.2.2.1.1 X.2.2.2.1 k ha hc j hj (C.2.2.2.2.1 _ hw) (fun x hx => ?_) hf hd (kk p e s0 m args below meth c0 H locs ls C X hl)
  rcases hsm with h | h
  · rw [h]; exact hx
  · exact u_same (C.2.2.2.2.1 _ h) x hx
theorem maf_uI {E : MX} {σ : MSt} {k j i : Nat} {v : Int32} {ty : FieldType} (h : i = j → ty = .int ∨ ty = .boolean) : maf E ty (muI σ k j v) k i = if i = j then .int v else maf E ty σ k i := by
  by_cases q : i = j
  · subst q
    rw [if_pos rfl]
    rcases h rfl with r | r <;> subst r <;> simp [maf, mmI_uI]
  · rw [if_neg q]
    exact maf_congr (by rw [mmI_uI, if_neg (fun z => q z.2)]) rfl rfl
theorem maf_uL {E : MX} {σ : MSt} {k j i : Nat} {v : Int64} {ty : FieldType} (h : i = j → ty = .long) : maf E ty (muL σ k j v) k i = if i = j then .long v else maf E ty σ k i := by
  by_cases q : i = j
  · subst q
    rw [if_pos rfl]
    rw [h rfl]
    simp [maf, mmL_uL]
  · rw [if_neg q]
    exact maf_congr rfl (by rw [mmL_uL, if_neg (fun z => q z.2)]) rfl
theorem maf_uR {E : MX} {σ : MSt} {k j i : Nat} {v : Option Nat} {ty : FieldType} (h : i = j → mfr ty = true) : maf E ty (muR σ k j v) k i = if i = j then va_rf (v.map (mad E)) else maf E ty σ k i := by
  by_cases q : i = j
  · subst q
    rw [if_pos rfl]
    have h := h rfl
    cases ty <;> first | (simp [mfr] at h; done) | simp [maf, mmR_uR]
  · rw [if_neg q]
    exact maf_congr rfl rfl (by rw [mmR_uR, if_neg (fun z => q z.2)])
theorem mset_map {α : Type} (N j : Nat) (f g : Nat → α) (v : α) (h : ∀ i, g i = if i = j then v else f i) : ((List.range N).map f).set j v = (List.range N).map g := by
  apply List.ext_getElem?
  intro i
  by_cases hi : i = j
  · subst hi
    by_cases hN : i < N
    · rw [List.getElem?_set_self (by simpa using hN)]
      simp [hN, h]
    · rw [List.getElem?_eq_none (by simp; omega), List.getElem?_eq_none (by simp; omega)]
  · rw [List.getElem?_set_ne (Ne.symm hi)]
    by_cases hN : i < N
    · simp [hN, h, hi]
    · rw [List.getElem?_eq_none (by simp; omega), List.getElem?_eq_none (by simp; omega)]
theorem mw_put0 {k j ci i0 : Nat} {ref C0 : String} {T : u_T} {N : Nat} {v : Value} {ty : FieldType} (ty0 : Nat → FieldType) (hty : ∀ k, k < N → parseFieldDescriptor (T k).2.2.1 = some (ty0 k)) (hnm : ∀ a, a < N → ∀ b, b < N → a ≠ b → (T a).2.1 ≠ (T b).2.1) (hd : decode cc pc = .ok (.putfield i0, 3)) (hk : k < n) (hs : mshp k = .inr ci) (hc : vwCl[ci]? = some (C0, T, N)) (hN : mnF ci = N) (hj : j < N) (hin : ∀ w ∈ u_ws C0 T N, w ∈ mWT) (hw : Cond.fieldLink own i0 ref (T j).2.1 (T j).2.2.1 ∈ mWT) (hsm : ref = (T j).1 ∨ Cond.sameField ref (T j).1 (T j).2.1 (T j).2.2.1 ∈ mWT) (hfin : (T j).2.2.2 = false ∨ ((T j).2.2.2 = true ∧ ini = true ∧ (T j).1 = own)) (hdt : parseFieldDescriptor (T j).2.2.1 = some ty) (hnar : narrow ty (mtv E v) = mtv E v) (hfit : fits ty (mtv E v) = true) (hσ : (mwd E n σ).set k (mad E k, .inr (ci, ((List.range (mnF ci)).map (fun j => maf E (mft ci j) σ k j)).set j (mtv E v))) = mwd E n σ') (kk : MW l E cc own nL ret ini R mc ms res n c s σ' (pc + 3) L st) : MW l E cc own nL ret ini R mc ms res n c s σ pc L (v :: .ref k :: st) := by
  intro p e s0 m args below meth c0 H locs ls C X hl
  have ha : (mwd E n σ)[k]? = some (mad E k, .inr (ci, (List.range (mnF ci)).map (fun j => maf E (mft ci j) σ k j))) := by rw [mwd_at hk, mcel_obj hs]
  have hsame : ∀ x, s0.fieldFound? (T j).1 (T j).2.1 (T j).2.2.1 = some x → s0.fieldFound? ref (T j).2.1 (T j).2.2.1 = some x := by
    intro x hx
    rcases hsm with h | h
    · rw [h]; exact hx
    · exact u_same (C.2.2.2.2.1 _ h) x hx
  have hlen : j < ((List.range (mnF ci)).map (fun j => maf E (mft ci j) σ k j)).length := by simp [hN, hj]
  have go : ∀ (H1 : Heap) (locs1 : List Loc), va_P E.1 vwCl ((mwd E n σ).set k (mad E k, .inr (ci, ((List.range (mnF ci)).map (fun j => maf E (mft ci j) σ k j)).set j (mtv E v)))) H1 → va_D (fun q => E.2.2.1 ≤ q) ((mwd E n σ).set k (mad E k, .inr (ci, ((List.range (mnF ci)).map (fun j => maf E (mft ci j) σ k j)).set j (mtv E v)))) → va_S (fun q => E.2.2.1 ≤ q) s0.heap H1 locs1 → W p l e R s0 m args below meth c0 H1 locs1 c s (MQ below (MQc E res) args s0 mc ms (fun q => E.2.2.1 ≤ q)) (F0 m (pc + 3) ls (st.map (mtv E))) := by
    intro H1 locs1 hP _ hS
    rw [hσ] at hP
    exact kk p e s0 m args below meth c0 H1 locs1 ls C ⟨X.1, X.2.1, hS, hP, X.2.2.2.2⟩ hl
  rcases hfin with hf | ⟨hf, hi, ho⟩
  · exact va_put C.1 C.2.1 C.2.2.2.2.1 hin ty0 hty hnm C.2.2.2.2.2.1 C.2.2.2.2.2.2.2.1.1 X.2.2.2.1 (mwd_D X.1) X.2.2.1 k ha hc j hj (C.2.2.2.2.1 _ hw) hsame hf hdt hnar hfit hlen hd go
  · exact va_putF C.1 C.2.1 C.2.2.2.2.1 hin ty0 hty hnm C.2.2.2.2.2.1 C.2.2.2.2.2.2.2.1.1 X.2.2.2.1 (mwd_D X.1) X.2.2.1 k ha hc j hj (C.2.2.2.2.1 _ hw) hsame hf (C.2.2.2.2.2.2.2.2 hi) ho hdt hnar hfit hlen hd go

theorem mw_putI {k j ci i0 : Nat} {ref C0 : String} {T : u_T} {N : Nat} {x : Int32} (ty0 : Nat → FieldType) (hty : ∀ k, k < N → parseFieldDescriptor (T k).2.2.1 = some (ty0 k)) (hnm : ∀ a, a < N → ∀ b, b < N → a ≠ b → (T a).2.1 ≠ (T b).2.1) (hd : decode cc pc = .ok (.putfield i0, 3)) (hk : k < n) (hs : mshp k = .inr ci) (hc : vwCl[ci]? = some (C0, T, N)) (hN : mnF ci = N) (hj : j < N) (hin : ∀ w ∈ u_ws C0 T N, w ∈ mWT) (hw : Cond.fieldLink own i0 ref (T j).2.1 (T j).2.2.1 ∈ mWT) (hsm : ref = (T j).1 ∨ Cond.sameField ref (T j).1 (T j).2.1 (T j).2.2.1 ∈ mWT) (hfin : (T j).2.2.2 = false ∨ ((T j).2.2.2 = true ∧ ini = true ∧ (T j).1 = own)) (hdt : parseFieldDescriptor (T j).2.2.1 = some .int) (hm : mft ci j = .int ∨ mft ci j = .boolean) (kk : MW l E cc own nL ret ini R mc ms res n c s (muI σ k j x) (pc + 3) L st) : MW l E cc own nL ret ini R mc ms res n c s σ pc L (.int x :: .ref k :: st) :=
  mw_put0 ty0 hty hnm hd hk hs hc hN hj hin hw hsm hfin hdt rfl rfl (mwd_set hk (by rw [mcel_obj hs]; congr 2; exact (mset_map _ j _ _ _ (fun i => maf_uI (fun q => by rw [q]; exact hm))).symm) (fun a ha => mcel_uI ha)) kk

theorem mw_putZ {k j ci i0 : Nat} {ref C0 : String} {T : u_T} {N : Nat} {x : Int32} (ty0 : Nat → FieldType) (hty : ∀ k, k < N → parseFieldDescriptor (T k).2.2.1 = some (ty0 k)) (hnm : ∀ a, a < N → ∀ b, b < N → a ≠ b → (T a).2.1 ≠ (T b).2.1) (hd : decode cc pc = .ok (.putfield i0, 3)) (hk : k < n) (hs : mshp k = .inr ci) (hc : vwCl[ci]? = some (C0, T, N)) (hN : mnF ci = N) (hj : j < N) (hin : ∀ w ∈ u_ws C0 T N, w ∈ mWT) (hw : Cond.fieldLink own i0 ref (T j).2.1 (T j).2.2.1 ∈ mWT) (hsm : ref = (T j).1 ∨ Cond.sameField ref (T j).1 (T j).2.1 (T j).2.2.1 ∈ mWT) (hfin : (T j).2.2.2 = false ∨ ((T j).2.2.2 = true ∧ ini = true ∧ (T j).1 = own)) (hdt : parseFieldDescriptor (T j).2.2.1 = some .boolean) (hm : mft ci j = .int ∨ mft ci j = .boolean) (hx : x = 0 ∨ x = 1) (kk : MW l E cc own nL ret ini R mc ms res n c s (muI σ k j x) (pc + 3) L st) : MW l E cc own nL ret ini R mc ms res n c s σ pc L (.int x :: .ref k :: st) :=
  mw_put0 ty0 hty hnm hd hk hs hc hN hj hin hw hsm hfin hdt (mb01 hx).1 (mb01 hx).2 (mwd_set hk (by rw [mcel_obj hs]; congr 2; exact (mset_map _ j _ _ _ (fun i => maf_uI (fun q => by rw [q]; exact hm))).symm) (fun a ha => mcel_uI ha)) kk

theorem mw_putL {k j ci i0 : Nat} {ref C0 : String} {T : u_T} {N : Nat} {x : Int64} (ty0 : Nat → FieldType) (hty : ∀ k, k < N → parseFieldDescriptor (T k).2.2.1 = some (ty0 k)) (hnm : ∀ a, a < N → ∀ b, b < N → a ≠ b → (T a).2.1 ≠ (T b).2.1) (hd : decode cc pc = .ok (.putfield i0, 3)) (hk : k < n) (hs : mshp k = .inr ci) (hc : vwCl[ci]? = some (C0, T, N)) (hN : mnF ci = N) (hj : j < N) (hin : ∀ w ∈ u_ws C0 T N, w ∈ mWT) (hw : Cond.fieldLink own i0 ref (T j).2.1 (T j).2.2.1 ∈ mWT) (hsm : ref = (T j).1 ∨ Cond.sameField ref (T j).1 (T j).2.1 (T j).2.2.1 ∈ mWT) (hfin : (T j).2.2.2 = false ∨ ((T j).2.2.2 = true ∧ ini = true ∧ (T j).1 = own)) (hdt : parseFieldDescriptor (T j).2.2.1 = some .long) (hm : mft ci j = .long) (kk : MW l E cc own nL ret ini R mc ms res n c s (muL σ k j x) (pc + 3) L st) : MW l E cc own nL ret ini R mc ms res n c s σ pc L (.long x :: .ref k :: st) :=
  mw_put0 ty0 hty hnm hd hk hs hc hN hj hin hw hsm hfin hdt rfl rfl (mwd_set hk (by rw [mcel_obj hs]; congr 2; exact (mset_map _ j _ _ _ (fun i => maf_uL (fun q => by rw [q]; exact hm))).symm) (fun a ha => mcel_uL ha)) kk

theorem mw_putR {k j ci i0 : Nat} {ref C0 : String} {T : u_T} {N : Nat} {x : Nat} {ty : FieldType} (ty0 : Nat → FieldType) (hty : ∀ k, k < N → parseFieldDescriptor (T k).2.2.1 = some (ty0 k)) (hnm : ∀ a, a < N → ∀ b, b < N → a ≠ b → (T a).2.1 ≠ (T b).2.1) (hd : decode cc pc = .ok (.putfield i0, 3)) (hk : k < n) (hs : mshp k = .inr ci) (hc : vwCl[ci]? = some (C0, T, N)) (hN : mnF ci = N) (hj : j < N) (hin : ∀ w ∈ u_ws C0 T N, w ∈ mWT) (hw : Cond.fieldLink own i0 ref (T j).2.1 (T j).2.2.1 ∈ mWT) (hsm : ref = (T j).1 ∨ Cond.sameField ref (T j).1 (T j).2.1 (T j).2.2.1 ∈ mWT) (hfin : (T j).2.2.2 = false ∨ ((T j).2.2.2 = true ∧ ini = true ∧ (T j).1 = own)) (hdt : parseFieldDescriptor (T j).2.2.1 = some ty) (hm : mfr (mft ci j) = true) (hr : mfr ty = true) (kk : MW l E cc own nL ret ini R mc ms res n c s (muR σ k j (some x)) (pc + 3) L st) : MW l E cc own nL ret ini R mc ms res n c s σ pc L (.ref x :: .ref k :: st) :=
  mw_put0 ty0 hty hnm hd hk hs hc hN hj hin hw hsm hfin hdt (mfr_nar hr _) (mfr_fit hr _) (mwd_set hk (by rw [mcel_obj hs]; congr 2; exact (mset_map _ j _ _ _ (fun i => maf_uR (fun q => by rw [q]; exact hm))).symm) (fun a ha => mcel_uR ha)) kk

theorem mw_iald {k N : Nat} {i : Int32} (hd : decode cc pc = .ok (.iaload, 1)) (hk : k < n) (hs : mshp k = .inl (0, N)) (hi : vp_in i N) (kk : MW l E cc own nL ret ini R mc ms res n c s σ (pc + 1) L (.int (mmI σ k i.toNatClampNeg) :: st)) : MW l E cc own nL ret ini R mc ms res n c s σ pc L (.int i :: .ref k :: st) :=
  fun p e s0 m args below meth c0 H locs ls C X hl => va_iald (tys := mtys E) C.1 C.2.1 C.2.2.2.2.2.2.2.1.1 X.2.2.2.1 k 0 (by rw [mwd_at hk, mcel_arr hs]; rfl) rfl hi hd (kk p e s0 m args below meth c0 H locs ls C X hl)

theorem mw_lald {k N : Nat} {i : Int32} (hd : decode cc pc = .ok (.laload, 1)) (hk : k < n) (hs : mshp k = .inl (1, N)) (hi : vp_in i N) (kk : MW l E cc own nL ret ini R mc ms res n c s σ (pc + 1) L (.long (mmL σ k i.toNatClampNeg) :: st)) : MW l E cc own nL ret ini R mc ms res n c s σ pc L (.int i :: .ref k :: st) :=
  fun p e s0 m args below meth c0 H locs ls C X hl => va_lald (tys := mtys E) C.1 C.2.1 C.2.2.2.2.2.2.2.1.1 X.2.2.2.1 k 1 (by rw [mwd_at hk, mcel_arr hs]; rfl) rfl hi hd (kk p e s0 m args below meth c0 H locs ls C X hl)

theorem mw_zald {k N : Nat} {i : Int32} (hd : decode cc pc = .ok (.baload, 1)) (hk : k < n) (hs : mshp k = .inl (2, N)) (hi : vp_in i N) (kk : MW l E cc own nL ret ini R mc ms res n c s σ (pc + 1) L (.int (mmI σ k i.toNatClampNeg) :: st)) : MW l E cc own nL ret ini R mc ms res n c s σ pc L (.int i :: .ref k :: st) :=
  fun p e s0 m args below meth c0 H locs ls C X hl => va_zald (tys := mtys E) C.1 C.2.1 C.2.2.2.2.2.2.2.1.1 X.2.2.2.1 k 2 (by rw [mwd_at hk, mcel_arr hs]; rfl) rfl hi hd (kk p e s0 m args below meth c0 H locs ls C X hl)

theorem mw_cald {k N : Nat} {i : Int32} (hd : decode cc pc = .ok (.caload, 1)) (hk : k < n) (hs : mshp k = .inl (3, N)) (hi : vp_in i N) (kk : MW l E cc own nL ret ini R mc ms res n c s σ (pc + 1) L (.int (mmI σ k i.toNatClampNeg) :: st)) : MW l E cc own nL ret ini R mc ms res n c s σ pc L (.int i :: .ref k :: st) :=
  fun p e s0 m args below meth c0 H locs ls C X hl => va_cald (tys := mtys E) C.1 C.2.1 C.2.2.2.2.2.2.2.1.1 X.2.2.2.1 k 3 (by rw [mwd_at hk, mcel_arr hs]; rfl) rfl hi hd (kk p e s0 m args below meth c0 H locs ls C X hl)

theorem mw_aald {k N : Nat} {i : Int32} {v : Nat} (hd : decode cc pc = .ok (.aaload, 1)) (hk : k < n) (hs : mshp k = .inl (4, N)) (hi : vp_in i N) (hv : mmR σ k i.toNatClampNeg = some v) (kk : MW l E cc own nL ret ini R mc ms res n c s σ (pc + 1) L (.ref v :: st)) : MW l E cc own nL ret ini R mc ms res n c s σ pc L (.int i :: .ref k :: st) :=
  fun p e s0 m args below meth c0 H locs ls C X hl => va_aldq (tys := mtys E) C.1 C.2.1 C.2.2.2.2.2.2.2.1.1 X.2.2.2.1 k 4 (by rw [mwd_at hk, mcel_arr hs]; rfl) rfl hi hd (by show W _ _ _ _ _ _ _ _ _ _ _ _ _ _ _ (F0 _ _ _ (va_rf ((mmR σ k i.toNatClampNeg).map (mad E)) :: _)); rw [hv]; exact kk p e s0 m args below meth c0 H locs ls C X hl)

theorem mwd_sI0 {k N j : Nat} {v : Int32} (hk : k < n) (hs : mshp k = .inl (0, N)) : (mwd E n σ).set k (mad E k, .inl (E.2.1 0, N, .inl (upd (mmI σ k) j v))) = mwd E n (muI σ k j v) :=
  mwd_set hk ((mcel_arr hs).trans (congrArg (fun f => (Sum.inl (E.2.1 0, N, Sum.inl f) : va_E)) (mmI_upd σ k j v))) (fun a ha => mcel_uI ha)

theorem mwd_sI2 {k N j : Nat} {v : Int32} (hk : k < n) (hs : mshp k = .inl (2, N)) : (mwd E n σ).set k (mad E k, .inl (E.2.1 2, N, .inl (upd (mmI σ k) j v))) = mwd E n (muI σ k j v) :=
  mwd_set hk ((mcel_arr hs).trans (congrArg (fun f => (Sum.inl (E.2.1 2, N, Sum.inl f) : va_E)) (mmI_upd σ k j v))) (fun a ha => mcel_uI ha)

theorem mwd_sI3 {k N j : Nat} {v : Int32} (hk : k < n) (hs : mshp k = .inl (3, N)) : (mwd E n σ).set k (mad E k, .inl (E.2.1 3, N, .inl (upd (mmI σ k) j v))) = mwd E n (muI σ k j v) :=
  mwd_set hk ((mcel_arr hs).trans (congrArg (fun f => (Sum.inl (E.2.1 3, N, Sum.inl f) : va_E)) (mmI_upd σ k j v))) (fun a ha => mcel_uI ha)

theorem mwd_sL1 {k N j : Nat} {v : Int64} (hk : k < n) (hs : mshp k = .inl (1, N)) : (mwd E n σ).set k (mad E k, .inl (E.2.1 1, N, .inr (.inl (vp_updL (mmL σ k) j v)))) = mwd E n (muL σ k j v) :=
  mwd_set hk ((mcel_arr hs).trans (congrArg (fun f => (Sum.inl (E.2.1 1, N, Sum.inr (Sum.inl f)) : va_E)) (mmL_upd σ k j v))) (fun a ha => mcel_uL ha)
theorem mwd_cI0 {k0 k N sp dp z : Nat} (hk : k < n) (hs : mshp k = .inl (0, N)) : (mwd E n σ).set k (mad E k, .inl (E.2.1 0, N, .inl (va_cpy (mmI σ k0) (mmI σ k) sp dp z))) = mwd E n (mcpI σ k0 sp k dp z) :=
  mwd_set hk ((mcel_arr hs).trans (congrArg (fun f => (Sum.inl (E.2.1 0, N, Sum.inl f) : va_E)) (mmI_cp σ k0 sp k dp z))) (fun a ha => mcpI_cel ha)
theorem mwd_cL1 {k0 k N sp dp z : Nat} (hk : k < n) (hs : mshp k = .inl (1, N)) : (mwd E n σ).set k (mad E k, .inl (E.2.1 1, N, .inr (.inl (va_cpy (mmL σ k0) (mmL σ k) sp dp z)))) = mwd E n (mcpL σ k0 sp k dp z) :=
  mwd_set hk ((mcel_arr hs).trans (congrArg (fun f => (Sum.inl (E.2.1 1, N, Sum.inr (Sum.inl f)) : va_E)) (mmL_cp σ k0 sp k dp z))) (fun a ha => mcpL_cel ha)

theorem mw_iast {k N : Nat} {i : Int32} {x : Int32} (hd : decode cc pc = .ok (.iastore, 1)) (hk : k < n) (hs : mshp k = .inl (0, N)) (hi : vp_in i N) (kk : MW l E cc own nL ret ini R mc ms res n c s (muI σ k i.toNatClampNeg x) (pc + 1) L st) : MW l E cc own nL ret ini R mc ms res n c s σ pc L (.int x :: .int i :: .ref k :: st) :=
  fun p e s0 m args below meth c0 H locs ls C X hl => va_iast (tys := mtys E) C.1 C.2.1 C.2.2.2.2.2.2.2.1.1 X.2.2.2.1 (mwd_D X.1) X.2.2.1 k 0 (by rw [mwd_at hk, mcel_arr hs]; rfl) rfl hi hd (fun H1 locs1 hP _ hS => kk p e s0 m args below meth c0 H1 locs1 ls C ⟨X.1, X.2.1, hS, by rw [← mwd_sI0 hk hs]; exact hP, X.2.2.2.2⟩ hl)

theorem mw_last {k N : Nat} {i : Int32} {x : Int64} (hd : decode cc pc = .ok (.lastore, 1)) (hk : k < n) (hs : mshp k = .inl (1, N)) (hi : vp_in i N) (kk : MW l E cc own nL ret ini R mc ms res n c s (muL σ k i.toNatClampNeg x) (pc + 1) L st) : MW l E cc own nL ret ini R mc ms res n c s σ pc L (.long x :: .int i :: .ref k :: st) :=
  fun p e s0 m args below meth c0 H locs ls C X hl => va_last (tys := mtys E) C.1 C.2.1 C.2.2.2.2.2.2.2.1.1 X.2.2.2.1 (mwd_D X.1) X.2.2.1 k 1 (by rw [mwd_at hk, mcel_arr hs]; rfl) rfl hi hd (fun H1 locs1 hP _ hS => kk p e s0 m args below meth c0 H1 locs1 ls C ⟨X.1, X.2.1, hS, by rw [← mwd_sL1 hk hs]; exact hP, X.2.2.2.2⟩ hl)

theorem mw_zast {k N : Nat} {i : Int32} {x : Int32} (hd : decode cc pc = .ok (.bastore, 1)) (hk : k < n) (hs : mshp k = .inl (2, N)) (hi : vp_in i N) (kk : MW l E cc own nL ret ini R mc ms res n c s (muI σ k i.toNatClampNeg (vp_nar .boolean x)) (pc + 1) L st) : MW l E cc own nL ret ini R mc ms res n c s σ pc L (.int x :: .int i :: .ref k :: st) :=
  fun p e s0 m args below meth c0 H locs ls C X hl => va_zast (tys := mtys E) C.1 C.2.1 C.2.2.2.2.2.2.2.1.1 X.2.2.2.1 (mwd_D X.1) X.2.2.1 k 2 (by rw [mwd_at hk, mcel_arr hs]; rfl) rfl hi hd (fun H1 locs1 hP _ hS => kk p e s0 m args below meth c0 H1 locs1 ls C ⟨X.1, X.2.1, hS, by rw [← mwd_sI2 hk hs]; exact hP, X.2.2.2.2⟩ hl)

theorem mw_cast {k N : Nat} {i : Int32} {x : Int32} (hd : decode cc pc = .ok (.castore, 1)) (hk : k < n) (hs : mshp k = .inl (3, N)) (hi : vp_in i N) (kk : MW l E cc own nL ret ini R mc ms res n c s (muI σ k i.toNatClampNeg (vp_nar .char x)) (pc + 1) L st) : MW l E cc own nL ret ini R mc ms res n c s σ pc L (.int x :: .int i :: .ref k :: st) :=
  fun p e s0 m args below meth c0 H locs ls C X hl => va_cast (tys := mtys E) C.1 C.2.1 C.2.2.2.2.2.2.2.1.1 X.2.2.2.1 (mwd_D X.1) X.2.2.1 k 3 (by rw [mwd_at hk, mcel_arr hs]; rfl) rfl hi hd (fun H1 locs1 hP _ hS => kk p e s0 m args below meth c0 H1 locs1 ls C ⟨X.1, X.2.1, hS, by rw [← mwd_sI3 hk hs]; exact hP, X.2.2.2.2⟩ hl)

theorem mw_copyI {k0 k1 N0 N1 i0 : Nat} {sp dp z : Int32} (hd : decode cc pc = .ok (.invokestatic i0, 3)) (hw1 : Cond.methodLink own i0 arraycopyName ∈ mWT) (hw2 : Cond.native arraycopyName ∈ mWT) (hw3 : Cond.static arraycopyName ∈ mWT) (hw4 : Cond.initialized "java/lang/System" ∈ mWT) (hk0 : k0 < n) (hk1 : k1 < n) (hs0 : mshp k0 = .inl (0, N0)) (hs1 : mshp k1 = .inl (0, N1)) (h1 : ¬ sp < 0) (h2 : ¬ dp < 0) (h3 : ¬ z < 0) (h4 : sp.toNatClampNeg + z.toNatClampNeg ≤ N0) (h5 : dp.toNatClampNeg + z.toNatClampNeg ≤ N1) (hR : 1 ≤ R.frames) (hR2 : (st.map fun v => v.category).sum + (nativeFrameWords "java/lang/System" "arraycopy" 5 + 11) ≤ R.locals) (kk : MW l E cc own nL ret ini R mc ms res n c s (mcpI σ k0 sp.toNatClampNeg k1 dp.toNatClampNeg z.toNatClampNeg) (pc + 3) L st) : MW l E cc own nL ret ini R mc ms res n c s σ pc L (.int z :: .int dp :: .ref k1 :: .int sp :: .ref k0 :: st) :=
  fun p e s0 m args below meth c0 H locs ls C X hl => va_copyi (tys := mtys E) C.1 C.2.1 (C.2.2.2.1.trans hl.1.symm) C.2.2.2.2.2.1 (C.2.2.2.2.1 _ hw1) (C.2.2.2.2.1 _ hw2) (C.2.2.2.2.1 _ hw3) (C.2.2.2.2.1 _ hw4) C.2.2.2.2.2.2.2.1.1 X.2.2.2.1 (mwd_D X.1) X.2.2.1 k0 k1 0 0 (ty := .int) (by rw [mwd_at hk0, mcel_arr hs0]; rfl) (by rw [mwd_at hk1, mcel_arr hs1]; rfl) rfl rfl rfl h1 h2 h3 h4 h5 (fun _ _ => rfl) hR (by rw [mcatsum]; exact hR2) hd (fun H1 locs1 hP _ hS => kk p e s0 m args below meth c0 H1 locs1 ls C ⟨X.1, X.2.1, hS, by rw [← mwd_cI0 hk1 hs1]; exact hP, X.2.2.2.2⟩ hl)

theorem mw_copyL {k0 k1 N0 N1 i0 : Nat} {sp dp z : Int32} (hd : decode cc pc = .ok (.invokestatic i0, 3)) (hw1 : Cond.methodLink own i0 arraycopyName ∈ mWT) (hw2 : Cond.native arraycopyName ∈ mWT) (hw3 : Cond.static arraycopyName ∈ mWT) (hw4 : Cond.initialized "java/lang/System" ∈ mWT) (hk0 : k0 < n) (hk1 : k1 < n) (hs0 : mshp k0 = .inl (1, N0)) (hs1 : mshp k1 = .inl (1, N1)) (h1 : ¬ sp < 0) (h2 : ¬ dp < 0) (h3 : ¬ z < 0) (h4 : sp.toNatClampNeg + z.toNatClampNeg ≤ N0) (h5 : dp.toNatClampNeg + z.toNatClampNeg ≤ N1) (hR : 1 ≤ R.frames) (hR2 : (st.map fun v => v.category).sum + (nativeFrameWords "java/lang/System" "arraycopy" 5 + 11) ≤ R.locals) (kk : MW l E cc own nL ret ini R mc ms res n c s (mcpL σ k0 sp.toNatClampNeg k1 dp.toNatClampNeg z.toNatClampNeg) (pc + 3) L st) : MW l E cc own nL ret ini R mc ms res n c s σ pc L (.int z :: .int dp :: .ref k1 :: .int sp :: .ref k0 :: st) :=
  fun p e s0 m args below meth c0 H locs ls C X hl => va_copyl (tys := mtys E) C.1 C.2.1 (C.2.2.2.1.trans hl.1.symm) C.2.2.2.2.2.1 (C.2.2.2.2.1 _ hw1) (C.2.2.2.2.1 _ hw2) (C.2.2.2.2.1 _ hw3) (C.2.2.2.2.1 _ hw4) C.2.2.2.2.2.2.2.1.1 X.2.2.2.1 (mwd_D X.1) X.2.2.1 k0 k1 1 1 (ty := .long) (by rw [mwd_at hk0, mcel_arr hs0]; rfl) (by rw [mwd_at hk1, mcel_arr hs1]; rfl) rfl rfl rfl h1 h2 h3 h4 h5 (fun _ _ => rfl) hR (by rw [mcatsum]; exact hR2) hd (fun H1 locs1 hP _ hS => kk p e s0 m args below meth c0 H1 locs1 ls C ⟨X.1, X.2.1, hS, by rw [← mwd_cL1 hk1 hs1]; exact hP, X.2.2.2.2⟩ hl)

theorem mret_q {E : MX} {n c : Nat} {σ : MSt} {s : State} {H : Heap} {locs : List Loc} {r : Option Value} {args : Array Value} (X : MHx E n c σ s H locs) (hz : H.size = E.2.2.1 + n) (t : State) (ht : t.heap = H) : MQc E (n, r, σ) args s (.returned (r.map (mtv E))) t :=
  ⟨rfl, by rw [ht]; exact X.2.2.2.1, by rw [ht]; exact hz, by rw [ht]; exact X.2.2.1.1, fun q h1 h2 => by rw [ht]; exact X.2.2.1.2.1 q h1 h2⟩
theorem mw_iret {x : Int32} (hd : decode cc pc = .ok (.ireturn, 1)) (hr : ret = some .int) (hres : res = (n, some (.int x), σ)) (hc : c = mc) (hs : s = ms) : MW l E cc own nL ret ini R mc ms res n c s σ pc L [.int x] := by
  intro p e s0 m args below meth c0 H locs ls C X hl
  subst hres; subst hc; subst hs
  exact X.size (fun hz => W.iret (hlocks := C.2.2.2.2.2.2.1) C.1 C.2.1 (C.2.2.1.trans hr) (fun t ht _ => mret_q X hz t ht) X.2.2.1.2.2 hd)
theorem mw_zret {x : Int32} (hd : decode cc pc = .ok (.ireturn, 1)) (hr : ret = some .boolean) (hx : x = 0 ∨ x = 1) (hres : res = (n, some (.int x), σ)) (hc : c = mc) (hs : s = ms) : MW l E cc own nL ret ini R mc ms res n c s σ pc L [.int x] := by
  intro p e s0 m args below meth c0 H locs ls C X hl
  subst hres; subst hc; subst hs
  exact X.size (fun hz => W.zret (hlocks := C.2.2.2.2.2.2.1) C.1 C.2.1 (C.2.2.1.trans hr) (mb01 hx).1 (fun t ht _ => mret_q X hz t ht) X.2.2.1.2.2 hd)
theorem mw_cret {x : Int32} (hd : decode cc pc = .ok (.ireturn, 1)) {ty : FieldType} (hr : ret = some ty) (hx : narrow ty (.int x) = .int x) (hres : res = (n, some (.int x), σ)) (hc : c = mc) (hs : s = ms) : MW l E cc own nL ret ini R mc ms res n c s σ pc L [.int x] := by
  intro p e s0 m args below meth c0 H locs ls C X hl
  subst hres; subst hc; subst hs
  exact X.size (fun hz => W.zret (hlocks := C.2.2.2.2.2.2.1) C.1 C.2.1 (C.2.2.1.trans hr) hx (fun t ht _ => mret_q X hz t ht) X.2.2.1.2.2 hd)
theorem mw_lret {x : Int64} (hd : decode cc pc = .ok (.lreturn, 1)) (hr : ret = some .long) (hres : res = (n, some (.long x), σ)) (hc : c = mc) (hs : s = ms) : MW l E cc own nL ret ini R mc ms res n c s σ pc L [.long x] := by
  intro p e s0 m args below meth c0 H locs ls C X hl
  subst hres; subst hc; subst hs
  exact X.size (fun hz => W.lret (hlocks := C.2.2.2.2.2.2.1) C.1 C.2.1 (C.2.2.1.trans hr) (fun t ht _ => mret_q X hz t ht) X.2.2.1.2.2 hd)
theorem mw_vret (hd : decode cc pc = .ok (.return_, 1)) (hr : ret = none) (hres : res = (n, none, σ)) (hc : c = mc) (hs : s = ms) : MW l E cc own nL ret ini R mc ms res n c s σ pc L [] := by
  intro p e s0 m args below meth c0 H locs ls C X hl
  subst hres; subst hc; subst hs
  exact X.size (fun hz => W.vret (hlocks := C.2.2.2.2.2.2.1) C.1 C.2.1 (C.2.2.1.trans hr) (fun t ht _ => mret_q X hz t ht) X.2.2.1.2.2 hd)
theorem mw_sub (qs : List Nat) (hL : lv_pick L qs = L') (k : MW l E cc own nL ret ini R mc ms res n c s σ pc L' st) : MW l E cc own nL ret ini R mc ms res n c s σ pc L st :=
  fun p e s0 m args below meth c0 H locs ls C X hl => k p e s0 m args below meth c0 H locs ls C X (lv_sub hl qs (by rw [← hL]; exact mtl_pick E L qs))

theorem mw_entry {y : MethodName} {args : List Value} (hy : plainName y.cls = true) (ho : y.cls = own) (hi : ini = true → y.name = "<init>") (hL : lv_args 0 args = L) (hn : (lg_sl args).length ≤ nL) (hn1 : n ≤ 1000) (k : ∀ E : MX, MW l E cc own nL ret ini R mc ms res n 0 0 σ 0 L []) : MCt l y cc nL ret R args n σ mc ms res := by
  intro E
  refine Met.ofW (cc := cc) (maxL := nL) (ret := ret) hy rfl ?_
  intro p e s m av below meth c s₁ B hml hv
  obtain ⟨hv0, -, hP, hz, hC⟩ := hv
  subst hv0
  have hl := lv_entry (args.map (mtv E)) (n := nL) (by rw [mlg_len]; exact hn)
  rw [lg_entry_eq]
  generalize (lg_sl (args.map (mtv E)) ++ List.replicate (nL - (lg_sl (args.map (mtv E))).length) Slot.unset).toArray = ls at hl ⊢
  have hts := atoms_spec (ws := Cond.code y cc nL ret :: mWT) B.pre
  refine k E p e s m _ below meth c s.heap [] ls ⟨B.exec, B.bytes, B.returns, hml, fun w hw => hts w (List.mem_cons_of_mem _ hw), by rw [← ho]; exact findClass_of_methodNamed B.named, B.notSynchronized, hC, fun h => (name_of_methodNamed B.named B.method).1.trans (hi h)⟩ ⟨hn1, by omega, va_S.rf, hP, by omega⟩ ?_
  rw [← hL, mtl_args]
  exact hl

theorem mw_entryF {y : MethodName} {args : List Value} (hy : plainFor y = true) (ho : y.cls = own) (hi : ini = true → y.name = "<init>") (hL : lv_args 0 args = L) (hn : (lg_sl args).length ≤ nL) (hn1 : n ≤ 1000) (k : ∀ E : MX, MW l E cc own nL ret ini R mc ms res n 0 0 σ 0 L []) : MCt l y cc nL ret R args n σ mc ms res := by
  intro E
  refine va_MetF (cc := cc) (maxL := nL) (ret := ret) hy rfl ?_
  intro p e s m av below meth c s₁ B hml hv
  obtain ⟨hv0, -, hP, hz, hC⟩ := hv
  subst hv0
  have hl := lv_entry (args.map (mtv E)) (n := nL) (by rw [mlg_len]; exact hn)
  rw [lg_entry_eq]
  generalize (lg_sl (args.map (mtv E)) ++ List.replicate (nL - (lg_sl (args.map (mtv E))).length) Slot.unset).toArray = ls at hl ⊢
  have hts := atoms_spec (ws := Cond.code y cc nL ret :: mWT) B.pre
  refine k E p e s m _ below meth c s.heap [] ls ⟨B.exec, B.bytes, B.returns, hml, fun w hw => hts w (List.mem_cons_of_mem _ hw), by rw [← ho]; exact findClass_of_methodNamed B.named, B.notSynchronized, hC, fun h => (name_of_methodNamed B.named B.method).1.trans (hi h)⟩ ⟨hn1, by omega, va_S.rf, hP, by omega⟩ ?_
  rw [← hL, mtl_args]
  exact hl

theorem mw_callV {y : MethodName} {bytes1 : ByteArray} {maxL1 mc1 ms1 na i0 : Nat} {ret1 : Option FieldType} {rm1 : Room} {As : List Value} {res1 : Nat × Option Value × MSt} {b ci : Nat} {q : vw_C} {st0 : List Value} (hw : MLv own i0 q.1 y bytes1 maxL1 ret1 na) (hd : decode cc pc = .ok (.invokevirtual i0, 3)) (hM : MCt l y bytes1 maxL1 ret1 rm1 (.ref b :: As) n σ mc1 ms1 res1) (hna : As.length = na) (hb : b < n) (hs : mshp b = .inr ci) (hcl : vwCl[ci]? = some q) (hst : (As.reverse ++ .ref b :: st) = st0) (hcs : (st.map fun v => v.category).sum ≤ 8) (hR : rm1.frames + 1 ≤ R.frames ∧ 8 + (maxL1 + 11) + rm1.locals ≤ R.locals) (hrc : rm1.cells = mc1) (hrs : rm1.slots = ms1) (hn : res1.1 = n + mc1) (hn2 : res1.1 ≤ 1000) (hf : c + mc1 ≤ R.cells ∧ s + ms1 ≤ R.slots) (kk : MW l E cc own nL ret ini R mc ms res res1.1 (c + mc1) (s + ms1) res1.2.2 (pc + 3) L (res1.2.1.toList ++ st)) : MW l E cc own nL ret ini R mc ms res n c s σ pc L st0 := by
  intro p e s0 m args below meth c0 H locs ls C X hl
  subst hst
  refine X.size (fun hz => ?_)
  refine mrun X hz hn hn2 (va_runV (As := As.map (mtv E)) (rest := st.map (mtv E)) ⟨C.1, C.2.1, C.2.2.2.1, C.2.2.2.2.2.1, C.2.2.2.2.1⟩ (hM E) (cwV na C.2.2.2.2.1 hw.g rfl hrc hrs hw.2.2.2.2.2 hR) (let P := mpre X hz C.2.2.2.2.2.2.2.1 (.ref b :: As); ⟨P.1, mrecv X C.2.2.2.2.2.2.2.1 hb hs hcl, P.2⟩) rfl (by rw [List.length_map]; exact hna) hl.1 (by simp [F0, mtv]) (lv_room (by rw [mcatsum]; exact hcs)) hd hf) (fun H1 locs1 X1 => ?_)
  have := kk p e s0 m args below meth c0 H1 locs1 ls C X1 hl
  rw [List.map_append, moptl] at this
  exact this

theorem mw_callU {y : MethodName} {bytes1 : ByteArray} {maxL1 mc1 ms1 na i0 : Nat} {ret1 : Option FieldType} {rm1 : Room} {As : List Value} {res1 : Nat × Option Value × MSt} {b ci : Nat} {q : vw_C} {st0 : List Value} {x : MethodName} {owner : String} (hw : MLu own i0 q.1 owner x y bytes1 maxL1 ret1 na) (hyx : y = ⟨owner, x.name, x.desc⟩) (hd : decode cc pc = .ok (.invokevirtual i0, 3)) (hM : MCt l y bytes1 maxL1 ret1 rm1 (.ref b :: As) n σ mc1 ms1 res1) (hna : As.length = na) (hb : b < n) (hs : mshp b = .inr ci) (hcl : vwCl[ci]? = some q) (hst : (As.reverse ++ .ref b :: st) = st0) (hcs : (st.map fun v => v.category).sum ≤ 8) (hR : rm1.frames + 1 ≤ R.frames ∧ 8 + (maxL1 + 11) + rm1.locals ≤ R.locals) (hrc : rm1.cells = mc1) (hrs : rm1.slots = ms1) (hn : res1.1 = n + mc1) (hn2 : res1.1 ≤ 1000) (hf : c + mc1 ≤ R.cells ∧ s + ms1 ≤ R.slots) (kk : MW l E cc own nL ret ini R mc ms res res1.1 (c + mc1) (s + ms1) res1.2.2 (pc + 3) L (res1.2.1.toList ++ st)) : MW l E cc own nL ret ini R mc ms res n c s σ pc L st0 := by
  intro p e s0 m args below meth c0 H locs ls C X hl
  subst hst
  refine X.size (fun hz => ?_)
  refine mrun X hz hn hn2 (va_runU (As := As.map (mtv E)) (rest := st.map (mtv E)) ⟨C.1, C.2.1, C.2.2.2.1, C.2.2.2.2.2.1, C.2.2.2.2.1⟩ (hM E) (va_cwU na C.2.2.2.2.1 hw.g rfl hrc hrs hyx hw.2.2.2.2.2.2 hR) (let P := mpre X hz C.2.2.2.2.2.2.2.1 (.ref b :: As); ⟨P.1, mrecv X C.2.2.2.2.2.2.2.1 hb hs hcl, P.2⟩) rfl (by rw [List.length_map]; exact hna) hl.1 (by simp [F0, mtv]) (lv_room (by rw [mcatsum]; exact hcs)) hd hf) (fun H1 locs1 X1 => ?_)
  have := kk p e s0 m args below meth c0 H1 locs1 ls C X1 hl
  rw [List.map_append, moptl] at this
  exact this

theorem mw_callA {y : MethodName} {bytes1 : ByteArray} {maxL1 mc1 ms1 na i0 : Nat} {ret1 : Option FieldType} {rm1 : Room} {As : List Value} {res1 : Nat × Option Value × MSt} {b ci : Nat} {q : vw_C} {st0 : List Value} (hw : MLu own i0 q.1 "RoundsPerHour$Climb" ⟨"RoundsPerHour$Climb", "pick", "()I"⟩ y bytes1 maxL1 ret1 na) (hd : decode cc pc = .ok (.invokevirtual i0, 3)) (hM : MCt l y bytes1 maxL1 ret1 rm1 (.ref b :: As) n σ mc1 ms1 res1) (hna : As.length = na) (hb : b < n) (hs : mshp b = .inr ci) (hcl : vwCl[ci]? = some q) (hst : (As.reverse ++ .ref b :: st) = st0) (hcs : (st.map fun v => v.category).sum ≤ 8) (hR : rm1.frames + 1 ≤ R.frames ∧ 8 + (maxL1 + 11) + rm1.locals ≤ R.locals) (hrc : rm1.cells = mc1) (hrs : rm1.slots = ms1) (hn : res1.1 = n + mc1) (hn2 : res1.1 ≤ 1000) (hf : c + mc1 ≤ R.cells ∧ s + ms1 ≤ R.slots) (kk : MW l E cc own nL ret ini R mc ms res res1.1 (c + mc1) (s + ms1) res1.2.2 (pc + 3) L (res1.2.1.toList ++ st)) : MW l E cc own nL ret ini R mc ms res n c s σ pc L st0 := by
  intro p e s0 m args below meth c0 H locs ls C X hl
  subst hst
  refine X.size (fun hz => ?_)
  refine mrun X hz hn hn2 (va_runU (As := As.map (mtv E)) (rest := st.map (mtv E)) ⟨C.1, C.2.1, C.2.2.2.1, C.2.2.2.2.2.1, C.2.2.2.2.1⟩ (hM E) (va_cwA na C.2.2.2.2.1 hw.g rfl hrc hrs C.2.2.2.2.2.2.2.1.2.2.1 hw.2.2.2.2.2.2 hR) (let P := mpre X hz C.2.2.2.2.2.2.2.1 (.ref b :: As); ⟨P.1, mrecv X C.2.2.2.2.2.2.2.1 hb hs hcl, P.2⟩) rfl (by rw [List.length_map]; exact hna) hl.1 (by simp [F0, mtv]) (lv_room (by rw [mcatsum]; exact hcs)) hd hf) (fun H1 locs1 X1 => ?_)
  have := kk p e s0 m args below meth c0 H1 locs1 ls C X1 hl
  rw [List.map_append, moptl] at this
  exact this

theorem mw_callS {y : MethodName} {bytes1 : ByteArray} {maxL1 mc1 ms1 na i0 : Nat} {ret1 : Option FieldType} {rm1 : Room} {As : List Value} {res1 : Nat × Option Value × MSt} {st0 : List Value} (hw : MLs own i0 y bytes1 maxL1 ret1 na) (hd : decode cc pc = .ok (.invokestatic i0, 3)) (hM : MCt l y bytes1 maxL1 ret1 rm1 As n σ mc1 ms1 res1) (hna : As.length = na) (hst : (As.reverse ++ st) = st0) (hcs : (st.map fun v => v.category).sum ≤ 8) (hR : rm1.frames + 1 ≤ R.frames ∧ 8 + (maxL1 + 11) + rm1.locals ≤ R.locals) (hrc : rm1.cells = mc1) (hrs : rm1.slots = ms1) (hn : res1.1 = n + mc1) (hn2 : res1.1 ≤ 1000) (hf : c + mc1 ≤ R.cells ∧ s + ms1 ≤ R.slots) (kk : MW l E cc own nL ret ini R mc ms res res1.1 (c + mc1) (s + ms1) res1.2.2 (pc + 3) L (res1.2.1.toList ++ st)) : MW l E cc own nL ret ini R mc ms res n c s σ pc L st0 := by
  intro p e s0 m args below meth c0 H locs ls C X hl
  subst hst
  refine X.size (fun hz => ?_)
  refine mrun X hz hn hn2 (va_runS (As := As.map (mtv E)) (rest := st.map (mtv E)) ⟨C.1, C.2.1, C.2.2.2.1, C.2.2.2.2.2.1, C.2.2.2.2.1⟩ (hM E) (va_cwS na C.2.2.2.2.1 hw.g rfl hrc hrs hw.2.2.2.2 hR) (mpre X hz C.2.2.2.2.2.2.2.1 As) rfl (by rw [List.length_map]; exact hna) hl.1 (by simp [F0, mtv]) (lv_room (by rw [mcatsum]; exact hcs)) hd hf) (fun H1 locs1 X1 => ?_)
  have := kk p e s0 m args below meth c0 H1 locs1 ls C X1 hl
  rw [List.map_append, moptl] at this
  exact this

theorem mw_callSN {y : MethodName} {bytes1 : ByteArray} {maxL1 mc1 ms1 na i0 : Nat} {ret1 : Option FieldType} {rm1 : Room} {As : List Value} {res1 : Nat × Option Value × MSt} {st0 : List Value} {host : String} (hw : MLn own i0 host y bytes1 maxL1 ret1 na) (hd : decode cc pc = .ok (.invokestatic i0, 3)) (hM : MCt l y bytes1 maxL1 ret1 rm1 As n σ mc1 ms1 res1) (hna : As.length = na) (hst : (As.reverse ++ st) = st0) (hcs : (st.map fun v => v.category).sum ≤ 8) (hR : rm1.frames + 1 ≤ R.frames ∧ 8 + (maxL1 + 11) + rm1.locals ≤ R.locals) (hrc : rm1.cells = mc1) (hrs : rm1.slots = ms1) (hn : res1.1 = n + mc1) (hn2 : res1.1 ≤ 1000) (hf : c + mc1 ≤ R.cells ∧ s + ms1 ≤ R.slots) (kk : MW l E cc own nL ret ini R mc ms res res1.1 (c + mc1) (s + ms1) res1.2.2 (pc + 3) L (res1.2.1.toList ++ st)) : MW l E cc own nL ret ini R mc ms res n c s σ pc L st0 := by
  intro p e s0 m args below meth c0 H locs ls C X hl
  subst hst
  refine X.size (fun hz => ?_)
  refine mrun X hz hn hn2 (va_runSN (As := As.map (mtv E)) (rest := st.map (mtv E)) ⟨C.1, C.2.1, C.2.2.2.1, C.2.2.2.2.2.1, C.2.2.2.2.1⟩ (hM E) (⟨va_cnB na C.2.2.2.2.1 (mwt_good (mwt_cons hw.1)) rfl hrc hrs (C.2.2.2.2.2.2.2.1.2.1 (own, i0, y, host) hw.2.1) (C.2.2.2.2.1 _ hw.2.2.2.1) hw.2.2.2.2 hR, C.2.2.2.2.1 _ hw.2.2.1, trivial⟩) (mpre X hz C.2.2.2.2.2.2.2.1 As) rfl (by rw [List.length_map]; exact hna) hl.1 (by simp [F0, mtv]) (lv_room (by rw [mcatsum]; exact hcs)) hd hf) (fun H1 locs1 X1 => ?_)
  have := kk p e s0 m args below meth c0 H1 locs1 ls C X1 hl
  rw [List.map_append, moptl] at this
  exact this

theorem mw_callI {y : MethodName} {bytes1 : ByteArray} {maxL1 mc1 ms1 na i0 : Nat} {ret1 : Option FieldType} {rm1 : Room} {As : List Value} {res1 : Nat × Option Value × MSt} {b : Nat} {st0 : List Value} (hw : MLi own i0 y bytes1 maxL1 none na) (hr1 : ret1 = none) (hd : decode cc pc = .ok (.invokespecial i0, 3)) (hM : MCt l y bytes1 maxL1 ret1 rm1 (.ref b :: As) n σ mc1 ms1 res1) (hna : As.length = na) (hst : (As.reverse ++ .ref b :: st) = st0) (hcs : (st.map fun v => v.category).sum ≤ 8) (hR : rm1.frames + 1 ≤ R.frames ∧ 8 + (maxL1 + 11) + rm1.locals ≤ R.locals) (hrc : rm1.cells = mc1) (hrs : rm1.slots = ms1) (hn : res1.1 = n + mc1) (hn2 : res1.1 ≤ 1000) (hf : c + mc1 ≤ R.cells ∧ s + ms1 ≤ R.slots) (kk : MW l E cc own nL ret ini R mc ms res res1.1 (c + mc1) (s + ms1) res1.2.2 (pc + 3) L (res1.2.1.toList ++ st)) : MW l E cc own nL ret ini R mc ms res n c s σ pc L st0 := by
  intro p e s0 m args below meth c0 H locs ls C X hl
  subst hst; subst hr1
  refine X.size (fun hz => ?_)
  refine mrun X hz hn hn2 (va_runI (As := As.map (mtv E)) (rest := st.map (mtv E)) ⟨C.1, C.2.1, C.2.2.2.1, C.2.2.2.2.2.1, C.2.2.2.2.1⟩ (hM E) (cwI na C.2.2.2.2.1 (mwt_good (mwt_cons hw.1)) rfl hrc hrs (C.2.2.2.2.1 _ hw.2.2.2.1) (C.2.2.2.2.1 _ hw.2.1) (C.2.2.2.2.1 _ hw.2.2.1) hw.2.2.2.2.1 hw.2.2.2.2.2 hR) (mpre X hz C.2.2.2.2.2.2.2.1 (.ref b :: As)) rfl (by rw [List.length_map]; exact hna) hl.1 (by simp [F0, mtv]) (lv_room (by rw [mcatsum]; exact hcs)) hd hf) (fun H1 locs1 X1 => ?_)
  have := kk p e s0 m args below meth c0 H1 locs1 ls C X1 hl
  rw [List.map_append, moptl] at this
  exact this

theorem mw_callIN {y : MethodName} {bytes1 : ByteArray} {maxL1 mc1 ms1 na i0 : Nat} {ret1 : Option FieldType} {rm1 : Room} {As : List Value} {res1 : Nat × Option Value × MSt} {b : Nat} {st0 : List Value} {host : String} (hw : MLj own i0 host y bytes1 maxL1 none na) (hr1 : ret1 = none) (hd : decode cc pc = .ok (.invokespecial i0, 3)) (hM : MCt l y bytes1 maxL1 ret1 rm1 (.ref b :: As) n σ mc1 ms1 res1) (hna : As.length = na) (hst : (As.reverse ++ .ref b :: st) = st0) (hcs : (st.map fun v => v.category).sum ≤ 8) (hR : rm1.frames + 1 ≤ R.frames ∧ 8 + (maxL1 + 11) + rm1.locals ≤ R.locals) (hrc : rm1.cells = mc1) (hrs : rm1.slots = ms1) (hn : res1.1 = n + mc1) (hn2 : res1.1 ≤ 1000) (hf : c + mc1 ≤ R.cells ∧ s + ms1 ≤ R.slots) (kk : MW l E cc own nL ret ini R mc ms res res1.1 (c + mc1) (s + ms1) res1.2.2 (pc + 3) L (res1.2.1.toList ++ st)) : MW l E cc own nL ret ini R mc ms res n c s σ pc L st0 := by
  intro p e s0 m args below meth c0 H locs ls C X hl
  subst hst; subst hr1
  refine X.size (fun hz => ?_)
  refine mrun X hz hn hn2 (va_runIN (As := As.map (mtv E)) (rest := st.map (mtv E)) ⟨C.1, C.2.1, C.2.2.2.1, C.2.2.2.2.2.1, C.2.2.2.2.1⟩ (hM E) (⟨va_cnB na C.2.2.2.2.1 (mwt_good (mwt_cons hw.1)) rfl hrc hrs (C.2.2.2.2.2.2.2.1.2.1 (own, i0, y, host) hw.2.1) (C.2.2.2.2.1 _ hw.2.2.2.1) hw.2.2.2.2.2 hR, hw.2.2.2.2.1, C.2.2.2.2.1 _ hw.2.2.1⟩) (mpre X hz C.2.2.2.2.2.2.2.1 (.ref b :: As)) rfl (by rw [List.length_map]; exact hna) hl.1 (by simp [F0, mtv]) (lv_room (by rw [mcatsum]; exact hcs)) hd hf) (fun H1 locs1 X1 => ?_)
  have := kk p e s0 m args below meth c0 H1 locs1 ls C X1 hl
  rw [List.map_append, moptl] at this
  exact this

end MRules
