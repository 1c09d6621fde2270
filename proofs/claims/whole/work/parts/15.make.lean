/-! ===== making cells ===== -/
def zc (σ : MSt) (k : Nat) : Prop := ∀ j, mmI σ k j = 0 ∧ mmL σ k j = 0 ∧ mmR σ k j = none
theorem zc_uI {σ : MSt} {k a j : Nat} {v : Int32} (h : k ≠ a) (z : zc σ k) : zc (muI σ a j v) k := fun b => ⟨by rw [mmI_uI, if_neg (fun q => h q.1)]; exact (z b).1, (z b).2.1, (z b).2.2⟩
theorem zc_uL {σ : MSt} {k a j : Nat} {v : Int64} (h : k ≠ a) (z : zc σ k) : zc (muL σ a j v) k := fun b => ⟨(z b).1, by rw [mmL_uL, if_neg (fun q => h q.1)]; exact (z b).2.1, (z b).2.2⟩
theorem zc_uR {σ : MSt} {k a j : Nat} {v : Option Nat} (h : k ≠ a) (z : zc σ k) : zc (muR σ a j v) k := fun b => ⟨(z b).1, (z b).2.1, by rw [mmR_uR, if_neg (fun q => h q.1)]; exact (z b).2.2⟩
theorem mwd_push {E : MX} {n : Nat} {σ : MSt} : mwd E (n + 1) σ = mwd E n σ ++ [(mad E n, mcel E σ n)] := by
  unfold mwd
  rw [List.range_succ, List.map_append]
  rfl
def mdef (ty : FieldType) : Bool := match ty with
  | .int => true
  | .boolean => true
  | .long => true
  | .object _ => true
  | .array _ => true
  | _ => false
theorem maf_zero {E : MX} {ty : FieldType} {σ : MSt} {k j : Nat} (h : mdef ty = true) (z : zc σ k) : maf E ty σ k j = defaultValue ty := by
  obtain ⟨z1, z2, z3⟩ := z j
  cases ty <;> first | (simp [mdef] at h; done) | (simp only [maf, z1, z2, z3]; rfl)
section MMake
variable {l : Launch} {E : MX} {cc : ByteArray} {own : String} {nL : Nat} {ret : Option FieldType} {ini : Bool} {R : Room} {mc ms : Nat} {res : Nat × Option Value × MSt} {n c s : Nat} {σ σ' : MSt} {pc : Nat} {L L' : List (Nat × Value)} {st : List Value}
theorem mva_push {s0 : State} {H H1 : Heap} {locs : List Loc} (X : MHx E n c σ s0 H locs) (hz : H.size = E.2.2.1 + n) (hn : n + 1 ≤ 1000) (z1 : H1.size = H.size + 1) (o1 : ∀ q, q < H.size → H1[q]? = H[q]?) (ha : va_at E.1 vwCl (mad E n, mcel E σ n) H1) : MHx E (n + 1) (c + 1) σ s0 H1 locs := by
  obtain ⟨x1, x2, x3, x4, x5⟩ := X
  refine ⟨hn, x2, ⟨by have := x3.1; omega, fun q h1 h2 => (o1 q (Nat.lt_of_lt_of_le h1 x3.1)).trans (x3.2.1 q h1 h2), x3.2.2⟩, ?_, by omega⟩
  rw [mwd_push]
  refine (x4.kept (fun k q hq => o1 q.1 ((x4 k q hq).lt))).app (fun k q hq => ?_)
  have hz : k < 1 := (List.getElem?_eq_some_iff.mp hq).1
  rw [show k = 0 by omega] at hq
  cases hq
  exact ha
theorem mad_n {H : Heap} (hz : H.size = E.2.2.1 + n) (hn : n + 1 ≤ 1000) : mad E n = H.size := by
  unfold mad
  rw [if_pos (by omega), hz]

theorem mw_new {ci i0 N : Nat} {C0 : String} {T : u_T} (ty0 : Nat → FieldType) (hd : decode cc pc = .ok (.new i0, 3)) (hc : vwCl[ci]? = some (C0, T, N)) (hN : mnF ci = N) (hs : mshp n = .inr ci) (hin : ∀ w ∈ u_ws C0 T N, w ∈ mWT) (hty : ∀ k, k < N → parseFieldDescriptor (T k).2.2.1 = some (ty0 k)) (hmt : ∀ k, k < N → mft ci k = ty0 k ∧ mdef (ty0 k) = true) (hcl : Cond.classLink own i0 C0 ∈ mWT) (hinst : Cond.instantiable C0 N ∈ mWT) (hini : Cond.initialized C0 ∈ mWT) (hz : zc σ n) (hcells : c + 1 ≤ R.cells) (hslots : s + N ≤ R.slots) (hn : n + 1 ≤ 1000) (k : MW l E cc own nL ret ini R mc ms res (n + 1) (c + 1) (s + N) σ (pc + 3) L (.ref n :: st)) : MW l E cc own nL ret ini R mc ms res n c s σ pc L st := by
  intro p e s0 m args below meth c0 H locs ls C X hl
  refine X.size (fun hsz => ?_)
  have hKn := C.2.2.2.2.2.2.2.1.1.1 ci _ hc
  refine W.newcK C.1 C.2.1 C.2.2.2.2.2.1 (C.2.2.2.2.1 _ hcl) (C.2.2.2.2.1 _ hinst) (C.2.2.2.2.1 _ hini) rfl hd hcells hslots hKn.2.1 rfl fun H1 kC hkC e1 z1 o1 => ?_
  have ha := mad_n (E := E) hsz hn
  have hX := mva_push X hsz hn z1 o1 (by
    rw [mcel_obj hs]
    refine ⟨_, hc, ?_⟩
    rw [ha]
    refine (u_born ty0 C.2.2.2.2.1 hin hKn hkC e1 hty).to (fun j hj => ?_)
    show _ = ((List.range (mnF ci)).map (fun j => maf E (mft ci j) σ n j)).getD j .null
    rw [hN]
    have hm := hmt j hj
    simp [hj, hm.1, maf_zero hm.2 hz])
  have := k p e s0 m args below meth c0 H1 locs ls C hX hl
  simp only [List.map_cons, mtv, ha] at this
  exact this

theorem mw_newaI {N : Nat} {z : Int32} (hd : decode cc pc = .ok (.newarray .int, 2)) (hw : Cond.arrayClass .int ∈ mWT) (hs : mshp n = .inl (0, N)) (h0 : ¬ z < 0) (hN : z.toNatClampNeg = N) (hb : N * componentBytes .int ≤ 536870912) (hz : zc σ n) (hcells : c + 1 ≤ R.cells) (hslots : s + N ≤ R.slots) (hn : n + 1 ≤ 1000) (k : MW l E cc own nL ret ini R mc ms res (n + 1) (c + 1) (s + N) σ (pc + 2) L (.ref n :: st)) : MW l E cc own nL ret ini R mc ms res n c s σ pc L (.int z :: st) := by
  intro p e s0 m args below meth c0 H locs ls C X hl
  refine X.size (fun hsz => ?_)
  refine va_newaK (atype := .int) C.1 C.2.1 (C.2.2.2.2.1 _ hw) rfl hd rfl h0 hN hb hcells hslots rfl fun H1 cA e1 z1 o1 hAr hNm => ?_
  have ha := mad_n (E := E) hsz hn
  have hcA : cA = E.2.1 0 := by
    have h1 : s0.vm.findClass _ = some (E.2.1 0) := (C.2.2.2.2.2.2.2.1.1.2 0 _ rfl).2
    exact Option.some.inj (hNm.symm.trans h1)
  subst hcA
  have hX := mva_push X hsz hn z1 o1 (by
    rw [mcel_arr hs]
    show H1[mad E n]? = some (vp_cell _ _)
    rw [ha, e1]
    have hf : mmI σ n = fun _ => 0 := funext (fun j => (hz j).1)
    show some _ = some (vp_cell (E.2.1 0) (N, .inl (mmI σ n)))
    rw [hf]
    rfl)
  have := k p e s0 m args below meth c0 H1 locs ls C hX hl
  simp only [List.map_cons, mtv, ha] at this
  exact this

theorem mw_newaL {N : Nat} {z : Int32} (hd : decode cc pc = .ok (.newarray .long, 2)) (hw : Cond.arrayClass .long ∈ mWT) (hs : mshp n = .inl (1, N)) (h0 : ¬ z < 0) (hN : z.toNatClampNeg = N) (hb : N * componentBytes .long ≤ 536870912) (hz : zc σ n) (hcells : c + 1 ≤ R.cells) (hslots : s + N ≤ R.slots) (hn : n + 1 ≤ 1000) (k : MW l E cc own nL ret ini R mc ms res (n + 1) (c + 1) (s + N) σ (pc + 2) L (.ref n :: st)) : MW l E cc own nL ret ini R mc ms res n c s σ pc L (.int z :: st) := by
  intro p e s0 m args below meth c0 H locs ls C X hl
  refine X.size (fun hsz => ?_)
  refine va_newaK (atype := .long) C.1 C.2.1 (C.2.2.2.2.1 _ hw) rfl hd rfl h0 hN hb hcells hslots rfl fun H1 cA e1 z1 o1 hAr hNm => ?_
  have ha := mad_n (E := E) hsz hn
  have hcA : cA = E.2.1 1 := by
    have h1 : s0.vm.findClass _ = some (E.2.1 1) := (C.2.2.2.2.2.2.2.1.1.2 1 _ rfl).2
    exact Option.some.inj (hNm.symm.trans h1)
  subst hcA
  have hX := mva_push X hsz hn z1 o1 (by
    rw [mcel_arr hs]
    show H1[mad E n]? = some (vp_cell _ _)
    rw [ha, e1]
    have hf : mmL σ n = fun _ => 0 := funext (fun j => (hz j).2.1)
    show some _ = some (vp_cell (E.2.1 1) (N, .inr (.inl (mmL σ n))))
    rw [hf]
    rfl)
  have := k p e s0 m args below meth c0 H1 locs ls C hX hl
  simp only [List.map_cons, mtv, ha] at this
  exact this

theorem mw_newaZ {N : Nat} {z : Int32} (hd : decode cc pc = .ok (.newarray .boolean, 2)) (hw : Cond.arrayClass .boolean ∈ mWT) (hs : mshp n = .inl (2, N)) (h0 : ¬ z < 0) (hN : z.toNatClampNeg = N) (hb : N * componentBytes .boolean ≤ 536870912) (hz : zc σ n) (hcells : c + 1 ≤ R.cells) (hslots : s + N ≤ R.slots) (hn : n + 1 ≤ 1000) (k : MW l E cc own nL ret ini R mc ms res (n + 1) (c + 1) (s + N) σ (pc + 2) L (.ref n :: st)) : MW l E cc own nL ret ini R mc ms res n c s σ pc L (.int z :: st) := by
  intro p e s0 m args below meth c0 H locs ls C X hl
  refine X.size (fun hsz => ?_)
  refine va_newaK (atype := .boolean) C.1 C.2.1 (C.2.2.2.2.1 _ hw) rfl hd rfl h0 hN hb hcells hslots rfl fun H1 cA e1 z1 o1 hAr hNm => ?_
  have ha := mad_n (E := E) hsz hn
  have hcA : cA = E.2.1 2 := by
    have h1 : s0.vm.findClass _ = some (E.2.1 2) := (C.2.2.2.2.2.2.2.1.1.2 2 _ rfl).2
    exact Option.some.inj (hNm.symm.trans h1)
  subst hcA
  have hX := mva_push X hsz hn z1 o1 (by
    rw [mcel_arr hs]
    show H1[mad E n]? = some (vp_cell _ _)
    rw [ha, e1]
    have hf : mmI σ n = fun _ => 0 := funext (fun j => (hz j).1)
    show some _ = some (vp_cell (E.2.1 2) (N, .inl (mmI σ n)))
    rw [hf]
    rfl)
  have := k p e s0 m args below meth c0 H1 locs ls C hX hl
  simp only [List.map_cons, mtv, ha] at this
  exact this

theorem mw_newaC {N : Nat} {z : Int32} (hd : decode cc pc = .ok (.newarray .char, 2)) (hw : Cond.arrayClass .char ∈ mWT) (hs : mshp n = .inl (3, N)) (h0 : ¬ z < 0) (hN : z.toNatClampNeg = N) (hb : N * componentBytes .char ≤ 536870912) (hz : zc σ n) (hcells : c + 1 ≤ R.cells) (hslots : s + N ≤ R.slots) (hn : n + 1 ≤ 1000) (k : MW l E cc own nL ret ini R mc ms res (n + 1) (c + 1) (s + N) σ (pc + 2) L (.ref n :: st)) : MW l E cc own nL ret ini R mc ms res n c s σ pc L (.int z :: st) := by
  intro p e s0 m args below meth c0 H locs ls C X hl
  refine X.size (fun hsz => ?_)
  refine va_newaK (atype := .char) C.1 C.2.1 (C.2.2.2.2.1 _ hw) rfl hd rfl h0 hN hb hcells hslots rfl fun H1 cA e1 z1 o1 hAr hNm => ?_
  have ha := mad_n (E := E) hsz hn
  have hcA : cA = E.2.1 3 := by
    have h1 : s0.vm.findClass _ = some (E.2.1 3) := (C.2.2.2.2.2.2.2.1.1.2 3 _ rfl).2
    exact Option.some.inj (hNm.symm.trans h1)
  subst hcA
  have hX := mva_push X hsz hn z1 o1 (by
    rw [mcel_arr hs]
    show H1[mad E n]? = some (vp_cell _ _)
    rw [ha, e1]
    have hf : mmI σ n = fun _ => 0 := funext (fun j => (hz j).1)
    show some _ = some (vp_cell (E.2.1 3) (N, .inl (mmI σ n)))
    rw [hf]
    rfl)
  have := k p e s0 m args below meth c0 H1 locs ls C hX hl
  simp only [List.map_cons, mtv, ha] at this
  exact this

theorem mw_newq {N i0 : Nat} {z : Int32} (hd : decode cc pc = .ok (.anewarray i0, 3)) (hw : Cond.classLink own i0 "RoundsPerHour$Sheet" ∈ mWT) (hs : mshp n = .inl (4, N)) (h0 : ¬ z < 0) (hN : z.toNatClampNeg = N) (hb : N * 4 ≤ 536870912) (hz : zc σ n) (hcells : c + 1 ≤ R.cells) (hslots : s + N ≤ R.slots) (hn : n + 1 ≤ 1000) (k : MW l E cc own nL ret ini R mc ms res (n + 1) (c + 1) (s + N) σ (pc + 3) L (.ref n :: st)) : MW l E cc own nL ret ini R mc ms res n c s σ pc L (.int z :: st) := by
  intro p e s0 m args below meth c0 H locs ls C X hl
  refine X.size (fun hsz => ?_)
  subst hN
  refine W.anew C.1 C.2.1 C.2.2.2.2.2.1 (C.2.2.2.2.1 _ hw) (va_AO.use C.2.2.2.2.2.2.2.1.2.2.2.2.2.2.2.2.2) rfl hd rfl h0 hb hcells hslots fun cA kA comp f1 f2 f3 f4 => ?_
  generalize hH1 : H.push ({ cls := cA, slots := Array.replicate z.toNatClampNeg .null, vm := .none } : Cell) = H1
  have z1 : H1.size = H.size + 1 := by rw [← hH1, Array.size_push]
  have e1 : H1[H.size]? = some (arrV cA z.toNatClampNeg (fun _ => .null)) := by rw [← hH1, Array.getElem?_push_size, ← arrV_new]
  have o1 : ∀ q : Nat, q < H.size → H1[q]? = H[q]? := fun q hq => by rw [← hH1, Array.getElem?_push, if_neg (Nat.ne_of_lt hq)]
  have ha := mad_n (E := E) hsz hn
  have hcA : cA = E.2.1 4 := by
    obtain ⟨kB, cB, -, -, -, h1⟩ := (C.2.2.2.2.2.2.2.1.1.2 4 _ rfl).2
    exact Option.some.inj (f1.symm.trans h1)
  subst hcA
  have hX := mva_push X hsz hn z1 o1 (by
    rw [mcel_arr hs]
    show H1[mad E n]? = some (vp_cell _ _)
    rw [ha, e1]
    have hf : (fun j => (mmR σ n j).map (mad E)) = fun _ => none := funext (fun j => by rw [(hz j).2.2]; rfl)
    show some _ = some (vp_cell (E.2.1 4) (_, .inr (.inr (.inr (.inr (fun j => (mmR σ n j).map (mad E)))))))
    rw [hf]
    rfl)
  have := k p e s0 m args below meth c0 H1 locs ls C hX hl
  simp only [List.map_cons, mtv, ha] at this
  exact this
theorem mw_objInit {i0 x : Nat} (hd : decode cc pc = .ok (.invokespecial i0, 3)) (hw : Cond.methodLink own i0 Lib.objectInit ∈ mWT) (hw2 : Cond.instanceMethod Lib.objectInit ∈ mWT) (hw3 : Cond.code Lib.objectInit ⟨#[0xb1]⟩ 1 none ∈ mWT) (hR : 1 ≤ R.frames) (hR2 : (st.map fun v => v.category).sum + 12 ≤ R.locals) (k : MW l E cc own nL ret ini R mc ms res n c s σ (pc + 3) L st) : MW l E cc own nL ret ini R mc ms res n c s σ pc L (.ref x :: st) := by
  intro p e s0 m args below meth c0 H locs ls C X hl
  refine W.objInit (rest := st.map (mtv E)) C.1 C.2.1 C.2.2.2.2.2.1 (C.2.2.2.2.1 _ hw) (C.2.2.2.2.1 _ hw2) (C.2.2.2.2.1 _ hw3) rfl (by rw [C.2.2.2.1]; exact hl.1) rfl hd hR (by rw [mcatsum]; show 2 * 0 + _ + 12 ≤ _; omega) ?_
  exact k p e s0 m args below meth c0 H locs ls C X hl
theorem mw_aast {k q ci N : Nat} {i : Int32} (hd : decode cc pc = .ok (.aastore, 1)) (hk : k < n) (hs : mshp k = .inl (4, N)) (hq : q < n) (hsq : mshp q = .inr 4) (hi : vp_in i N) (kk : MW l E cc own nL ret ini R mc ms res n c s (muR σ k i.toNatClampNeg (some q)) (pc + 1) L st) : MW l E cc own nL ret ini R mc ms res n c s σ pc L (.ref q :: .int i :: .ref k :: st) := by
  intro p e s0 m args below meth c0 H locs ls C X hl
  refine va_astq (tys := mtys E) (r := (RX5, TX5, 3)) C.1 C.2.1 C.2.2.2.2.2.2.2.1.1 X.2.2.2.1 (mwd_D X.1) X.2.2.1 k 4 q 4 (by rw [mwd_at hk, mcel_arr hs]; rfl) rfl (by rw [mwd_at hq, mcel_obj hsq]) rfl hi hd (fun H1 locs1 hP _ hS => kk p e s0 m args below meth c0 H1 locs1 ls C ⟨X.1, X.2.1, hS, ?_, X.2.2.2.2⟩ hl)
  have he : mcel E (muR σ k i.toNatClampNeg (some q)) k = .inl (E.2.1 4, N, .inr (.inr (.inr (.inr (va_up (fun j => (mmR σ k j).map (mad E)) i.toNatClampNeg (some (mad E q))))))) := by
    rw [mcel_arr hs]
    show Sum.inl (_, _, Sum.inr (Sum.inr (Sum.inr (Sum.inr (fun j => (mmR (muR σ k i.toNatClampNeg (some q)) k j).map (mad E)))))) = _
    congr 7
    funext j
    by_cases h : j = i.toNatClampNeg
    · subst h
      simp [mmR_uR, va_up]
    · simp [mmR_uR, va_up, h]
  rw [← mwd_set (σ := σ) hk he (fun a ha => mcel_uR ha)]
  exact hP

theorem mk_new {n' c' s' : Nat} {N0 : Nat} (e1 : n + 1 = n') (e2 : c + 1 = c') (e3 : s + N0 = s') {ci i0 N : Nat} {C0 : String} {T : u_T} (ty0 : Nat → FieldType) (hd : decode cc pc = .ok (.new i0, 3)) (hc : vwCl[ci]? = some (C0, T, N)) (hN : mnF ci = N) (hs : mshp n = .inr ci) (hin : ∀ w ∈ u_ws C0 T N, w ∈ mWT) (hty : ∀ k, k < N → parseFieldDescriptor (T k).2.2.1 = some (ty0 k)) (hmt : ∀ k, k < N → mft ci k = ty0 k ∧ mdef (ty0 k) = true) (hcl : Cond.classLink own i0 C0 ∈ mWT) (hinst : Cond.instantiable C0 N ∈ mWT) (hini : Cond.initialized C0 ∈ mWT) (hz : zc σ n) (hcells : c + 1 ≤ R.cells) (hslots : s + N ≤ R.slots) (hn : n + 1 ≤ 1000) (eN : N0 = N := by rfl) (k : MW l E cc own nL ret ini R mc ms res n' c' s' σ (pc + 3) L (.ref n :: st)) : MW l E cc own nL ret ini R mc ms res n c s σ pc L st := by
  subst e1; subst e2; subst e3; subst eN
  exact mw_new ty0 hd hc hN hs hin hty hmt hcl hinst hini hz hcells hslots hn k

theorem mk_newaI {n' c' s' : Nat} {N0 : Nat} (e1 : n + 1 = n') (e2 : c + 1 = c') (e3 : s + N0 = s') {N : Nat} {z : Int32} (hd : decode cc pc = .ok (.newarray .int, 2)) (hw : Cond.arrayClass .int ∈ mWT) (hs : mshp n = .inl (0, N)) (h0 : ¬ z < 0) (hN : z.toNatClampNeg = N) (hb : N * componentBytes .int ≤ 536870912) (hz : zc σ n) (hcells : c + 1 ≤ R.cells) (hslots : s + N ≤ R.slots) (hn : n + 1 ≤ 1000) (eN : N0 = N := by rfl) (k : MW l E cc own nL ret ini R mc ms res n' c' s' σ (pc + 2) L (.ref n :: st)) : MW l E cc own nL ret ini R mc ms res n c s σ pc L (.int z :: st) := by
  subst e1; subst e2; subst e3; subst eN
  exact mw_newaI hd hw hs h0 hN hb hz hcells hslots hn k

theorem mk_newaL {n' c' s' : Nat} {N0 : Nat} (e1 : n + 1 = n') (e2 : c + 1 = c') (e3 : s + N0 = s') {N : Nat} {z : Int32} (hd : decode cc pc = .ok (.newarray .long, 2)) (hw : Cond.arrayClass .long ∈ mWT) (hs : mshp n = .inl (1, N)) (h0 : ¬ z < 0) (hN : z.toNatClampNeg = N) (hb : N * componentBytes .long ≤ 536870912) (hz : zc σ n) (hcells : c + 1 ≤ R.cells) (hslots : s + N ≤ R.slots) (hn : n + 1 ≤ 1000) (eN : N0 = N := by rfl) (k : MW l E cc own nL ret ini R mc ms res n' c' s' σ (pc + 2) L (.ref n :: st)) : MW l E cc own nL ret ini R mc ms res n c s σ pc L (.int z :: st) := by
  subst e1; subst e2; subst e3; subst eN
  exact mw_newaL hd hw hs h0 hN hb hz hcells hslots hn k

theorem mk_newaZ {n' c' s' : Nat} {N0 : Nat} (e1 : n + 1 = n') (e2 : c + 1 = c') (e3 : s + N0 = s') {N : Nat} {z : Int32} (hd : decode cc pc = .ok (.newarray .boolean, 2)) (hw : Cond.arrayClass .boolean ∈ mWT) (hs : mshp n = .inl (2, N)) (h0 : ¬ z < 0) (hN : z.toNatClampNeg = N) (hb : N * componentBytes .boolean ≤ 536870912) (hz : zc σ n) (hcells : c + 1 ≤ R.cells) (hslots : s + N ≤ R.slots) (hn : n + 1 ≤ 1000) (eN : N0 = N := by rfl) (k : MW l E cc own nL ret ini R mc ms res n' c' s' σ (pc + 2) L (.ref n :: st)) : MW l E cc own nL ret ini R mc ms res n c s σ pc L (.int z :: st) := by
  subst e1; subst e2; subst e3; subst eN
  exact mw_newaZ hd hw hs h0 hN hb hz hcells hslots hn k

theorem mk_newaC {n' c' s' : Nat} {N0 : Nat} (e1 : n + 1 = n') (e2 : c + 1 = c') (e3 : s + N0 = s') {N : Nat} {z : Int32} (hd : decode cc pc = .ok (.newarray .char, 2)) (hw : Cond.arrayClass .char ∈ mWT) (hs : mshp n = .inl (3, N)) (h0 : ¬ z < 0) (hN : z.toNatClampNeg = N) (hb : N * componentBytes .char ≤ 536870912) (hz : zc σ n) (hcells : c + 1 ≤ R.cells) (hslots : s + N ≤ R.slots) (hn : n + 1 ≤ 1000) (eN : N0 = N := by rfl) (k : MW l E cc own nL ret ini R mc ms res n' c' s' σ (pc + 2) L (.ref n :: st)) : MW l E cc own nL ret ini R mc ms res n c s σ pc L (.int z :: st) := by
  subst e1; subst e2; subst e3; subst eN
  exact mw_newaC hd hw hs h0 hN hb hz hcells hslots hn k

theorem mk_newq {n' c' s' : Nat} {N0 : Nat} (e1 : n + 1 = n') (e2 : c + 1 = c') (e3 : s + N0 = s') {N i0 : Nat} {z : Int32} (hd : decode cc pc = .ok (.anewarray i0, 3)) (hw : Cond.classLink own i0 "RoundsPerHour$Sheet" ∈ mWT) (hs : mshp n = .inl (4, N)) (h0 : ¬ z < 0) (hN : z.toNatClampNeg = N) (hb : N * 4 ≤ 536870912) (hz : zc σ n) (hcells : c + 1 ≤ R.cells) (hslots : s + N ≤ R.slots) (hn : n + 1 ≤ 1000) (eN : N0 = N := by rfl) (k : MW l E cc own nL ret ini R mc ms res n' c' s' σ (pc + 3) L (.ref n :: st)) : MW l E cc own nL ret ini R mc ms res n c s σ pc L (.int z :: st) := by
  subst e1; subst e2; subst e3; subst eN
  exact mw_newq hd hw hs h0 hN hb hz hcells hslots hn k

theorem mk_callI {n' c' s' : Nat} {y : MethodName} {bytes1 : ByteArray} {maxL1 mc1 ms1 na i0 b : Nat} {rm1 : Room} {As st0 : List Value} (hw : MLi own i0 y bytes1 maxL1 none na) (hd : decode cc pc = .ok (.invokespecial i0, 3)) (hM : MCt l y bytes1 maxL1 none rm1 (.ref b :: As) n σ mc1 ms1 (n', none, σ')) (hna : As.length = na) (hst : As.reverse ++ .ref b :: st = st0) (hcs : (st.map fun v => v.category).sum ≤ 8) (hR : rm1.frames + 1 ≤ R.frames ∧ 8 + (maxL1 + 11) + rm1.locals ≤ R.locals) (hrc : rm1.cells = mc1) (hrs : rm1.slots = ms1) (hn : n' = n + mc1) (e2 : c + mc1 = c') (e3 : s + ms1 = s') (hn2 : n' ≤ 1000) (hf : c + mc1 ≤ R.cells ∧ s + ms1 ≤ R.slots) (kk : MW l E cc own nL ret ini R mc ms res n' c' s' σ' (pc + 3) L st) : MW l E cc own nL ret ini R mc ms res n c s σ pc L st0 := by
  subst e2; subst e3
  exact mw_callI hw rfl hd hM hna hst hcs hR hrc hrs hn hn2 hf kk

theorem mk_callIN {n' c' s' : Nat} {y : MethodName} {bytes1 : ByteArray} {maxL1 mc1 ms1 na i0 b : Nat} {rm1 : Room} {As st0 : List Value} {host : String} (hw : MLj own i0 host y bytes1 maxL1 none na) (hd : decode cc pc = .ok (.invokespecial i0, 3)) (hM : MCt l y bytes1 maxL1 none rm1 (.ref b :: As) n σ mc1 ms1 (n', none, σ')) (hna : As.length = na) (hst : As.reverse ++ .ref b :: st = st0) (hcs : (st.map fun v => v.category).sum ≤ 8) (hR : rm1.frames + 1 ≤ R.frames ∧ 8 + (maxL1 + 11) + rm1.locals ≤ R.locals) (hrc : rm1.cells = mc1) (hrs : rm1.slots = ms1) (hn : n' = n + mc1) (e2 : c + mc1 = c') (e3 : s + ms1 = s') (hn2 : n' ≤ 1000) (hf : c + mc1 ≤ R.cells ∧ s + ms1 ≤ R.slots) (kk : MW l E cc own nL ret ini R mc ms res n' c' s' σ' (pc + 3) L st) : MW l E cc own nL ret ini R mc ms res n c s σ pc L st0 := by
  subst e2; subst e3
  exact mw_callIN hw rfl hd hM hna hst hcs hR hrc hrs hn hn2 hf kk

end MMake

def rsup (f : Nat → Nat → Option Nat) : Prop := ∀ k j, 82 ≤ k ∨ 64 ≤ j → f k j = none
theorem su_I {σ : MSt} {a b : Nat} {v : Int32} (h : rsup σ.2.2) : rsup (muI σ a b v).2.2 := h
theorem su_R {σ : MSt} {a b : Nat} {v : Option Nat} (ha : a < 82) (hb : b < 64) (h : rsup σ.2.2) : rsup (muR σ a b v).2.2 := by
  intro k j hkj
  show mup2 σ.2.2 a b v k j = none
  unfold mup2
  rw [if_neg (by omega)]
  exact h k j hkj

def mkr (d c s : Nat) : Room := { frames := d, cells := c, slots := s, locals := 64 * d }