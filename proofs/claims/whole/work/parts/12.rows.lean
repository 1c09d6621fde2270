/-! ===== the rows as methods use them: 82 cells are there, nothing is made; checks as Booleans ===== -/
def mN : Nat := 340282366920938463463374607431768211456
def mrm (d : Nat) : Room := { frames := d, cells := 0, slots := 0, locals := 64 * d }
theorem mrm_ok {d e m : Nat} (h : d + 1 ≤ e) (hm : m ≤ 45) : (mrm d).frames + 1 ≤ (mrm e).frames ∧ 8 + (m + 11) + (mrm d).locals ≤ (mrm e).locals := by
  simp only [mrm]
  omega
abbrev MV (l : Launch) (E : MX) (cc : ByteArray) (own : String) (nL : Nat) (ret : Option FieldType) (d : Nat) (res : Nat × Option Value × MSt) (σ : MSt) (pc : Nat) (L : List (Nat × Value)) (st : List Value) : Prop := MW l E cc own nL ret false (mrm d) 0 0 res 82 0 0 σ pc L st
abbrev MK (l : Launch) (y : MethodName) (cc : ByteArray) (nL : Nat) (ret : Option FieldType) (d : Nat) (args : List Value) (σ : MSt) (r : Option Value) (σ' : MSt) : Prop := MCt l y cc nL ret (mrm d) args 82 σ 0 0 (82, r, σ')
def mob (ci k : Nat) : Bool := decide (k < 82) && (match mshp k with
  | .inr c => c == ci
  | .inl _ => false)
def mib (i : Int32) (N : Nat) : Bool := !decide (i < 0) && decide (i.toNatClampNeg < N)
def mix (t k : Nat) (i : Int32) : Bool := decide (k < 82) && (match mshp k with
  | .inl q => q.1 == t && mib i q.2
  | .inr _ => false)
def mar (k : Nat) : Bool := decide (k < 82) && (match mshp k with
  | .inl q => decide (q.1 < 5)
  | .inr _ => false)
def mlen (k : Nat) : Nat := match mshp k with
  | .inl q => q.2
  | .inr _ => 0
def mcpk (t k0 k1 : Nat) (sp dp z : Int32) : Bool := decide (k0 < 82) && decide (k1 < 82) && (match mshp k0, mshp k1 with
  | .inl q0, .inl q1 => q0.1 == t && q1.1 == t && !decide (sp < 0) && !decide (dp < 0) && !decide (z < 0) && decide (sp.toNatClampNeg + z.toNatClampNeg ≤ q0.2) && decide (dp.toNatClampNeg + z.toNatClampNeg ≤ q1.2)
  | _, _ => false)
theorem mob1 {ci k : Nat} (h : mob ci k = true) : k < 82 := by
  simp only [mob, Bool.and_eq_true, decide_eq_true_eq] at h
  exact h.1
theorem mob2 {ci k : Nat} (h : mob ci k = true) : mshp k = .inr ci := by
  simp only [mob, Bool.and_eq_true] at h
  cases e : mshp k with
  | inl q => rw [e] at h; exact absurd h.2 (by simp)
  | inr c => rw [e] at h; rw [eq_of_beq h.2]
theorem mib1 {i : Int32} {N : Nat} (h : mib i N = true) : vp_in i N := by
  simp only [mib, Bool.and_eq_true, Bool.not_eq_true', decide_eq_false_iff_not, decide_eq_true_eq] at h
  exact fun q => q.elim h.1 (fun z => absurd h.2 (by omega))
theorem mix1 {t k : Nat} {i : Int32} (h : mix t k i = true) : ∃ N, k < 82 ∧ mshp k = .inl (t, N) ∧ vp_in i N := by
  simp only [mix, Bool.and_eq_true, decide_eq_true_eq] at h
  obtain ⟨h1, h2⟩ := h
  cases e : mshp k with
  | inr c => rw [e] at h2; exact absurd h2 (by simp)
  | inl q =>
    rw [e] at h2
    simp only [Bool.and_eq_true] at h2
    obtain ⟨q1, q2⟩ := q
    have := eq_of_beq h2.1
    simp only at this
    subst this
    exact ⟨q2, h1, rfl, mib1 h2.2⟩
theorem mar1 {k : Nat} (h : mar k = true) : ∃ t N, t < 5 ∧ k < 82 ∧ mshp k = .inl (t, N) ∧ mlen k = N := by
  simp only [mar, Bool.and_eq_true, decide_eq_true_eq] at h
  obtain ⟨h1, h2⟩ := h
  cases e : mshp k with
  | inr c => rw [e] at h2; exact absurd h2 (by simp)
  | inl q =>
    rw [e] at h2
    exact ⟨q.1, q.2, of_decide_eq_true h2, h1, rfl, by simp only [mlen, e]⟩
theorem mcpk1 {t k0 k1 : Nat} {sp dp z : Int32} (h : mcpk t k0 k1 sp dp z = true) : ∃ N0 N1, k0 < 82 ∧ k1 < 82 ∧ mshp k0 = .inl (t, N0) ∧ mshp k1 = .inl (t, N1) ∧ ¬ sp < 0 ∧ ¬ dp < 0 ∧ ¬ z < 0 ∧ sp.toNatClampNeg + z.toNatClampNeg ≤ N0 ∧ dp.toNatClampNeg + z.toNatClampNeg ≤ N1 := by
  simp only [mcpk, Bool.and_eq_true, decide_eq_true_eq] at h
  obtain ⟨⟨h1, h2⟩, h3⟩ := h
  cases e : mshp k0 with
  | inr c => rw [e] at h3; exact absurd h3 (by simp)
  | inl q =>
    cases e1 : mshp k1 with
    | inr c => rw [e, e1] at h3; exact absurd h3 (by simp)
    | inl q1 =>
      rw [e, e1] at h3
      obtain ⟨a0, b0⟩ := q
      obtain ⟨a1, b1⟩ := q1
      simp only [Bool.and_eq_true, beq_iff_eq, Bool.not_eq_true', decide_eq_false_iff_not, decide_eq_true_eq] at h3
      obtain ⟨⟨⟨⟨⟨⟨g1, g2⟩, g3⟩, g4⟩, g5⟩, g6⟩, g7⟩ := h3
      subst g1; subst g2
      exact ⟨b0, b1, h1, h2, rfl, rfl, g3, g4, g5, g6, g7⟩
theorem mbd {α β : Type} {x : Option α} {f : α → Option β} {r : β} (h : x.bind f = some r) : ∃ a, x = some a ∧ f a = some r := by
  cases x with
  | none => cases h
  | some a => exact ⟨a, rfl, h⟩
theorem mit {α : Type} {c : Prop} [Decidable c] {A B r : α} (hc : c) (h : (if c then A else B) = r) : A = r := by rwa [if_pos hc] at h
theorem mie {α : Type} {c : Prop} [Decidable c] {A B r : α} (hc : ¬ c) (h : (if c then A else B) = r) : B = r := by rwa [if_neg hc] at h
theorem mif {α : Type} {c : Prop} [Decidable c] {A : Option α} {r : α} (h : (if c then A else none) = some r) : c ∧ A = some r := by
  by_cases hc : c
  · exact ⟨hc, mit hc h⟩
  · exact absurd (mie hc h) (by simp)
theorem mnf {α : Type} {c : Prop} [Decidable c] {A : Option α} {r : α} (h : (if c then none else A) = some r) : ¬ c ∧ A = some r := by
  by_cases hc : c
  · exact absurd (mit hc h) (by simp)
  · exact ⟨hc, mie hc h⟩
theorem mrs_i {x out : Int32} {σ : MSt} (h : some x = some out) : ((82, some (.int out), σ) : Nat × Option Value × MSt) = (82, some (.int x), σ) := by cases h; rfl
theorem mrs_l {x out : Int64} {σ : MSt} (h : some x = some out) : ((82, some (.long out), σ) : Nat × Option Value × MSt) = (82, some (.long x), σ) := by cases h; rfl
theorem mrs_im {x : Int32} {out : Int32 × MSt} {σ : MSt} (h : some (x, σ) = some out) : ((82, some (.int out.1), out.2) : Nat × Option Value × MSt) = (82, some (.int x), σ) := by cases h; rfl
theorem mrs_lm {x : Int64} {out : Int64 × MSt} {σ : MSt} (h : some (x, σ) = some out) : ((82, some (.long out.1), out.2) : Nat × Option Value × MSt) = (82, some (.long x), σ) := by cases h; rfl
theorem mrs_vm {out σ : MSt} (h : some σ = some out) : ((82, none, out) : Nat × Option Value × MSt) = (82, none, σ) := by cases h; rfl
theorem mne32 {x y : Int32} (h : ¬ x = y) : ¬ x.toInt = y.toInt := fun q => h (Int32.toInt_inj.mp q)
/-- what the tables say of a field, to read it, to write it -/
def MFd (own : String) (i0 ci j : Nat) : Prop := ∃ (ref C0 : String) (T : u_T) (N : Nat), vwCl[ci]? = some (C0, T, N) ∧ mnF ci = N ∧ j < N ∧ (∀ w ∈ u_ws C0 T N, w ∈ mWT) ∧ Cond.fieldLink own i0 ref (T j).2.1 (T j).2.2.1 ∈ mWT ∧ (ref = (T j).1 ∨ Cond.sameField ref (T j).1 (T j).2.1 (T j).2.2.1 ∈ mWT)
def MFw (own : String) (i0 ci j : Nat) (ty : FieldType) : Prop := ∃ (ref C0 : String) (T : u_T) (N : Nat) (ty0 : Nat → FieldType), vwCl[ci]? = some (C0, T, N) ∧ mnF ci = N ∧ j < N ∧ (∀ w ∈ u_ws C0 T N, w ∈ mWT) ∧ Cond.fieldLink own i0 ref (T j).2.1 (T j).2.2.1 ∈ mWT ∧ (ref = (T j).1 ∨ Cond.sameField ref (T j).1 (T j).2.1 (T j).2.2.1 ∈ mWT) ∧ (∀ k, k < N → parseFieldDescriptor (T k).2.2.1 = some (ty0 k)) ∧ (∀ a, a < N → ∀ b, b < N → a ≠ b → (T a).2.1 ≠ (T b).2.1) ∧ (T j).2.2.2 = false ∧ parseFieldDescriptor (T j).2.2.1 = some ty
theorem muws {ws : List Cond} (ps : List Nat) (h : ws = ps.filterMap (fun i => tables_1[i]?)) (g : ws.all goodWord = true) : ∀ w ∈ ws, w ∈ mWT := by
  intro w hw
  have h1 := List.all_eq_true.mp g w hw
  rw [h] at hw
  obtain ⟨i, -, hi⟩ := List.mem_filterMap.mp hw
  exact mwt (List.mem_append_right _ (List.mem_of_getElem? hi)) h1
section MRules2
variable {l : Launch} {E : MX} {cc : ByteArray} {own : String} {nL : Nat} {ret : Option FieldType} {d : Nat} {res : Nat × Option Value × MSt} {σ σ' : MSt} {pc : Nat} {L L' : List (Nat × Value)} {st : List Value}

theorem mv_getI {k j ci i0 : Nat} (hf : MFd own i0 ci j) (hd : decode cc pc = .ok (.getfield i0, 3)) (hm : mob ci k = true) (ht : mft ci j = .int) (kk : MV l E cc own nL ret d res σ (pc + 3) L (.int (mmI σ k j) :: st)) : MV l E cc own nL ret d res σ pc L (.ref k :: st) := by
  obtain ⟨ref, C0, T, N, h1, h2, h3, h4, h5, h6⟩ := hf
  exact mw_get hd (mob1 hm) (mob2 hm) h1 h2 h3 h4 h5 h6 (by rw [ht]; rfl) kk

theorem mv_getZ {k j ci i0 : Nat} (hf : MFd own i0 ci j) (hd : decode cc pc = .ok (.getfield i0, 3)) (hm : mob ci k = true) (ht : mft ci j = .boolean) (kk : MV l E cc own nL ret d res σ (pc + 3) L (.int (mmI σ k j) :: st)) : MV l E cc own nL ret d res σ pc L (.ref k :: st) := by
  obtain ⟨ref, C0, T, N, h1, h2, h3, h4, h5, h6⟩ := hf
  exact mw_get hd (mob1 hm) (mob2 hm) h1 h2 h3 h4 h5 h6 (by rw [ht]; rfl) kk

theorem mv_getL {k j ci i0 : Nat} (hf : MFd own i0 ci j) (hd : decode cc pc = .ok (.getfield i0, 3)) (hm : mob ci k = true) (ht : mft ci j = .long) (kk : MV l E cc own nL ret d res σ (pc + 3) L (.long (mmL σ k j) :: st)) : MV l E cc own nL ret d res σ pc L (.ref k :: st) := by
  obtain ⟨ref, C0, T, N, h1, h2, h3, h4, h5, h6⟩ := hf
  exact mw_get hd (mob1 hm) (mob2 hm) h1 h2 h3 h4 h5 h6 (by rw [ht]; rfl) kk

theorem mv_getR {k j ci i0 q : Nat} (hf : MFd own i0 ci j) (hd : decode cc pc = .ok (.getfield i0, 3)) (hm : mob ci k = true) (ht : mfr (mft ci j) = true) (hq : mmR σ k j = some q) (kk : MV l E cc own nL ret d res σ (pc + 3) L (.ref q :: st)) : MV l E cc own nL ret d res σ pc L (.ref k :: st) := by
  obtain ⟨ref, C0, T, N, h1, h2, h3, h4, h5, h6⟩ := hf
  refine mw_get (v := .ref q) hd (mob1 hm) (mob2 hm) h1 h2 h3 h4 h5 h6 ?_ kk
  cases e : mft ci j <;> rw [e] at ht <;> first | (simp [mfr] at ht; done) | (simp only [mfv, hq]; rfl)

theorem mv_putI {k j ci i0 : Nat} {x : Int32} (hf : MFw own i0 ci j .int) (hd : decode cc pc = .ok (.putfield i0, 3)) (hm : mob ci k = true) (ht : mft ci j = .int) (kk : MV l E cc own nL ret d res (muI σ k j x) (pc + 3) L st) : MV l E cc own nL ret d res σ pc L (.int x :: .ref k :: st) := by
  obtain ⟨ref, C0, T, N, ty0, h1, h2, h3, h4, h5, h6, h7, h8, h9, h10⟩ := hf
  exact mw_putI ty0 h7 h8 hd (mob1 hm) (mob2 hm) h1 h2 h3 h4 h5 h6 (Or.inl h9) h10 (Or.inl ht) kk

theorem mv_putZ {k j ci i0 : Nat} {x : Int32} (hf : MFw own i0 ci j .boolean) (hd : decode cc pc = .ok (.putfield i0, 3)) (hm : mob ci k = true) (ht : mft ci j = .boolean) (hx : x = 0 ∨ x = 1) (kk : MV l E cc own nL ret d res (muI σ k j x) (pc + 3) L st) : MV l E cc own nL ret d res σ pc L (.int x :: .ref k :: st) := by
  obtain ⟨ref, C0, T, N, ty0, h1, h2, h3, h4, h5, h6, h7, h8, h9, h10⟩ := hf
  exact mw_putZ ty0 h7 h8 hd (mob1 hm) (mob2 hm) h1 h2 h3 h4 h5 h6 (Or.inl h9) h10 (Or.inr ht) hx kk

theorem mv_putL {k j ci i0 : Nat} {x : Int64} (hf : MFw own i0 ci j .long) (hd : decode cc pc = .ok (.putfield i0, 3)) (hm : mob ci k = true) (ht : mft ci j = .long) (kk : MV l E cc own nL ret d res (muL σ k j x) (pc + 3) L st) : MV l E cc own nL ret d res σ pc L (.long x :: .ref k :: st) := by
  obtain ⟨ref, C0, T, N, ty0, h1, h2, h3, h4, h5, h6, h7, h8, h9, h10⟩ := hf
  exact mw_putL ty0 h7 h8 hd (mob1 hm) (mob2 hm) h1 h2 h3 h4 h5 h6 (Or.inl h9) h10 ht kk

theorem mv_putR {k j ci i0 x : Nat} {ty : FieldType} (hf : MFw own i0 ci j ty) (hd : decode cc pc = .ok (.putfield i0, 3)) (hm : mob ci k = true) (ht : mft ci j = ty) (hr : mfr ty = true) (kk : MV l E cc own nL ret d res (muR σ k j (some x)) (pc + 3) L st) : MV l E cc own nL ret d res σ pc L (.ref x :: .ref k :: st) := by
  obtain ⟨ref, C0, T, N, ty0, h1, h2, h3, h4, h5, h6, h7, h8, h9, h10⟩ := hf
  exact mw_putR ty0 h7 h8 hd (mob1 hm) (mob2 hm) h1 h2 h3 h4 h5 h6 (Or.inl h9) h10 (by rw [ht]; exact hr) hr kk

theorem mv_iald {k : Nat} {i : Int32} (hd : decode cc pc = .ok (.iaload, 1)) (hm : mix 0 k i = true) (kk : MV l E cc own nL ret d res σ (pc + 1) L (.int (mmI σ k i.toNatClampNeg) :: st)) : MV l E cc own nL ret d res σ pc L (.int i :: .ref k :: st) := by
  obtain ⟨N, h1, h2, h3⟩ := mix1 hm
  exact mw_iald hd h1 h2 h3 kk

theorem mv_lald {k : Nat} {i : Int32} (hd : decode cc pc = .ok (.laload, 1)) (hm : mix 1 k i = true) (kk : MV l E cc own nL ret d res σ (pc + 1) L (.long (mmL σ k i.toNatClampNeg) :: st)) : MV l E cc own nL ret d res σ pc L (.int i :: .ref k :: st) := by
  obtain ⟨N, h1, h2, h3⟩ := mix1 hm
  exact mw_lald hd h1 h2 h3 kk

theorem mv_zald {k : Nat} {i : Int32} (hd : decode cc pc = .ok (.baload, 1)) (hm : mix 2 k i = true) (kk : MV l E cc own nL ret d res σ (pc + 1) L (.int (mmI σ k i.toNatClampNeg) :: st)) : MV l E cc own nL ret d res σ pc L (.int i :: .ref k :: st) := by
  obtain ⟨N, h1, h2, h3⟩ := mix1 hm
  exact mw_zald hd h1 h2 h3 kk

theorem mv_cald {k : Nat} {i : Int32} (hd : decode cc pc = .ok (.caload, 1)) (hm : mix 3 k i = true) (kk : MV l E cc own nL ret d res σ (pc + 1) L (.int (mmI σ k i.toNatClampNeg) :: st)) : MV l E cc own nL ret d res σ pc L (.int i :: .ref k :: st) := by
  obtain ⟨N, h1, h2, h3⟩ := mix1 hm
  exact mw_cald hd h1 h2 h3 kk

theorem mv_aald {k q : Nat} {i : Int32} (hd : decode cc pc = .ok (.aaload, 1)) (hm : mix 4 k i = true) (hq : mmR σ k i.toNatClampNeg = some q) (kk : MV l E cc own nL ret d res σ (pc + 1) L (.ref q :: st)) : MV l E cc own nL ret d res σ pc L (.int i :: .ref k :: st) := by
  obtain ⟨N, h1, h2, h3⟩ := mix1 hm
  exact mw_aald hd h1 h2 h3 hq kk

theorem mv_iast {k : Nat} {i : Int32} {x : Int32} (hd : decode cc pc = .ok (.iastore, 1)) (hm : mix 0 k i = true) (kk : MV l E cc own nL ret d res (muI σ k i.toNatClampNeg x) (pc + 1) L st) : MV l E cc own nL ret d res σ pc L (.int x :: .int i :: .ref k :: st) := by
  obtain ⟨N, h1, h2, h3⟩ := mix1 hm
  exact mw_iast hd h1 h2 h3 kk

theorem mv_last {k : Nat} {i : Int32} {x : Int64} (hd : decode cc pc = .ok (.lastore, 1)) (hm : mix 1 k i = true) (kk : MV l E cc own nL ret d res (muL σ k i.toNatClampNeg x) (pc + 1) L st) : MV l E cc own nL ret d res σ pc L (.long x :: .int i :: .ref k :: st) := by
  obtain ⟨N, h1, h2, h3⟩ := mix1 hm
  exact mw_last hd h1 h2 h3 kk

theorem mv_zast {k : Nat} {i : Int32} {x : Int32} (hd : decode cc pc = .ok (.bastore, 1)) (hm : mix 2 k i = true) (kk : MV l E cc own nL ret d res (muI σ k i.toNatClampNeg (vp_nar .boolean x)) (pc + 1) L st) : MV l E cc own nL ret d res σ pc L (.int x :: .int i :: .ref k :: st) := by
  obtain ⟨N, h1, h2, h3⟩ := mix1 hm
  exact mw_zast hd h1 h2 h3 kk

theorem mw_alen {k t N : Nat} (hd : decode cc pc = .ok (.arraylength, 1)) (ht : t < 5) (hk : k < 82) (hs : mshp k = .inl (t, N)) (kk : MV l E cc own nL ret d res σ (pc + 1) L (.int (Int32.ofNat N) :: st)) : MV l E cc own nL ret d res σ pc L (.ref k :: st) := by
  intro p e s0 m args below meth c0 H locs ls C X hl
  obtain ⟨ty, hty⟩ : ∃ ty, (mtys E)[t]? = some (E.2.1 t, ty) := by
    rcases t with _ | _ | _ | _ | _ | t
    · exact ⟨_, rfl⟩
    · exact ⟨_, rfl⟩
    · exact ⟨_, rfl⟩
    · exact ⟨_, rfl⟩
    · exact ⟨_, rfl⟩
    · omega
  exact va_alen (tys := mtys E) C.1 C.2.1 C.2.2.2.2.2.2.2.1.1 X.2.2.2.1 k t (x := (N, marO E t σ k)) (by rw [mwd_at hk, mcel_arr hs]) hty rfl hd (kk p e s0 m args below meth c0 H locs ls C X hl)
theorem mv_alen {k : Nat} (hd : decode cc pc = .ok (.arraylength, 1)) (hm : mar k = true) (kk : MV l E cc own nL ret d res σ (pc + 1) L (.int (Int32.ofNat (mlen k)) :: st)) : MV l E cc own nL ret d res σ pc L (.ref k :: st) := by
  obtain ⟨t, N, h0, h1, h2, h3⟩ := mar1 hm
  rw [h3] at kk
  exact mw_alen hd h0 h1 h2 kk

theorem mv_copyI {k0 k1 i0 : Nat} {sp dp z : Int32} (hd : decode cc pc = .ok (.invokestatic i0, 3)) (hw1 : Cond.methodLink own i0 arraycopyName ∈ mWT) (hw2 : Cond.native arraycopyName ∈ mWT) (hw3 : Cond.static arraycopyName ∈ mWT) (hw4 : Cond.initialized "java/lang/System" ∈ mWT) (hm : mcpk 0 k0 k1 sp dp z = true) (hR : 1 ≤ d) (hs : (st.map fun v => v.category).sum ≤ 8) (kk : MV l E cc own nL ret d res (mcpI σ k0 sp.toNatClampNeg k1 dp.toNatClampNeg z.toNatClampNeg) (pc + 3) L st) : MV l E cc own nL ret d res σ pc L (.int z :: .int dp :: .ref k1 :: .int sp :: .ref k0 :: st) := by
  obtain ⟨N0, N1, h1, h2, h3, h4, h5, h6, h7, h8, h9⟩ := mcpk1 hm
  exact mw_copyI hd hw1 hw2 hw3 hw4 h1 h2 h3 h4 h5 h6 h7 h8 h9 hR (by
    have : nativeFrameWords "java/lang/System" "arraycopy" 5 + 11 ≤ 50 := by decide +kernel
    simp only [mrm]
    omega) kk

theorem mv_copyL {k0 k1 i0 : Nat} {sp dp z : Int32} (hd : decode cc pc = .ok (.invokestatic i0, 3)) (hw1 : Cond.methodLink own i0 arraycopyName ∈ mWT) (hw2 : Cond.native arraycopyName ∈ mWT) (hw3 : Cond.static arraycopyName ∈ mWT) (hw4 : Cond.initialized "java/lang/System" ∈ mWT) (hm : mcpk 1 k0 k1 sp dp z = true) (hR : 1 ≤ d) (hs : (st.map fun v => v.category).sum ≤ 8) (kk : MV l E cc own nL ret d res (mcpL σ k0 sp.toNatClampNeg k1 dp.toNatClampNeg z.toNatClampNeg) (pc + 3) L st) : MV l E cc own nL ret d res σ pc L (.int z :: .int dp :: .ref k1 :: .int sp :: .ref k0 :: st) := by
  obtain ⟨N0, N1, h1, h2, h3, h4, h5, h6, h7, h8, h9⟩ := mcpk1 hm
  exact mw_copyL hd hw1 hw2 hw3 hw4 h1 h2 h3 h4 h5 h6 h7 h8 h9 hR (by
    have : nativeFrameWords "java/lang/System" "arraycopy" 5 + 11 ≤ 50 := by decide +kernel
    simp only [mrm]
    omega) kk

theorem mv_callV_i {y : MethodName} {bytes1 : ByteArray} {maxL1 na i0 d1 : Nat} {ret1 : Option FieldType} {As st0 : List Value} {r : Int32} {b ci N1 : Nat} {C1 : String} {T1 : u_T} (hw : MLv own i0 C1 y bytes1 maxL1 ret1 na) (hd : decode cc pc = .ok (.invokevirtual i0, 3)) (hM : MK l y bytes1 maxL1 ret1 d1 (.ref b :: As) σ (some (.int r)) σ') (hna : As.length = na) (hm : mob ci b = true) (hcl : vwCl[ci]? = some (C1, T1, N1)) (hst : (As.reverse ++ .ref b :: st) = st0) (hcs : (st.map fun v => v.category).sum ≤ 8) (hR : d1 + 1 ≤ d) (hmx : maxL1 ≤ 45) (kk : MV l E cc own nL ret d res σ' (pc + 3) L (.int r :: st)) : MV l E cc own nL ret d res σ pc L st0 :=
  mw_callV hw hd hM hna (mob1 hm) (mob2 hm) hcl hst hcs (mrm_ok hR hmx) rfl rfl rfl (Nat.le_of_ble_eq_true rfl) ⟨Nat.le_refl _, Nat.le_refl _⟩ kk

theorem mv_callV_l {y : MethodName} {bytes1 : ByteArray} {maxL1 na i0 d1 : Nat} {ret1 : Option FieldType} {As st0 : List Value} {r : Int64} {b ci N1 : Nat} {C1 : String} {T1 : u_T} (hw : MLv own i0 C1 y bytes1 maxL1 ret1 na) (hd : decode cc pc = .ok (.invokevirtual i0, 3)) (hM : MK l y bytes1 maxL1 ret1 d1 (.ref b :: As) σ (some (.long r)) σ') (hna : As.length = na) (hm : mob ci b = true) (hcl : vwCl[ci]? = some (C1, T1, N1)) (hst : (As.reverse ++ .ref b :: st) = st0) (hcs : (st.map fun v => v.category).sum ≤ 8) (hR : d1 + 1 ≤ d) (hmx : maxL1 ≤ 45) (kk : MV l E cc own nL ret d res σ' (pc + 3) L (.long r :: st)) : MV l E cc own nL ret d res σ pc L st0 :=
  mw_callV hw hd hM hna (mob1 hm) (mob2 hm) hcl hst hcs (mrm_ok hR hmx) rfl rfl rfl (Nat.le_of_ble_eq_true rfl) ⟨Nat.le_refl _, Nat.le_refl _⟩ kk

theorem mv_callV_v {y : MethodName} {bytes1 : ByteArray} {maxL1 na i0 d1 : Nat} {ret1 : Option FieldType} {As st0 : List Value} {b ci N1 : Nat} {C1 : String} {T1 : u_T} (hw : MLv own i0 C1 y bytes1 maxL1 ret1 na) (hd : decode cc pc = .ok (.invokevirtual i0, 3)) (hM : MK l y bytes1 maxL1 ret1 d1 (.ref b :: As) σ none σ') (hna : As.length = na) (hm : mob ci b = true) (hcl : vwCl[ci]? = some (C1, T1, N1)) (hst : (As.reverse ++ .ref b :: st) = st0) (hcs : (st.map fun v => v.category).sum ≤ 8) (hR : d1 + 1 ≤ d) (hmx : maxL1 ≤ 45) (kk : MV l E cc own nL ret d res σ' (pc + 3) L st) : MV l E cc own nL ret d res σ pc L st0 :=
  mw_callV hw hd hM hna (mob1 hm) (mob2 hm) hcl hst hcs (mrm_ok hR hmx) rfl rfl rfl (Nat.le_of_ble_eq_true rfl) ⟨Nat.le_refl _, Nat.le_refl _⟩ kk

theorem mv_callU_i {y : MethodName} {bytes1 : ByteArray} {maxL1 na i0 d1 : Nat} {ret1 : Option FieldType} {As st0 : List Value} {r : Int32} {b ci N1 : Nat} {C1 : String} {T1 : u_T} {x : MethodName} {owner : String} (hw : MLu own i0 C1 owner x y bytes1 maxL1 ret1 na) (hyx : y = ⟨owner, x.name, x.desc⟩) (hd : decode cc pc = .ok (.invokevirtual i0, 3)) (hM : MK l y bytes1 maxL1 ret1 d1 (.ref b :: As) σ (some (.int r)) σ') (hna : As.length = na) (hm : mob ci b = true) (hcl : vwCl[ci]? = some (C1, T1, N1)) (hst : (As.reverse ++ .ref b :: st) = st0) (hcs : (st.map fun v => v.category).sum ≤ 8) (hR : d1 + 1 ≤ d) (hmx : maxL1 ≤ 45) (kk : MV l E cc own nL ret d res σ' (pc + 3) L (.int r :: st)) : MV l E cc own nL ret d res σ pc L st0 :=
  mw_callU hw hyx hd hM hna (mob1 hm) (mob2 hm) hcl hst hcs (mrm_ok hR hmx) rfl rfl rfl (Nat.le_of_ble_eq_true rfl) ⟨Nat.le_refl _, Nat.le_refl _⟩ kk

theorem mv_callU_l {y : MethodName} {bytes1 : ByteArray} {maxL1 na i0 d1 : Nat} {ret1 : Option FieldType} {As st0 : List Value} {r : Int64} {b ci N1 : Nat} {C1 : String} {T1 : u_T} {x : MethodName} {owner : String} (hw : MLu own i0 C1 owner x y bytes1 maxL1 ret1 na) (hyx : y = ⟨owner, x.name, x.desc⟩) (hd : decode cc pc = .ok (.invokevirtual i0, 3)) (hM : MK l y bytes1 maxL1 ret1 d1 (.ref b :: As) σ (some (.long r)) σ') (hna : As.length = na) (hm : mob ci b = true) (hcl : vwCl[ci]? = some (C1, T1, N1)) (hst : (As.reverse ++ .ref b :: st) = st0) (hcs : (st.map fun v => v.category).sum ≤ 8) (hR : d1 + 1 ≤ d) (hmx : maxL1 ≤ 45) (kk : MV l E cc own nL ret d res σ' (pc + 3) L (.long r :: st)) : MV l E cc own nL ret d res σ pc L st0 :=
  mw_callU hw hyx hd hM hna (mob1 hm) (mob2 hm) hcl hst hcs (mrm_ok hR hmx) rfl rfl rfl (Nat.le_of_ble_eq_true rfl) ⟨Nat.le_refl _, Nat.le_refl _⟩ kk

theorem mv_callU_v {y : MethodName} {bytes1 : ByteArray} {maxL1 na i0 d1 : Nat} {ret1 : Option FieldType} {As st0 : List Value} {b ci N1 : Nat} {C1 : String} {T1 : u_T} {x : MethodName} {owner : String} (hw : MLu own i0 C1 owner x y bytes1 maxL1 ret1 na) (hyx : y = ⟨owner, x.name, x.desc⟩) (hd : decode cc pc = .ok (.invokevirtual i0, 3)) (hM : MK l y bytes1 maxL1 ret1 d1 (.ref b :: As) σ none σ') (hna : As.length = na) (hm : mob ci b = true) (hcl : vwCl[ci]? = some (C1, T1, N1)) (hst : (As.reverse ++ .ref b :: st) = st0) (hcs : (st.map fun v => v.category).sum ≤ 8) (hR : d1 + 1 ≤ d) (hmx : maxL1 ≤ 45) (kk : MV l E cc own nL ret d res σ' (pc + 3) L st) : MV l E cc own nL ret d res σ pc L st0 :=
  mw_callU hw hyx hd hM hna (mob1 hm) (mob2 hm) hcl hst hcs (mrm_ok hR hmx) rfl rfl rfl (Nat.le_of_ble_eq_true rfl) ⟨Nat.le_refl _, Nat.le_refl _⟩ kk

theorem mv_callA_i {y : MethodName} {bytes1 : ByteArray} {maxL1 na i0 d1 : Nat} {ret1 : Option FieldType} {As st0 : List Value} {r : Int32} {b ci N1 : Nat} {C1 : String} {T1 : u_T} (hw : MLu own i0 C1 "RoundsPerHour$Climb" ⟨"RoundsPerHour$Climb", "pick", "()I"⟩ y bytes1 maxL1 ret1 na) (hd : decode cc pc = .ok (.invokevirtual i0, 3)) (hM : MK l y bytes1 maxL1 ret1 d1 (.ref b :: As) σ (some (.int r)) σ') (hna : As.length = na) (hm : mob ci b = true) (hcl : vwCl[ci]? = some (C1, T1, N1)) (hst : (As.reverse ++ .ref b :: st) = st0) (hcs : (st.map fun v => v.category).sum ≤ 8) (hR : d1 + 1 ≤ d) (hmx : maxL1 ≤ 45) (kk : MV l E cc own nL ret d res σ' (pc + 3) L (.int r :: st)) : MV l E cc own nL ret d res σ pc L st0 :=
  mw_callA hw hd hM hna (mob1 hm) (mob2 hm) hcl hst hcs (mrm_ok hR hmx) rfl rfl rfl (Nat.le_of_ble_eq_true rfl) ⟨Nat.le_refl _, Nat.le_refl _⟩ kk

theorem mv_callA_l {y : MethodName} {bytes1 : ByteArray} {maxL1 na i0 d1 : Nat} {ret1 : Option FieldType} {As st0 : List Value} {r : Int64} {b ci N1 : Nat} {C1 : String} {T1 : u_T} (hw : MLu own i0 C1 "RoundsPerHour$Climb" ⟨"RoundsPerHour$Climb", "pick", "()I"⟩ y bytes1 maxL1 ret1 na) (hd : decode cc pc = .ok (.invokevirtual i0, 3)) (hM : MK l y bytes1 maxL1 ret1 d1 (.ref b :: As) σ (some (.long r)) σ') (hna : As.length = na) (hm : mob ci b = true) (hcl : vwCl[ci]? = some (C1, T1, N1)) (hst : (As.reverse ++ .ref b :: st) = st0) (hcs : (st.map fun v => v.category).sum ≤ 8) (hR : d1 + 1 ≤ d) (hmx : maxL1 ≤ 45) (kk : MV l E cc own nL ret d res σ' (pc + 3) L (.long r :: st)) : MV l E cc own nL ret d res σ pc L st0 :=
  mw_callA hw hd hM hna (mob1 hm) (mob2 hm) hcl hst hcs (mrm_ok hR hmx) rfl rfl rfl (Nat.le_of_ble_eq_true rfl) ⟨Nat.le_refl _, Nat.le_refl _⟩ kk

theorem mv_callA_v {y : MethodName} {bytes1 : ByteArray} {maxL1 na i0 d1 : Nat} {ret1 : Option FieldType} {As st0 : List Value} {b ci N1 : Nat} {C1 : String} {T1 : u_T} (hw : MLu own i0 C1 "RoundsPerHour$Climb" ⟨"RoundsPerHour$Climb", "pick", "()I"⟩ y bytes1 maxL1 ret1 na) (hd : decode cc pc = .ok (.invokevirtual i0, 3)) (hM : MK l y bytes1 maxL1 ret1 d1 (.ref b :: As) σ none σ') (hna : As.length = na) (hm : mob ci b = true) (hcl : vwCl[ci]? = some (C1, T1, N1)) (hst : (As.reverse ++ .ref b :: st) = st0) (hcs : (st.map fun v => v.category).sum ≤ 8) (hR : d1 + 1 ≤ d) (hmx : maxL1 ≤ 45) (kk : MV l E cc own nL ret d res σ' (pc + 3) L st) : MV l E cc own nL ret d res σ pc L st0 :=
  mw_callA hw hd hM hna (mob1 hm) (mob2 hm) hcl hst hcs (mrm_ok hR hmx) rfl rfl rfl (Nat.le_of_ble_eq_true rfl) ⟨Nat.le_refl _, Nat.le_refl _⟩ kk

theorem mv_callS_i {y : MethodName} {bytes1 : ByteArray} {maxL1 na i0 d1 : Nat} {ret1 : Option FieldType} {As st0 : List Value} {r : Int32} (hw : MLs own i0 y bytes1 maxL1 ret1 na) (hd : decode cc pc = .ok (.invokestatic i0, 3)) (hM : MK l y bytes1 maxL1 ret1 d1 As σ (some (.int r)) σ') (hna : As.length = na) (hst : (As.reverse ++ st) = st0) (hcs : (st.map fun v => v.category).sum ≤ 8) (hR : d1 + 1 ≤ d) (hmx : maxL1 ≤ 45) (kk : MV l E cc own nL ret d res σ' (pc + 3) L (.int r :: st)) : MV l E cc own nL ret d res σ pc L st0 :=
  mw_callS hw hd hM hna hst hcs (mrm_ok hR hmx) rfl rfl rfl (Nat.le_of_ble_eq_true rfl) ⟨Nat.le_refl _, Nat.le_refl _⟩ kk

theorem mv_callS_l {y : MethodName} {bytes1 : ByteArray} {maxL1 na i0 d1 : Nat} {ret1 : Option FieldType} {As st0 : List Value} {r : Int64} (hw : MLs own i0 y bytes1 maxL1 ret1 na) (hd : decode cc pc = .ok (.invokestatic i0, 3)) (hM : MK l y bytes1 maxL1 ret1 d1 As σ (some (.long r)) σ') (hna : As.length = na) (hst : (As.reverse ++ st) = st0) (hcs : (st.map fun v => v.category).sum ≤ 8) (hR : d1 + 1 ≤ d) (hmx : maxL1 ≤ 45) (kk : MV l E cc own nL ret d res σ' (pc + 3) L (.long r :: st)) : MV l E cc own nL ret d res σ pc L st0 :=
  mw_callS hw hd hM hna hst hcs (mrm_ok hR hmx) rfl rfl rfl (Nat.le_of_ble_eq_true rfl) ⟨Nat.le_refl _, Nat.le_refl _⟩ kk

theorem mv_callS_v {y : MethodName} {bytes1 : ByteArray} {maxL1 na i0 d1 : Nat} {ret1 : Option FieldType} {As st0 : List Value} (hw : MLs own i0 y bytes1 maxL1 ret1 na) (hd : decode cc pc = .ok (.invokestatic i0, 3)) (hM : MK l y bytes1 maxL1 ret1 d1 As σ none σ') (hna : As.length = na) (hst : (As.reverse ++ st) = st0) (hcs : (st.map fun v => v.category).sum ≤ 8) (hR : d1 + 1 ≤ d) (hmx : maxL1 ≤ 45) (kk : MV l E cc own nL ret d res σ' (pc + 3) L st) : MV l E cc own nL ret d res σ pc L st0 :=
  mw_callS hw hd hM hna hst hcs (mrm_ok hR hmx) rfl rfl rfl (Nat.le_of_ble_eq_true rfl) ⟨Nat.le_refl _, Nat.le_refl _⟩ kk

theorem mv_callSN_i {y : MethodName} {bytes1 : ByteArray} {maxL1 na i0 d1 : Nat} {ret1 : Option FieldType} {As st0 : List Value} {r : Int32} {host : String} (hw : MLn own i0 host y bytes1 maxL1 ret1 na) (hd : decode cc pc = .ok (.invokestatic i0, 3)) (hM : MK l y bytes1 maxL1 ret1 d1 As σ (some (.int r)) σ') (hna : As.length = na) (hst : (As.reverse ++ st) = st0) (hcs : (st.map fun v => v.category).sum ≤ 8) (hR : d1 + 1 ≤ d) (hmx : maxL1 ≤ 45) (kk : MV l E cc own nL ret d res σ' (pc + 3) L (.int r :: st)) : MV l E cc own nL ret d res σ pc L st0 :=
  mw_callSN hw hd hM hna hst hcs (mrm_ok hR hmx) rfl rfl rfl (Nat.le_of_ble_eq_true rfl) ⟨Nat.le_refl _, Nat.le_refl _⟩ kk

theorem mv_callSN_l {y : MethodName} {bytes1 : ByteArray} {maxL1 na i0 d1 : Nat} {ret1 : Option FieldType} {As st0 : List Value} {r : Int64} {host : String} (hw : MLn own i0 host y bytes1 maxL1 ret1 na) (hd : decode cc pc = .ok (.invokestatic i0, 3)) (hM : MK l y bytes1 maxL1 ret1 d1 As σ (some (.long r)) σ') (hna : As.length = na) (hst : (As.reverse ++ st) = st0) (hcs : (st.map fun v => v.category).sum ≤ 8) (hR : d1 + 1 ≤ d) (hmx : maxL1 ≤ 45) (kk : MV l E cc own nL ret d res σ' (pc + 3) L (.long r :: st)) : MV l E cc own nL ret d res σ pc L st0 :=
  mw_callSN hw hd hM hna hst hcs (mrm_ok hR hmx) rfl rfl rfl (Nat.le_of_ble_eq_true rfl) ⟨Nat.le_refl _, Nat.le_refl _⟩ kk

theorem mv_callSN_v {y : MethodName} {bytes1 : ByteArray} {maxL1 na i0 d1 : Nat} {ret1 : Option FieldType} {As st0 : List Value} {host : String} (hw : MLn own i0 host y bytes1 maxL1 ret1 na) (hd : decode cc pc = .ok (.invokestatic i0, 3)) (hM : MK l y bytes1 maxL1 ret1 d1 As σ none σ') (hna : As.length = na) (hst : (As.reverse ++ st) = st0) (hcs : (st.map fun v => v.category).sum ≤ 8) (hR : d1 + 1 ≤ d) (hmx : maxL1 ≤ 45) (kk : MV l E cc own nL ret d res σ' (pc + 3) L st) : MV l E cc own nL ret d res σ pc L st0 :=
  mw_callSN hw hd hM hna hst hcs (mrm_ok hR hmx) rfl rfl rfl (Nat.le_of_ble_eq_true rfl) ⟨Nat.le_refl _, Nat.le_refl _⟩ kk

theorem mv_tabIn {x : Int32} (c0 : Int32) {dflt lo hi : Int} {offs : Array Int} {len : Nat} {off : Int} {tgt : Nat} (hd : decode cc pc = .ok (.tableswitch dflt lo hi offs, len)) (hx : x = c0) (h1 : ¬ c0.toInt < lo) (h2 : ¬ hi < c0.toInt) (ho : offs[(c0.toInt - lo).toNat]? = some off) (ht : (pc : Int) + off = (tgt : Int)) (kk : MV l E cc own nL ret d res σ tgt L st) : MV l E cc own nL ret d res σ pc L (.int x :: st) := by
  subst hx
  exact fun p e s0 m args below meth c0 H locs ls C X hl => lv_tableIn C.1 C.2.1 hd h1 h2 ho ht (kk p e s0 m args below meth c0 H locs ls C X hl)
theorem mv_tabOut {x : Int32} {dflt lo hi : Int} {offs : Array Int} {len : Nat} {tgt : Nat} (hd : decode cc pc = .ok (.tableswitch dflt lo hi offs, len)) (h : x.toInt < lo ∨ hi < x.toInt) (ht : (pc : Int) + dflt = (tgt : Int)) (kk : MV l E cc own nL ret d res σ tgt L st) : MV l E cc own nL ret d res σ pc L (.int x :: st) :=
  fun p e s0 m args below meth c0 H locs ls C X hl => lv_tableOut C.1 C.2.1 hd h ht (kk p e s0 m args below meth c0 H locs ls C X hl)
theorem mv_look {x : Int32} {dflt : Int} {ps : Array (Int × Int)} {len : Nat} {off : Int} {tgt : Nat} (hd : decode cc pc = .ok (.lookupswitch dflt ps, len)) (hp : (ps.toList.zip (ps.toList.drop 1)).all (fun (a, next) => a.1 < next.1) = true) (ho : Op.lookupswitch.offset ps.toList dflt x.toInt = off) (ht : (pc : Int) + off = (tgt : Int)) (kk : MV l E cc own nL ret d res σ tgt L st) : MV l E cc own nL ret d res σ pc L (.int x :: st) :=
  fun p e s0 m args below meth c0 H locs ls C X hl => lv_lookup C.1 C.2.1 hd hp ho ht (kk p e s0 m args below meth c0 H locs ls C X hl)

theorem mv_mini {x y : Int32} {i0 : Nat} (hd : decode cc pc = .ok (.invokestatic i0, 3)) (hw1 : Cond.methodLink own i0 Lib.Math.min.name ∈ mWT) (hw2 : Cond.static Lib.Math.min.name ∈ mWT) (hw3 : Cond.initialized "java/lang/Math" ∈ mWT) (hw4 : Cond.code Lib.Math.min.name Lib.Math.min.code 2 (some .int) ∈ mWT) (hR : 1 ≤ d) (hs : (st.map fun v => v.category).sum ≤ 8) (kk : MV l E cc own nL ret d res σ (pc + 3) L (.int (if y < x then y else x) :: st)) : MV l E cc own nL ret d res σ pc L (.int y :: .int x :: st) :=
  fun p e s0 m args below meth c0 H locs ls C X hl => va_mmin C.1 C.2.1 (C.2.2.2.1.trans hl.1.symm) C.2.2.2.2.2.1 (C.2.2.2.2.1 _ hw1) (C.2.2.2.2.1 _ hw2) (C.2.2.2.2.1 _ hw3) (C.2.2.2.2.1 _ hw4) hR (by rw [mcatsum]; simp only [mrm]; omega) (Nat.le_refl _) (Nat.le_refl _) hd (kk p e s0 m args below meth c0 H locs ls C X hl)

theorem mti_0 : (0 : Int32).toInt = 0 := by decide
theorem mti_1 : (1 : Int32).toInt = 1 := by decide
theorem mti_2 : (2 : Int32).toInt = 2 := by decide
theorem mti_3 : (3 : Int32).toInt = 3 := by decide
theorem mti_4 : (4 : Int32).toInt = 4 := by decide
theorem mti_5 : (5 : Int32).toInt = 5 := by decide
theorem mti_6 : (6 : Int32).toInt = 6 := by decide
theorem mti_7 : (7 : Int32).toInt = 7 := by decide
theorem mv_minl {x y : Int64} {i0 : Nat} (hd : decode cc pc = .ok (.invokestatic i0, 3)) (hw1 : Cond.methodLink own i0 Lib.MathLoose.min_long.x ∈ mWT) (hw2 : Cond.static Lib.MathLoose.min_long.x ∈ mWT) (hw3 : Cond.initialized "java/lang/Math" ∈ mWT) (hw4 : Cond.code Lib.MathLoose.min_long.x Lib.MathLoose.min_long.code 4 (some .long) ∈ mWT) (hR : 1 ≤ d) (hs : (st.map fun v => v.category).sum ≤ 8) (kk : MV l E cc own nL ret d res σ (pc + 3) L (.long (if y < x then y else x) :: st)) : MV l E cc own nL ret d res σ pc L (.long y :: .long x :: st) :=
  fun p e s0 m args below meth c0 H locs ls C X hl => va_mmin_long C.1 C.2.1 (C.2.2.2.1.trans hl.1.symm) C.2.2.2.2.2.1 (C.2.2.2.2.1 _ hw1) (C.2.2.2.2.1 _ hw2) (C.2.2.2.2.1 _ hw3) (C.2.2.2.2.1 _ hw4) hR (by rw [mcatsum]; simp only [mrm]; omega) (Nat.le_refl _) (Nat.le_refl _) hd (kk p e s0 m args below meth c0 H locs ls C X hl)

theorem mv_maxl {x y : Int64} {i0 : Nat} (hd : decode cc pc = .ok (.invokestatic i0, 3)) (hw1 : Cond.methodLink own i0 Lib.MathLoose.max_long.x ∈ mWT) (hw2 : Cond.static Lib.MathLoose.max_long.x ∈ mWT) (hw3 : Cond.initialized "java/lang/Math" ∈ mWT) (hw4 : Cond.code Lib.MathLoose.max_long.x Lib.MathLoose.max_long.code 4 (some .long) ∈ mWT) (hR : 1 ≤ d) (hs : (st.map fun v => v.category).sum ≤ 8) (kk : MV l E cc own nL ret d res σ (pc + 3) L (.long (if y < x then x else y) :: st)) : MV l E cc own nL ret d res σ pc L (.long y :: .long x :: st) :=
  fun p e s0 m args below meth c0 H locs ls C X hl => va_mmax_long C.1 C.2.1 (C.2.2.2.1.trans hl.1.symm) C.2.2.2.2.2.1 (C.2.2.2.2.1 _ hw1) (C.2.2.2.2.1 _ hw2) (C.2.2.2.2.1 _ hw3) (C.2.2.2.2.1 _ hw4) hR (by rw [mcatsum]; simp only [mrm]; omega) (Nat.le_refl _) (Nat.le_refl _) hd (kk p e s0 m args below meth c0 H locs ls C X hl)

end MRules2
