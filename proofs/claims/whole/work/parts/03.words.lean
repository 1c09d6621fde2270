/-! ===== the words of the tables that every method keeps ===== -/
/-- a private method of Climb, on an object of a class under it -/
theorem msel_priv {C : String} {x0 y0 y : MethodName} {s : State} {args : Array Value} (hy : y.cls ≠ "java/lang/invoke/MethodHandle" ∧ y.cls ≠ "java/lang/invoke/VarHandle") (h0 : (Cond.selects C x0 y0).before args s = true) (he : y.cls = y0.cls) (hpriv : (Cond.privateMethod y).before args s = true) (hinst : (Cond.instanceMethod y).before args s = true) : (Cond.selects C y y).before args s = true := by
  obtain ⟨c, r, m, hc, hr, hm, -, kP, hkP, hni⟩ := Cond.selects_spec h0
  obtain ⟨mk, methM, hnamed, hmethM, -, -⟩ := Cond.instanceMethod_spec hinst
  have hfound : s.methodFound? y.cls y.name y.desc = some mk := State.methodFound?_of_named hnamed hy
  have hcls : mk.cls = m.cls := by
    have h1 := findClass_of_methodNamed hnamed
    have h2 := findClass_of_methodNamed hm
    rw [he] at h1
    exact Option.some.inj (h1.symm.trans h2)
  have hsel : selectMethod {} s.vm c mk = .method mk := selectMethod_private hmethM (Cond.privateMethod_at hpriv mk methM hnamed hmethM)
  simp only [Cond.before, Cond.holds, Cond.value, hc, hfound, hnamed, hsel, hcls, hkP]
  simp; exact hni
def lw_x : List Cond := [
  Cond.selects "RoundsPerHour$LoadClimb" ⟨"RoundsPerHour$Climb", "together", "([JI)J"⟩ ⟨"RoundsPerHour$Climb", "together", "([JI)J"⟩,
  Cond.selects "RoundsPerHour$TreeClimb" ⟨"RoundsPerHour$Climb", "together", "([JI)J"⟩ ⟨"RoundsPerHour$Climb", "together", "([JI)J"⟩,
  Cond.selects "RoundsPerHour$WalkClimb" ⟨"RoundsPerHour$Climb", "together", "([JI)J"⟩ ⟨"RoundsPerHour$Climb", "together", "([JI)J"⟩,
  Cond.selects "RoundsPerHour$LoadClimb" ⟨"RoundsPerHour$Climb", "weigh", "(JJ)V"⟩ ⟨"RoundsPerHour$Climb", "weigh", "(JJ)V"⟩,
  Cond.selects "RoundsPerHour$TreeClimb" ⟨"RoundsPerHour$Climb", "weigh", "(JJ)V"⟩ ⟨"RoundsPerHour$Climb", "weigh", "(JJ)V"⟩,
  Cond.selects "RoundsPerHour$WalkClimb" ⟨"RoundsPerHour$Climb", "weigh", "(JJ)V"⟩ ⟨"RoundsPerHour$Climb", "weigh", "(JJ)V"⟩]
theorem lw_x_ok {args : Array Value} {s : State} (hts : ∀ w ∈ lw_tbl, w.before args s = true) : ∀ w ∈ lw_x ++ lw_tbl, w.before args s = true := by
  intro w hw
  rcases List.mem_append.mp hw with hw | hw
  · have T3 : ∀ w ∈ tables_1_3, w.before args s = true := fun w h => hts w (List.mem_append_right _ (List.mem_append_right _ (List.mem_append_right _ (List.mem_append_left _ h))))
    have sL := T3 (Cond.selects "RoundsPerHour$LoadClimb" ⟨"RoundsPerHour$LoadClimb", "runs", "()Z"⟩ ⟨"RoundsPerHour$Climb", "runs", "()Z"⟩) (List.mem_of_getElem? (i := 222) rfl)
    have sT := T3 (Cond.selects "RoundsPerHour$TreeClimb" ⟨"RoundsPerHour$TreeClimb", "runs", "()Z"⟩ ⟨"RoundsPerHour$Climb", "runs", "()Z"⟩) (List.mem_of_getElem? (i := 151) rfl)
    have sW := T3 (Cond.selects "RoundsPerHour$WalkClimb" ⟨"RoundsPerHour$WalkClimb", "runs", "()Z"⟩ ⟨"RoundsPerHour$Climb", "runs", "()Z"⟩) (List.mem_of_getElem? (i := 211) rfl)
    have pt := T3 (Cond.privateMethod ⟨"RoundsPerHour$Climb", "together", "([JI)J"⟩) (List.mem_of_getElem? (i := 191) rfl)
    have it := T3 (Cond.instanceMethod ⟨"RoundsPerHour$Climb", "together", "([JI)J"⟩) (List.mem_of_getElem? (i := 192) rfl)
    have pw := T3 (Cond.privateMethod ⟨"RoundsPerHour$Climb", "weigh", "(JJ)V"⟩) (List.mem_of_getElem? (i := 155) rfl)
    have iw := T3 (Cond.instanceMethod ⟨"RoundsPerHour$Climb", "weigh", "(JJ)V"⟩) (List.mem_of_getElem? (i := 156) rfl)
    have ne : ("RoundsPerHour$Climb" : String) ≠ "java/lang/invoke/MethodHandle" ∧ ("RoundsPerHour$Climb" : String) ≠ "java/lang/invoke/VarHandle" := ⟨by decide +kernel, by decide +kernel⟩
    simp only [lw_x, List.mem_cons, List.not_mem_nil, or_false] at hw
    rcases hw with e | e | e | e | e | e <;> subst e
    · exact msel_priv ne sL rfl pt it
    · exact msel_priv ne sT rfl pt it
    · exact msel_priv ne sW rfl pt it
    · exact msel_priv ne sL rfl pw iw
    · exact msel_priv ne sT rfl pw iw
    · exact msel_priv ne sW rfl pw iw
  · exact hts w hw
def mWT : List Cond := (lw_x ++ lw_tbl).filter goodWord
theorem mwt {w : Cond} (h : w ∈ lw_tbl) (g : goodWord w = true) : w ∈ mWT := List.mem_filter.mpr ⟨List.mem_append_right _ h, g⟩
theorem mt_x {w : Cond} (h : w ∈ lw_x) (g : goodWord w = true) : w ∈ mWT := List.mem_filter.mpr ⟨List.mem_append_left _ h, g⟩
theorem mwt_g {w : Cond} (h : w ∈ mWT) : (w.onTables && w.keeps) = true ∨ ∃ ty, w = .arrayClass ty := good_of_word (List.mem_filter.mp h).2
theorem mwt_in {w : Cond} (h : w ∈ mWT) : w ∈ lw_x ++ lw_tbl := (List.mem_filter.mp h).1
theorem mwt_good {ws : List Cond} (h : ∀ w ∈ ws, w ∈ mWT) : GoodIn mWT ws := fun w hw => ⟨h w hw, mwt_g (h w hw)⟩
theorem mwt_cons {w0 : Cond} (h : w0 ∈ mWT) : ∀ w ∈ w0 :: mWT, w ∈ mWT := fun w hw => (List.mem_cons.mp hw).elim (fun e => e ▸ h) id
theorem mt_0 {w : Cond} (h : w ∈ k2_sels lw_privs) (g : goodWord w = true) : w ∈ mWT := mwt (List.mem_append_left _ h) g
theorem mt_1 {w : Cond} (h : w ∈ tables_1_1) (g : goodWord w = true) : w ∈ mWT := mwt (List.mem_append_right _ (List.mem_append_left _ h)) g
theorem mt_2 {w : Cond} (h : w ∈ tables_1_2) (g : goodWord w = true) : w ∈ mWT := mwt (List.mem_append_right _ (List.mem_append_right _ (List.mem_append_left _ h))) g
theorem mt_3 {w : Cond} (h : w ∈ tables_1_3) (g : goodWord w = true) : w ∈ mWT := mwt (List.mem_append_right _ (List.mem_append_right _ (List.mem_append_right _ (List.mem_append_left _ h)))) g
theorem mt_4 {w : Cond} (h : w ∈ tables_1_4) (g : goodWord w = true) : w ∈ mWT := mwt (List.mem_append_right _ (List.mem_append_right _ (List.mem_append_right _ (List.mem_append_right _ (List.mem_append_left _ h))))) g
theorem mt_5 {w : Cond} (h : w ∈ tables_1_5) (g : goodWord w = true) : w ∈ mWT := mwt (List.mem_append_right _ (List.mem_append_right _ (List.mem_append_right _ (List.mem_append_right _ (List.mem_append_right _ (List.mem_append_left _ h)))))) g
theorem mt_6 {w : Cond} (h : w ∈ tables_1_6) (g : goodWord w = true) : w ∈ mWT := mwt (List.mem_append_right _ (List.mem_append_right _ (List.mem_append_right _ (List.mem_append_right _ (List.mem_append_right _ (List.mem_append_right _ (List.mem_append_left _ h))))))) g
theorem mt_7 {w : Cond} (h : w ∈ tables_1_7) (g : goodWord w = true) : w ∈ mWT := mwt (List.mem_append_right _ (List.mem_append_right _ (List.mem_append_right _ (List.mem_append_right _ (List.mem_append_right _ (List.mem_append_right _ (List.mem_append_right _ h))))))) g
theorem mt_s {w : Cond} (q : MethodName × Nat) (h : q ∈ lw_privs) (e : Cond.selects q.1.cls q.1 q.1 = w) (g : goodWord w = true) : w ∈ mWT := mt_0 (List.mem_map.mpr ⟨q, h, e⟩) g
theorem ml_1 {q : MethodName × Nat} (h : q ∈ lw_privs_1) : q ∈ lw_privs := List.mem_append_left _ h
theorem ml_2 {q : MethodName × Nat} (h : q ∈ lw_privs_2) : q ∈ lw_privs := List.mem_append_right _ (List.mem_append_left _ h)
theorem ml_3 {q : MethodName × Nat} (h : q ∈ lw_privs_3) : q ∈ lw_privs := List.mem_append_right _ (List.mem_append_right _ (List.mem_append_left _ h))
theorem ml_4 {q : MethodName × Nat} (h : q ∈ lw_privs_4) : q ∈ lw_privs := List.mem_append_right _ (List.mem_append_right _ (List.mem_append_right _ (List.mem_append_left _ h)))
theorem ml_5 {q : MethodName × Nat} (h : q ∈ lw_privs_5) : q ∈ lw_privs := List.mem_append_right _ (List.mem_append_right _ (List.mem_append_right _ (List.mem_append_right _ h)))
