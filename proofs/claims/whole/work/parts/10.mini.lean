/-! ===== the small machine: memory by cell and place, shapes of cells, worlds ===== -/
abbrev MSt : Type := (Nat → Nat → Int32) × (Nat → Nat → Int64) × (Nat → Nat → Option Nat)
def mmI (σ : MSt) (k j : Nat) : Int32 := σ.1 k j
def mmL (σ : MSt) (k j : Nat) : Int64 := σ.2.1 k j
def mmR (σ : MSt) (k j : Nat) : Option Nat := σ.2.2 k j
def mup2 {α : Type} (f : Nat → Nat → α) (k j : Nat) (v : α) : Nat → Nat → α := fun a b => if a = k ∧ b = j then v else f a b
def muI (σ : MSt) (k j : Nat) (v : Int32) : MSt := (mup2 σ.1 k j v, σ.2)
def muL (σ : MSt) (k j : Nat) (v : Int64) : MSt := (σ.1, mup2 σ.2.1 k j v, σ.2.2)
def muR (σ : MSt) (k j : Nat) (v : Option Nat) : MSt := (σ.1, σ.2.1, mup2 σ.2.2 k j v)
def mcpI (σ : MSt) (k0 sp k1 dp n : Nat) : MSt := (fun a b => if a = k1 then va_cpy (σ.1 k0) (σ.1 k1) sp dp n b else σ.1 a b, σ.2)
def mcpL (σ : MSt) (k0 sp k1 dp n : Nat) : MSt := (σ.1, fun a b => if a = k1 then va_cpy (σ.2.1 k0) (σ.2.1 k1) sp dp n b else σ.2.1 a b, σ.2.2)
/-- a new cell: all of it is 0 -/
def mzer (σ : MSt) (k : Nat) : MSt := (fun a b => if a = k then 0 else σ.1 a b, fun a b => if a = k then 0 else σ.2.1 a b, fun a b => if a = k then none else σ.2.2 a b)
def mad (E : MX) (k : Nat) : Nat := if k < 1000 then E.2.2.1 + k else E.2.2.2 k
def mtv (E : MX) (v : Value) : Value := match v with
  | .ref k => .ref (mad E k)
  | w => w
def mtl (E : MX) (L : List (Nat × Value)) : List (Nat × Value) := L.map (fun q => (q.1, mtv E q.2))
def mfv (ty : FieldType) (σ : MSt) (k j : Nat) : Value := match ty with
  | .int => .int (mmI σ k j)
  | .boolean => .int (mmI σ k j)
  | .long => .long (mmL σ k j)
  | _ => va_rf (mmR σ k j)
def maf (E : MX) (ty : FieldType) (σ : MSt) (k j : Nat) : Value := match ty with
  | .int => .int (mmI σ k j)
  | .boolean => .int (mmI σ k j)
  | .long => .long (mmL σ k j)
  | _ => va_rf ((mmR σ k j).map (mad E))
theorem mtv_rf (E : MX) (r : Option Nat) : mtv E (va_rf r) = va_rf (r.map (mad E)) := by
  cases r <;> rfl
theorem mtv_mfv (E : MX) (ty : FieldType) (σ : MSt) (k j : Nat) : mtv E (mfv ty σ k j) = maf E ty σ k j := by
  cases ty <;> first | rfl | exact mtv_rf E _
theorem mtv_cat (E : MX) (v : Value) : (mtv E v).category = v.category := by
  cases v <;> rfl
theorem mtl_filter (E : MX) (i : Nat) (b : Bool) (L : List (Nat × Value)) : mtl E (L.filter (fun q => !(q.1 == i) && (b || !(q.1 == i + 1)) && !(q.1 + 1 == i && q.2.category == 2))) = (mtl E L).filter (fun q => !(q.1 == i) && (b || !(q.1 == i + 1)) && !(q.1 + 1 == i && q.2.category == 2)) := by
  unfold mtl
  rw [List.filter_map]
  congr 1
  apply List.filter_congr
  intro q _
  simp only [Function.comp, mtv_cat]
theorem mtl_filter1 (E : MX) (i : Nat) (L : List (Nat × Value)) : mtl E (L.filter (fun q => !(q.1 == i) && !(q.1 + 1 == i && q.2.category == 2))) = (mtl E L).filter (fun q => !(q.1 == i) && !(q.1 + 1 == i && q.2.category == 2)) := by
  unfold mtl
  rw [List.filter_map]
  congr 1
  apply List.filter_congr
  intro q _
  simp only [Function.comp, mtv_cat]
theorem mtl_filter2 (E : MX) (i : Nat) (L : List (Nat × Value)) : mtl E (L.filter (fun q => !(q.1 == i) && (!(q.1 == i + 1) && !(q.1 + 1 == i && q.2.category == 2)))) = (mtl E L).filter (fun q => !(q.1 == i) && (!(q.1 == i + 1) && !(q.1 + 1 == i && q.2.category == 2))) := by
  unfold mtl
  rw [List.filter_map]
  congr 1
  apply List.filter_congr
  intro q _
  simp only [Function.comp, mtv_cat]
theorem mtl_at {E : MX} {L : List (Nat × Value)} {k i : Nat} {v : Value} (h : L[k]? = some (i, v)) : (mtl E L)[k]? = some (i, mtv E v) := by
  unfold mtl
  rw [List.getElem?_map, h]
  rfl
/-- how many fields a class has, and their types -/
def mnF (ci : Nat) : Nat := match ci with
  | 0 => 12
  | 1 => 1
  | 2 => 11
  | 3 => 13
  | 4 => 3
  | 5 => 9
  | 6 => 12
  | 7 => 15
  | 8 => 12
  | _ => 36
def mft (ci : Nat) : Nat → FieldType := match ci with
  | 0 => tyX1
  | 1 => tyX2
  | 2 => tyX3
  | 3 => tyX4
  | 4 => tyX5
  | 5 => tyX6
  | 6 => tyX7
  | 7 => tyX8
  | 8 => tyX9
  | _ => tyX10
def marO (E : MX) (t : Nat) (σ : MSt) (k : Nat) : (Nat → Int32) ⊕ (Nat → Int64) ⊕ (Nat → UInt32) ⊕ (Nat → UInt64) ⊕ (Nat → Option Nat) := match t with
  | 1 => .inr (.inl (mmL σ k))
  | 4 => .inr (.inr (.inr (.inr (fun j => (mmR σ k j).map (mad E)))))
  | _ => .inl (mmI σ k)
def mcel (E : MX) (σ : MSt) (k : Nat) : va_E := match mshp k with
  | .inl tn => .inl (E.2.1 tn.1, tn.2, marO E tn.1 σ k)
  | .inr ci => .inr (ci, (List.range (mnF ci)).map (fun j => maf E (mft ci j) σ k j))
def mwd (E : MX) (n : Nat) (σ : MSt) : va_W := (List.range n).map (fun k => (mad E k, mcel E σ k))
theorem mwd_at {E : MX} {n k : Nat} {σ : MSt} (h : k < n) : (mwd E n σ)[k]? = some (mad E k, mcel E σ k) := by
  simp [mwd, h]
theorem mwd_len (E : MX) (n : Nat) (σ : MSt) : (mwd E n σ).length = n := by simp [mwd]
theorem mwd_inv {E : MX} {n k : Nat} {σ : MSt} {q : Nat × va_E} (h : (mwd E n σ)[k]? = some q) : k < n ∧ q = (mad E k, mcel E σ k) := by
  have hk : k < n := by
    have := (List.getElem?_eq_some_iff.mp h).1
    rwa [mwd_len] at this
  rw [mwd_at hk] at h
  exact ⟨hk, (Option.some.inj h).symm⟩
theorem mwd_set {E : MX} {n k : Nat} {σ σ' : MSt} {e : va_E} (hk : k < n) (he : mcel E σ' k = e) (ho : ∀ a, a ≠ k → mcel E σ' a = mcel E σ a) : (mwd E n σ).set k (mad E k, e) = mwd E n σ' := by
  apply List.ext_getElem?
  intro i
  by_cases hi : i = k
  · subst hi
    rw [List.getElem?_set_self (by rw [mwd_len]; exact hk), mwd_at hk, he]
  · rw [List.getElem?_set_ne (Ne.symm hi)]
    by_cases hn : i < n
    · rw [mwd_at hn, mwd_at hn, ho i hi]
    · rw [List.getElem?_eq_none (by rw [mwd_len]; omega), List.getElem?_eq_none (by rw [mwd_len]; omega)]
theorem mwd_D {E : MX} {n : Nat} {σ : MSt} (hn : n ≤ 1000) : va_D (fun q => E.2.2.1 ≤ q) (mwd E n σ) := by
  refine ⟨fun i j p q hi hj h => ?_, fun k q hk => ?_⟩
  · obtain ⟨h1, rfl⟩ := mwd_inv hi
    obtain ⟨h2, rfl⟩ := mwd_inv hj
    simp only [mad] at h
    rw [if_pos (by omega), if_pos (by omega)] at h
    omega
  · obtain ⟨h1, rfl⟩ := mwd_inv hk
    simp only [mad]
    rw [if_pos (by omega)]
    exact Nat.le_add_right _ _
theorem mcel_arr {E : MX} {σ : MSt} {k t n : Nat} (h : mshp k = .inl (t, n)) : mcel E σ k = .inl (E.2.1 t, n, marO E t σ k) := by
  simp only [mcel, h]
theorem mcel_obj {E : MX} {σ : MSt} {k ci : Nat} (h : mshp k = .inr ci) : mcel E σ k = .inr (ci, (List.range (mnF ci)).map (fun j => maf E (mft ci j) σ k j)) := by
  simp only [mcel, h]
theorem marO_congr {E : MX} {t k : Nat} {σ σ' : MSt} (h1 : ∀ j, mmI σ' k j = mmI σ k j) (h2 : ∀ j, mmL σ' k j = mmL σ k j) (h3 : ∀ j, mmR σ' k j = mmR σ k j) : marO E t σ' k = marO E t σ k := by
  have e1 : mmI σ' k = mmI σ k := funext h1
  have e2 : mmL σ' k = mmL σ k := funext h2
  have e3 : mmR σ' k = mmR σ k := funext h3
  unfold marO
  split <;> simp only [e1, e2, e3]
theorem maf_congr {E : MX} {ty : FieldType} {k j : Nat} {σ σ' : MSt} (h1 : mmI σ' k j = mmI σ k j) (h2 : mmL σ' k j = mmL σ k j) (h3 : mmR σ' k j = mmR σ k j) : maf E ty σ' k j = maf E ty σ k j := by
  unfold maf
  split <;> simp only [h1, h2, h3]
theorem mcel_congr {E : MX} {k : Nat} {σ σ' : MSt} (h1 : ∀ j, mmI σ' k j = mmI σ k j) (h2 : ∀ j, mmL σ' k j = mmL σ k j) (h3 : ∀ j, mmR σ' k j = mmR σ k j) : mcel E σ' k = mcel E σ k := by
  unfold mcel
  split
  · rw [marO_congr h1 h2 h3]
  · congr 2
    apply List.map_congr_left
    intro j _
    exact maf_congr (h1 j) (h2 j) (h3 j)
theorem mmI_uI (σ : MSt) (k j : Nat) (v : Int32) (a b : Nat) : mmI (muI σ k j v) a b = if a = k ∧ b = j then v else mmI σ a b := rfl
theorem mmL_uI (σ : MSt) (k j : Nat) (v : Int32) (a b : Nat) : mmL (muI σ k j v) a b = mmL σ a b := rfl
theorem mmR_uI (σ : MSt) (k j : Nat) (v : Int32) (a b : Nat) : mmR (muI σ k j v) a b = mmR σ a b := rfl
theorem mmI_uL (σ : MSt) (k j : Nat) (v : Int64) (a b : Nat) : mmI (muL σ k j v) a b = mmI σ a b := rfl
theorem mmL_uL (σ : MSt) (k j : Nat) (v : Int64) (a b : Nat) : mmL (muL σ k j v) a b = if a = k ∧ b = j then v else mmL σ a b := rfl
theorem mmR_uL (σ : MSt) (k j : Nat) (v : Int64) (a b : Nat) : mmR (muL σ k j v) a b = mmR σ a b := rfl
theorem mmI_uR (σ : MSt) (k j : Nat) (v : Option Nat) (a b : Nat) : mmI (muR σ k j v) a b = mmI σ a b := rfl
theorem mmL_uR (σ : MSt) (k j : Nat) (v : Option Nat) (a b : Nat) : mmL (muR σ k j v) a b = mmL σ a b := rfl
theorem mmR_uR (σ : MSt) (k j : Nat) (v : Option Nat) (a b : Nat) : mmR (muR σ k j v) a b = if a = k ∧ b = j then v else mmR σ a b := rfl
theorem mcel_uI {E : MX} {σ : MSt} {k j a : Nat} {v : Int32} (h : a ≠ k) : mcel E (muI σ k j v) a = mcel E σ a :=
  mcel_congr (fun b => by rw [mmI_uI, if_neg (fun q => h q.1)]) (fun _ => rfl) (fun _ => rfl)
theorem mcel_uL {E : MX} {σ : MSt} {k j a : Nat} {v : Int64} (h : a ≠ k) : mcel E (muL σ k j v) a = mcel E σ a :=
  mcel_congr (fun _ => rfl) (fun b => by rw [mmL_uL, if_neg (fun q => h q.1)]) (fun _ => rfl)
theorem mcel_uR {E : MX} {σ : MSt} {k j a : Nat} {v : Option Nat} (h : a ≠ k) : mcel E (muR σ k j v) a = mcel E σ a :=
  mcel_congr (fun _ => rfl) (fun _ => rfl) (fun b => by rw [mmR_uR, if_neg (fun q => h q.1)])
theorem mcatsum (E : MX) (st : List Value) : ((st.map (mtv E)).map fun v => v.category).sum = (st.map fun v => v.category).sum := by
  rw [List.map_map]
  congr 1
  apply List.map_congr_left
  intro v _
  exact mtv_cat E v
theorem mtl_pick (E : MX) (L : List (Nat × Value)) (qs : List Nat) : lv_pick (mtl E L) qs = mtl E (lv_pick L qs) := by
  unfold lv_pick mtl
  rw [List.map_filterMap]
  congr 1
  funext k
  rw [List.getElem?_map]
theorem mtl_args (E : MX) (args : List Value) : ∀ i : Nat, mtl E (lv_args i args) = lv_args i (args.map (mtv E)) := by
  induction args with
  | nil => intro i; rfl
  | cons v vs ih =>
    intro i
    show (i, mtv E v) :: mtl E (lv_args _ vs) = (i, mtv E v) :: lv_args _ (vs.map (mtv E))
    rw [ih, mtv_cat]
theorem mlg_len (E : MX) (args : List Value) : (lg_sl (args.map (mtv E))).length = (lg_sl args).length := by
  unfold lg_sl
  induction args with
  | nil => rfl
  | cons v vs ih =>
    simp only [List.map_cons, List.flatMap_cons, List.length_append, ih]
    cases v <;> rfl
theorem moptl (E : MX) (r : Option Value) : (r.toList.map (mtv E)) = (r.map (mtv E)).toList := by
  cases r <;> rfl
