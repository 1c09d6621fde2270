/-! ===== what the law's start gives ===== -/
def ltm (i : Nat) : Term := .string "RoundsPerHour$Tape" (mstr.getD i (0, "", [])).1
def lflat : List Cond := flatC (Jvm.Cond.and given_1 narrow_1)
def lkab : Term := .static "RoundsPerHour" "KIND_ABOVE" "[I"
theorem lk1 : ∀ i : Nat, i < 13 → Cond.exactly (ltm i) "java/lang/String" ∈ lflat := by decide +kernel
theorem lk2 : ∀ i : Nat, i < 13 → Cond.eq (.field (ltm i) "java/lang/String" "coder" "B") (.int 0) ∈ lflat := by decide +kernel
theorem lk3 : ∀ i : Nat, i < 13 → Cond.arrayOf (.field (ltm i) "java/lang/String" "value" "[B") .byte ∈ lflat := by decide +kernel
theorem lk4 : ∀ i : Nat, i < 13 → Cond.eq (.length (.field (ltm i) "java/lang/String" "value" "[B")) (.int (Int32.ofNat ((mstr.map (fun q => q.2.2.length)).getD i 0))) ∈ lflat := by decide +kernel
theorem lk5 : ∀ i : Nat, i < 13 → ∀ j : Nat, j < (mstr.map (fun q => q.2.2.length)).getD i 0 → Cond.eq (.elem (.field (ltm i) "java/lang/String" "value" "[B") (.int (Int32.ofNat j))) (.int (((mstr.map (fun q => q.2.2)).getD i []).getD j 0)) ∈ lflat := by decide +kernel
theorem lk6_0 : ∀ j : Nat, j < 13 → 0 ≠ j → Cond.not (Cond.eq (ltm 0) (ltm j)) ∈ lflat ∨ Cond.not (Cond.eq (ltm j) (ltm 0)) ∈ lflat := by decide +kernel
theorem lk6_1 : ∀ j : Nat, j < 13 → 1 ≠ j → Cond.not (Cond.eq (ltm 1) (ltm j)) ∈ lflat ∨ Cond.not (Cond.eq (ltm j) (ltm 1)) ∈ lflat := by decide +kernel
theorem lk6_2 : ∀ j : Nat, j < 13 → 2 ≠ j → Cond.not (Cond.eq (ltm 2) (ltm j)) ∈ lflat ∨ Cond.not (Cond.eq (ltm j) (ltm 2)) ∈ lflat := by decide +kernel
theorem lk6_3 : ∀ j : Nat, j < 13 → 3 ≠ j → Cond.not (Cond.eq (ltm 3) (ltm j)) ∈ lflat ∨ Cond.not (Cond.eq (ltm j) (ltm 3)) ∈ lflat := by decide +kernel
theorem lk6_4 : ∀ j : Nat, j < 13 → 4 ≠ j → Cond.not (Cond.eq (ltm 4) (ltm j)) ∈ lflat ∨ Cond.not (Cond.eq (ltm j) (ltm 4)) ∈ lflat := by decide +kernel
theorem lk6_5 : ∀ j : Nat, j < 13 → 5 ≠ j → Cond.not (Cond.eq (ltm 5) (ltm j)) ∈ lflat ∨ Cond.not (Cond.eq (ltm j) (ltm 5)) ∈ lflat := by decide +kernel
theorem lk6_6 : ∀ j : Nat, j < 13 → 6 ≠ j → Cond.not (Cond.eq (ltm 6) (ltm j)) ∈ lflat ∨ Cond.not (Cond.eq (ltm j) (ltm 6)) ∈ lflat := by decide +kernel
theorem lk6_7 : ∀ j : Nat, j < 13 → 7 ≠ j → Cond.not (Cond.eq (ltm 7) (ltm j)) ∈ lflat ∨ Cond.not (Cond.eq (ltm j) (ltm 7)) ∈ lflat := by decide +kernel
theorem lk6_8 : ∀ j : Nat, j < 13 → 8 ≠ j → Cond.not (Cond.eq (ltm 8) (ltm j)) ∈ lflat ∨ Cond.not (Cond.eq (ltm j) (ltm 8)) ∈ lflat := by decide +kernel
theorem lk6_9 : ∀ j : Nat, j < 13 → 9 ≠ j → Cond.not (Cond.eq (ltm 9) (ltm j)) ∈ lflat ∨ Cond.not (Cond.eq (ltm j) (ltm 9)) ∈ lflat := by decide +kernel
theorem lk6_10 : ∀ j : Nat, j < 13 → 10 ≠ j → Cond.not (Cond.eq (ltm 10) (ltm j)) ∈ lflat ∨ Cond.not (Cond.eq (ltm j) (ltm 10)) ∈ lflat := by decide +kernel
theorem lk6_11 : ∀ j : Nat, j < 13 → 11 ≠ j → Cond.not (Cond.eq (ltm 11) (ltm j)) ∈ lflat ∨ Cond.not (Cond.eq (ltm j) (ltm 11)) ∈ lflat := by decide +kernel
theorem lk6_12 : ∀ j : Nat, j < 13 → 12 ≠ j → Cond.not (Cond.eq (ltm 12) (ltm j)) ∈ lflat ∨ Cond.not (Cond.eq (ltm j) (ltm 12)) ∈ lflat := by decide +kernel
theorem lk6 : ∀ i : Nat, i < 13 → ∀ j : Nat, j < 13 → i ≠ j → Cond.not (Cond.eq (ltm i) (ltm j)) ∈ lflat ∨ Cond.not (Cond.eq (ltm j) (ltm i)) ∈ lflat := by
  intro i hi
  rcases i with _ | _ | _ | _ | _ | _ | _ | _ | _ | _ | _ | _ | _ | i
  · exact lk6_0
  · exact lk6_1
  · exact lk6_2
  · exact lk6_3
  · exact lk6_4
  · exact lk6_5
  · exact lk6_6
  · exact lk6_7
  · exact lk6_8
  · exact lk6_9
  · exact lk6_10
  · exact lk6_11
  · exact lk6_12
  · omega
theorem lk7 : ∀ i : Nat, i < 13 → (mstr.map (fun q => q.2.2.length)).getD i 0 < 2 ^ 31 := by decide +kernel
theorem lk8 : ∀ j : Nat, j < 6 → Cond.eq (.elem lkab (.int (Int32.ofNat j))) (.int (mkab j)) ∈ lflat := by decide +kernel
theorem lk9 : Cond.arrayOf lkab .int ∈ lflat := by decide +kernel
theorem lk10 : Cond.eq (.length lkab) (.int (Int32.ofNat 6)) ∈ lflat := by decide +kernel
theorem lk11 : Cond.eq (.static "java/lang/String" "COMPACT_STRINGS" "Z") (.int 1) ∈ lflat := by decide +kernel
theorem lk12 : Cond.isRef (.static "jdk/internal/util/Preconditions" "SIOOBE_FORMATTER" "Ljava/util/function/BiFunction;") ∈ lflat := by decide +kernel
theorem lk13 : ∀ i : Nat, i < 13 → Cond.stringRef "RoundsPerHour$Tape" (mstr.getD i (0, "", [])).1 (mstr.getD i (0, "", [])).2.1 ∈ tables_1 := by decide +kernel
theorem lk14 : ∀ q ∈ mnl, Cond.methodLinkNest q.1 q.2.1 q.2.2.1 q.2.2.2 ∈ tables_1 := by decide +kernel
theorem lk15 : Cond.declares ⟨"RoundsPerHour$Climb", "pick", "()I"⟩ ∈ tables_1 := by decide +kernel
theorem lk16 : Cond.arrayOver (.object "RoundsPerHour$Sheet") ∈ tables_1 := by decide +kernel
theorem lk17 : Cond.arrayClass .int ∈ tables_1 ∧ Cond.arrayClass .long ∈ tables_1 ∧ Cond.arrayClass .boolean ∈ tables_1 ∧ Cond.arrayClass .char ∈ tables_1 := by decide +kernel
theorem lk18 : Cond.laysStatic "RoundsPerHour" "KIND_ABOVE" "[I" ∈ tables_1 ∧ Cond.laysStatic "java/lang/String" "COMPACT_STRINGS" "Z" ∈ tables_1 ∧ Cond.laysStatic "jdk/internal/util/Preconditions" "SIOOBE_FORMATTER" "Ljava/util/function/BiFunction;" ∈ tables_1 := by decide +kernel
theorem lk19 : Cond.initialized "RoundsPerHour" ∈ tables_1 ∧ Cond.initialized "java/lang/String" ∈ tables_1 ∧ Cond.initialized "jdk/internal/util/Preconditions" ∈ tables_1 := by decide +kernel
theorem lk20 : Cond.instantiable RX1 12 ∈ tables_1 ∧ Cond.instantiable RX2 1 ∈ tables_1 ∧ Cond.instantiable RX3 11 ∈ tables_1 ∧ Cond.instantiable RX4 13 ∈ tables_1 ∧ Cond.instantiable RX5 3 ∈ tables_1 ∧ Cond.instantiable RX6 9 ∈ tables_1 ∧ Cond.instantiable RX7 12 ∈ tables_1 ∧ Cond.instantiable RX8 15 ∈ tables_1 ∧ Cond.instantiable RX9 12 ∈ tables_1 ∧ Cond.instantiable RX10 36 ∈ tables_1 := by decide +kernel
theorem larr {s : State} {args : Array Value} {ty : FieldType} (h : (Cond.arrayClass ty).before args s = true) (hp : ∀ C, ty ≠ .object C) : ∃ cA : ClassId, ArrOfT s cA ty ∧ va_RA s cA ty := by
  obtain ⟨cA, k, comp, h1, h2, h3⟩ := Cond.arrayClass_spec h
  refine ⟨cA, fun N z => ⟨(fun k h => by cases h), k, h2, comp, h3⟩, ?_⟩
  cases ty <;> first | exact h1 | exact absurd rfl (hp _)
theorem start_ctx {p : Program} {s : State} {m : MethodId} {meth : Method} {c : Code} {b L : Nat} {xs : Nat → Int32} (A : lw_At p s m meth c b L xs) : ∃ E : MX, mCX E s ∧ E.2.2.2 2002 = b ∧ E.2.2.1 = s.heap.size := by
  have hw := lw_w A
  have ht : ∀ w ∈ tables_1, w.before #[Value.ref b] s = true := fun w h => A.2.2.2.2.2.1 w (List.mem_append_right _ h)
  have hf : ∀ w ∈ lflat, w.before #[Value.ref b] s = true := flat_of_before _ A.2.2.2.2.2.2.2.2.2
  have hA : ∀ a : Nat, a < s.heap.size → ¬ (fun q => s.heap.size ≤ q) a := fun a h => Nat.not_le.mpr h
  obtain ⟨i1, i2, i3, i4, i5, i6, i7, i8, i9, i10⟩ := lk20
  obtain ⟨c0, o0, k0⟩ := u_known hw uws_0 (ht _ i1)
  obtain ⟨c1, o1, k1⟩ := u_known hw uws_1 (ht _ i2)
  obtain ⟨c2, o2, k2⟩ := u_known hw uws_2 (ht _ i3)
  obtain ⟨c3, o3, k3⟩ := u_known hw uws_3 (ht _ i4)
  obtain ⟨c4, o4, k4⟩ := u_known hw uws_4 (ht _ i5)
  obtain ⟨c5, o5, k5⟩ := u_known hw uws_5 (ht _ i6)
  obtain ⟨c6, o6, k6⟩ := u_known hw uws_6 (ht _ i7)
  obtain ⟨c7, o7, k7⟩ := u_known hw uws_7 (ht _ i8)
  obtain ⟨c8, o8, k8⟩ := u_known hw uws_8 (ht _ i9)
  obtain ⟨c9, o9, k9⟩ := u_known hw uws_9 (ht _ i10)
  obtain ⟨aI, rI⟩ := larr (ht _ lk17.1) (fun _ h => by cases h)
  obtain ⟨aL, rL⟩ := larr (ht _ lk17.2.1) (fun _ h => by cases h)
  obtain ⟨aZ, rZ⟩ := larr (ht _ lk17.2.2.1) (fun _ h => by cases h)
  obtain ⟨aC, rC⟩ := larr (ht _ lk17.2.2.2) (fun _ h => by cases h)
  obtain ⟨comp, aS, kS, g1, -, g3, g4, g5⟩ := Cond.arrayOver_spec (ht _ lk16)
  have rS : ArrOfT s aS (.object "RoundsPerHour$Sheet") ∧ va_RA s aS (.object "RoundsPerHour$Sheet") := ⟨fun N z => ⟨(fun k h => by cases h), kS, g3, comp, g4⟩, kS, comp, g3, g4, g1, g5⟩
  obtain ⟨ka, hka, hT⟩ := va_Tof (N := 6) (f := fun j => .int (mkab j)) (A := fun q => s.heap.size ≤ q) (by decide) (hf _ lk9) (va_eqt (hf _ lk10)) (fun j hj => va_eqt (hf _ (lk8 j hj))) hA
  obtain ⟨adK, adV, hS, hKe⟩ := vk_Sof (N := 13) (tm := ltm) (len := mstr.map (fun q => q.2.2.length)) (byt := mstr.map (fun q => q.2.2)) (A := fun q => s.heap.size ≤ q) lk7 (fun i hi => hf _ (lk1 i hi)) (fun i hi => hf _ (lk2 i hi)) (fun i hi => hf _ (lk3 i hi)) (fun i hi => hf _ (lk4 i hi)) (fun i hi j hj => hf _ (lk5 i hi j hj)) (fun i j hi hj hne => (lk6 i hi j hj hne).imp (fun h => hf _ h) (fun h => hf _ h)) hA
  obtain ⟨x1, hq⟩ : ∃ x1 : Nat, va_Z "jdk/internal/util/Preconditions" "SIOOBE_FORMATTER" "Ljava/util/function/BiFunction;" .null (fun q => s.heap.size ≤ q) s s.heap ∨ va_Z "jdk/internal/util/Preconditions" "SIOOBE_FORMATTER" "Ljava/util/function/BiFunction;" (.ref x1) (fun q => s.heap.size ≤ q) s s.heap := by
    rcases va_Zqof (A := fun q => s.heap.size ≤ q) (ht _ lk18.2.2) (ht _ lk19.2.2) (hf _ lk12) hA with h | ⟨t, h⟩
    · exact ⟨0, Or.inl h⟩
    · exact ⟨t, Or.inr h⟩
  let X : Nat → Nat := fun k => if k = 2000 then ka else if k = 2001 then x1 else if k = 2002 then b else if k < 1100 then adK (k - 1000) else adV (k - 1100)
  have eK : (fun i => X (1000 + i)) = fun i => X (1000 + i) := rfl
  let D : va_G := (fun c => match c with | 0 => c0 | 1 => c1 | 2 => c2 | 3 => c3 | 4 => c4 | 5 => c5 | 6 => c6 | 7 => c7 | 8 => c8 | _ => c9, fun c => match c with | 0 => o0 | 1 => o1 | 2 => o2 | 3 => o3 | 4 => o4 | 5 => o5 | 6 => o6 | 7 => o7 | 8 => o8 | _ => o9)
  let cA : Nat → ClassId := fun t => match t with | 0 => aI | 1 => aL | 2 => aZ | 3 => aC | _ => aS
  refine ⟨(D, cA, s.heap.size, X), ⟨⟨fun ci q hq => ?_, fun k q hq => ?_⟩, fun q hq => va_Nw.of rfl (ht _ (lk14 q hq)), va_Nw.of rfl (ht _ lk15), va_Zref (ht _ lk18.1) (ht _ lk19.1) hka hA, hT, ?_, fun i hi => ?_, va_Zof (ht _ lk18.2.1) (ht _ lk19.2.1) (va_eqi (hf _ lk11)) hA, hq, va_AO.of (ht _ lk16)⟩, rfl, rfl⟩
  · rcases ci with _ | _ | _ | _ | _ | _ | _ | _ | _ | _ | ci
    · cases hq; exact k0
    · cases hq; exact k1
    · cases hq; exact k2
    · cases hq; exact k3
    · cases hq; exact k4
    · cases hq; exact k5
    · cases hq; exact k6
    · cases hq; exact k7
    · cases hq; exact k8
    · cases hq; exact k9
    · cases hq
  · rcases k with _ | _ | _ | _ | _ | k
    · cases hq; exact rI
    · cases hq; exact rL
    · cases hq; exact rZ
    · cases hq; exact rC
    · cases hq; exact rS
    · cases hq
  · have e1 : ∀ i, i < 13 → X (1000 + i) = adK i := by
      intro i hi
      show (if 1000 + i = 2000 then _ else if 1000 + i = 2001 then _ else if 1000 + i = 2002 then _ else if 1000 + i < 1100 then adK (1000 + i - 1000) else _) = _
      rw [if_neg (by omega), if_neg (by omega), if_neg (by omega), if_pos (by omega), show 1000 + i - 1000 = i by omega]
    have e2 : ∀ i, i < 13 → X (1100 + i) = adV i := by
      intro i hi
      show (if 1100 + i = 2000 then _ else if 1100 + i = 2001 then _ else if 1100 + i = 2002 then _ else if 1100 + i < 1100 then _ else adV (1100 + i - 1100)) = _
      rw [if_neg (by omega), if_neg (by omega), if_neg (by omega), if_neg (by omega), show 1100 + i - 1100 = i by omega]
    refine ⟨fun i hi => ?_, fun i j hi hj h => ?_⟩
    · show va_O _ (X (1000 + i)) _ _ _ ∧ va_OF _ _ _ _ (X (1000 + i)) _ _ _ ∧ va_OF _ _ _ (.ref (X (1100 + i))) (X (1000 + i)) _ _ _ ∧ va_T _ (X (1100 + i)) _ _ _ _ _
      rw [e1 i hi, e2 i hi]
      exact hS.1 i hi
    · refine hS.2 i j hi hj ?_
      have h : X (1000 + i) = X (1000 + j) := h
      rw [e1 i hi, e1 j hj] at h
      exact h
  · have e1 : X (1000 + i) = adK i := by
      show (if 1000 + i = 2000 then _ else if 1000 + i = 2001 then _ else if 1000 + i = 2002 then _ else if 1000 + i < 1100 then adK (1000 + i - 1000) else _) = _
      rw [if_neg (by omega), if_neg (by omega), if_neg (by omega), if_pos (by omega), show 1000 + i - 1000 = i by omega]
    show vk_R _ _ _ (X (1000 + i)) _
    rw [e1]
    exact ⟨ht _ (lk13 i hi), hKe i hi⟩
