/-! ===== the cells of the system, in the order in which they are made; what is given from the start ===== -/
/-- the shape of a cell: an array (its type: 0 int, 1 long, 2 boolean, 3 char, 4 sheets; its length) or an object (its class) -/
def mshp (k : Nat) : (Nat × Nat) ⊕ Nat := match k with
  | 0 => .inr 8
  | 1 => .inr 0 | 2 => .inl (0, 14) | 3 => .inl (0, 14) | 4 => .inl (0, 14) | 5 => .inl (0, 14) | 6 => .inl (0, 14) | 7 => .inl (0, 14) | 8 => .inl (0, 13) | 9 => .inl (0, 13)
  | 10 => .inr 0 | 11 => .inl (0, 14) | 12 => .inl (0, 14) | 13 => .inl (0, 14) | 14 => .inl (0, 14) | 15 => .inl (0, 14) | 16 => .inl (0, 14) | 17 => .inl (0, 13) | 18 => .inl (0, 13)
  | 19 => .inr 0 | 20 => .inl (0, 14) | 21 => .inl (0, 14) | 22 => .inl (0, 14) | 23 => .inl (0, 14) | 24 => .inl (0, 14) | 25 => .inl (0, 14) | 26 => .inl (0, 13) | 27 => .inl (0, 13)
  | 28 => .inr 3 | 29 => .inl (0, 1296) | 30 => .inl (1, 1296) | 31 => .inl (1, 1296) | 32 => .inl (1, 6) | 33 => .inl (2, 6) | 34 => .inl (0, 6) | 35 => .inl (0, 84) | 36 => .inl (0, 14) | 37 => .inl (1, 14) | 38 => .inl (1, 14)
  | 39 => .inr 6 | 40 => .inl (1, 14) | 41 => .inl (1, 14) | 42 => .inl (1, 14) | 43 => .inr 1 | 44 => .inl (0, 6)
  | 45 => .inr 7 | 46 => .inl (1, 14) | 47 => .inl (1, 14) | 48 => .inl (1, 14) | 49 => .inl (1, 6) | 50 => .inl (0, 6)
  | 51 => .inr 2 | 52 => .inl (1, 14) | 53 => .inl (1, 14) | 54 => .inl (1, 14)
  | 55 => .inr 1 | 56 => .inl (0, 6)
  | 57 => .inr 5 | 58 => .inl (0, 120)
  | 59 => .inl (4, 4) | 60 => .inl (0, 9)
  | 61 => .inr 4 | 62 => .inl (1, 40) | 63 => .inr 4 | 64 => .inl (1, 40) | 65 => .inr 4 | 66 => .inl (1, 40) | 67 => .inr 4 | 68 => .inl (1, 40)
  | 69 => .inr 9 | 70 => .inl (0, 9) | 71 => .inl (0, 84) | 72 => .inl (0, 24) | 73 => .inl (0, 2) | 74 => .inl (1, 6) | 75 => .inl (0, 4) | 76 => .inl (0, 4) | 77 => .inl (1, 160) | 78 => .inl (1, 40) | 79 => .inl (0, 120) | 80 => .inl (3, 104)
  | _ => .inl (0, 114)
/-- the links between nest mates -/
def mnl : List (String × Nat × MethodName × String) := [
  ("RoundsPerHour", 24, ⟨"RoundsPerHour$Rings", "<init>", "()V"⟩, "RoundsPerHour"),
  ("RoundsPerHour", 31, ⟨"RoundsPerHour$TreeClimb", "<init>", "()V"⟩, "RoundsPerHour"),
  ("RoundsPerHour", 38, ⟨"RoundsPerHour$WalkClimb", "<init>", "()V"⟩, "RoundsPerHour"),
  ("RoundsPerHour", 45, ⟨"RoundsPerHour$LoadClimb", "<init>", "()V"⟩, "RoundsPerHour"),
  ("RoundsPerHour", 52, ⟨"RoundsPerHour$Joins", "<init>", "()V"⟩, "RoundsPerHour"),
  ("RoundsPerHour", 59, ⟨"RoundsPerHour$Tape", "<init>", "()V"⟩, "RoundsPerHour"),
  ("RoundsPerHour", 74, ⟨"RoundsPerHour$Sheet", "<init>", "()V"⟩, "RoundsPerHour"),
  ("RoundsPerHour$Country", 40, ⟨"RoundsPerHour", "within", "(III)Z"⟩, "RoundsPerHour"),
  ("RoundsPerHour$Country", 53, ⟨"RoundsPerHour", "brings", "(III)I"⟩, "RoundsPerHour"),
  ("RoundsPerHour$Country", 57, ⟨"RoundsPerHour", "lasts", "(III)I"⟩, "RoundsPerHour"),
  ("RoundsPerHour$LoadClimb", 1, ⟨"RoundsPerHour$Climb", "<init>", "()V"⟩, "RoundsPerHour"),
  ("RoundsPerHour$Sheet", 22, ⟨"RoundsPerHour", "within", "(III)Z"⟩, "RoundsPerHour"),
  ("RoundsPerHour$Tape", 123, ⟨"RoundsPerHour", "within", "(III)Z"⟩, "RoundsPerHour"),
  ("RoundsPerHour$TreeClimb", 11, ⟨"RoundsPerHour$Joins", "<init>", "()V"⟩, "RoundsPerHour"),
  ("RoundsPerHour$TreeClimb", 3, ⟨"RoundsPerHour$Climb", "<init>", "()V"⟩, "RoundsPerHour"),
  ("RoundsPerHour$WalkClimb", 3, ⟨"RoundsPerHour$Climb", "<init>", "()V"⟩, "RoundsPerHour")]
/-- the words of texts: their places in the tape's pool, their bytes -/
def mstr : List (Nat × String × List Int32) := [
  (39, "places", [112, 108, 97, 99, 101, 115]), (48, "weather", [119, 101, 97, 116, 104, 101, 114]), (53, "thing", [116, 104, 105, 110, 103]),
  (111, "way", [119, 97, 121]), (113, "toll", [116, 111, 108, 108]), (115, "ford", [102, 111, 114, 100]), (117, "bridge", [98, 114, 105, 100, 103, 101]),
  (119, "mire", [109, 105, 114, 101]), (121, "stair", [115, 116, 97, 105, 114]), (106, "loss", [108, 111, 115, 115]), (108, "gain", [103, 97, 105, 110]), (110, "time", [116, 105, 109, 101]), (102, "shut", [115, 104, 117, 116])]
def mkab (j : Nat) : Int32 := match j with
  | 0 => -1
  | 3 => 1
  | 4 => 2
  | _ => 0
abbrev MX : Type := va_G × (Nat → ClassId) × Nat × (Nat → Nat)
/-- what lies in the heap from the start: the table of kinds, the words of texts, two statics of the JDK -/
def mST (E : MX) (U : State) : Prop :=
  va_Z "RoundsPerHour" "KIND_ABOVE" "[I" (.ref (E.2.2.2 2000)) (fun q => E.2.2.1 ≤ q) U U.heap ∧ va_T .int (E.2.2.2 2000) 6 (fun j => .int (mkab j)) (fun q => E.2.2.1 ≤ q) U U.heap ∧
  vk_S 13 (mstr.map (fun q => q.2.2.length)) (mstr.map (fun q => q.2.2)) (fun i => E.2.2.2 (1000 + i)) (fun i => E.2.2.2 (1100 + i)) (fun q => E.2.2.1 ≤ q) U U.heap ∧
  (∀ i : Nat, i < 13 → vk_R "RoundsPerHour$Tape" (mstr.getD i (0, "", [])).1 (mstr.getD i (0, "", [])).2.1 (E.2.2.2 (1000 + i)) U) ∧
  va_Z "java/lang/String" "COMPACT_STRINGS" "Z" (.int 1) (fun q => E.2.2.1 ≤ q) U U.heap ∧ (va_Z "jdk/internal/util/Preconditions" "SIOOBE_FORMATTER" "Ljava/util/function/BiFunction;" .null (fun q => E.2.2.1 ≤ q) U U.heap ∨ va_Z "jdk/internal/util/Preconditions" "SIOOBE_FORMATTER" "Ljava/util/function/BiFunction;" (.ref (E.2.2.2 2001)) (fun q => E.2.2.1 ≤ q) U U.heap) ∧ va_AO "RoundsPerHour$Sheet" U
theorem mST.warm {E : MX} {s U : State} (hW : s.WarmedH U.vm) (hq : ∀ a : Nat, a < s.heap.size → ¬ E.2.2.1 ≤ a → U.heap[a]? = s.heap[a]?) (h : mST E s) : mST E U := by
  obtain ⟨h1, h2, h3, h4, h5, h6, h7⟩ := h
  exact ⟨(h1.moved hW.alike).kept hq, (h2.moved hW.alike).kept hq, (h3.moved hW.alike).kept hq, fun i hi => (h4 i hi).warm hW, (h5.moved hW.alike).kept hq, h6.imp (fun h => (h.moved hW.alike).kept hq) (fun h => (h.moved hW.alike).kept hq), h7.moved hW.alike⟩
theorem mST.same {E : MX} {s U : State} (hv : U.vm = s.vm) (hH : U.heap = s.heap) (h : mST E s) : mST E U := by
  obtain ⟨h1, h2, h3, h4, h5, h6, h7⟩ := h
  have ha : s.vm.Alike U.vm := by rw [hv]; exact Vm.Alike.refl _
  have hq : ∀ a : Nat, a < s.heap.size → ¬ E.2.2.1 ≤ a → U.heap[a]? = s.heap[a]? := fun a _ _ => by rw [hH]
  exact ⟨(h1.moved ha).kept hq, (h2.moved ha).kept hq, (h3.moved ha).kept hq, fun i hi => (h4 i hi).same hv, (h5.moved ha).kept hq, h6.imp (fun h => (h.moved ha).kept hq) (fun h => (h.moved ha).kept hq), h7.moved ha⟩
