/-! ===== trees as sets; the greedy row is the least best one ===== -/
def esl (n S : Nat) : List Nat := (List.range n).filter (fun i => S.testBit i)
theorem esl_mem {n S i : Nat} : i ∈ esl n S ↔ i < n ∧ S.testBit i = true := by
  unfold esl
  rw [List.mem_filter, List.mem_range]
theorem esl_sum (g : Nat → Int) (S : Nat) : ∀ n, wsum g (esl n S) = sgm g S n := by
  intro n
  induction n with
  | zero => rfl
  | succ n ih =>
    have : esl (n + 1) S = esl n S ++ (if S.testBit n = true then [n] else []) := by
      unfold esl
      rw [List.range_succ, List.filter_append, List.filter_cons, List.filter_nil]
    rw [this, wsum_app, ih, sgm_s]
    by_cases c : S.testBit n = true
    · rw [if_pos c, if_pos c]
      show _ + (g n + 0) = _
      rw [Int.add_zero]
    · rw [if_neg c, if_neg c]
      rfl
theorem wsum_1 (l : List Nat) : wsum (fun _ => 1) l = (l.length : Int) := by
  induction l with
  | nil => rfl
  | cons u l ih =>
    show 1 + wsum (fun _ => 1) l = ((l.length + 1 : Nat) : Int)
    rw [ih]
    omega
theorem st_sum (g : Nat → Int) {n : Nat} : ∀ l : List Nat, l.Nodup → (∀ u, u ∈ l → u < n) → sgm g (st l) n = wsum g l := by
  intro l
  induction l with
  | nil => exact fun _ _ => sgm_z g n
  | cons u l ih =>
    intro nd h
    obtain ⟨n1, n2⟩ := List.nodup_cons.mp nd
    show sgm g (2 ^ u ||| st l) n = g u + wsum g l
    rw [Nat.or_comm, sgm_or (by
      by_cases c : (st l).testBit u = true
      · exact absurd ((st_bit u l).mp c) n1
      · simpa using c), if_pos (h u (List.mem_cons_self ..)), ih n2 (fun v hv => h v (List.mem_cons_of_mem _ hv))]
    omega
def idl : Lb := fun p => p
def jA (d : CD) (S : Nat) : Bool := decide (pcl 14 S + 1 = dP d) && decide (∀ p, p < dP d → lbs d idl (esl (dN d) S) p = lbs d idl (esl (dN d) S) 0)
def isTr (d : CD) (S : Nat) : Bool := decide (S ≠ 0) && (decide (∀ i, i < dN d → S.testBit i = true → opw d i = true) && jA d S)
theorem cc_id : ∀ P, P < 7 → cc P idl = P := by decide
section
variable {d : CD} {W : Nat → Int}
theorem id_okl (ok : okD d) : okl (dP d) idl := fun p hp => by
  have := ok.1
  show p < 6
  omega
theorem isTr_iff {S : Nat} : isTr d S = true ↔ S ≠ 0 ∧ (∀ i, i < dN d → S.testBit i = true → opw d i = true) ∧ pcl 14 S + 1 = dP d ∧ one (dP d) (lbs d idl (esl (dN d) S)) := by
  unfold isTr jA
  rw [Bool.and_eq_true, Bool.and_eq_true, Bool.and_eq_true, decide_eq_true_iff, decide_eq_true_iff, decide_eq_true_iff, decide_eq_true_iff]
  exact Iff.rfl
theorem esl_len (ok : okD d) {S : Nat} (hS : S < 2 ^ dN d) : (esl (dN d) S).length = pcl 14 S := by
  have a := esl_sum (fun _ => 1) S (dN d)
  rw [wsum_1, sgm_1 (dN d) ok.2.2.1 S hS] at a
  omega
theorem grd_cc (ok : okD d) : ∀ (gs : List Nat) (lab : Lb), okl (dP d) lab → grd d W gs lab → cc (dP d) (lbs d lab gs) + gs.length = cc (dP d) lab := by
  intro gs
  induction gs with
  | nil => exact fun _ _ _ => rfl
  | cons g gs ih =>
    intro lab hl hg
    obtain ⟨⟨g1, g2, g3, g4⟩, g5⟩ := hg
    have w1 := (wf_eq ok g1).2
    have w2 := (wt_eq ok g1).2
    have := ih (jn d lab g) (jn_okl hl w2) g5
    have := cc_jn hl w1 w2 g3
    show cc (dP d) (lbs d (jn d lab g) gs) + (gs.length + 1) = _
    omega
theorem grd_all : ∀ (gs : List Nat) (lab : Lb), grd d W gs lab → gs.Nodup ∧ ∀ u, u ∈ gs → u < dN d ∧ opw d u = true ∧ eff d lab u := by
  intro gs
  induction gs with
  | nil => exact fun _ _ => ⟨List.nodup_nil, fun u hu => by cases hu⟩
  | cons g gs ih =>
    intro lab hg
    obtain ⟨⟨g1, g2, g3, g4⟩, g5⟩ := hg
    obtain ⟨i1, i2⟩ := ih (jn d lab g) g5
    refine ⟨List.nodup_cons.mpr ⟨fun x => (i2 g x).2.2 (jn_eq lab g), i1⟩, fun u hu => ?_⟩
    rcases List.mem_cons.mp hu with e | e
    · subst e
      exact ⟨g1, g2, g3⟩
    · obtain ⟨a, b, c⟩ := i2 u e
      exact ⟨a, b, fun x => c (crs_jn lab g _ _ x)⟩
theorem grd_snoc {u : Nat} : ∀ (gs : List Nat) (lab : Lb), grd d W gs lab → (u < dN d ∧ opw d u = true ∧ eff d (lbs d lab gs) u ∧ ∀ v, v < dN d → opw d v = true → eff d (lbs d lab gs) v → W2 W v ≤ W2 W u) → grd d W (gs ++ [u]) lab := by
  intro gs
  induction gs with
  | nil => exact fun _ _ h => ⟨h, trivial⟩
  | cons g gs ih => exact fun lab hg h => ⟨hg.1, ih (jn d lab g) hg.2 h⟩
theorem tree_is (ok : okD d) {gs : List Nat} (hg : grd d W gs idl) (hl : gs.length + 1 = dP d) : isL (cWy d (isTr d)) (fun S => sgm W S (cN (cWy d (isTr d)))) (st gs) ∧ st gs ≠ 0 := by
  have P6 := ok.1
  have h14 := ok.2.2.1
  obtain ⟨nd, al⟩ := grd_all gs idl hg
  have cI := cc_id (dP d) (by omega)
  have oI := id_okl ok
  have c1 := grd_cc ok gs idl oI hg
  have hu : ∀ u, u ∈ gs → u < dN d := fun u h => (al u h).1
  have lt := st_lt gs hu
  have one1 := (cc_one (by omega) (lbs_okl ok gs oI hu)).mp (by omega)
  have len : pcl 14 (st gs) = gs.length := by
    have a := st_sum (fun _ => 1) gs nd hu
    rw [wsum_1, sgm_1 (dN d) h14 _ lt] at a
    omega
  have nz : st gs ≠ 0 := by
    intro z
    rw [z, pcl_0] at len
    omega
  have ch1 : isTr d (st gs) = true := by
    refine isTr_iff.mpr ⟨nz, fun i _ hb => (al i ((st_bit i gs).mp hb)).2.1, by omega, fun p hp => ?_⟩
    have cr : crs (lbs d idl gs) (lbs d idl (esl (dN d) (st gs))) := lbs_in gs (fun p q (e : p = q) => by rw [e]) (fun u h => lbs_eq _ idl u (esl_mem.mpr ⟨hu u h, (st_bit u gs).mpr h⟩))
    exact cr _ _ (one1 p hp)
  refine ⟨isL_W2 (c := cWy d (isTr d)) h14 lt ch1 (fun R r1 r2 => ?_), nz⟩
  have r1 : R < 2 ^ dN d := r1
  obtain ⟨q1, q2, q3, q4⟩ := isTr_iff.mp r2
  have hu2 : ∀ u, u ∈ esl (dN d) R → u < dN d := fun u h => (esl_mem.mp h).1
  have best := grd_best ok W gs idl (esl (dN d) R) oI hg (by omega) (by rw [esl_len ok r1]; omega) (fun u h => ⟨(esl_mem.mp h).1, q2 u (esl_mem.mp h).1 (esl_mem.mp h).2⟩) ((cc_one (by omega) (lbs_okl ok _ oI hu2)).mpr q4)
  rw [esl_sum] at best
  show sgm (W2 W) R (dN d) ≤ sgm (W2 W) (st gs) (dN d)
  rw [st_sum (W2 W) gs nd hu]
  exact best
theorem tree_no (ok : okD d) {gs : List Nat} (hg : grd d W gs idl) (hl : gs.length + 1 < dP d) (hn : ∀ v, v < dN d → opw d v = true → ¬ eff d (lbs d idl gs) v) : noC (cWy d (isTr d)) := by
  have P6 := ok.1
  have oI := id_okl ok
  have cI := cc_id (dP d) (by omega)
  have c1 := grd_cc ok gs idl oI hg
  obtain ⟨nd, al⟩ := grd_all gs idl hg
  have hu : ∀ u, u ∈ gs → u < dN d := fun u h => (al u h).1
  intro R hR
  by_cases c : isTr d R = true
  · obtain ⟨q1, q2, q3, q4⟩ := isTr_iff.mp c
    have cr : crs (lbs d idl (esl (dN d) R)) (lbs d idl gs) := lbs_in _ (crs_lbs gs idl) (fun u h => by
      obtain ⟨a, b⟩ := esl_mem.mp h
      exact Classical.not_not.mp (hn u a (q2 u a b)))
    have o : one (dP d) (lbs d idl gs) := fun p hp => cr _ _ (q4 p hp)
    have := (cc_one (by omega) (lbs_okl ok gs oI hu)).mpr o
    omega
  · show isTr d R = false
    simpa using c
end
