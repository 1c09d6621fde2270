/-! ===== the words of the tables that every method keeps ===== -/
def mWT : List Cond := lw_tbl.filter goodWord
theorem mwt {w : Cond} (h : w ∈ lw_tbl) (g : goodWord w = true) : w ∈ mWT := List.mem_filter.mpr ⟨h, g⟩
theorem mwt_g {w : Cond} (h : w ∈ mWT) : (w.onTables && w.keeps) = true ∨ ∃ ty, w = .arrayClass ty := good_of_word (List.mem_filter.mp h).2
theorem mwt_in {w : Cond} (h : w ∈ mWT) : w ∈ lw_tbl := (List.mem_filter.mp h).1
theorem mwt_good {ws : List Cond} (h : ∀ w ∈ ws, w ∈ mWT) : GoodIn mWT ws := fun w hw => ⟨h w hw, mwt_g (h w hw)⟩
theorem mwt_cons {w0 : Cond} (h : w0 ∈ mWT) : ∀ w ∈ w0 :: mWT, w ∈ mWT := fun w hw => (List.mem_cons.mp hw).elim (fun e => e ▸ h) id
theorem mt_0 {w : Cond} (h : w ∈ k2_sels lw_privs) (g : goodWord w = true) : w ∈ mWT := mwt (List.mem_append_left _ h) g
theorem mt_1 {w : Cond} (h : w ∈ tables_1_1) (g : goodWord w = true) : w ∈ mWT := mwt (List.mem_append_right _ (List.mem_append_left _ h)) g
theorem mt_2 {w : Cond} (h : w ∈ tables_1_2) (g : goodWord w = true) : w ∈ mWT := mwt (List.mem_append_right _ (List.mem_append_right _ (List.mem_append_left _ h))) g
theorem mt_3 {w : Cond} (h : w ∈ tables_1_3) (g : goodWord w = true) : w ∈ mWT := mwt (List.mem_append_right _ (List.mem_append_right _ (List.mem_append_right _ (List.mem_append_left _ h)))) g
theorem mt_4 {w : Cond} (h : w ∈ tables_1_4) (g : goodWord w = true) : w ∈ mWT := mwt (List.mem_append_right _ (List.mem_append_right _ (List.mem_append_right _ (List.mem_append_right _ (List.mem_append_left _ h))))) g
theorem mt_5 {w : Cond} (h : w ∈ tables_1_5) (g : goodWord w = true) : w ∈ mWT := mwt (List.mem_append_right _ (List.mem_append_right _ (List.mem_append_right _ (List.mem_append_right _ (List.mem_append_right _ (List.mem_append_left _ h)))))) g
theorem mt_6 {w : Cond} (h : w ∈ tables_1_6) (g : goodWord w = true) : w ∈ mWT := mwt (List.mem_append_right _ (List.mem_append_right _ (List.mem_append_right _ (List.mem_append_right _ (List.mem_append_right _ (List.mem_append_right _ (List.mem_append_left _ h))))))) g
theorem mt_7 {w : Cond} (h : w ∈ tables_1_7) (g : goodWord w = true) : w ∈ mWT := mwt (List.mem_append_right _ (List.mem_append_right _ (List.mem_append_right _ (List.mem_append_right _ (List.mem_append_right _ (List.mem_append_right _ (List.mem_append_right _ h))))))) g
theorem mt_s {w : Cond} (q : MethodName × Nat) (h : q ∈ lw_privs) (e : Cond.selects q.1.cls q.1 q.1 = w) (g : goodWord w = true) : w ∈ mWT := mt_0 (List.mem_map.mpr ⟨q, h, e⟩) g
theorem ml_1 {q : MethodName × Nat} (h : q ∈ lw_privs_1) : q ∈ lw_privs := List.mem_append_left _ h
theorem ml_2 {q : MethodName × Nat} (h : q ∈ lw_privs_2) : q ∈ lw_privs := List.mem_append_right _ (List.mem_append_left _ h)
theorem ml_3 {q : MethodName × Nat} (h : q ∈ lw_privs_3) : q ∈ lw_privs := List.mem_append_right _ (List.mem_append_right _ (List.mem_append_left _ h))
theorem ml_4 {q : MethodName × Nat} (h : q ∈ lw_privs_4) : q ∈ lw_privs := List.mem_append_right _ (List.mem_append_right _ (List.mem_append_right _ (List.mem_append_left _ h)))
theorem ml_5 {q : MethodName × Nat} (h : q ∈ lw_privs_5) : q ∈ lw_privs := List.mem_append_right _ (List.mem_append_right _ (List.mem_append_right _ (List.mem_append_right _ h)))
