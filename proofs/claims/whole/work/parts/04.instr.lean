/-! THE ENGINE, second half: instructions, each with the row that says that the machine does so -/
def jkill (i : Nat) (lv : List (Option Value)) : List (Option Value) := match i with
  | 0 => lv
  | j + 1 => match lv[j]? with
    | some (some x) => (match x.category with
      | 2 => lv.set j none
      | _ => lv)
    | _ => lv
def jst1 (i : Nat) (v : Value) (lv : List (Option Value)) : List (Option Value) := (jkill i lv).set i (some v)
def jst2 (i : Nat) (v : Value) (lv : List (Option Value)) : List (Option Value) := ((jkill i lv).set i (some v)).set (i + 1) none
theorem jkill_get {i : Nat} {lv : List (Option Value)} {j : Nat} {x : Value} (h : (jkill i lv)[j]? = some (some x)) : lv[j]? = some (some x) ∧ ¬ (j + 1 = i ∧ x.category = 2) := by
  unfold jkill at h
  split at h
  · exact ⟨h, fun q => by omega⟩
  · rename_i k
    split at h
    · rename_i y hy
      split at h
      · rename_i hc
        by_cases hj : k = j
        · subst hj
          rw [List.getElem?_set_self (List.getElem?_eq_some_iff.mp hy).1] at h
          cases h
        · rw [List.getElem?_set_ne hj] at h
          exact ⟨h, fun q => hj (by omega)⟩
      · rename_i hc
        refine ⟨h, fun q => ?_⟩
        have hjk : j = k := by omega
        subst hjk
        rw [hy] at h
        cases h
        exact hc q.2
    · rename_i hn
      refine ⟨h, fun q => ?_⟩
      have hjk : j = k := by omega
      subst hjk
      exact hn x h
/-- the known locals as the kit lists them -/
def jl (g : jg) (lv : List (Option Value)) : List (Nat × Value) := (lv.zipIdx).filterMap (fun q => q.1.map (fun v => (q.2, jtr g v)))
theorem jl_mem {g : jg} {lv : List (Option Value)} {j : Nat} {x : Value} (h : lv[j]? = some (some x)) : (j, jtr g x) ∈ jl g lv := by
  unfold jl
  refine List.mem_filterMap.mpr ⟨(some x, j), ?_, rfl⟩
  rw [List.mem_zipIdx_iff_getElem?]
  exact h
theorem jl_of {g : jg} {lv : List (Option Value)} {q : Nat × Value} (h : q ∈ jl g lv) : ∃ x, lv[q.1]? = some (some x) ∧ q.2 = jtr g x := by
  unfold jl at h
  obtain ⟨⟨o, j⟩, h1, h2⟩ := List.mem_filterMap.mp h
  rw [List.mem_zipIdx_iff_getElem?] at h1
  cases o with
  | none => cases h2
  | some x => cases h2; exact ⟨x, h1, rfl⟩
theorem jL.has {g : jg} {ls : Array Slot} {nL : Nat} {lv : List (Option Value)} (h : jL g ls nL lv) : lv_has ls nL (jl g lv) := by
  refine ⟨h.1, h.2.1, fun q hq => ?_⟩
  obtain ⟨x, h1, h2⟩ := jl_of hq
  rw [h2]
  exact h.2.2 _ _ h1
theorem jL.st1 {g : jg} {ls : Array Slot} {nL i : Nat} {v : Value} {lv : List (Option Value)} (h : lv_has ls nL ((i, jtr g v) :: (jl g lv).filter (fun q => !(q.1 == i) && !(q.1 + 1 == i && q.2.category == 2)))) : jL g ls nL (jst1 i v lv) := by
  refine ⟨h.1, h.2.1, fun j x hj => ?_⟩
  unfold jst1 at hj
  by_cases hi : i = j
  · subst hi
    by_cases hl : i < (jkill i lv).length
    · rw [List.getElem?_set_self hl] at hj
      cases hj
      exact h.2.2 _ List.mem_cons_self
    · rw [List.getElem?_eq_none (by simp; omega)] at hj
      cases hj
  · rw [List.getElem?_set_ne hi] at hj
    obtain ⟨h1, h2⟩ := jkill_get hj
    refine h.2.2 (j, jtr g x) (List.mem_cons_of_mem _ (List.mem_filter.mpr ⟨jl_mem h1, ?_⟩))
    simp only [Bool.and_eq_true, Bool.not_eq_true', beq_eq_false_iff_ne, jtr_cat, Bool.and_eq_false_iff]
    refine ⟨fun q => hi q.symm, ?_⟩
    by_cases q1 : j + 1 = i
    · right; exact fun q2 => h2 ⟨q1, q2⟩
    · left; exact q1
theorem jL.st2 {g : jg} {ls : Array Slot} {nL i : Nat} {v : Value} {lv : List (Option Value)} (h : lv_has ls nL ((i, jtr g v) :: (jl g lv).filter (fun q => !(q.1 == i) && (!(q.1 == i + 1) && !(q.1 + 1 == i && q.2.category == 2))))) : jL g ls nL (jst2 i v lv) := by
  refine ⟨h.1, h.2.1, fun j x hj => ?_⟩
  unfold jst2 at hj
  by_cases hi1 : i + 1 = j
  · subst hi1
    by_cases hl : i + 1 < ((jkill i lv).set i (some v)).length
    · rw [List.getElem?_set_self hl] at hj
      cases hj
    · rw [List.getElem?_eq_none (by simp at hl ⊢; omega)] at hj
      cases hj
  rw [List.getElem?_set_ne hi1] at hj
  by_cases hi : i = j
  · subst hi
    by_cases hl : i < (jkill i lv).length
    · rw [List.getElem?_set_self hl] at hj
      cases hj
      exact h.2.2 _ List.mem_cons_self
    · rw [List.getElem?_eq_none (by simp; omega)] at hj
      cases hj
  · rw [List.getElem?_set_ne hi] at hj
    obtain ⟨h1, h2⟩ := jkill_get hj
    refine h.2.2 (j, jtr g x) (List.mem_cons_of_mem _ (List.mem_filter.mpr ⟨jl_mem h1, ?_⟩))
    simp only [Bool.and_eq_true, Bool.not_eq_true', beq_eq_false_iff_ne, jtr_cat, Bool.and_eq_false_iff]
    refine ⟨fun q => hi q.symm, fun q => hi1 q.symm, ?_⟩
    by_cases q1 : j + 1 = i
    · right; exact fun q2 => h2 ⟨q1, q2⟩
    · left; exact q1
section jsound
variable {Y : jY} {Φ : jPost} {pc nx : Nat}

def ji_push (v : Value) (nx : Nat) : jI := fun k lv st h a b => k nx lv (v :: st) h a b
theorem jS_iconst {n : Int} {v : Int32} (hv : Int32.ofInt n = v) (hd : decode Y.2.1 pc = .ok (.iconst n, 1)) (hn : pc + 1 = nx) : jS Y Φ pc (ji_push (.int v) nx) := by
  intro k hk lv st h a b hi
  intro p l e s m args below meth c g hc H locs ls hP hS hL
  subst hn
  exact lv_iconst hc.1 hc.2.1 hd hv (hk _ _ _ _ _ _ hi p l e s m args below meth c g hc H locs ls hP hS hL)
theorem jS_bipush {n : Int} {v : Int32} (hv : (Int8.ofInt n).toInt32 = v) (hd : decode Y.2.1 pc = .ok (.bipush n, 2)) (hn : pc + 2 = nx) : jS Y Φ pc (ji_push (.int v) nx) := by
  intro k hk lv st h a b hi
  intro p l e s m args below meth c g hc H locs ls hP hS hL
  subst hn
  exact lv_bipush hc.1 hc.2.1 hd hv (hk _ _ _ _ _ _ hi p l e s m args below meth c g hc H locs ls hP hS hL)
theorem jS_sipush {n : Int} {v : Int32} (hv : (Int16.ofInt n).toInt32 = v) (hd : decode Y.2.1 pc = .ok (.sipush n, 3)) (hn : pc + 3 = nx) : jS Y Φ pc (ji_push (.int v) nx) := by
  intro k hk lv st h a b hi
  intro p l e s m args below meth c g hc H locs ls hP hS hL
  subst hn
  exact lv_sipush hc.1 hc.2.1 hd hv (hk _ _ _ _ _ _ hi p l e s m args below meth c g hc H locs ls hP hS hL)
theorem jS_lconst {n : Fin 2} {v : Int64} (hv : Int64.ofNat (n : Nat) = v) (hd : decode Y.2.1 pc = .ok (.lconst n, 1)) (hn : pc + 1 = nx) : jS Y Φ pc (ji_push (.long v) nx) := by
  intro k hk lv st h a b hi
  intro p l e s m args below meth c g hc H locs ls hP hS hL
  subst hn
  exact lv_lconst hc.1 hc.2.1 hd hv (hk _ _ _ _ _ _ hi p l e s m args below meth c g hc H locs ls hP hS hL)
theorem jS_fconst0  (hd : decode Y.2.1 pc = .ok (.fconst 0, 1)) (hn : pc + 1 = nx) : jS Y Φ pc (ji_push (.float FP.fconst0) nx) := by
  intro k hk lv st h a b hi
  intro p l e s m args below meth c g hc H locs ls hP hS hL
  subst hn
  exact lv_fconst0 hc.1 hc.2.1 hd (hk _ _ _ _ _ _ hi p l e s m args below meth c g hc H locs ls hP hS hL)
theorem jS_fconst1  (hd : decode Y.2.1 pc = .ok (.fconst 1, 1)) (hn : pc + 1 = nx) : jS Y Φ pc (ji_push (.float FP.fconst1) nx) := by
  intro k hk lv st h a b hi
  intro p l e s m args below meth c g hc H locs ls hP hS hL
  subst hn
  exact lv_fconst1 hc.1 hc.2.1 hd (hk _ _ _ _ _ _ hi p l e s m args below meth c g hc H locs ls hP hS hL)
theorem jS_fconst2  (hd : decode Y.2.1 pc = .ok (.fconst 2, 1)) (hn : pc + 1 = nx) : jS Y Φ pc (ji_push (.float FP.fconst2) nx) := by
  intro k hk lv st h a b hi
  intro p l e s m args below meth c g hc H locs ls hP hS hL
  subst hn
  exact lv_fconst2 hc.1 hc.2.1 hd (hk _ _ _ _ _ _ hi p l e s m args below meth c g hc H locs ls hP hS hL)
theorem jS_dconst0  (hd : decode Y.2.1 pc = .ok (.dconst 0, 1)) (hn : pc + 1 = nx) : jS Y Φ pc (ji_push (.double FP.dconst0) nx) := by
  intro k hk lv st h a b hi
  intro p l e s m args below meth c g hc H locs ls hP hS hL
  subst hn
  exact lv_dconst0 hc.1 hc.2.1 hd (hk _ _ _ _ _ _ hi p l e s m args below meth c g hc H locs ls hP hS hL)
theorem jS_dconst1  (hd : decode Y.2.1 pc = .ok (.dconst 1, 1)) (hn : pc + 1 = nx) : jS Y Φ pc (ji_push (.double FP.dconst1) nx) := by
  intro k hk lv st h a b hi
  intro p l e s m args below meth c g hc H locs ls hP hS hL
  subst hn
  exact lv_dconst1 hc.1 hc.2.1 hd (hk _ _ _ _ _ _ hi p l e s m args below meth c g hc H locs ls hP hS hL)
theorem jS_null  (hd : decode Y.2.1 pc = .ok (.aconst_null, 1)) (hn : pc + 1 = nx) : jS Y Φ pc (ji_push (.null) nx) := by
  intro k hk lv st h a b hi
  intro p l e s m args below meth c g hc H locs ls hP hS hL
  subst hn
  exact lv_null hc.1 hc.2.1 hd (hk _ _ _ _ _ _ hi p l e s m args below meth c g hc H locs ls hP hS hL)
theorem jS_ldci {index : Nat} {v : Int32} (hw : Cond.constant Y.1.cls index v ∈ lw_tbl) (hd : decode Y.2.1 pc = .ok (.ldc index, 2)) (hn : pc + 2 = nx) : jS Y Φ pc (ji_push (.int v) nx) := by
  intro k hk lv st h a b hi
  intro p l e s m args below meth c g hc H locs ls hP hS hL
  subst hn
  exact lv_ldc hc.1 hc.2.1 hc.2.2.2.1 (hc.2.2.2.2.2.2.2.word hw rfl rfl) hd (hk _ _ _ _ _ _ hi p l e s m args below meth c g hc H locs ls hP hS hL)
theorem jS_ldcwi {index : Nat} {v : Int32} (hw : Cond.constant Y.1.cls index v ∈ lw_tbl) (hd : decode Y.2.1 pc = .ok (.ldc_w index, 3)) (hn : pc + 3 = nx) : jS Y Φ pc (ji_push (.int v) nx) := by
  intro k hk lv st h a b hi
  intro p l e s m args below meth c g hc H locs ls hP hS hL
  subst hn
  exact lv_ldcw hc.1 hc.2.1 hc.2.2.2.1 (hc.2.2.2.2.2.2.2.word hw rfl rfl) hd (hk _ _ _ _ _ _ hi p l e s m args below meth c g hc H locs ls hP hS hL)
theorem jS_ldcf {index : Nat} {v : UInt32} (hw : Cond.constantFloat Y.1.cls index v ∈ lw_tbl) (hd : decode Y.2.1 pc = .ok (.ldc index, 2)) (hn : pc + 2 = nx) : jS Y Φ pc (ji_push (.float v) nx) := by
  intro k hk lv st h a b hi
  intro p l e s m args below meth c g hc H locs ls hP hS hL
  subst hn
  exact lv_ldcf hc.1 hc.2.1 hc.2.2.2.1 (hc.2.2.2.2.2.2.2.word hw rfl rfl) hd (hk _ _ _ _ _ _ hi p l e s m args below meth c g hc H locs ls hP hS hL)
theorem jS_ldc2l {index : Nat} {v : Int64} (hw : Cond.constantLong Y.1.cls index v ∈ lw_tbl) (hd : decode Y.2.1 pc = .ok (.ldc2_w index, 3)) (hn : pc + 3 = nx) : jS Y Φ pc (ji_push (.long v) nx) := by
  intro k hk lv st h a b hi
  intro p l e s m args below meth c g hc H locs ls hP hS hL
  subst hn
  exact lv_ldc2 hc.1 hc.2.1 hc.2.2.2.1 (hc.2.2.2.2.2.2.2.word hw rfl rfl) hd (hk _ _ _ _ _ _ hi p l e s m args below meth c g hc H locs ls hP hS hL)
theorem jS_ldc2d {index : Nat} {v : UInt64} (hw : Cond.constantDouble Y.1.cls index v ∈ lw_tbl) (hd : decode Y.2.1 pc = .ok (.ldc2_w index, 3)) (hn : pc + 3 = nx) : jS Y Φ pc (ji_push (.double v) nx) := by
  intro k hk lv st h a b hi
  intro p l e s m args below meth c g hc H locs ls hP hS hL
  subst hn
  exact lv_ldc2d hc.1 hc.2.1 hc.2.2.2.1 (hc.2.2.2.2.2.2.2.word hw rfl rfl) hd (hk _ _ _ _ _ _ hi p l e s m args below meth c g hc H locs ls hP hS hL)
def ji_iload (i nx : Nat) : jI := fun k lv st h a b => match lv[i]? with
  | some (some (.int x)) => k nx lv (.int x :: st) h a b
  | _ => False
theorem jS_iloadn {q : Fin 4} {i : Nat} (hq : (q : Nat) = i) (hd : decode Y.2.1 pc = .ok (.iload_n q, 1)) (hn : pc + 1 = nx) : jS Y Φ pc (ji_iload i nx) := by
  intro k hk lv st h a b hi
  unfold ji_iload at hi
  split at hi
  · rename_i x hx
    intro p l e s m args below meth c g hc H locs ls hP hS hL
    subst hn
    exact lv_iload_n hc.1 hc.2.1 hd hq (hL.2.2 _ _ hx) (hk _ _ _ _ _ _ hi p l e s m args below meth c g hc H locs ls hP hS hL)
  · exact hi.elim
theorem jS_iload {i : Nat} (hd : decode Y.2.1 pc = .ok (.iload i, 2)) (hn : pc + 2 = nx) : jS Y Φ pc (ji_iload i nx) := by
  intro k hk lv st h a b hi
  unfold ji_iload at hi
  split at hi
  · rename_i x hx
    intro p l e s m args below meth c g hc H locs ls hP hS hL
    subst hn
    exact lv_iload hc.1 hc.2.1 hd (hL.2.2 _ _ hx) (hk _ _ _ _ _ _ hi p l e s m args below meth c g hc H locs ls hP hS hL)
  · exact hi.elim
def ji_lload (i nx : Nat) : jI := fun k lv st h a b => match lv[i]? with
  | some (some (.long x)) => k nx lv (.long x :: st) h a b
  | _ => False
theorem jS_lloadn {q : Fin 4} {i : Nat} (hq : (q : Nat) = i) (hd : decode Y.2.1 pc = .ok (.lload_n q, 1)) (hn : pc + 1 = nx) : jS Y Φ pc (ji_lload i nx) := by
  intro k hk lv st h a b hi
  unfold ji_lload at hi
  split at hi
  · rename_i x hx
    intro p l e s m args below meth c g hc H locs ls hP hS hL
    subst hn
    exact lv_lload_n hc.1 hc.2.1 hd hq (hL.2.2 _ _ hx) (hk _ _ _ _ _ _ hi p l e s m args below meth c g hc H locs ls hP hS hL)
  · exact hi.elim
theorem jS_lload {i : Nat} (hd : decode Y.2.1 pc = .ok (.lload i, 2)) (hn : pc + 2 = nx) : jS Y Φ pc (ji_lload i nx) := by
  intro k hk lv st h a b hi
  unfold ji_lload at hi
  split at hi
  · rename_i x hx
    intro p l e s m args below meth c g hc H locs ls hP hS hL
    subst hn
    exact lv_lload hc.1 hc.2.1 hd (hL.2.2 _ _ hx) (hk _ _ _ _ _ _ hi p l e s m args below meth c g hc H locs ls hP hS hL)
  · exact hi.elim
def ji_fload (i nx : Nat) : jI := fun k lv st h a b => match lv[i]? with
  | some (some (.float x)) => k nx lv (.float x :: st) h a b
  | _ => False
theorem jS_floadn {q : Fin 4} {i : Nat} (hq : (q : Nat) = i) (hd : decode Y.2.1 pc = .ok (.fload_n q, 1)) (hn : pc + 1 = nx) : jS Y Φ pc (ji_fload i nx) := by
  intro k hk lv st h a b hi
  unfold ji_fload at hi
  split at hi
  · rename_i x hx
    intro p l e s m args below meth c g hc H locs ls hP hS hL
    subst hn
    exact lv_fload_n hc.1 hc.2.1 hd hq (hL.2.2 _ _ hx) (hk _ _ _ _ _ _ hi p l e s m args below meth c g hc H locs ls hP hS hL)
  · exact hi.elim
theorem jS_fload {i : Nat} (hd : decode Y.2.1 pc = .ok (.fload i, 2)) (hn : pc + 2 = nx) : jS Y Φ pc (ji_fload i nx) := by
  intro k hk lv st h a b hi
  unfold ji_fload at hi
  split at hi
  · rename_i x hx
    intro p l e s m args below meth c g hc H locs ls hP hS hL
    subst hn
    exact lv_fload hc.1 hc.2.1 hd (hL.2.2 _ _ hx) (hk _ _ _ _ _ _ hi p l e s m args below meth c g hc H locs ls hP hS hL)
  · exact hi.elim
def ji_dload (i nx : Nat) : jI := fun k lv st h a b => match lv[i]? with
  | some (some (.double x)) => k nx lv (.double x :: st) h a b
  | _ => False
theorem jS_dloadn {q : Fin 4} {i : Nat} (hq : (q : Nat) = i) (hd : decode Y.2.1 pc = .ok (.dload_n q, 1)) (hn : pc + 1 = nx) : jS Y Φ pc (ji_dload i nx) := by
  intro k hk lv st h a b hi
  unfold ji_dload at hi
  split at hi
  · rename_i x hx
    intro p l e s m args below meth c g hc H locs ls hP hS hL
    subst hn
    exact lv_dload_n hc.1 hc.2.1 hd hq (hL.2.2 _ _ hx) (hk _ _ _ _ _ _ hi p l e s m args below meth c g hc H locs ls hP hS hL)
  · exact hi.elim
theorem jS_dload {i : Nat} (hd : decode Y.2.1 pc = .ok (.dload i, 2)) (hn : pc + 2 = nx) : jS Y Φ pc (ji_dload i nx) := by
  intro k hk lv st h a b hi
  unfold ji_dload at hi
  split at hi
  · rename_i x hx
    intro p l e s m args below meth c g hc H locs ls hP hS hL
    subst hn
    exact lv_dload hc.1 hc.2.1 hd (hL.2.2 _ _ hx) (hk _ _ _ _ _ _ hi p l e s m args below meth c g hc H locs ls hP hS hL)
  · exact hi.elim
def ji_aload (i nx : Nat) : jI := fun k lv st h a b => match lv[i]? with
  | some (some (.ref x)) => k nx lv (.ref x :: st) h a b
  | some (some .null) => k nx lv (.null :: st) h a b
  | _ => False
theorem jS_aloadn {q : Fin 4} {i : Nat} (hq : (q : Nat) = i) (hd : decode Y.2.1 pc = .ok (.aload_n q, 1)) (hn : pc + 1 = nx) : jS Y Φ pc (ji_aload i nx) := by
  intro k hk lv st h a b hi
  unfold ji_aload at hi
  split at hi
  · rename_i x hx
    intro p l e s m args below meth c g hc H locs ls hP hS hL
    subst hn
    exact lv_aload_n hc.1 hc.2.1 hd hq (hL.2.2 _ _ hx) (hk _ _ _ _ _ _ hi p l e s m args below meth c g hc H locs ls hP hS hL)
  · rename_i hx
    intro p l e s m args below meth c g hc H locs ls hP hS hL
    subst hn
    exact lv_aload_nN hc.1 hc.2.1 hd hq (hL.2.2 _ _ hx) (hk _ _ _ _ _ _ hi p l e s m args below meth c g hc H locs ls hP hS hL)
  · exact hi.elim
theorem jS_aload {i : Nat} (hd : decode Y.2.1 pc = .ok (.aload i, 2)) (hn : pc + 2 = nx) : jS Y Φ pc (ji_aload i nx) := by
  intro k hk lv st h a b hi
  unfold ji_aload at hi
  split at hi
  · rename_i x hx
    intro p l e s m args below meth c g hc H locs ls hP hS hL
    subst hn
    exact lv_aload hc.1 hc.2.1 hd (hL.2.2 _ _ hx) (hk _ _ _ _ _ _ hi p l e s m args below meth c g hc H locs ls hP hS hL)
  · rename_i hx
    intro p l e s m args below meth c g hc H locs ls hP hS hL
    subst hn
    exact lv_aloadN hc.1 hc.2.1 hd (hL.2.2 _ _ hx) (hk _ _ _ _ _ _ hi p l e s m args below meth c g hc H locs ls hP hS hL)
  · exact hi.elim
def ji_istore (i nx : Nat) : jI := fun k lv st h a b => match st with
  | .int x :: st => k nx (jst1 i (.int x) lv) st h a b
  | _ => False
theorem jS_istoren {q : Fin 4} {i : Nat} (hq : (q : Nat) = i) (hd : decode Y.2.1 pc = .ok (.istore_n q, 1)) (hn : pc + 1 = nx) (hl : i < Y.2.2.1) : jS Y Φ pc (ji_istore i nx) := by
  intro k hk lv st h a b hi
  unfold ji_istore at hi
  split at hi
  · rename_i x st
    intro p l e s m args below meth c g hc H locs ls hP hS hL
    subst hn
    exact lv_istore_n hc.1 hc.2.1 hd hq hL.has hl rfl (fun ls hl2 => hk _ _ _ _ _ _ hi p l e s m args below meth c g hc H locs ls hP hS (jL.st1 (v := .int x) hl2))
  · exact hi.elim
theorem jS_istore {i : Nat} (hd : decode Y.2.1 pc = .ok (.istore i, 2)) (hn : pc + 2 = nx) (hl : i < Y.2.2.1) : jS Y Φ pc (ji_istore i nx) := by
  intro k hk lv st h a b hi
  unfold ji_istore at hi
  split at hi
  · rename_i x st
    intro p l e s m args below meth c g hc H locs ls hP hS hL
    subst hn
    exact lv_istore hc.1 hc.2.1 hd hL.has hl rfl (fun ls hl2 => hk _ _ _ _ _ _ hi p l e s m args below meth c g hc H locs ls hP hS (jL.st1 (v := .int x) hl2))
  · exact hi.elim
def ji_lstore (i nx : Nat) : jI := fun k lv st h a b => match st with
  | .long x :: st => k nx (jst2 i (.long x) lv) st h a b
  | _ => False
theorem jS_lstoren {q : Fin 4} {i : Nat} (hq : (q : Nat) = i) (hd : decode Y.2.1 pc = .ok (.lstore_n q, 1)) (hn : pc + 1 = nx) (hl : i + 1 < Y.2.2.1) : jS Y Φ pc (ji_lstore i nx) := by
  intro k hk lv st h a b hi
  unfold ji_lstore at hi
  split at hi
  · rename_i x st
    intro p l e s m args below meth c g hc H locs ls hP hS hL
    subst hn
    exact lv_lstore_n hc.1 hc.2.1 hd hq hL.has hl rfl (fun ls hl2 => hk _ _ _ _ _ _ hi p l e s m args below meth c g hc H locs ls hP hS (jL.st2 (v := .long x) hl2))
  · exact hi.elim
theorem jS_lstore {i : Nat} (hd : decode Y.2.1 pc = .ok (.lstore i, 2)) (hn : pc + 2 = nx) (hl : i + 1 < Y.2.2.1) : jS Y Φ pc (ji_lstore i nx) := by
  intro k hk lv st h a b hi
  unfold ji_lstore at hi
  split at hi
  · rename_i x st
    intro p l e s m args below meth c g hc H locs ls hP hS hL
    subst hn
    exact lv_lstore hc.1 hc.2.1 hd hL.has hl rfl (fun ls hl2 => hk _ _ _ _ _ _ hi p l e s m args below meth c g hc H locs ls hP hS (jL.st2 (v := .long x) hl2))
  · exact hi.elim
def ji_fstore (i nx : Nat) : jI := fun k lv st h a b => match st with
  | .float x :: st => k nx (jst1 i (.float x) lv) st h a b
  | _ => False
theorem jS_fstoren {q : Fin 4} {i : Nat} (hq : (q : Nat) = i) (hd : decode Y.2.1 pc = .ok (.fstore_n q, 1)) (hn : pc + 1 = nx) (hl : i < Y.2.2.1) : jS Y Φ pc (ji_fstore i nx) := by
  intro k hk lv st h a b hi
  unfold ji_fstore at hi
  split at hi
  · rename_i x st
    intro p l e s m args below meth c g hc H locs ls hP hS hL
    subst hn
    exact lv_fstore_n hc.1 hc.2.1 hd hq hL.has hl rfl (fun ls hl2 => hk _ _ _ _ _ _ hi p l e s m args below meth c g hc H locs ls hP hS (jL.st1 (v := .float x) hl2))
  · exact hi.elim
theorem jS_fstore {i : Nat} (hd : decode Y.2.1 pc = .ok (.fstore i, 2)) (hn : pc + 2 = nx) (hl : i < Y.2.2.1) : jS Y Φ pc (ji_fstore i nx) := by
  intro k hk lv st h a b hi
  unfold ji_fstore at hi
  split at hi
  · rename_i x st
    intro p l e s m args below meth c g hc H locs ls hP hS hL
    subst hn
    exact lv_fstore hc.1 hc.2.1 hd hL.has hl rfl (fun ls hl2 => hk _ _ _ _ _ _ hi p l e s m args below meth c g hc H locs ls hP hS (jL.st1 (v := .float x) hl2))
  · exact hi.elim
def ji_dstore (i nx : Nat) : jI := fun k lv st h a b => match st with
  | .double x :: st => k nx (jst2 i (.double x) lv) st h a b
  | _ => False
theorem jS_dstoren {q : Fin 4} {i : Nat} (hq : (q : Nat) = i) (hd : decode Y.2.1 pc = .ok (.dstore_n q, 1)) (hn : pc + 1 = nx) (hl : i + 1 < Y.2.2.1) : jS Y Φ pc (ji_dstore i nx) := by
  intro k hk lv st h a b hi
  unfold ji_dstore at hi
  split at hi
  · rename_i x st
    intro p l e s m args below meth c g hc H locs ls hP hS hL
    subst hn
    exact lv_dstore_n hc.1 hc.2.1 hd hq hL.has hl rfl (fun ls hl2 => hk _ _ _ _ _ _ hi p l e s m args below meth c g hc H locs ls hP hS (jL.st2 (v := .double x) hl2))
  · exact hi.elim
theorem jS_dstore {i : Nat} (hd : decode Y.2.1 pc = .ok (.dstore i, 2)) (hn : pc + 2 = nx) (hl : i + 1 < Y.2.2.1) : jS Y Φ pc (ji_dstore i nx) := by
  intro k hk lv st h a b hi
  unfold ji_dstore at hi
  split at hi
  · rename_i x st
    intro p l e s m args below meth c g hc H locs ls hP hS hL
    subst hn
    exact lv_dstore hc.1 hc.2.1 hd hL.has hl rfl (fun ls hl2 => hk _ _ _ _ _ _ hi p l e s m args below meth c g hc H locs ls hP hS (jL.st2 (v := .double x) hl2))
  · exact hi.elim
def ji_astore (i nx : Nat) : jI := fun k lv st h a b => match st with
  | .ref x :: st => k nx (jst1 i (.ref x) lv) st h a b
  | .null :: st => k nx (jst1 i .null lv) st h a b
  | _ => False
theorem jS_astoren {q : Fin 4} {i : Nat} (hq : (q : Nat) = i) (hd : decode Y.2.1 pc = .ok (.astore_n q, 1)) (hn : pc + 1 = nx) (hl : i < Y.2.2.1) : jS Y Φ pc (ji_astore i nx) := by
  intro k hk lv st h a b hi
  unfold ji_astore at hi
  split at hi
  · rename_i x st
    intro p l e s m args below meth c g hc H locs ls hP hS hL
    subst hn
    exact lv_astore_n hc.1 hc.2.1 hd hq hL.has hl rfl (fun ls hl2 => hk _ _ _ _ _ _ hi p l e s m args below meth c g hc H locs ls hP hS (jL.st1 (v := .ref x) hl2))
  · rename_i st
    intro p l e s m args below meth c g hc H locs ls hP hS hL
    subst hn
    exact lv_astore_nN hc.1 hc.2.1 hd hq hL.has hl rfl (fun ls hl2 => hk _ _ _ _ _ _ hi p l e s m args below meth c g hc H locs ls hP hS (jL.st1 (v := .null) hl2))
  · exact hi.elim
theorem jS_astore {i : Nat} (hd : decode Y.2.1 pc = .ok (.astore i, 2)) (hn : pc + 2 = nx) (hl : i < Y.2.2.1) : jS Y Φ pc (ji_astore i nx) := by
  intro k hk lv st h a b hi
  unfold ji_astore at hi
  split at hi
  · rename_i x st
    intro p l e s m args below meth c g hc H locs ls hP hS hL
    subst hn
    exact lv_astore hc.1 hc.2.1 hd hL.has hl rfl (fun ls hl2 => hk _ _ _ _ _ _ hi p l e s m args below meth c g hc H locs ls hP hS (jL.st1 (v := .ref x) hl2))
  · rename_i st
    intro p l e s m args below meth c g hc H locs ls hP hS hL
    subst hn
    exact lv_astoreN hc.1 hc.2.1 hd hL.has hl rfl (fun ls hl2 => hk _ _ _ _ _ _ hi p l e s m args below meth c g hc H locs ls hP hS (jL.st1 (v := .null) hl2))
  · exact hi.elim
def ji_iinc (i : Nat) (v : Int32) (nx : Nat) : jI := fun k lv st h a b => match lv[i]? with
  | some (some (.int x)) => k nx (jst1 i (.int (x + v)) lv) st h a b
  | _ => False
theorem jS_iinc {i : Nat} {n : Int} {v : Int32} (hv : Int32.ofInt n = v) (hd : decode Y.2.1 pc = .ok (.iinc i n, 3)) (hn : pc + 3 = nx) (hl : i < Y.2.2.1) : jS Y Φ pc (ji_iinc i v nx) := by
  intro k hk lv st h a b hi
  unfold ji_iinc at hi
  split at hi
  · rename_i x hx
    intro p l e s m args below meth c g hc H locs ls hP hS hL
    subst hn
    subst hv
    obtain ⟨q, hq⟩ := List.getElem?_of_mem (jl_mem (g := g) hx)
    exact lv_iinc hc.1 hc.2.1 hd hL.has hq rfl hl rfl (fun ls hl2 => hk _ _ _ _ _ _ hi p l e s m args below meth c g hc H locs ls hP hS (jL.st1 (v := .int (x + Int32.ofInt n)) hl2))
  · exact hi.elim
def ji_iadd (nx : Nat) : jI := fun k lv st h a b => match st with
  | .int y :: .int x :: st => k nx lv (.int (x + y) :: st) h a b
  | _ => False
theorem jS_iadd (hd : decode Y.2.1 pc = .ok (.iadd, 1)) (hn : pc + 1 = nx) : jS Y Φ pc (ji_iadd nx) := by
  intro k hk lv st h a b hi
  unfold ji_iadd at hi
  split at hi
  · skip
    intro p l e s m args below meth c g hc H locs ls hP hS hL
    subst hn
    exact lv_iadd hc.1 hc.2.1 hd (hk _ _ _ _ _ _ hi p l e s m args below meth c g hc H locs ls hP hS hL)
  · exact hi.elim
def ji_isub (nx : Nat) : jI := fun k lv st h a b => match st with
  | .int y :: .int x :: st => k nx lv (.int (x - y) :: st) h a b
  | _ => False
theorem jS_isub (hd : decode Y.2.1 pc = .ok (.isub, 1)) (hn : pc + 1 = nx) : jS Y Φ pc (ji_isub nx) := by
  intro k hk lv st h a b hi
  unfold ji_isub at hi
  split at hi
  · skip
    intro p l e s m args below meth c g hc H locs ls hP hS hL
    subst hn
    exact lv_isub hc.1 hc.2.1 hd (hk _ _ _ _ _ _ hi p l e s m args below meth c g hc H locs ls hP hS hL)
  · exact hi.elim
def ji_imul (nx : Nat) : jI := fun k lv st h a b => match st with
  | .int y :: .int x :: st => k nx lv (.int (x * y) :: st) h a b
  | _ => False
theorem jS_imul (hd : decode Y.2.1 pc = .ok (.imul, 1)) (hn : pc + 1 = nx) : jS Y Φ pc (ji_imul nx) := by
  intro k hk lv st h a b hi
  unfold ji_imul at hi
  split at hi
  · skip
    intro p l e s m args below meth c g hc H locs ls hP hS hL
    subst hn
    exact lv_imul hc.1 hc.2.1 hd (hk _ _ _ _ _ _ hi p l e s m args below meth c g hc H locs ls hP hS hL)
  · exact hi.elim
def ji_iand (nx : Nat) : jI := fun k lv st h a b => match st with
  | .int y :: .int x :: st => k nx lv (.int (x &&& y) :: st) h a b
  | _ => False
theorem jS_iand (hd : decode Y.2.1 pc = .ok (.iand, 1)) (hn : pc + 1 = nx) : jS Y Φ pc (ji_iand nx) := by
  intro k hk lv st h a b hi
  unfold ji_iand at hi
  split at hi
  · skip
    intro p l e s m args below meth c g hc H locs ls hP hS hL
    subst hn
    exact lv_iand hc.1 hc.2.1 hd (hk _ _ _ _ _ _ hi p l e s m args below meth c g hc H locs ls hP hS hL)
  · exact hi.elim
def ji_ior (nx : Nat) : jI := fun k lv st h a b => match st with
  | .int y :: .int x :: st => k nx lv (.int (x ||| y) :: st) h a b
  | _ => False
theorem jS_ior (hd : decode Y.2.1 pc = .ok (.ior, 1)) (hn : pc + 1 = nx) : jS Y Φ pc (ji_ior nx) := by
  intro k hk lv st h a b hi
  unfold ji_ior at hi
  split at hi
  · skip
    intro p l e s m args below meth c g hc H locs ls hP hS hL
    subst hn
    exact lv_ior hc.1 hc.2.1 hd (hk _ _ _ _ _ _ hi p l e s m args below meth c g hc H locs ls hP hS hL)
  · exact hi.elim
def ji_ixor (nx : Nat) : jI := fun k lv st h a b => match st with
  | .int y :: .int x :: st => k nx lv (.int (x ^^^ y) :: st) h a b
  | _ => False
theorem jS_ixor (hd : decode Y.2.1 pc = .ok (.ixor, 1)) (hn : pc + 1 = nx) : jS Y Φ pc (ji_ixor nx) := by
  intro k hk lv st h a b hi
  unfold ji_ixor at hi
  split at hi
  · skip
    intro p l e s m args below meth c g hc H locs ls hP hS hL
    subst hn
    exact lv_ixor hc.1 hc.2.1 hd (hk _ _ _ _ _ _ hi p l e s m args below meth c g hc H locs ls hP hS hL)
  · exact hi.elim
def ji_ishl (nx : Nat) : jI := fun k lv st h a b => match st with
  | .int y :: .int x :: st => k nx lv (.int (x <<< (y &&& 31)) :: st) h a b
  | _ => False
theorem jS_ishl (hd : decode Y.2.1 pc = .ok (.ishl, 1)) (hn : pc + 1 = nx) : jS Y Φ pc (ji_ishl nx) := by
  intro k hk lv st h a b hi
  unfold ji_ishl at hi
  split at hi
  · skip
    intro p l e s m args below meth c g hc H locs ls hP hS hL
    subst hn
    exact lv_ishl hc.1 hc.2.1 hd (hk _ _ _ _ _ _ hi p l e s m args below meth c g hc H locs ls hP hS hL)
  · exact hi.elim
def ji_ishr (nx : Nat) : jI := fun k lv st h a b => match st with
  | .int y :: .int x :: st => k nx lv (.int (x >>> (y &&& 31)) :: st) h a b
  | _ => False
theorem jS_ishr (hd : decode Y.2.1 pc = .ok (.ishr, 1)) (hn : pc + 1 = nx) : jS Y Φ pc (ji_ishr nx) := by
  intro k hk lv st h a b hi
  unfold ji_ishr at hi
  split at hi
  · skip
    intro p l e s m args below meth c g hc H locs ls hP hS hL
    subst hn
    exact lv_ishr hc.1 hc.2.1 hd (hk _ _ _ _ _ _ hi p l e s m args below meth c g hc H locs ls hP hS hL)
  · exact hi.elim
def ji_iushr (nx : Nat) : jI := fun k lv st h a b => match st with
  | .int y :: .int x :: st => k nx lv (.int ((x.toUInt32 >>> (y.toUInt32 &&& Int32.toUInt32 31)).toInt32) :: st) h a b
  | _ => False
theorem jS_iushr (hd : decode Y.2.1 pc = .ok (.iushr, 1)) (hn : pc + 1 = nx) : jS Y Φ pc (ji_iushr nx) := by
  intro k hk lv st h a b hi
  unfold ji_iushr at hi
  split at hi
  · skip
    intro p l e s m args below meth c g hc H locs ls hP hS hL
    subst hn
    exact lv_iushr hc.1 hc.2.1 hd rfl (hk _ _ _ _ _ _ hi p l e s m args below meth c g hc H locs ls hP hS hL)
  · exact hi.elim
def ji_ineg (nx : Nat) : jI := fun k lv st h a b => match st with
  | .int x :: st => k nx lv (.int (-x) :: st) h a b
  | _ => False
theorem jS_ineg (hd : decode Y.2.1 pc = .ok (.ineg, 1)) (hn : pc + 1 = nx) : jS Y Φ pc (ji_ineg nx) := by
  intro k hk lv st h a b hi
  unfold ji_ineg at hi
  split at hi
  · skip
    intro p l e s m args below meth c g hc H locs ls hP hS hL
    subst hn
    exact lv_ineg hc.1 hc.2.1 hd (hk _ _ _ _ _ _ hi p l e s m args below meth c g hc H locs ls hP hS hL)
  · exact hi.elim
def ji_irem (nx : Nat) : jI := fun k lv st h a b => match st with
  | .int y :: .int x :: st => (¬ y = 0) ∧ k nx lv (.int (x - x / y * y) :: st) h a b
  | _ => False
theorem jS_irem (hd : decode Y.2.1 pc = .ok (.irem, 1)) (hn : pc + 1 = nx) : jS Y Φ pc (ji_irem nx) := by
  intro k hk lv st h a b hi
  unfold ji_irem at hi
  split at hi
  · obtain ⟨hcc, hi⟩ := hi
    intro p l e s m args below meth c g hc H locs ls hP hS hL
    subst hn
    exact lv_irem hc.1 hc.2.1 hd hcc (hk _ _ _ _ _ _ hi p l e s m args below meth c g hc H locs ls hP hS hL)
  · exact hi.elim
def ji_idiv (nx : Nat) : jI := fun k lv st h a b => match st with
  | .int y :: .int x :: st => (¬ y = 0) ∧ k nx lv (.int (x / y) :: st) h a b
  | _ => False
theorem jS_idiv (hd : decode Y.2.1 pc = .ok (.idiv, 1)) (hn : pc + 1 = nx) : jS Y Φ pc (ji_idiv nx) := by
  intro k hk lv st h a b hi
  unfold ji_idiv at hi
  split at hi
  · obtain ⟨hcc, hi⟩ := hi
    intro p l e s m args below meth c g hc H locs ls hP hS hL
    subst hn
    exact lv_idiv hc.1 hc.2.1 hd hcc (hk _ _ _ _ _ _ hi p l e s m args below meth c g hc H locs ls hP hS hL)
  · exact hi.elim
def ji_ladd (nx : Nat) : jI := fun k lv st h a b => match st with
  | .long y :: .long x :: st => k nx lv (.long (x + y) :: st) h a b
  | _ => False
theorem jS_ladd (hd : decode Y.2.1 pc = .ok (.ladd, 1)) (hn : pc + 1 = nx) : jS Y Φ pc (ji_ladd nx) := by
  intro k hk lv st h a b hi
  unfold ji_ladd at hi
  split at hi
  · skip
    intro p l e s m args below meth c g hc H locs ls hP hS hL
    subst hn
    exact lv_ladd hc.1 hc.2.1 hd (hk _ _ _ _ _ _ hi p l e s m args below meth c g hc H locs ls hP hS hL)
  · exact hi.elim
def ji_lsub (nx : Nat) : jI := fun k lv st h a b => match st with
  | .long y :: .long x :: st => k nx lv (.long (x - y) :: st) h a b
  | _ => False
theorem jS_lsub (hd : decode Y.2.1 pc = .ok (.lsub, 1)) (hn : pc + 1 = nx) : jS Y Φ pc (ji_lsub nx) := by
  intro k hk lv st h a b hi
  unfold ji_lsub at hi
  split at hi
  · skip
    intro p l e s m args below meth c g hc H locs ls hP hS hL
    subst hn
    exact lv_lsub hc.1 hc.2.1 hd (hk _ _ _ _ _ _ hi p l e s m args below meth c g hc H locs ls hP hS hL)
  · exact hi.elim
def ji_lmul (nx : Nat) : jI := fun k lv st h a b => match st with
  | .long y :: .long x :: st => k nx lv (.long (x * y) :: st) h a b
  | _ => False
theorem jS_lmul (hd : decode Y.2.1 pc = .ok (.lmul, 1)) (hn : pc + 1 = nx) : jS Y Φ pc (ji_lmul nx) := by
  intro k hk lv st h a b hi
  unfold ji_lmul at hi
  split at hi
  · skip
    intro p l e s m args below meth c g hc H locs ls hP hS hL
    subst hn
    exact lv_lmul hc.1 hc.2.1 hd (hk _ _ _ _ _ _ hi p l e s m args below meth c g hc H locs ls hP hS hL)
  · exact hi.elim
def ji_land (nx : Nat) : jI := fun k lv st h a b => match st with
  | .long y :: .long x :: st => k nx lv (.long (x &&& y) :: st) h a b
  | _ => False
theorem jS_land (hd : decode Y.2.1 pc = .ok (.land, 1)) (hn : pc + 1 = nx) : jS Y Φ pc (ji_land nx) := by
  intro k hk lv st h a b hi
  unfold ji_land at hi
  split at hi
  · skip
    intro p l e s m args below meth c g hc H locs ls hP hS hL
    subst hn
    exact lv_land hc.1 hc.2.1 hd (hk _ _ _ _ _ _ hi p l e s m args below meth c g hc H locs ls hP hS hL)
  · exact hi.elim
def ji_lor (nx : Nat) : jI := fun k lv st h a b => match st with
  | .long y :: .long x :: st => k nx lv (.long (x ||| y) :: st) h a b
  | _ => False
theorem jS_lor (hd : decode Y.2.1 pc = .ok (.lor, 1)) (hn : pc + 1 = nx) : jS Y Φ pc (ji_lor nx) := by
  intro k hk lv st h a b hi
  unfold ji_lor at hi
  split at hi
  · skip
    intro p l e s m args below meth c g hc H locs ls hP hS hL
    subst hn
    exact lv_lor hc.1 hc.2.1 hd (hk _ _ _ _ _ _ hi p l e s m args below meth c g hc H locs ls hP hS hL)
  · exact hi.elim
def ji_lxor (nx : Nat) : jI := fun k lv st h a b => match st with
  | .long y :: .long x :: st => k nx lv (.long (x ^^^ y) :: st) h a b
  | _ => False
theorem jS_lxor (hd : decode Y.2.1 pc = .ok (.lxor, 1)) (hn : pc + 1 = nx) : jS Y Φ pc (ji_lxor nx) := by
  intro k hk lv st h a b hi
  unfold ji_lxor at hi
  split at hi
  · skip
    intro p l e s m args below meth c g hc H locs ls hP hS hL
    subst hn
    exact lv_lxor hc.1 hc.2.1 hd (hk _ _ _ _ _ _ hi p l e s m args below meth c g hc H locs ls hP hS hL)
  · exact hi.elim
def ji_lshl (nx : Nat) : jI := fun k lv st h a b => match st with
  | .int y :: .long x :: st => k nx lv (.long (x <<< (y.toInt64 &&& 63)) :: st) h a b
  | _ => False
theorem jS_lshl (hd : decode Y.2.1 pc = .ok (.lshl, 1)) (hn : pc + 1 = nx) : jS Y Φ pc (ji_lshl nx) := by
  intro k hk lv st h a b hi
  unfold ji_lshl at hi
  split at hi
  · skip
    intro p l e s m args below meth c g hc H locs ls hP hS hL
    subst hn
    exact lv_lshl hc.1 hc.2.1 hd rfl (hk _ _ _ _ _ _ hi p l e s m args below meth c g hc H locs ls hP hS hL)
  · exact hi.elim
def ji_lneg (nx : Nat) : jI := fun k lv st h a b => match st with
  | .long x :: st => k nx lv (.long (-x) :: st) h a b
  | _ => False
theorem jS_lneg (hd : decode Y.2.1 pc = .ok (.lneg, 1)) (hn : pc + 1 = nx) : jS Y Φ pc (ji_lneg nx) := by
  intro k hk lv st h a b hi
  unfold ji_lneg at hi
  split at hi
  · skip
    intro p l e s m args below meth c g hc H locs ls hP hS hL
    subst hn
    exact lv_lneg hc.1 hc.2.1 hd (hk _ _ _ _ _ _ hi p l e s m args below meth c g hc H locs ls hP hS hL)
  · exact hi.elim
def ji_ldiv (nx : Nat) : jI := fun k lv st h a b => match st with
  | .long y :: .long x :: st => (¬ y = 0) ∧ k nx lv (.long (x / y) :: st) h a b
  | _ => False
theorem jS_ldiv (hd : decode Y.2.1 pc = .ok (.ldiv, 1)) (hn : pc + 1 = nx) : jS Y Φ pc (ji_ldiv nx) := by
  intro k hk lv st h a b hi
  unfold ji_ldiv at hi
  split at hi
  · obtain ⟨hcc, hi⟩ := hi
    intro p l e s m args below meth c g hc H locs ls hP hS hL
    subst hn
    exact lv_ldiv hc.1 hc.2.1 hd hcc (hk _ _ _ _ _ _ hi p l e s m args below meth c g hc H locs ls hP hS hL)
  · exact hi.elim
def ji_lcmp (nx : Nat) : jI := fun k lv st h a b => match st with
  | .long y :: .long x :: st => k nx lv (.int (lg_cmp x y) :: st) h a b
  | _ => False
theorem jS_lcmp (hd : decode Y.2.1 pc = .ok (.lcmp, 1)) (hn : pc + 1 = nx) : jS Y Φ pc (ji_lcmp nx) := by
  intro k hk lv st h a b hi
  unfold ji_lcmp at hi
  split at hi
  · skip
    intro p l e s m args below meth c g hc H locs ls hP hS hL
    subst hn
    exact W.lcmp hc.1 hc.2.1 hd (hk _ _ _ _ _ _ hi p l e s m args below meth c g hc H locs ls hP hS hL)
  · exact hi.elim
def ji_i2l (nx : Nat) : jI := fun k lv st h a b => match st with
  | .int x :: st => k nx lv (.long (x.toInt64) :: st) h a b
  | _ => False
theorem jS_i2l (hd : decode Y.2.1 pc = .ok (.i2l, 1)) (hn : pc + 1 = nx) : jS Y Φ pc (ji_i2l nx) := by
  intro k hk lv st h a b hi
  unfold ji_i2l at hi
  split at hi
  · skip
    intro p l e s m args below meth c g hc H locs ls hP hS hL
    subst hn
    exact lv_i2l hc.1 hc.2.1 hd rfl (hk _ _ _ _ _ _ hi p l e s m args below meth c g hc H locs ls hP hS hL)
  · exact hi.elim
def ji_l2i (nx : Nat) : jI := fun k lv st h a b => match st with
  | .long x :: st => k nx lv (.int (x.toInt32) :: st) h a b
  | _ => False
theorem jS_l2i (hd : decode Y.2.1 pc = .ok (.l2i, 1)) (hn : pc + 1 = nx) : jS Y Φ pc (ji_l2i nx) := by
  intro k hk lv st h a b hi
  unfold ji_l2i at hi
  split at hi
  · skip
    intro p l e s m args below meth c g hc H locs ls hP hS hL
    subst hn
    exact lv_l2i hc.1 hc.2.1 hd rfl (hk _ _ _ _ _ _ hi p l e s m args below meth c g hc H locs ls hP hS hL)
  · exact hi.elim
def ji_l2f (nx : Nat) : jI := fun k lv st h a b => match st with
  | .long x :: st => k nx lv (.float (FP.l2f x) :: st) h a b
  | _ => False
theorem jS_l2f (hd : decode Y.2.1 pc = .ok (.l2f, 1)) (hn : pc + 1 = nx) : jS Y Φ pc (ji_l2f nx) := by
  intro k hk lv st h a b hi
  unfold ji_l2f at hi
  split at hi
  · skip
    intro p l e s m args below meth c g hc H locs ls hP hS hL
    subst hn
    exact lv_l2f hc.1 hc.2.1 hd (hk _ _ _ _ _ _ hi p l e s m args below meth c g hc H locs ls hP hS hL)
  · exact hi.elim
def ji_f2i (nx : Nat) : jI := fun k lv st h a b => match st with
  | .float x :: st => k nx lv (.int (FP.f2i x) :: st) h a b
  | _ => False
theorem jS_f2i (hd : decode Y.2.1 pc = .ok (.f2i, 1)) (hn : pc + 1 = nx) : jS Y Φ pc (ji_f2i nx) := by
  intro k hk lv st h a b hi
  unfold ji_f2i at hi
  split at hi
  · skip
    intro p l e s m args below meth c g hc H locs ls hP hS hL
    subst hn
    exact lv_f2i hc.1 hc.2.1 hd (hk _ _ _ _ _ _ hi p l e s m args below meth c g hc H locs ls hP hS hL)
  · exact hi.elim
def ji_d2l (nx : Nat) : jI := fun k lv st h a b => match st with
  | .double x :: st => k nx lv (.long (FP.d2l x) :: st) h a b
  | _ => False
theorem jS_d2l (hd : decode Y.2.1 pc = .ok (.d2l, 1)) (hn : pc + 1 = nx) : jS Y Φ pc (ji_d2l nx) := by
  intro k hk lv st h a b hi
  unfold ji_d2l at hi
  split at hi
  · skip
    intro p l e s m args below meth c g hc H locs ls hP hS hL
    subst hn
    exact lv_d2l hc.1 hc.2.1 hd (hk _ _ _ _ _ _ hi p l e s m args below meth c g hc H locs ls hP hS hL)
  · exact hi.elim
def ji_fneg (nx : Nat) : jI := fun k lv st h a b => match st with
  | .float x :: st => k nx lv (.float (FP.fneg x) :: st) h a b
  | _ => False
theorem jS_fneg (hd : decode Y.2.1 pc = .ok (.fneg, 1)) (hn : pc + 1 = nx) : jS Y Φ pc (ji_fneg nx) := by
  intro k hk lv st h a b hi
  unfold ji_fneg at hi
  split at hi
  · skip
    intro p l e s m args below meth c g hc H locs ls hP hS hL
    subst hn
    exact lv_fneg hc.1 hc.2.1 hd (hk _ _ _ _ _ _ hi p l e s m args below meth c g hc H locs ls hP hS hL)
  · exact hi.elim
def ji_dneg (nx : Nat) : jI := fun k lv st h a b => match st with
  | .double x :: st => k nx lv (.double (FP.dneg x) :: st) h a b
  | _ => False
theorem jS_dneg (hd : decode Y.2.1 pc = .ok (.dneg, 1)) (hn : pc + 1 = nx) : jS Y Φ pc (ji_dneg nx) := by
  intro k hk lv st h a b hi
  unfold ji_dneg at hi
  split at hi
  · skip
    intro p l e s m args below meth c g hc H locs ls hP hS hL
    subst hn
    exact lv_dneg hc.1 hc.2.1 hd (hk _ _ _ _ _ _ hi p l e s m args below meth c g hc H locs ls hP hS hL)
  · exact hi.elim
def ji_fadd (nx : Nat) : jI := fun k lv st h a b => match st with
  | .float y :: .float x :: st => (vf_n32 (FP.fadd x y)) ∧ k nx lv (.float (FP.fadd x y) :: st) h a b
  | _ => False
theorem jS_fadd (hd : decode Y.2.1 pc = .ok (.fadd, 1)) (hn : pc + 1 = nx) : jS Y Φ pc (ji_fadd nx) := by
  intro k hk lv st h a b hi
  unfold ji_fadd at hi
  split at hi
  · obtain ⟨hcc, hi⟩ := hi
    intro p l e s m args below meth c g hc H locs ls hP hS hL
    subst hn
    exact lv_fadd hc.1 hc.2.1 hd hcc (hk _ _ _ _ _ _ hi p l e s m args below meth c g hc H locs ls hP hS hL)
  · exact hi.elim
def ji_fsub (nx : Nat) : jI := fun k lv st h a b => match st with
  | .float y :: .float x :: st => (vf_n32 (FP.fsub x y)) ∧ k nx lv (.float (FP.fsub x y) :: st) h a b
  | _ => False
theorem jS_fsub (hd : decode Y.2.1 pc = .ok (.fsub, 1)) (hn : pc + 1 = nx) : jS Y Φ pc (ji_fsub nx) := by
  intro k hk lv st h a b hi
  unfold ji_fsub at hi
  split at hi
  · obtain ⟨hcc, hi⟩ := hi
    intro p l e s m args below meth c g hc H locs ls hP hS hL
    subst hn
    exact lv_fsub hc.1 hc.2.1 hd hcc (hk _ _ _ _ _ _ hi p l e s m args below meth c g hc H locs ls hP hS hL)
  · exact hi.elim
def ji_fmul (nx : Nat) : jI := fun k lv st h a b => match st with
  | .float y :: .float x :: st => (vf_n32 (FP.fmul x y)) ∧ k nx lv (.float (FP.fmul x y) :: st) h a b
  | _ => False
theorem jS_fmul (hd : decode Y.2.1 pc = .ok (.fmul, 1)) (hn : pc + 1 = nx) : jS Y Φ pc (ji_fmul nx) := by
  intro k hk lv st h a b hi
  unfold ji_fmul at hi
  split at hi
  · obtain ⟨hcc, hi⟩ := hi
    intro p l e s m args below meth c g hc H locs ls hP hS hL
    subst hn
    exact lv_fmul hc.1 hc.2.1 hd hcc (hk _ _ _ _ _ _ hi p l e s m args below meth c g hc H locs ls hP hS hL)
  · exact hi.elim
def ji_fdiv (nx : Nat) : jI := fun k lv st h a b => match st with
  | .float y :: .float x :: st => (vf_n32 (FP.fdiv x y)) ∧ k nx lv (.float (FP.fdiv x y) :: st) h a b
  | _ => False
theorem jS_fdiv (hd : decode Y.2.1 pc = .ok (.fdiv, 1)) (hn : pc + 1 = nx) : jS Y Φ pc (ji_fdiv nx) := by
  intro k hk lv st h a b hi
  unfold ji_fdiv at hi
  split at hi
  · obtain ⟨hcc, hi⟩ := hi
    intro p l e s m args below meth c g hc H locs ls hP hS hL
    subst hn
    exact lv_fdiv hc.1 hc.2.1 hd hcc (hk _ _ _ _ _ _ hi p l e s m args below meth c g hc H locs ls hP hS hL)
  · exact hi.elim
def ji_dadd (nx : Nat) : jI := fun k lv st h a b => match st with
  | .double y :: .double x :: st => (vf_n64 (FP.dadd x y)) ∧ k nx lv (.double (FP.dadd x y) :: st) h a b
  | _ => False
theorem jS_dadd (hd : decode Y.2.1 pc = .ok (.dadd, 1)) (hn : pc + 1 = nx) : jS Y Φ pc (ji_dadd nx) := by
  intro k hk lv st h a b hi
  unfold ji_dadd at hi
  split at hi
  · obtain ⟨hcc, hi⟩ := hi
    intro p l e s m args below meth c g hc H locs ls hP hS hL
    subst hn
    exact lv_dadd hc.1 hc.2.1 hd hcc (hk _ _ _ _ _ _ hi p l e s m args below meth c g hc H locs ls hP hS hL)
  · exact hi.elim
def ji_dsub (nx : Nat) : jI := fun k lv st h a b => match st with
  | .double y :: .double x :: st => (vf_n64 (FP.dsub x y)) ∧ k nx lv (.double (FP.dsub x y) :: st) h a b
  | _ => False
theorem jS_dsub (hd : decode Y.2.1 pc = .ok (.dsub, 1)) (hn : pc + 1 = nx) : jS Y Φ pc (ji_dsub nx) := by
  intro k hk lv st h a b hi
  unfold ji_dsub at hi
  split at hi
  · obtain ⟨hcc, hi⟩ := hi
    intro p l e s m args below meth c g hc H locs ls hP hS hL
    subst hn
    exact lv_dsub hc.1 hc.2.1 hd hcc (hk _ _ _ _ _ _ hi p l e s m args below meth c g hc H locs ls hP hS hL)
  · exact hi.elim
def ji_dmul (nx : Nat) : jI := fun k lv st h a b => match st with
  | .double y :: .double x :: st => (vf_n64 (FP.dmul x y)) ∧ k nx lv (.double (FP.dmul x y) :: st) h a b
  | _ => False
theorem jS_dmul (hd : decode Y.2.1 pc = .ok (.dmul, 1)) (hn : pc + 1 = nx) : jS Y Φ pc (ji_dmul nx) := by
  intro k hk lv st h a b hi
  unfold ji_dmul at hi
  split at hi
  · obtain ⟨hcc, hi⟩ := hi
    intro p l e s m args below meth c g hc H locs ls hP hS hL
    subst hn
    exact lv_dmul hc.1 hc.2.1 hd hcc (hk _ _ _ _ _ _ hi p l e s m args below meth c g hc H locs ls hP hS hL)
  · exact hi.elim
def ji_f2d (nx : Nat) : jI := fun k lv st h a b => match st with
  | .float x :: st => (vf_n64 (FP.f2d x)) ∧ k nx lv (.double (FP.f2d x) :: st) h a b
  | _ => False
theorem jS_f2d (hd : decode Y.2.1 pc = .ok (.f2d, 1)) (hn : pc + 1 = nx) : jS Y Φ pc (ji_f2d nx) := by
  intro k hk lv st h a b hi
  unfold ji_f2d at hi
  split at hi
  · obtain ⟨hcc, hi⟩ := hi
    intro p l e s m args below meth c g hc H locs ls hP hS hL
    subst hn
    exact lv_f2d hc.1 hc.2.1 hd hcc (hk _ _ _ _ _ _ hi p l e s m args below meth c g hc H locs ls hP hS hL)
  · exact hi.elim
def ji_fcmp (op : CmpOp) (nx : Nat) : jI := fun k lv st h a b => match st with
  | .float y :: .float x :: st => k nx lv (.int (Op.cmpValue (FP.fcmp x y) op) :: st) h a b
  | _ => False
theorem jS_fcmp {op : CmpOp} (hd : decode Y.2.1 pc = .ok (.fcmp op, 1)) (hn : pc + 1 = nx) : jS Y Φ pc (ji_fcmp op nx) := by
  intro k hk lv st h a b hi
  unfold ji_fcmp at hi
  split at hi
  · skip
    intro p l e s m args below meth c g hc H locs ls hP hS hL
    subst hn
    exact lv_fcmp hc.1 hc.2.1 hd (hk _ _ _ _ _ _ hi p l e s m args below meth c g hc H locs ls hP hS hL)
  · exact hi.elim
def ji_dcmp (op : CmpOp) (nx : Nat) : jI := fun k lv st h a b => match st with
  | .double y :: .double x :: st => k nx lv (.int (Op.cmpValue (FP.dcmp x y) op) :: st) h a b
  | _ => False
theorem jS_dcmp {op : CmpOp} (hd : decode Y.2.1 pc = .ok (.dcmp op, 1)) (hn : pc + 1 = nx) : jS Y Φ pc (ji_dcmp op nx) := by
  intro k hk lv st h a b hi
  unfold ji_dcmp at hi
  split at hi
  · skip
    intro p l e s m args below meth c g hc H locs ls hP hS hL
    subst hn
    exact lv_dcmp hc.1 hc.2.1 hd (hk _ _ _ _ _ _ hi p l e s m args below meth c g hc H locs ls hP hS hL)
  · exact hi.elim
theorem jcat1 {g : jg} {v : Value} (h : v.category = 1) : (jtr g v).category = 1 := by rw [jtr_cat]; exact h
theorem jc2_of {P : Prop} {v : Value} (h : match v.category with | 1 => P | _ => False) : v.category = 1 ∧ P := by
  rcases lv_cat v with hc | hc
  · rw [hc] at h; exact ⟨hc, h⟩
  · rw [hc] at h; exact h.elim
def ji_dup (nx : Nat) : jI := fun k lv st h a b => match st with
  | v :: st => (match v.category with
    | 1 => k nx lv (v :: v :: st) h a b
    | _ => False)
  | _ => False
theorem jS_dup (hd : decode Y.2.1 pc = .ok (.dup, 1)) (hn : pc + 1 = nx) : jS Y Φ pc (ji_dup nx) := by
  intro k hk lv st h a b hi
  unfold ji_dup at hi
  split at hi
  · obtain ⟨hcc, hi⟩ := jc2_of hi
    intro p l e s m args below meth c g hc H locs ls hP hS hL
    subst hn
    exact lv_dup hc.1 hc.2.1 hd (jcat1 hcc) (hk _ _ _ _ _ _ hi p l e s m args below meth c g hc H locs ls hP hS hL)
  · exact hi.elim
def ji_pop (nx : Nat) : jI := fun k lv st h a b => match st with
  | v :: st => (match v.category with
    | 1 => k nx lv st h a b
    | _ => False)
  | _ => False
theorem jS_pop (hd : decode Y.2.1 pc = .ok (.pop, 1)) (hn : pc + 1 = nx) : jS Y Φ pc (ji_pop nx) := by
  intro k hk lv st h a b hi
  unfold ji_pop at hi
  split at hi
  · obtain ⟨hcc, hi⟩ := jc2_of hi
    intro p l e s m args below meth c g hc H locs ls hP hS hL
    subst hn
    exact lv_pop hc.1 hc.2.1 hd (jcat1 hcc) (hk _ _ _ _ _ _ hi p l e s m args below meth c g hc H locs ls hP hS hL)
  · exact hi.elim
def ji_dup_x1 (nx : Nat) : jI := fun k lv st h a b => match st with
  | v :: x :: st => (match v.category with
    | 1 => (match x.category with
      | 1 => k nx lv (v :: x :: v :: st) h a b
      | _ => False)
    | _ => False)
  | _ => False
theorem jS_dup_x1 (hd : decode Y.2.1 pc = .ok (.dup_x1, 1)) (hn : pc + 1 = nx) : jS Y Φ pc (ji_dup_x1 nx) := by
  intro k hk lv st h a b hi
  unfold ji_dup_x1 at hi
  split at hi
  · obtain ⟨hcc, hi⟩ := jc2_of hi
    obtain ⟨hc2, hi⟩ := jc2_of hi
    intro p l e s m args below meth c g hc H locs ls hP hS hL
    subst hn
    exact lv_dup_x1 hc.1 hc.2.1 hd (jcat1 hcc) (jcat1 hc2) (hk _ _ _ _ _ _ hi p l e s m args below meth c g hc H locs ls hP hS hL)
  · exact hi.elim
def ji_dup2 (nx : Nat) : jI := fun k lv st h a b => match st with
  | v :: x :: st => (match v.category with
    | 1 => (match x.category with
      | 1 => k nx lv (v :: x :: v :: x :: st) h a b
      | _ => False)
    | _ => False)
  | _ => False
theorem jS_dup2 (hd : decode Y.2.1 pc = .ok (.dup2, 1)) (hn : pc + 1 = nx) : jS Y Φ pc (ji_dup2 nx) := by
  intro k hk lv st h a b hi
  unfold ji_dup2 at hi
  split at hi
  · obtain ⟨hcc, hi⟩ := jc2_of hi
    obtain ⟨hc2, hi⟩ := jc2_of hi
    intro p l e s m args below meth c g hc H locs ls hP hS hL
    subst hn
    exact lv_dup2_11 hc.1 hc.2.1 hd (jcat1 hcc) (jcat1 hc2) (hk _ _ _ _ _ _ hi p l e s m args below meth c g hc H locs ls hP hS hL)
  · exact hi.elim
def ji_ifeq (tgt nx : Nat) : jI := fun k lv st h a b => match st with
  | .int x :: st => (x = nI 0 → k tgt lv st h a b) ∧ (¬ x = nI 0 → k nx lv st h a b)
  | _ => False
theorem jS_ifeq {off : Int} {tgt : Nat} (hd : decode Y.2.1 pc = .ok (.ifCond .eq off, 3)) (ht : (pc : Int) + off = (tgt : Int)) (hn : pc + 3 = nx) : jS Y Φ pc (ji_ifeq tgt nx) := by
  intro k hk lv st h a b hi
  unfold ji_ifeq at hi
  split at hi
  · intro p l e s m args below meth c g hc H locs ls hP hS hL
    subst hn
    obtain ⟨h1, h2⟩ := hi
    rw [nI_0] at h1 h2
    exact lv_if_eq hc.1 hc.2.1 hd ht (fun q => hk _ _ _ _ _ _ (h1 q) p l e s m args below meth c g hc H locs ls hP hS hL) (fun q => hk _ _ _ _ _ _ (h2 q) p l e s m args below meth c g hc H locs ls hP hS hL)
  · exact hi.elim
def ji_icmpeq (tgt nx : Nat) : jI := fun k lv st h a b => match st with
  | .int y :: .int x :: st => (x = y → k tgt lv st h a b) ∧ (¬ x = y → k nx lv st h a b)
  | _ => False
theorem jS_icmpeq {off : Int} {tgt : Nat} (hd : decode Y.2.1 pc = .ok (.if_icmp .eq off, 3)) (ht : (pc : Int) + off = (tgt : Int)) (hn : pc + 3 = nx) : jS Y Φ pc (ji_icmpeq tgt nx) := by
  intro k hk lv st h a b hi
  unfold ji_icmpeq at hi
  split at hi
  · intro p l e s m args below meth c g hc H locs ls hP hS hL
    subst hn
    obtain ⟨h1, h2⟩ := hi
    skip
    exact lv_icmp_eq hc.1 hc.2.1 hd ht (fun q => hk _ _ _ _ _ _ (h1 q) p l e s m args below meth c g hc H locs ls hP hS hL) (fun q => hk _ _ _ _ _ _ (h2 q) p l e s m args below meth c g hc H locs ls hP hS hL)
  · exact hi.elim
def ji_ifne (tgt nx : Nat) : jI := fun k lv st h a b => match st with
  | .int x :: st => (¬ x = nI 0 → k tgt lv st h a b) ∧ (x = nI 0 → k nx lv st h a b)
  | _ => False
theorem jS_ifne {off : Int} {tgt : Nat} (hd : decode Y.2.1 pc = .ok (.ifCond .ne off, 3)) (ht : (pc : Int) + off = (tgt : Int)) (hn : pc + 3 = nx) : jS Y Φ pc (ji_ifne tgt nx) := by
  intro k hk lv st h a b hi
  unfold ji_ifne at hi
  split at hi
  · intro p l e s m args below meth c g hc H locs ls hP hS hL
    subst hn
    obtain ⟨h1, h2⟩ := hi
    rw [nI_0] at h1 h2
    exact lv_if_ne hc.1 hc.2.1 hd ht (fun q => hk _ _ _ _ _ _ (h1 q) p l e s m args below meth c g hc H locs ls hP hS hL) (fun q => hk _ _ _ _ _ _ (h2 q) p l e s m args below meth c g hc H locs ls hP hS hL)
  · exact hi.elim
def ji_icmpne (tgt nx : Nat) : jI := fun k lv st h a b => match st with
  | .int y :: .int x :: st => (¬ x = y → k tgt lv st h a b) ∧ (x = y → k nx lv st h a b)
  | _ => False
theorem jS_icmpne {off : Int} {tgt : Nat} (hd : decode Y.2.1 pc = .ok (.if_icmp .ne off, 3)) (ht : (pc : Int) + off = (tgt : Int)) (hn : pc + 3 = nx) : jS Y Φ pc (ji_icmpne tgt nx) := by
  intro k hk lv st h a b hi
  unfold ji_icmpne at hi
  split at hi
  · intro p l e s m args below meth c g hc H locs ls hP hS hL
    subst hn
    obtain ⟨h1, h2⟩ := hi
    skip
    exact lv_icmp_ne hc.1 hc.2.1 hd ht (fun q => hk _ _ _ _ _ _ (h1 q) p l e s m args below meth c g hc H locs ls hP hS hL) (fun q => hk _ _ _ _ _ _ (h2 q) p l e s m args below meth c g hc H locs ls hP hS hL)
  · exact hi.elim
def ji_iflt (tgt nx : Nat) : jI := fun k lv st h a b => match st with
  | .int x :: st => (x < nI 0 → k tgt lv st h a b) ∧ (¬ x < nI 0 → k nx lv st h a b)
  | _ => False
theorem jS_iflt {off : Int} {tgt : Nat} (hd : decode Y.2.1 pc = .ok (.ifCond .lt off, 3)) (ht : (pc : Int) + off = (tgt : Int)) (hn : pc + 3 = nx) : jS Y Φ pc (ji_iflt tgt nx) := by
  intro k hk lv st h a b hi
  unfold ji_iflt at hi
  split at hi
  · intro p l e s m args below meth c g hc H locs ls hP hS hL
    subst hn
    obtain ⟨h1, h2⟩ := hi
    rw [nI_0] at h1 h2
    exact lv_if_lt hc.1 hc.2.1 hd ht (fun q => hk _ _ _ _ _ _ (h1 q) p l e s m args below meth c g hc H locs ls hP hS hL) (fun q => hk _ _ _ _ _ _ (h2 q) p l e s m args below meth c g hc H locs ls hP hS hL)
  · exact hi.elim
def ji_icmplt (tgt nx : Nat) : jI := fun k lv st h a b => match st with
  | .int y :: .int x :: st => (x < y → k tgt lv st h a b) ∧ (¬ x < y → k nx lv st h a b)
  | _ => False
theorem jS_icmplt {off : Int} {tgt : Nat} (hd : decode Y.2.1 pc = .ok (.if_icmp .lt off, 3)) (ht : (pc : Int) + off = (tgt : Int)) (hn : pc + 3 = nx) : jS Y Φ pc (ji_icmplt tgt nx) := by
  intro k hk lv st h a b hi
  unfold ji_icmplt at hi
  split at hi
  · intro p l e s m args below meth c g hc H locs ls hP hS hL
    subst hn
    obtain ⟨h1, h2⟩ := hi
    skip
    exact lv_icmp_lt hc.1 hc.2.1 hd ht (fun q => hk _ _ _ _ _ _ (h1 q) p l e s m args below meth c g hc H locs ls hP hS hL) (fun q => hk _ _ _ _ _ _ (h2 q) p l e s m args below meth c g hc H locs ls hP hS hL)
  · exact hi.elim
def ji_ifge (tgt nx : Nat) : jI := fun k lv st h a b => match st with
  | .int x :: st => (nI 0 ≤ x → k tgt lv st h a b) ∧ (¬ nI 0 ≤ x → k nx lv st h a b)
  | _ => False
theorem jS_ifge {off : Int} {tgt : Nat} (hd : decode Y.2.1 pc = .ok (.ifCond .ge off, 3)) (ht : (pc : Int) + off = (tgt : Int)) (hn : pc + 3 = nx) : jS Y Φ pc (ji_ifge tgt nx) := by
  intro k hk lv st h a b hi
  unfold ji_ifge at hi
  split at hi
  · intro p l e s m args below meth c g hc H locs ls hP hS hL
    subst hn
    obtain ⟨h1, h2⟩ := hi
    rw [nI_0] at h1 h2
    exact lv_if_ge hc.1 hc.2.1 hd ht (fun q => hk _ _ _ _ _ _ (h1 q) p l e s m args below meth c g hc H locs ls hP hS hL) (fun q => hk _ _ _ _ _ _ (h2 q) p l e s m args below meth c g hc H locs ls hP hS hL)
  · exact hi.elim
def ji_icmpge (tgt nx : Nat) : jI := fun k lv st h a b => match st with
  | .int y :: .int x :: st => (y ≤ x → k tgt lv st h a b) ∧ (¬ y ≤ x → k nx lv st h a b)
  | _ => False
theorem jS_icmpge {off : Int} {tgt : Nat} (hd : decode Y.2.1 pc = .ok (.if_icmp .ge off, 3)) (ht : (pc : Int) + off = (tgt : Int)) (hn : pc + 3 = nx) : jS Y Φ pc (ji_icmpge tgt nx) := by
  intro k hk lv st h a b hi
  unfold ji_icmpge at hi
  split at hi
  · intro p l e s m args below meth c g hc H locs ls hP hS hL
    subst hn
    obtain ⟨h1, h2⟩ := hi
    skip
    exact lv_icmp_ge hc.1 hc.2.1 hd ht (fun q => hk _ _ _ _ _ _ (h1 q) p l e s m args below meth c g hc H locs ls hP hS hL) (fun q => hk _ _ _ _ _ _ (h2 q) p l e s m args below meth c g hc H locs ls hP hS hL)
  · exact hi.elim
def ji_ifgt (tgt nx : Nat) : jI := fun k lv st h a b => match st with
  | .int x :: st => (nI 0 < x → k tgt lv st h a b) ∧ (¬ nI 0 < x → k nx lv st h a b)
  | _ => False
theorem jS_ifgt {off : Int} {tgt : Nat} (hd : decode Y.2.1 pc = .ok (.ifCond .gt off, 3)) (ht : (pc : Int) + off = (tgt : Int)) (hn : pc + 3 = nx) : jS Y Φ pc (ji_ifgt tgt nx) := by
  intro k hk lv st h a b hi
  unfold ji_ifgt at hi
  split at hi
  · intro p l e s m args below meth c g hc H locs ls hP hS hL
    subst hn
    obtain ⟨h1, h2⟩ := hi
    rw [nI_0] at h1 h2
    exact lv_if_gt hc.1 hc.2.1 hd ht (fun q => hk _ _ _ _ _ _ (h1 q) p l e s m args below meth c g hc H locs ls hP hS hL) (fun q => hk _ _ _ _ _ _ (h2 q) p l e s m args below meth c g hc H locs ls hP hS hL)
  · exact hi.elim
def ji_icmpgt (tgt nx : Nat) : jI := fun k lv st h a b => match st with
  | .int y :: .int x :: st => (y < x → k tgt lv st h a b) ∧ (¬ y < x → k nx lv st h a b)
  | _ => False
theorem jS_icmpgt {off : Int} {tgt : Nat} (hd : decode Y.2.1 pc = .ok (.if_icmp .gt off, 3)) (ht : (pc : Int) + off = (tgt : Int)) (hn : pc + 3 = nx) : jS Y Φ pc (ji_icmpgt tgt nx) := by
  intro k hk lv st h a b hi
  unfold ji_icmpgt at hi
  split at hi
  · intro p l e s m args below meth c g hc H locs ls hP hS hL
    subst hn
    obtain ⟨h1, h2⟩ := hi
    skip
    exact lv_icmp_gt hc.1 hc.2.1 hd ht (fun q => hk _ _ _ _ _ _ (h1 q) p l e s m args below meth c g hc H locs ls hP hS hL) (fun q => hk _ _ _ _ _ _ (h2 q) p l e s m args below meth c g hc H locs ls hP hS hL)
  · exact hi.elim
def ji_ifle (tgt nx : Nat) : jI := fun k lv st h a b => match st with
  | .int x :: st => (x ≤ nI 0 → k tgt lv st h a b) ∧ (¬ x ≤ nI 0 → k nx lv st h a b)
  | _ => False
theorem jS_ifle {off : Int} {tgt : Nat} (hd : decode Y.2.1 pc = .ok (.ifCond .le off, 3)) (ht : (pc : Int) + off = (tgt : Int)) (hn : pc + 3 = nx) : jS Y Φ pc (ji_ifle tgt nx) := by
  intro k hk lv st h a b hi
  unfold ji_ifle at hi
  split at hi
  · intro p l e s m args below meth c g hc H locs ls hP hS hL
    subst hn
    obtain ⟨h1, h2⟩ := hi
    rw [nI_0] at h1 h2
    exact lv_if_le hc.1 hc.2.1 hd ht (fun q => hk _ _ _ _ _ _ (h1 q) p l e s m args below meth c g hc H locs ls hP hS hL) (fun q => hk _ _ _ _ _ _ (h2 q) p l e s m args below meth c g hc H locs ls hP hS hL)
  · exact hi.elim
def ji_icmple (tgt nx : Nat) : jI := fun k lv st h a b => match st with
  | .int y :: .int x :: st => (x ≤ y → k tgt lv st h a b) ∧ (¬ x ≤ y → k nx lv st h a b)
  | _ => False
theorem jS_icmple {off : Int} {tgt : Nat} (hd : decode Y.2.1 pc = .ok (.if_icmp .le off, 3)) (ht : (pc : Int) + off = (tgt : Int)) (hn : pc + 3 = nx) : jS Y Φ pc (ji_icmple tgt nx) := by
  intro k hk lv st h a b hi
  unfold ji_icmple at hi
  split at hi
  · intro p l e s m args below meth c g hc H locs ls hP hS hL
    subst hn
    obtain ⟨h1, h2⟩ := hi
    skip
    exact lv_icmp_le hc.1 hc.2.1 hd ht (fun q => hk _ _ _ _ _ _ (h1 q) p l e s m args below meth c g hc H locs ls hP hS hL) (fun q => hk _ _ _ _ _ _ (h2 q) p l e s m args below meth c g hc H locs ls hP hS hL)
  · exact hi.elim
def ji_ifnull (tgt nx : Nat) : jI := fun k lv st h a b => match st with
  | .ref _ :: st => k nx lv st h a b
  | .null :: st => k tgt lv st h a b
  | _ => False
theorem jS_ifnull {off : Int} {tgt : Nat} (hd : decode Y.2.1 pc = .ok (.ifnull off, 3)) (ht : (pc : Int) + off = (tgt : Int)) (hn : pc + 3 = nx) : jS Y Φ pc (ji_ifnull tgt nx) := by
  intro k hk lv st h a b hi
  unfold ji_ifnull at hi
  split at hi
  · intro p l e s m args below meth c g hc H locs ls hP hS hL
    subst hn
    exact lv_ifnull hc.1 hc.2.1 hd (hk _ _ _ _ _ _ hi p l e s m args below meth c g hc H locs ls hP hS hL)
  · intro p l e s m args below meth c g hc H locs ls hP hS hL
    subst hn
    exact lv_ifnullN hc.1 hc.2.1 hd ht (hk _ _ _ _ _ _ hi p l e s m args below meth c g hc H locs ls hP hS hL)
  · exact hi.elim
def ji_ifnonnull (tgt nx : Nat) : jI := fun k lv st h a b => match st with
  | .ref _ :: st => k tgt lv st h a b
  | .null :: st => k nx lv st h a b
  | _ => False
theorem jS_ifnonnull {off : Int} {tgt : Nat} (hd : decode Y.2.1 pc = .ok (.ifnonnull off, 3)) (ht : (pc : Int) + off = (tgt : Int)) (hn : pc + 3 = nx) : jS Y Φ pc (ji_ifnonnull tgt nx) := by
  intro k hk lv st h a b hi
  unfold ji_ifnonnull at hi
  split at hi
  · intro p l e s m args below meth c g hc H locs ls hP hS hL
    subst hn
    exact lv_ifnonnull hc.1 hc.2.1 hd ht (hk _ _ _ _ _ _ hi p l e s m args below meth c g hc H locs ls hP hS hL)
  · intro p l e s m args below meth c g hc H locs ls hP hS hL
    subst hn
    exact lv_ifnonnullN hc.1 hc.2.1 hd (hk _ _ _ _ _ _ hi p l e s m args below meth c g hc H locs ls hP hS hL)
  · exact hi.elim
def ji_goto (tgt : Nat) : jI := fun k lv st h a b => k tgt lv st h a b
theorem jS_goto {off : Int} {tgt : Nat} (hd : decode Y.2.1 pc = .ok (.goto off, 3)) (ht : (pc : Int) + off = (tgt : Int)) : jS Y Φ pc (ji_goto tgt) := by
  intro k hk lv st h a b hi
  intro p l e s m args below meth c g hc H locs ls hP hS hL
  exact lv_goto hc.1 hc.2.1 hd ht (hk _ _ _ _ _ _ hi p l e s m args below meth c g hc H locs ls hP hS hL)
end jsound
