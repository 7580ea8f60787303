/-! THE ENGINE, fourth part: rows read and written, casts, switches, calls -/
theorem jtr_rf (g : jg) (o : Option Nat) : jtr g (va_rf o) = va_rf (o.map (jad g)) := by cases o <;> rfl
theorem jrfE {g : jg} {f : Nat → Option Nat} {ty : FieldType} {n : Nat} : jE g (.inl (ty, n, .inr (.inr (.inr (.inr f))))) = .inl (g.2.2.2 ty, n, .inr (.inr (.inr (.inr (fun j => (f j).map (jad g)))))) := rfl
section jsound
variable {Y : jY} {Φ : jPost} {pc nx : Nat}

def ji_iald (nx : Nat) : jI := fun k lv st h a b => match st with
  | .int i :: .ref r :: st => ∃ n f j, h[r]? = some (.inl (.int, n, .inl f)) ∧ i = nI j ∧ j < n ∧ k nx lv (.int (f j) :: st) h a b
  | _ => False
theorem jS_iald (hd : decode Y.2.1 pc = .ok (.iaload, 1)) (hn : pc + 1 = nx) : jS Y Φ pc (ji_iald nx) := by
  intro k hk lv st h a b hi
  unfold ji_iald at hi
  split at hi
  · obtain ⟨n, f, j, hr, rfl, hj, hi⟩ := hi
    intro p l e s m args below meth c g hc H locs ls hP hS hL
    subst hn
    obtain ⟨q, rfl, hq, hty, hN⟩ := hP.arr (by omega) (by decide) hr
    have hK := hc.2.2.2.2.2.2.2
    obtain ⟨t0, ht⟩ := hK.ty hty
    obtain ⟨v1, v2⟩ := vp_nI hj hN
    refine va_iald hc.1 hc.2.1 hK.2.1 hP.2.2.2.1 q t0 (jws_at hq) ht v1 hd ?_
    rw [v2]
    exact (hk _ _ _ _ _ _ hi p l e s m args below meth c g hc H locs ls hP hS hL)
  · exact hi.elim
def ji_iast (nx : Nat) : jI := fun k lv st h a b => match st with
  | .int x :: .int i :: .ref r :: st => ∃ n f j, h[r]? = some (.inl (.int, n, .inl f)) ∧ i = nI j ∧ j < n ∧ k nx lv st (h.set r (.inl (.int, n, .inl (upd f j x)))) a b
  | _ => False
theorem jS_iast (hd : decode Y.2.1 pc = .ok (.iastore, 1)) (hn : pc + 1 = nx) : jS Y Φ pc (ji_iast nx) := by
  intro k hk lv st h a b hi
  unfold ji_iast at hi
  split at hi
  · rename_i x _ _ _
    obtain ⟨n, f, j, hr, rfl, hj, hi⟩ := hi
    skip
    intro p l e s m args below meth c g hc H locs ls hP hS hL
    subst hn
    obtain ⟨q, rfl, hq, hty, hN⟩ := hP.arr (by omega) (by decide) hr
    have hK := hc.2.2.2.2.2.2.2
    obtain ⟨v1, v2⟩ := vp_nI hj hN
    have hat : H[g.1.1 + q]? = some (arrV (g.2.2.2 .int) n (fun j => .int (f j))) := hP.2.2.2.1 q _ (jws_at hq)
    refine W.iast hc.1 hc.2.1 hat ((hK.arrOf hty).1 n _) (fun z => by cases z) (by rw [arrV_size]; exact v1) rfl rfl hd fun H1 e1 z1 oq => ?_
    rw [v2] at e1 ⊢
    refine hk _ _ _ _ _ _ hi p l e s m args below meth c g hc H1 _ ls (hP.upd hq z1 oq ?_ ⟨hty, hN⟩) (hS.put z1 oq (Nat.le_add_right _ _)) hL
    show H1[g.1.1 + q]? = some (arrV (g.2.2.2 .int) n (fun i => .int ((upd f j x) i)))
    rw [e1]
    skip
    rw [arrV_store]
    congr 2
    funext i
    by_cases hi2 : i = j
    · subst hi2; simp [updV, upd, vp_updL, va_up]
    · simp [updV, upd, vp_updL, va_up, hi2]
  · exact hi.elim
def ji_zald (nx : Nat) : jI := fun k lv st h a b => match st with
  | .int i :: .ref r :: st => ∃ n f j, h[r]? = some (.inl (.boolean, n, .inl f)) ∧ i = nI j ∧ j < n ∧ k nx lv (.int (f j) :: st) h a b
  | _ => False
theorem jS_zald (hd : decode Y.2.1 pc = .ok (.baload, 1)) (hn : pc + 1 = nx) : jS Y Φ pc (ji_zald nx) := by
  intro k hk lv st h a b hi
  unfold ji_zald at hi
  split at hi
  · obtain ⟨n, f, j, hr, rfl, hj, hi⟩ := hi
    intro p l e s m args below meth c g hc H locs ls hP hS hL
    subst hn
    obtain ⟨q, rfl, hq, hty, hN⟩ := hP.arr (by omega) (by decide) hr
    have hK := hc.2.2.2.2.2.2.2
    obtain ⟨t0, ht⟩ := hK.ty hty
    obtain ⟨v1, v2⟩ := vp_nI hj hN
    refine va_zald hc.1 hc.2.1 hK.2.1 hP.2.2.2.1 q t0 (jws_at hq) ht v1 hd ?_
    rw [v2]
    exact (hk _ _ _ _ _ _ hi p l e s m args below meth c g hc H locs ls hP hS hL)
  · exact hi.elim
def ji_zast (nx : Nat) : jI := fun k lv st h a b => match st with
  | .int x :: .int i :: .ref r :: st => ∃ n f j, h[r]? = some (.inl (.boolean, n, .inl f)) ∧ i = nI j ∧ j < n ∧ (x = nI 0 ∨ x = nI 1) ∧ k nx lv st (h.set r (.inl (.boolean, n, .inl (upd f j x)))) a b
  | _ => False
theorem jS_zast (hd : decode Y.2.1 pc = .ok (.bastore, 1)) (hn : pc + 1 = nx) : jS Y Φ pc (ji_zast nx) := by
  intro k hk lv st h a b hi
  unfold ji_zast at hi
  split at hi
  · rename_i x _ _ _
    obtain ⟨n, f, j, hr, rfl, hj, hi⟩ := hi
    obtain ⟨hx, hi⟩ := hi
    intro p l e s m args below meth c g hc H locs ls hP hS hL
    subst hn
    obtain ⟨q, rfl, hq, hty, hN⟩ := hP.arr (by omega) (by decide) hr
    have hK := hc.2.2.2.2.2.2.2
    obtain ⟨v1, v2⟩ := vp_nI hj hN
    have hat : H[g.1.1 + q]? = some (arrV (g.2.2.2 .boolean) n (fun j => .int (f j))) := hP.2.2.2.1 q _ (jws_at hq)
    refine W.zast hc.1 hc.2.1 hat ((hK.arrOf hty).1 n _) (fun z => by cases z) (by rw [arrV_size]; exact v1) rfl rfl hd fun H1 e1 z1 oq => ?_
    rw [v2] at e1 ⊢
    refine hk _ _ _ _ _ _ hi p l e s m args below meth c g hc H1 _ ls (hP.upd hq z1 oq ?_ ⟨hty, hN⟩) (hS.put z1 oq (Nat.le_add_right _ _)) hL
    show H1[g.1.1 + q]? = some (arrV (g.2.2.2 .boolean) n (fun i => .int ((upd f j x) i)))
    rw [e1]
    rw [show narrow .boolean (.int x) = .int x from by rcases hx with rfl | rfl <;> rfl]
    rw [arrV_store]
    congr 2
    funext i
    by_cases hi2 : i = j
    · subst hi2; simp [updV, upd, vp_updL, va_up]
    · simp [updV, upd, vp_updL, va_up, hi2]
  · exact hi.elim
def ji_lald (nx : Nat) : jI := fun k lv st h a b => match st with
  | .int i :: .ref r :: st => ∃ n f j, h[r]? = some (.inl (.long, n, .inr (.inl f))) ∧ i = nI j ∧ j < n ∧ k nx lv (.long (f j) :: st) h a b
  | _ => False
theorem jS_lald (hd : decode Y.2.1 pc = .ok (.laload, 1)) (hn : pc + 1 = nx) : jS Y Φ pc (ji_lald nx) := by
  intro k hk lv st h a b hi
  unfold ji_lald at hi
  split at hi
  · obtain ⟨n, f, j, hr, rfl, hj, hi⟩ := hi
    intro p l e s m args below meth c g hc H locs ls hP hS hL
    subst hn
    obtain ⟨q, rfl, hq, hty, hN⟩ := hP.arr (by omega) (by decide) hr
    have hK := hc.2.2.2.2.2.2.2
    obtain ⟨t0, ht⟩ := hK.ty hty
    obtain ⟨v1, v2⟩ := vp_nI hj hN
    refine va_lald hc.1 hc.2.1 hK.2.1 hP.2.2.2.1 q t0 (jws_at hq) ht v1 hd ?_
    rw [v2]
    exact (hk _ _ _ _ _ _ hi p l e s m args below meth c g hc H locs ls hP hS hL)
  · exact hi.elim
def ji_last (nx : Nat) : jI := fun k lv st h a b => match st with
  | .long x :: .int i :: .ref r :: st => ∃ n f j, h[r]? = some (.inl (.long, n, .inr (.inl f))) ∧ i = nI j ∧ j < n ∧ k nx lv st (h.set r (.inl (.long, n, .inr (.inl (vp_updL f j x))))) a b
  | _ => False
theorem jS_last (hd : decode Y.2.1 pc = .ok (.lastore, 1)) (hn : pc + 1 = nx) : jS Y Φ pc (ji_last nx) := by
  intro k hk lv st h a b hi
  unfold ji_last at hi
  split at hi
  · rename_i x _ _ _
    obtain ⟨n, f, j, hr, rfl, hj, hi⟩ := hi
    skip
    intro p l e s m args below meth c g hc H locs ls hP hS hL
    subst hn
    obtain ⟨q, rfl, hq, hty, hN⟩ := hP.arr (by omega) (by decide) hr
    have hK := hc.2.2.2.2.2.2.2
    obtain ⟨v1, v2⟩ := vp_nI hj hN
    have hat : H[g.1.1 + q]? = some (arrV (g.2.2.2 .long) n (fun j => .long (f j))) := hP.2.2.2.1 q _ (jws_at hq)
    refine W.last hc.1 hc.2.1 hat ((hK.arrOf hty).1 n _) (fun z => by cases z) (by rw [arrV_size]; exact v1) rfl rfl hd fun H1 e1 z1 oq => ?_
    rw [v2] at e1 ⊢
    refine hk _ _ _ _ _ _ hi p l e s m args below meth c g hc H1 _ ls (hP.upd hq z1 oq ?_ ⟨hty, hN⟩) (hS.put z1 oq (Nat.le_add_right _ _)) hL
    show H1[g.1.1 + q]? = some (arrV (g.2.2.2 .long) n (fun i => .long ((vp_updL f j x) i)))
    rw [e1]
    skip
    rw [arrV_store]
    congr 2
    funext i
    by_cases hi2 : i = j
    · subst hi2; simp [updV, upd, vp_updL, va_up]
    · simp [updV, upd, vp_updL, va_up, hi2]
  · exact hi.elim
def ji_fald (nx : Nat) : jI := fun k lv st h a b => match st with
  | .int i :: .ref r :: st => ∃ n f j, h[r]? = some (.inl (.float, n, .inr (.inr (.inl f)))) ∧ i = nI j ∧ j < n ∧ k nx lv (.float (f j) :: st) h a b
  | _ => False
theorem jS_fald (hd : decode Y.2.1 pc = .ok (.faload, 1)) (hn : pc + 1 = nx) : jS Y Φ pc (ji_fald nx) := by
  intro k hk lv st h a b hi
  unfold ji_fald at hi
  split at hi
  · obtain ⟨n, f, j, hr, rfl, hj, hi⟩ := hi
    intro p l e s m args below meth c g hc H locs ls hP hS hL
    subst hn
    obtain ⟨q, rfl, hq, hty, hN⟩ := hP.arr (by omega) (by decide) hr
    have hK := hc.2.2.2.2.2.2.2
    obtain ⟨t0, ht⟩ := hK.ty hty
    obtain ⟨v1, v2⟩ := vp_nI hj hN
    refine va_fald hc.1 hc.2.1 hK.2.1 hP.2.2.2.1 q t0 (jws_at hq) ht v1 hd ?_
    rw [v2]
    exact (hk _ _ _ _ _ _ hi p l e s m args below meth c g hc H locs ls hP hS hL)
  · exact hi.elim
def ji_fast (nx : Nat) : jI := fun k lv st h a b => match st with
  | .float x :: .int i :: .ref r :: st => ∃ n f j, h[r]? = some (.inl (.float, n, .inr (.inr (.inl f)))) ∧ i = nI j ∧ j < n ∧ k nx lv st (h.set r (.inl (.float, n, .inr (.inr (.inl (va_up f j x)))))) a b
  | _ => False
theorem jS_fast (hd : decode Y.2.1 pc = .ok (.fastore, 1)) (hn : pc + 1 = nx) : jS Y Φ pc (ji_fast nx) := by
  intro k hk lv st h a b hi
  unfold ji_fast at hi
  split at hi
  · rename_i x _ _ _
    obtain ⟨n, f, j, hr, rfl, hj, hi⟩ := hi
    skip
    intro p l e s m args below meth c g hc H locs ls hP hS hL
    subst hn
    obtain ⟨q, rfl, hq, hty, hN⟩ := hP.arr (by omega) (by decide) hr
    have hK := hc.2.2.2.2.2.2.2
    obtain ⟨v1, v2⟩ := vp_nI hj hN
    have hat : H[g.1.1 + q]? = some (arrV (g.2.2.2 .float) n (fun j => .float (f j))) := hP.2.2.2.1 q _ (jws_at hq)
    refine W.fast hc.1 hc.2.1 hat ((hK.arrOf hty).1 n _) (fun z => by cases z) (by rw [arrV_size]; exact v1) rfl rfl hd fun H1 e1 z1 oq => ?_
    rw [v2] at e1 ⊢
    refine hk _ _ _ _ _ _ hi p l e s m args below meth c g hc H1 _ ls (hP.upd hq z1 oq ?_ ⟨hty, hN⟩) (hS.put z1 oq (Nat.le_add_right _ _)) hL
    show H1[g.1.1 + q]? = some (arrV (g.2.2.2 .float) n (fun i => .float ((va_up f j x) i)))
    rw [e1]
    skip
    rw [arrV_store]
    congr 2
    funext i
    by_cases hi2 : i = j
    · subst hi2; simp [updV, upd, vp_updL, va_up]
    · simp [updV, upd, vp_updL, va_up, hi2]
  · exact hi.elim
def ji_aald (nx : Nat) : jI := fun k lv st h a b => match st with
  | .int i :: .ref r :: st => ∃ C n f j o, h[r]? = some (.inl (.object C, n, .inr (.inr (.inr (.inr f))))) ∧ i = nI j ∧ j < n ∧ f j = o ∧ k nx lv (va_rf o :: st) h a b
  | _ => False
theorem jS_aald (hd : decode Y.2.1 pc = .ok (.aaload, 1)) (hn : pc + 1 = nx) : jS Y Φ pc (ji_aald nx) := by
  intro k hk lv st h a b hi
  unfold ji_aald at hi
  split at hi
  · obtain ⟨C, n, f, j, o, hr, rfl, hj, rfl, hi⟩ := hi
    intro p l e s m args below meth c g hc H locs ls hP hS hL
    subst hn
    obtain ⟨q, rfl, hq, hty, hN⟩ := hP.arr (by omega) (fun z => by cases z) hr
    have hK := hc.2.2.2.2.2.2.2
    obtain ⟨t0, ht⟩ := hK.ty hty
    obtain ⟨v1, v2⟩ := vp_nI hj hN
    refine va_aldq hc.1 hc.2.1 hK.2.1 hP.2.2.2.1 q t0 (jws_at hq) ht v1 hd ?_
    have := (hk _ _ _ _ _ _ hi p l e s m args below meth c g hc H locs ls hP hS hL)
    rw [List.map_cons, jtr_rf] at this
    rw [v2]
    exact this
  · exact hi.elim
def jcl : List (String × String) := [("QuasiSums$Sum", "QuasiSums$Item"), ("QuasiSums$Row", "QuasiSums$Item"), ("QuasiSums$Step", "java/lang/Object"), ("QuasiSums$Term", "java/lang/Object")]
theorem jcl_ok : ∀ q ∈ jcl, Cond.castable q.1 q.2 ∈ lw_tbl := by decide +kernel
/-- which made classes go where: into rows of a class, through casts to it -/
def jcst (ci : Nat) (C : String) : Bool := match vwCl[ci]? with
  | some r => r.1 == C || (jcl.any fun q => q.1 == r.1 && q.2 == C)
  | none => false
def ji_aast (nx : Nat) : jI := fun k lv st h a b => match st with
  | .ref v :: .int i :: .ref r :: st => ∃ C n f j ci vs, h[r]? = some (.inl (.object C, n, .inr (.inr (.inr (.inr f))))) ∧ i = nI j ∧ j < n ∧ h[v]? = some (.inr (ci, vs)) ∧ jcst ci C = true ∧ k nx lv st (h.set r (.inl (.object C, n, .inr (.inr (.inr (.inr (va_up f j (some v)))))))) a b
  | .null :: .int i :: .ref r :: st => ∃ C n f j, h[r]? = some (.inl (.object C, n, .inr (.inr (.inr (.inr f))))) ∧ i = nI j ∧ j < n ∧ k nx lv st (h.set r (.inl (.object C, n, .inr (.inr (.inr (.inr (va_up f j none))))))) a b
  | _ => False
theorem jcst_ok {g : jg} {s : State} (hK : jK g s) {ci : Nat} {C : String} (h : jcst ci C = true) {r : vw_C} (hr : vwCl[ci]? = some r) : r.1 = C ∨ va_Nw (.castable r.1 C) s := by
  unfold jcst at h
  rw [hr] at h
  simp only [Bool.or_eq_true, beq_iff_eq, List.any_eq_true, Bool.and_eq_true] at h
  rcases h with h | ⟨q, hq, h1, h2⟩
  · exact Or.inl h
  · right
    have hm := jcl_ok q hq
    rw [h1, h2] at hm
    exact hK.1 _ (List.mem_filter.mpr ⟨hm, rfl⟩)
theorem jP.cl {g : jg} {h : List jC} {H : Heap} (hP : jP g h H) {q ci : Nat} {vs : List Value} (hq : h[q + 2]? = some (.inr (ci, vs))) : ∃ r, vwCl[ci]? = some r := by
  obtain ⟨r, h1, -⟩ := hP.2.2.2.1 q _ (jws_at hq)
  exact ⟨r, h1⟩
theorem jS_aast (hd : decode Y.2.1 pc = .ok (.aastore, 1)) (hn : pc + 1 = nx) : jS Y Φ pc (ji_aast nx) := by
  intro k hk lv st h a b hi
  unfold ji_aast at hi
  split at hi
  · rename_i v _ _ _
    obtain ⟨C, n, f, j, ci, vs, hr, rfl, hj, hv, hcs, hi⟩ := hi
    intro p l e s m args below meth c g hc H locs ls hP hS hL
    subst hn
    obtain ⟨q, rfl, hq, hty, hN⟩ := hP.arr (by omega) (fun z => by cases z) hr
    obtain ⟨q2, rfl, hq2⟩ := hP.obj hv
    have hK := hc.2.2.2.2.2.2.2
    obtain ⟨rc, hrc⟩ := hP.cl hq2
    obtain ⟨v1, v2⟩ := vp_nI hj hN
    obtain ⟨cell, c1, c2, c3⟩ := va_recv hK.2.1 hP.2.2.2.1 hrc (jws_at hq2)
    obtain ⟨kC, hkC, -⟩ := Vm.findClass_spec c3
    obtain ⟨kA, comp, k1, k2, k3, -⟩ := (hK.arrOf hty).2
    obtain ⟨kE, hkE, -⟩ := Vm.findClass_spec k3
    have hasg : s.vm.assignable cell.cls comp = true := by
      rcases jcst_ok hK hcs hrc with e | e
      · rw [e] at c3
        cases c3.symm.trans k3
        exact va_asg _ _
      · obtain ⟨c0, t0, f1, f2, f3⟩ := Cond.castable_spec (va_Nw.use (A := args) rfl e)
        cases c3.symm.trans f1
        cases k3.symm.trans f2
        exact f3
    have hat : H[g.1.1 + q]? = some (arrV (g.2.2.2 (.object C)) n (fun j => va_rf ((f j).map (jad g)))) := hP.2.2.2.1 q _ (jws_at hq)
    refine W.aast hc.1 hc.2.1 hat (fun q h => by cases h) (fun h => by cases h) k1 k2 rfl hkE ⟨fun z => v1 (Or.inl z), by rw [arrV_size, v2]; exact hj⟩ c1 (fun q h => by rw [h] at c2; cases c2) hkC hasg rfl rfl hd fun H1 e1 z1 oq => ?_
    rw [v2] at e1 ⊢
    refine hk _ _ _ _ _ _ hi p l e s m args below meth c g hc H1 _ ls (hP.upd hq z1 oq ?_ ⟨hty, hN⟩) (hS.put z1 oq (Nat.le_add_right _ _)) hL
    show H1[g.1.1 + q]? = some (arrV (g.2.2.2 (.object C)) n (fun i => va_rf ((va_up f j (some (q2 + 2)) i).map (jad g))))
    rw [e1, arrV_store]
    congr 2
    funext i
    by_cases hi2 : i = j
    · subst hi2; simp [updV, va_up, va_rf, jad]
    · simp [updV, va_up, hi2]
  · obtain ⟨C, n, f, j, hr, rfl, hj, hi⟩ := hi
    intro p l e s m args below meth c g hc H locs ls hP hS hL
    subst hn
    obtain ⟨q, rfl, hq, hty, hN⟩ := hP.arr (by omega) (fun z => by cases z) hr
    have hK := hc.2.2.2.2.2.2.2
    obtain ⟨v1, v2⟩ := vp_nI hj hN
    obtain ⟨kA, comp, k1, k2, k3, -⟩ := (hK.arrOf hty).2
    have hat : H[g.1.1 + q]? = some (arrV (g.2.2.2 (.object C)) n (fun j => va_rf ((f j).map (jad g)))) := hP.2.2.2.1 q _ (jws_at hq)
    refine va_WaastN (C := C) hc.1 hc.2.1 hat ((hK.arrOf hty).1 n _) (fun z => by cases z) (by rw [arrV_size]; exact v1) rfl rfl hd fun H1 e1 z1 oq => ?_
    rw [v2] at e1 ⊢
    refine hk _ _ _ _ _ _ hi p l e s m args below meth c g hc H1 _ ls (hP.upd hq z1 oq ?_ ⟨hty, hN⟩) (hS.put z1 oq (Nat.le_add_right _ _)) hL
    show H1[g.1.1 + q]? = some (arrV (g.2.2.2 (.object C)) n (fun i => va_rf ((va_up f j none i).map (jad g))))
    rw [e1, arrV_store]
    congr 2
    funext i
    by_cases hi2 : i = j
    · subst hi2; simp [updV, va_up, va_rf]
    · simp [updV, va_up, hi2]
  · exact hi.elim
def ji_alen (nx : Nat) : jI := fun k lv st h a b => match st with
  | .ref r :: st => ∃ ty n x, h[r]? = some (.inl (ty, n, x)) ∧ k nx lv (.int (nI n) :: st) h a b
  | _ => False
theorem jE_size (g : jg) (ty : FieldType) (n : Nat) (x : jZ) : ∃ y : vp_A, jE g (.inl (ty, n, x)) = .inl (g.2.2.2 ty, y) ∧ y.1 = n := by
  rcases x with f | f | f | f | f <;> exact ⟨_, rfl, rfl⟩
theorem jS_alen (hd : decode Y.2.1 pc = .ok (.arraylength, 1)) (hn : pc + 1 = nx) : jS Y Φ pc (ji_alen nx) := by
  intro k hk lv st h a b hi
  unfold ji_alen at hi
  split at hi
  · rename_i r _
    obtain ⟨ty, n, x, hr, hi⟩ := hi
    intro p l e s m args below meth c g hc H locs ls hP hS hL
    subst hn
    have hK := hc.2.2.2.2.2.2.2
    match r, hr with
    | 0, hr =>
      rw [hP.2.1] at hr
      cases hr
      obtain ⟨cell, d1, d2, d3⟩ := hK.2.2.2.2.2.2.2.2.1
      have hdq : H[g.1.2.2.1]? = some cell := by rw [hS.2.1 _ (Nat.lt_of_lt_of_le hK.2.2.2.2.2.2.1 hK.2.2.2.2.2.2.2.1) (Nat.not_le.mpr hK.2.2.2.2.2.2.1)]; exact d1
      exact W.alen hc.1 hc.2.1 hdq d2 (by rw [d3]; rfl) rfl rfl hd (hk _ _ _ _ _ _ hi p l e s m args below meth c g hc H locs ls hP hS hL)
    | 1, hr =>
      rw [hP.2.2.1] at hr
      cases hr
      exact va_slen hc.1 hc.2.1 hK.2.2.2.1 (Nat.lt_of_lt_of_le hK.2.2.2.2.2.1 hK.2.2.2.2.2.2.2.1) (Nat.not_le.mpr hK.2.2.2.2.2.1) hS hd (hk _ _ _ _ _ _ hi p l e s m args below meth c g hc H locs ls hP hS hL)
    | q + 2, hr =>
      obtain ⟨y, hy, rfl⟩ := jE_size g ty n x
      obtain ⟨t0, ht⟩ := hK.ty (hP.2.2.2.2 q _ hr).1
      have hat := jws_at (g := g) hr
      rw [hy] at hat
      exact va_alen hc.1 hc.2.1 hK.2.1 hP.2.2.2.1 q t0 hat ht rfl hd (hk _ _ _ _ _ _ hi p l e s m args below meth c g hc H locs ls hP hS hL)
  · exact hi.elim
/-- the script's row is read -/
def ji_script (nx : Nat) : jI := fun k lv st h a b => match st with
  | .int i :: .ref r :: st => ∃ n f j, h[r]? = some (.inl (.byte, n, .inl f)) ∧ i = nI j ∧ j < n ∧ k nx lv (.int (f j) :: st) h a b
  | _ => False
theorem jS_script (hd : decode Y.2.1 pc = .ok (.iaload, 1)) (hn : pc + 1 = nx) : jS Y Φ pc (ji_script nx) := by
  intro k hk lv st h a b hi
  unfold ji_script at hi
  split at hi
  · rename_i r _
    obtain ⟨n, f, j, hr, rfl, hj, hi⟩ := hi
    intro p l e s m args below meth c g hc H locs ls hP hS hL
    subst hn
    have hK := hc.2.2.2.2.2.2.2
    match r, hr with
    | 0, hr => rw [hP.2.1] at hr; cases hr
    | 1, hr =>
      rw [hP.2.2.1] at hr
      cases hr
      have hL3 := hK.2.2.2.2.1
      have v1 : vp_in (nI j) g.1.2.2.2 := vp_in_nI hj (by omega)
      refine va_sld hc.1 hc.2.1 hK.2.2.2.1 (Nat.lt_of_lt_of_le hK.2.2.2.2.2.1 hK.2.2.2.2.2.2.2.1) (Nat.not_le.mpr hK.2.2.2.2.2.1) hS v1 hd ?_
      rw [nI_clamp (by omega)]
      exact (hk _ _ _ _ _ _ hi p l e s m args below meth c g hc H locs ls hP hS hL)
    | q + 2, hr => exact absurd (hP.2.2.2.2 q _ hr).1 (by decide)
  · exact hi.elim
/-- the JDK's empty row -/
def ji_empty (nx : Nat) : jI := fun k lv st h a b => k nx lv (.ref 0 :: st) h a b
theorem jS_empty {index : Nat} (hl : Cond.fieldLink Y.1.cls index "java/util/ArrayList" "DEFAULTCAPACITY_EMPTY_ELEMENTDATA" "[Ljava/lang/Object;" ∈ lw_tbl) (hd : decode Y.2.1 pc = .ok (.getstatic index, 3)) (hn : pc + 3 = nx) : jS Y Φ pc (ji_empty nx) := by
  intro k hk lv st h a b hi
  intro p l e s m args below meth c g hc H locs ls hP hS hL
  subst hn
  have hK := hc.2.2.2.2.2.2.2
  exact va_gets hc.1 hc.2.1 hK.2.2.2.2.2.2.2.2.2.1 hS hc.2.2.2.1 (hK.word hl rfl rfl) (fun _ h => h) hd (hk _ _ _ _ _ _ hi p l e s m args below meth c g hc H locs ls hP hS hL)
def ji_ccast (nm : String) (nx : Nat) : jI := fun k lv st h a b => match st with
  | .ref r :: st => ∃ ci vs, h[r]? = some (.inr (ci, vs)) ∧ jcst ci nm = true ∧ k nx lv (.ref r :: st) h a b
  | .null :: st => k nx lv (.null :: st) h a b
  | _ => False
theorem jS_ccast {index : Nat} {nm : String} {ck : Nat} (hl : Cond.classLink Y.1.cls index nm ∈ lw_tbl) (hd : decode Y.2.1 pc = .ok (.checkcast index, 3)) (hn : pc + 3 = nx) : jS Y Φ pc (ji_ccast nm nx) := by
  intro k hk lv st h a b hi
  unfold ji_ccast at hi
  split at hi
  · obtain ⟨ci, vs, hr, hcs, hi⟩ := hi
    intro p l e s m args below meth c g hc H locs ls hP hS hL
    subst hn
    have hK := hc.2.2.2.2.2.2.2
    obtain ⟨q, rfl, hq⟩ := hP.obj hr
    obtain ⟨rc, hrc⟩ := hP.cl hq
    have hrv := va_recv hK.2.1 hP.2.2.2.1 hrc (jws_at hq)
    rcases jcst_ok hK hcs hrc with ec | ec
    · rw [ec] at hrv
      have hca : ClassAt s nm (g.2.2.1.1 ci) := by rw [← ec]; exact (hK.2.1.1 ci _ hrc).2
      exact va_castS hc.1 hc.2.1 hc.2.2.2.1 (hK.word hl rfl rfl) hca hrv hd (hk _ _ _ _ _ _ hi p l e s m args below meth c g hc H locs ls hP hS hL)
    · exact va_castY hc.1 hc.2.1 hc.2.2.2.1 (hK.word hl rfl rfl) ec hrv hd (hk _ _ _ _ _ _ hi p l e s m args below meth c g hc H locs ls hP hS hL)
  · intro p l e s m args below meth c g hc H locs ls hP hS hL
    subst hn
    exact lv_castN hc.1 hc.2.1 hd (hk _ _ _ _ _ _ hi p l e s m args below meth c g hc H locs ls hP hS hL)
  · exact hi.elim
def ji_ccastA (ty : FieldType) (nx : Nat) : jI := fun k lv st h a b => match st with
  | .ref r :: st => ∃ n x, Nat.le 2 r ∧ h[r]? = some (.inl (ty, n, x)) ∧ k nx lv (.ref r :: st) h a b
  | _ => False
theorem jRA_name {U : State} {cA : ClassId} {ty : FieldType} (h : va_RA U cA ty) : U.vm.findClass ("[" ++ ty.toString) = some cA := by
  cases ty with
  | object C => obtain ⟨_, _, _, _, _, h4⟩ := h; exact h4
  | _ => exact h
theorem jS_ccastA {index : Nat} {ty : FieldType} (hl : Cond.classLink Y.1.cls index ("[" ++ ty.toString) ∈ lw_tbl) (hd : decode Y.2.1 pc = .ok (.checkcast index, 3)) (hn : pc + 3 = nx) : jS Y Φ pc (ji_ccastA ty nx) := by
  intro k hk lv st h a b hi
  unfold ji_ccastA at hi
  split at hi
  · rename_i r _
    obtain ⟨n, x, h2, hr, hi⟩ := hi
    intro p l e s m args below meth c g hc H locs ls hP hS hL
    subst hn
    have hK := hc.2.2.2.2.2.2.2
    obtain ⟨q, rfl⟩ : ∃ q, r = q + 2 := ⟨r - 2, (Nat.sub_add_cancel h2).symm⟩
    obtain ⟨y, hy, -⟩ := jE_size g ty n x
    have hat := jws_at (g := g) hr
    rw [hy] at hat
    exact va_castA hc.1 hc.2.1 hc.2.2.2.1 (hK.word hl rfl rfl) hP.2.2.2.1 q hat (jRA_name (hK.arrOf (hP.2.2.2.2 q _ hr).1).2) hd (hk _ _ _ _ _ _ hi p l e s m args below meth c g hc H locs ls hP hS hL)
  · exact hi.elim
def jis (ci : Nat) (C : String) : Option Bool := if jcst ci C = true then some true else match vwCl[ci]? with
  | some r => if jNc.any (fun q => q.1 == r.1 && q.2 == C) then some false else none
  | none => none
def ji_inst (nm : String) (nx : Nat) : jI := fun k lv st h a b => match st with
  | .ref r :: st => ∃ ci vs, h[r]? = some (.inr (ci, vs)) ∧ (match jis ci nm with
    | some true => k nx lv (.int (nI 1) :: st) h a b
    | some false => k nx lv (.int (nI 0) :: st) h a b
    | none => False)
  | .null :: st => k nx lv (.int (nI 0) :: st) h a b
  | _ => False
theorem jS_inst {index : Nat} {nm : String} (hl : Cond.classLink Y.1.cls index nm ∈ lw_tbl) (hd : decode Y.2.1 pc = .ok (.instanceof index, 3)) (hn : pc + 3 = nx) : jS Y Φ pc (ji_inst nm nx) := by
  intro k hk lv st h a b hi
  unfold ji_inst at hi
  split at hi
  · obtain ⟨ci, vs, hr, hi⟩ := hi
    intro p l e s m args below meth c g hc H locs ls hP hS hL
    subst hn
    have hK := hc.2.2.2.2.2.2.2
    obtain ⟨q, rfl, hq⟩ := hP.obj hr
    obtain ⟨rc, hrc⟩ := hP.cl hq
    have hrv := va_recv hK.2.1 hP.2.2.2.1 hrc (jws_at hq)
    split at hi
    · rename_i hj
      unfold jis at hj
      split at hj
      · rename_i hcs
        rcases jcst_ok hK hcs hrc with ec | ec
        · rw [ec] at hrv
          have hca : ClassAt s nm (g.2.2.1.1 ci) := by rw [← ec]; exact (hK.2.1.1 ci _ hrc).2
          exact va_instS hc.1 hc.2.1 hc.2.2.2.1 (hK.word hl rfl rfl) hca hrv hd (hk _ _ _ _ _ _ hi p l e s m args below meth c g hc H locs ls hP hS hL)
        · exact va_instY hc.1 hc.2.1 hc.2.2.2.1 (hK.word hl rfl rfl) ec hrv hd (hk _ _ _ _ _ _ hi p l e s m args below meth c g hc H locs ls hP hS hL)
      · rw [hrc] at hj
        dsimp only at hj
        split at hj <;> cases hj
    · rename_i hj
      unfold jis at hj
      split at hj
      · cases hj
      · rw [hrc] at hj
        dsimp only at hj
        split at hj
        · rename_i hn
          simp only [List.any_eq_true, Bool.and_eq_true, beq_iff_eq] at hn
          obtain ⟨q3, h3, h4, h5⟩ := hn
          have hnc := hK.2.2.1.1 q3 h3
          rw [h4, h5] at hnc
          exact va_instNo hc.1 hc.2.1 hc.2.2.2.1 (hK.word hl rfl rfl) hnc hrv hd (hk _ _ _ _ _ _ hi p l e s m args below meth c g hc H locs ls hP hS hL)
        · cases hj
    · exact hi.elim
  · intro p l e s m args below meth c g hc H locs ls hP hS hL
    subst hn
    exact lv_instN hc.1 hc.2.1 hd (hk _ _ _ _ _ _ hi p l e s m args below meth c g hc H locs ls hP hS hL)
  · exact hi.elim
def ji_acmpeq (tgt nx : Nat) : jI := fun k lv st h a b => match st with
  | .ref y :: .ref x :: st => x ≠ 1 ∧ y ≠ 1 ∧ (x = y → k tgt lv st h a b) ∧ (¬ x = y → k nx lv st h a b)
  | _ => False
theorem jS_acmpeq {off : Int} {tgt : Nat} (hd : decode Y.2.1 pc = .ok (.if_acmp .eq off, 3)) (ht : (pc : Int) + off = (tgt : Int)) (hn : pc + 3 = nx) : jS Y Φ pc (ji_acmpeq tgt nx) := by
  intro k hk lv st h a b hi
  unfold ji_acmpeq at hi
  split at hi
  · rename_i y x st
    obtain ⟨hx, hy, h1, h2⟩ := hi
    intro p l e s m args below meth c g hc H locs ls hP hS hL
    subst hn
    have hK := hc.2.2.2.2.2.2.2
    have hd0 := hK.2.2.2.2.2.2.1
    have hinj : jad g x = jad g y → x = y := by
      intro e
      match x, y, hx, hy, e with
      | 0, 0, _, _, _ => rfl
      | 0, y + 2, _, _, e => exact absurd (show g.1.2.2.1 = g.1.1 + y from e) (Nat.ne_of_lt (Nat.lt_of_lt_of_le hd0 (Nat.le_add_right _ _)))
      | x + 2, 0, _, _, e => exact absurd (show g.1.1 + x = g.1.2.2.1 from e) (Nat.ne_of_gt (Nat.lt_of_lt_of_le hd0 (Nat.le_add_right _ _)))
      | x + 2, y + 2, _, _, e => exact congrArg (fun z => z + 2) (Nat.add_left_cancel (show g.1.1 + x = g.1.1 + y from e))
      | 1, _, hx, _, _ => exact absurd rfl hx
      | _, 1, _, hy, _ => exact absurd rfl hy
    have t1 : some (jad g x) = some (jad g y) → x = y := fun q => hinj (Option.some.inj q)
    have t2 : ¬ some (jad g x) = some (jad g y) → ¬ x = y := fun q q2 => q (by rw [q2])
    exact lv_acmp_eq (rx := some (jad g x)) (ry := some (jad g y)) hc.1 hc.2.1 hd ht (fun q => hk _ _ _ _ _ _ (h1 (t1 q)) p l e s m args below meth c g hc H locs ls hP hS hL) (fun q => hk _ _ _ _ _ _ (h2 (t2 q)) p l e s m args below meth c g hc H locs ls hP hS hL)
  · exact hi.elim
def ji_acmpne (tgt nx : Nat) : jI := fun k lv st h a b => match st with
  | .ref y :: .ref x :: st => x ≠ 1 ∧ y ≠ 1 ∧ (x = y → k nx lv st h a b) ∧ (¬ x = y → k tgt lv st h a b)
  | _ => False
theorem jS_acmpne {off : Int} {tgt : Nat} (hd : decode Y.2.1 pc = .ok (.if_acmp .ne off, 3)) (ht : (pc : Int) + off = (tgt : Int)) (hn : pc + 3 = nx) : jS Y Φ pc (ji_acmpne tgt nx) := by
  intro k hk lv st h a b hi
  unfold ji_acmpne at hi
  split at hi
  · rename_i y x st
    obtain ⟨hx, hy, h1, h2⟩ := hi
    intro p l e s m args below meth c g hc H locs ls hP hS hL
    subst hn
    have hK := hc.2.2.2.2.2.2.2
    have hd0 := hK.2.2.2.2.2.2.1
    have hinj : jad g x = jad g y → x = y := by
      intro e
      match x, y, hx, hy, e with
      | 0, 0, _, _, _ => rfl
      | 0, y + 2, _, _, e => exact absurd (show g.1.2.2.1 = g.1.1 + y from e) (Nat.ne_of_lt (Nat.lt_of_lt_of_le hd0 (Nat.le_add_right _ _)))
      | x + 2, 0, _, _, e => exact absurd (show g.1.1 + x = g.1.2.2.1 from e) (Nat.ne_of_gt (Nat.lt_of_lt_of_le hd0 (Nat.le_add_right _ _)))
      | x + 2, y + 2, _, _, e => exact congrArg (fun z => z + 2) (Nat.add_left_cancel (show g.1.1 + x = g.1.1 + y from e))
      | 1, _, hx, _, _ => exact absurd rfl hx
      | _, 1, _, hy, _ => exact absurd rfl hy
    have t1 : some (jad g x) = some (jad g y) → x = y := fun q => hinj (Option.some.inj q)
    have t2 : ¬ some (jad g x) = some (jad g y) → ¬ x = y := fun q q2 => q (by rw [q2])
    exact lv_acmp_ne (rx := some (jad g x)) (ry := some (jad g y)) hc.1 hc.2.1 hd ht (fun q => hk _ _ _ _ _ _ (h2 (t2 q)) p l e s m args below meth c g hc H locs ls hP hS hL) (fun q => hk _ _ _ _ _ _ (h1 (t1 q)) p l e s m args below meth c g hc H locs ls hP hS hL)
  · exact hi.elim
def jsw (x : Int32) (K : Nat → Prop) (dflt : Nat) : List Nat → Nat → Prop
  | [], i => (x.toInt < 0 ∨ (i : Int) ≤ x.toInt) → K dflt
  | t :: ts, i => (x = nI i → K t) ∧ jsw x K dflt ts (i + 1)
/-- a switch over 0, 1, 2 .. -/
def ji_switch (tgts : List Nat) (dflt : Nat) : jI := fun k lv st h a b => match st with
  | .int x :: st => jsw x (fun t => k t lv st h a b) dflt tgts 0
  | _ => False
theorem jsw_in {x : Int32} {K : Nat → Prop} {dflt : Nat} : ∀ (ts : List Nat) (i j t : Nat), jsw x K dflt ts i → ts[j]? = some t → x = nI (i + j) → K t
  | [], _, _, _, _, h, _ => by simp at h
  | t0 :: ts, i, 0, t, hj, h, hx => by simp at h; subst h; exact hj.1 hx
  | t0 :: ts, i, j + 1, t, hj, h, hx => jsw_in ts (i + 1) j t hj.2 (by simpa using h) (by rw [hx]; congr 1; omega)
theorem jsw_out {x : Int32} {K : Nat → Prop} {dflt : Nat} : ∀ (ts : List Nat) (i : Nat), jsw x K dflt ts i → (x.toInt < 0 ∨ ((i + ts.length : Nat) : Int) ≤ x.toInt) → K dflt
  | [], i, hj, h => hj (by simpa using h)
  | t0 :: ts, i, hj, h => jsw_out ts (i + 1) hj.2 (by rcases h with h | h; exact Or.inl h; right; simp at h ⊢; omega)
theorem jS_switch {dflt hi : Int} {offs : Array Int} {len : Nat} {tgts : List Nat} {td : Nat} (hd : decode Y.2.1 pc = .ok (.tableswitch dflt 0 hi offs, len)) (h1 : tgts.length < 2 ^ 31 ∧ hi + 1 = (tgts.length : Int)) (h2 : offs.toList.map (fun o => (pc : Int) + o) = tgts.map (fun (t : Nat) => (t : Int))) (h3 : (pc : Int) + dflt = (td : Int)) : jS Y Φ pc (ji_switch tgts td) := by
  intro k hk lv st h a b hj
  unfold ji_switch at hj
  split at hj
  · rename_i x st
    intro p l e s m args below meth c g hc H locs ls hP hS hL
    by_cases hlo : x.toInt < 0
    · exact lv_tableOut hc.1 hc.2.1 hd (Or.inl hlo) h3 (hk _ _ _ _ _ _ (jsw_out (K := fun t => k t lv st h a b) (dflt := td) tgts 0 hj (Or.inl hlo)) p l e s m args below meth c g hc H locs ls hP hS hL)
    by_cases hhi : hi < x.toInt
    · exact lv_tableOut hc.1 hc.2.1 hd (Or.inr hhi) h3 (hk _ _ _ _ _ _ (jsw_out (K := fun t => k t lv st h a b) (dflt := td) tgts 0 hj (Or.inr (by omega))) p l e s m args below meth c g hc H locs ls hP hS hL)
    obtain ⟨j, hjx⟩ : ∃ j : Nat, x.toInt = (j : Int) := ⟨x.toInt.toNat, by omega⟩
    have hjl : j < tgts.length := by omega
    have hlen : offs.toList.length = tgts.length := by have := congrArg List.length h2; simpa using this
    have hx : x = nI j := by
      apply Int32.toInt_inj.mp
      rw [hjx, nI_toInt (by omega)]
    have ho : offs[j]? = some (offs.toList[j]'(by omega)) := by
      rw [← Array.getElem?_toList]; exact List.getElem?_eq_getElem (by omega)
    have ht : (pc : Int) + (offs.toList[j]'(by omega)) = ((tgts[j]'hjl : Nat) : Int) := by
      have e := congrArg (fun l => l[j]?) h2
      simp only [List.getElem?_map, List.getElem?_eq_getElem (show j < offs.toList.length by omega), List.getElem?_eq_getElem hjl, Option.map_some] at e
      exact Option.some.inj e
    refine lv_tableIn hc.1 hc.2.1 hd hlo hhi (off := offs.toList[j]'(by omega)) ?_ ht (hk _ _ _ _ _ _ (jsw_in (K := fun t => k t lv st h a b) (dflt := td) tgts 0 j _ hj (List.getElem?_eq_getElem hjl) (by rw [hx, Nat.zero_add])) p l e s m args below meth c g hc H locs ls hP hS hL)
    rw [show (x.toInt - 0).toNat = j by omega]
    exact ho
  · exact hj.elim
/-! calls -/
def jcs : List Value → Nat
  | [] => 0
  | v :: vs => v.category + jcs vs
theorem jcs_sum (g : jg) : ∀ vs : List Value, ((vs.map (jtr g)).map fun v => v.category).sum = jcs vs
  | [] => rfl
  | v :: vs => by simp only [List.map_cons, List.sum_cons, jcs, jtr_cat, jcs_sum g vs]
def jYok (Y : jY) (n : Nat) : Prop := Cond.code Y.1 Y.2.1 Y.2.2.1 Y.2.2.2.1 ∈ lw_tbl ∧ Cond.initialized Y.1.cls ∈ lw_tbl ∧ (Y.1.cls ≠ "java/lang/invoke/MethodHandle" ∧ Y.1.cls ≠ "java/lang/invoke/VarHandle") ∧ (parseMethodDescriptor Y.1.desc).map (fun d => d.parameters.length) = some n
theorem jcallB {Y Z : jY} {n : Nat} (hz : jYok Z n) {g : jg} {s : State} {args : Array Value} (hK : jK g s) {index : Nat} {own : String} (hl : (Cond.methodLink own index Z.1).before args s = true) (hdp : Z.2.2.2.2.1 + 1 ≤ Y.2.2.2.2.1) (hnl : Z.2.2.1 ≤ 29) : CallB (jrm Y) s args own index Z.1 Z.2.1 Z.2.2.1 Z.2.2.2.1 (jww Z) (jrm Z) Z.2.2.2.2.2.1 Z.2.2.2.2.2.2 n := by
  refine ⟨rfl, rfl, hdp, ?_, fun w hw a' U hW => ?_, List.mem_cons_self, hK.word hz.1 rfl rfl, hK.word hz.2.1 rfl rfl, hz.2.2.1, fun sig h => ?_, hl⟩
  · show 8 + (Z.2.2.1 + 11) + 48 * Z.2.2.2.2.1 ≤ 48 * Y.2.2.2.2.1
    omega
  · rw [List.mem_singleton.mp hw]
    exact word_at hW (Or.inl rfl) (hK.word (args := args) hz.1 rfl rfl)
  · have h2 := hz.2.2.2
    rw [h] at h2
    exact (Option.some.inj h2).symm
theorem jback {Y Z : jY} {Φ Ψ : jPost} {p : Program} {l : Launch} {e : Env} {s : State} {m : MethodId} {args av : Array Value} {below : List Frame} {meth : Method} {c : Code} {g : jg} {H : Heap} {locs : List Loc} {a b pc nx : Nat} {ls : Array Slot} {st0 rest : List Value} {lv : List (Option Value)}
    (hr : va_Run p l e (jrm Y) s m args below meth c H locs a b Z.2.2.2.2.2.1 Z.2.2.2.2.2.2 (F0 m pc ls st0) (rest.map (jtr g)) (jQ g Ψ av) (jA g)) (hc : jctx Y g p s m meth c) (hS : va_S (jA g) s.heap H locs) (hn : pc + 3 = nx) (hL : jL g ls Y.2.2.1 lv)
    (kk : ∀ r h', Ψ r h' → jG Y Φ nx lv (r.toList ++ rest) h' (a + Z.2.2.2.2.2.1) (b + Z.2.2.2.2.2.2)) : W p l e (jrm Y) s m args below meth c H locs a b (MQ below (jQ g Φ) args s Y.2.2.2.2.2.1 Y.2.2.2.2.2.2 (jA g)) (F0 m pc ls st0) := by
  intro T hT X
  subst hn
  obtain ⟨v, st₀, t, T', L, h0, X', hLq, e1, e2, ⟨⟨r, h', hψ, hv, hP'⟩, hz, hk⟩, stp⟩ := hr T hT X
  cases hv
  rw [h0] at hz hk
  have hS' : va_S (jA g) s.heap T'.heap (locs ++ L) := ⟨Nat.le_trans hS.1 (by rw [e1]; exact hz), fun q h1 h2 => by rw [e1, hk q (Nat.lt_of_lt_of_le h1 hS.1) h2]; exact hS.2.1 q h1 h2, fun q hq => by
      rcases List.mem_append.mp hq with h | h
      · exact hS.2.2 q h
      · exact hLq q h⟩
  have e3 : (r.toList ++ rest).map (jtr g) = (r.map (jtr g)).toList ++ rest.map (jtr g) := by cases r <;> rfl
  have K := kk r h' hψ p l e s m args below meth c g hc T'.heap (locs ++ L) ls (by rw [e1]; exact hP') hS' hL
  rw [e3] at K
  obtain ⟨t2, a1, b1⟩ := K T' rfl X'
  exact ⟨t2, stp t2 a1, b1⟩
theorem jpre {g : jg} {s : State} (hK : jK g s) {H : Heap} {locs : List Loc} (hS : va_S (jA g) s.heap H locs) {h : List jC} (hP : jP g h H) (As : List Value) : ∀ U : State, U.heap = H → s.WarmedH U.vm → jPc g As h ((As.map (jtr g)).toArray) U := by
  intro U hU hW
  exact ⟨rfl, by rw [hU]; exact hP, hK.warm hW (by rw [hU]; exact hS.1) (fun q h1 h2 => by rw [hU]; exact hS.2.1 q h1 h2)⟩
theorem jargs {g : jg} {n : Nat} {st : List Value} (h : n ≤ st.length) : ((st.take n).reverse.map (jtr g)).length = n ∧ st.map (jtr g) = ((st.take n).reverse.map (jtr g)).reverse ++ (st.drop n).map (jtr g) := by
  refine ⟨by simp; omega, ?_⟩
  rw [← List.map_reverse, List.reverse_reverse, ← List.map_append, List.take_append_drop]
def jchk (Z : jY) (n MC MS : Nat) (st : List Value) (a b : Nat) : Bool := Nat.ble (a + Z.2.2.2.2.2.1) MC && Nat.ble (b + Z.2.2.2.2.2.2) MS && Nat.ble (jcs (st.drop n)) 8 && Nat.ble n st.length
theorem jchk_ok {Z : jY} {n MC MS : Nat} {st : List Value} {a b : Nat} {P : Prop} (h : cond (jchk Z n MC MS st a b) P False) : (a + Z.2.2.2.2.2.1 ≤ MC ∧ b + Z.2.2.2.2.2.2 ≤ MS) ∧ jcs (st.drop n) ≤ 8 ∧ n ≤ st.length ∧ P := by
  obtain ⟨h1, h2⟩ := jb1 h
  unfold jchk at h1
  simp only [Bool.and_eq_true] at h1
  exact ⟨⟨Nat.le_of_ble_eq_true h1.1.1.1, Nat.le_of_ble_eq_true h1.1.1.2⟩, Nat.le_of_ble_eq_true h1.1.2, Nat.le_of_ble_eq_true h1.2, h2⟩
/-- a call of a static method, or of a constructor (n counts the object) -/
def ji_call (Z : jY) (n MC MS nx : Nat) : jI := fun k lv st h a b => cond (jchk Z n MC MS st a b) (∃ Ψ, jCt Z (st.take n).reverse h Ψ ∧ ∀ r h', Ψ r h' → k nx lv (r.toList ++ st.drop n) h' (a + Z.2.2.2.2.2.1) (b + Z.2.2.2.2.2.2)) False
theorem jS_scall {Z : jY} {n index : Nat} (hz : jYok Z n) (hst : Cond.static Z.1 ∈ lw_tbl) (hl : Cond.methodLink Y.1.cls index Z.1 ∈ lw_tbl) (hdp : Z.2.2.2.2.1 + 1 ≤ Y.2.2.2.2.1) (hnl : Z.2.2.1 ≤ 29) (hd : decode Y.2.1 pc = .ok (.invokestatic index, 3)) (hn : pc + 3 = nx) : jS Y Φ pc (ji_call Z n Y.2.2.2.2.2.1 Y.2.2.2.2.2.2 nx) := by
  intro k hk lv st h a b hi
  obtain ⟨hf, hcat, hlen, Ψ, hCt, hi⟩ := jchk_ok hi
  intro p l e s m args below meth c g hc H locs ls hP hS hL
  have hK := hc.2.2.2.2.2.2.2
  obtain ⟨n1, n2⟩ := jargs (g := g) hlen
  refine jback (Z := Z) (va_runS (Ts := []) ⟨hc.1, hc.2.1, hc.2.2.1, hc.2.2.2.1, fun _ h => by cases h⟩ (hCt l g) ⟨jcallB hz hK (hK.word hl rfl rfl) hdp hnl, hK.word hst rfl rfl⟩ ⟨jcall_blind g _ h, jpre hK hS hP _⟩ rfl n1 hL.1 n2 (lv_room (st := (st.drop n).map (jtr g)) (by rw [jcs_sum]; exact hcat)) hd hf) hc hS hn hL (fun r h' hψ => hk _ _ _ _ _ _ (hi r h' hψ))
/-- a call of a method of an object (whose class must be ci where it is known: ci = 999 for a constructor) -/
def ji_vcall (Z : jY) (n ci MC MS nx : Nat) : jI := fun k lv st h a b => cond (jchk Z n MC MS st a b) (match st.drop n with
  | .ref r :: rest => (∃ vs, h[r]? = some (.inr (ci, vs))) ∧ ∃ Ψ, jCt Z (.ref r :: (st.take n).reverse) h Ψ ∧ ∀ r h', Ψ r h' → k nx lv (r.toList ++ rest) h' (a + Z.2.2.2.2.2.1) (b + Z.2.2.2.2.2.2)
  | _ => False) False
def ji_icall (Z : jY) (n MC MS nx : Nat) : jI := fun k lv st h a b => cond (jchk Z n MC MS st a b) (match st.drop n with
  | .ref r :: rest => ∃ Ψ, jCt Z (.ref r :: (st.take n).reverse) h Ψ ∧ ∀ r h', Ψ r h' → k nx lv (r.toList ++ rest) h' (a + Z.2.2.2.2.2.1) (b + Z.2.2.2.2.2.2)
  | _ => False) False
theorem jargs2 {g : jg} {n r : Nat} {st rest : List Value} (h : n ≤ st.length) (he : st.drop n = .ref r :: rest) : ((st.take n).reverse.map (jtr g)).length = n ∧ st.map (jtr g) = ((st.take n).reverse.map (jtr g)).reverse ++ .ref (jad g r) :: rest.map (jtr g) ∧ jcs rest ≤ jcs (st.drop n) := by
  obtain ⟨h1, h2⟩ := jargs (g := g) h
  rw [he] at h2
  exact ⟨h1, h2, by rw [he]; simp [jcs]⟩
theorem jS_icall {Z : jY} {n index : Nat} {nm : MethodName} {cc : ByteArray} {nL d mc ms : Nat} (e : Z = (nm, cc, nL, none, d, mc, ms)) (hz : jYok Z n) (hin : Cond.instanceMethod Z.1 ∈ lw_tbl) (hnm : Z.1.name = "<init>") (hl : Cond.methodLink Y.1.cls index Z.1 ∈ lw_tbl) (hdp : Z.2.2.2.2.1 + 1 ≤ Y.2.2.2.2.1) (hnl : Z.2.2.1 ≤ 29) (hd : decode Y.2.1 pc = .ok (.invokespecial index, 3)) (hn : pc + 3 = nx) : jS Y Φ pc (ji_icall Z n Y.2.2.2.2.2.1 Y.2.2.2.2.2.2 nx) := by
  subst e
  intro k hk lv st h a b hi
  obtain ⟨hf, hcat, hlen, hi⟩ := jchk_ok hi
  split at hi
  · rename_i r rest he
    obtain ⟨Ψ, hCt, hi⟩ := hi
    intro p l e s m args below meth c g hc H locs ls hP hS hL
    have hK := hc.2.2.2.2.2.2.2
    obtain ⟨n1, n2, n3⟩ := jargs2 (g := g) hlen he
    exact jback (Z := (nm, cc, nL, none, d, mc, ms)) (va_runI (Ts := []) ⟨hc.1, hc.2.1, hc.2.2.1, hc.2.2.2.1, fun _ h => by cases h⟩ (hCt l g) ⟨jcallB hz hK (hK.word hl rfl rfl) hdp hnl, hnm, hK.word hin rfl rfl⟩ ⟨jcall_blind g _ h, jpre hK hS hP (.ref r :: (st.take n).reverse)⟩ rfl n1 hL.1 n2 (lv_room (st := rest.map (jtr g)) (by rw [jcs_sum]; omega)) hd hf) hc hS hn hL (fun r h' hψ => hk _ _ _ _ _ _ (hi r h' hψ))
  · exact hi.elim
theorem jS_vcall {Z : jY} {n index ci : Nat} (hz : jYok Z n) (hin : Cond.instanceMethod Z.1 ∈ lw_tbl) (hsel : Cond.selects Z.1.cls Z.1 Z.1 ∈ lw_tbl) (hci : (vwCl[ci]?).map (fun r => r.1) = some Z.1.cls) (hl : Cond.methodLink Y.1.cls index Z.1 ∈ lw_tbl) (hdp : Z.2.2.2.2.1 + 1 ≤ Y.2.2.2.2.1) (hnl : Z.2.2.1 ≤ 29) (hd : decode Y.2.1 pc = .ok (.invokevirtual index, 3)) (hn : pc + 3 = nx) : jS Y Φ pc (ji_vcall Z n ci Y.2.2.2.2.2.1 Y.2.2.2.2.2.2 nx) := by
  intro k hk lv st h a b hi
  obtain ⟨hf, hcat, hlen, hi⟩ := jchk_ok hi
  split at hi
  · rename_i r rest he
    obtain ⟨⟨vs, hr⟩, Ψ, hCt, hi⟩ := hi
    intro p l e s m args below meth c g hc H locs ls hP hS hL
    have hK := hc.2.2.2.2.2.2.2
    obtain ⟨n1, n2, n3⟩ := jargs2 (g := g) hlen he
    obtain ⟨q, rfl, hq⟩ := hP.obj hr
    obtain ⟨rc, hrc⟩ := hP.cl hq
    have hrv := va_recv hK.2.1 hP.2.2.2.1 hrc (jws_at hq)
    rw [hrc] at hci
    rw [show rc.1 = Z.1.cls from Option.some.inj hci] at hrv
    exact jback (Z := Z) (va_runV (Ts := []) (C := Z.1.cls) ⟨hc.1, hc.2.1, hc.2.2.1, hc.2.2.2.1, fun _ h => by cases h⟩ (hCt l g) ⟨jcallB hz hK (hK.word hl rfl rfl) hdp hnl, hK.word hin rfl rfl, hK.word hsel rfl rfl⟩ ⟨jcall_blind g _ h, hrv, jpre hK hS hP (.ref (q + 2) :: (st.take n).reverse)⟩ rfl n1 hL.1 n2 (lv_room (st := rest.map (jtr g)) (by rw [jcs_sum]; omega)) hd hf) hc hS hn hL (fun r h' hψ => hk _ _ _ _ _ _ (hi r h' hψ))
  · exact hi.elim
end jsound
