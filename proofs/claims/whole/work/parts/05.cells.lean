/-! THE ENGINE, third part: ends, fields, rows, casts, calls -/
theorem jP.obj {g : jg} {h : List jC} {H : Heap} (hP : jP g h H) {r ci : Nat} {vs : List Value} (hr : h[r]? = some (.inr (ci, vs))) : ∃ k, r = k + 2 ∧ h[k + 2]? = some (.inr (ci, vs)) := by
  match r, hr with
  | 0, hr => rw [hP.2.1] at hr; cases hr
  | 1, hr => rw [hP.2.2.1] at hr; cases hr
  | k + 2, hr => exact ⟨k, rfl, hr⟩
theorem jP.arr {g : jg} {h : List jC} {H : Heap} (hP : jP g h H) {r n : Nat} {ty : FieldType} {x : jZ} (hn : 0 < n) (hb : ty ≠ .byte) (hr : h[r]? = some (.inl (ty, n, x))) : ∃ k, r = k + 2 ∧ h[k + 2]? = some (.inl (ty, n, x)) ∧ ty ∈ jtys ∧ n ≤ 100000 := by
  match r, hr with
  | 0, hr => rw [hP.2.1] at hr; cases hr; omega
  | 1, hr => rw [hP.2.2.1] at hr; cases hr; exact absurd rfl hb
  | k + 2, hr => exact ⟨k, rfl, hr, hP.2.2.2.2 k _ hr⟩
theorem jK.fields {g : jg} {s : State} (hK : jK g s) {args : Array Value} {C : String} {T : u_T} {N : Nat} (hin : ∀ w ∈ u_ws C T N, w ∈ lw_tbl) : ∀ w ∈ u_ws C T N, w.before args s = true := by
  intro w hw
  have h1 := hin w hw
  obtain ⟨k, -, rfl⟩ := List.mem_map.mp hw
  unfold u_lay at h1 ⊢
  split
  · rename_i q
    rw [if_pos q] at h1
    exact hK.word h1 rfl rfl
  · rename_i q
    rw [if_neg q] at h1
    exact hK.word h1 rfl rfl
theorem jK.ty {g : jg} {s : State} (hK : jK g s) {ty : FieldType} (h : ty ∈ jtys) : ∃ t0 : Nat, (jtl g)[t0]? = some (g.2.2.2 ty, ty) := by
  obtain ⟨i, hi⟩ := List.getElem?_of_mem h
  exact ⟨i, by unfold jtl; rw [List.getElem?_map, hi]; rfl⟩
theorem jK.arrOf {g : jg} {s : State} (hK : jK g s) {ty : FieldType} (h : ty ∈ jtys) : ArrOfT s (g.2.2.2 ty) ty ∧ va_RA s (g.2.2.2 ty) ty := by
  obtain ⟨t0, ht⟩ := hK.ty h
  exact hK.2.1.2 t0 _ ht
theorem vp_nI {n j : Nat} (h : j < n) (hn : n ≤ 100000) : vp_in (nI j) n ∧ (nI j).toNatClampNeg = j := ⟨vp_in_nI h (by omega), nI_clamp (by omega)⟩
def jfit (ty : FieldType) (v : Value) : Prop := match ty, v with
  | .int, .int _ => True
  | .boolean, .int x => x = nI 0 ∨ x = nI 1
  | .long, .long _ => True
  | .float, .float _ => True
  | .double, .double _ => True
  | .object _, .ref _ => True
  | .object _, .null => True
  | .array _, .ref _ => True
  | .array _, .null => True
  | _, _ => False
theorem jfit_ok {g : jg} {ty : FieldType} {v : Value} (h : jfit ty v) : narrow ty (jtr g v) = jtr g v ∧ fits ty (jtr g v) = true := by
  cases ty <;> cases v <;> first
    | exact h.elim
    | exact ⟨rfl, rfl⟩
    | (rcases h with rfl | rfl <;> exact ⟨rfl, rfl⟩)
section jsound
variable {Y : jY} {Φ : jPost} {pc nx : Nat}

def ji_ret (Φ : jPost) (MC MS : Nat) : jI := fun _ _ st h a b => match st with
  | [] => cond (Nat.ble a MC && Nat.ble b MS) (Φ none h) False
  | _ => False
theorem jb2 {x y : Bool} {P : Prop} (h : cond (x && y) P False) : x = true ∧ y = true ∧ P := by
  cases x <;> cases y <;> first | exact h.elim | exact ⟨rfl, rfl, h⟩
theorem jb1 {x : Bool} {P : Prop} (h : cond x P False) : x = true ∧ P := by
  cases x <;> first | exact h.elim | exact ⟨rfl, h⟩
theorem jS_ret (hr : Y.2.2.2.1 = none) (hd : decode Y.2.1 pc = .ok (.return_, 1)) : jS Y Φ pc (ji_ret Φ Y.2.2.2.2.2.1 Y.2.2.2.2.2.2) := by
  intro k hk lv st h a b hi
  unfold ji_ret at hi
  split at hi
  · obtain ⟨h1, h2, hi⟩ := jb2 hi
    intro p l e s m args below meth c g hc H locs ls hP hS hL
    refine W.widen (Nat.le_of_ble_eq_true h1) (Nat.le_of_ble_eq_true h2) ?_
    exact W.vret hc.1 hc.2.1 (hc.2.2.2.2.2.1.trans hr) (fun t ht _ => ⟨⟨none, h, hi, rfl, by rw [ht]; exact hP⟩, hS.F ht⟩) hS.2.2 hd hc.2.2.2.2.1
  · exact hi.elim
def ji_iret (Φ : jPost) (MC MS : Nat) : jI := fun _ _ st h a b => match st with
  | [.int x] => cond (Nat.ble a MC && Nat.ble b MS) (Φ (some (.int x)) h) False
  | _ => False
theorem jS_iret (hr : Y.2.2.2.1 = some .int) (hd : decode Y.2.1 pc = .ok (.ireturn, 1)) : jS Y Φ pc (ji_iret Φ Y.2.2.2.2.2.1 Y.2.2.2.2.2.2) := by
  intro k hk lv st h a b hi
  unfold ji_iret at hi
  split at hi
  · obtain ⟨h1, h2, hi⟩ := jb2 hi
    skip
    intro p l e s m args below meth c g hc H locs ls hP hS hL
    refine W.widen (Nat.le_of_ble_eq_true h1) (Nat.le_of_ble_eq_true h2) ?_
    exact W.iret hc.1 hc.2.1 (hc.2.2.2.2.2.1.trans hr) (fun t ht _ => ⟨⟨some (.int _), h, hi, rfl, by rw [ht]; exact hP⟩, hS.F ht⟩) hS.2.2 hd hc.2.2.2.2.1
  · exact hi.elim
def ji_zret (Φ : jPost) (MC MS : Nat) : jI := fun _ _ st h a b => match st with
  | [.int x] => cond (Nat.ble a MC && Nat.ble b MS) ((x = nI 0 ∨ x = nI 1) ∧ Φ (some (.int x)) h) False
  | _ => False
theorem jS_zret (hr : Y.2.2.2.1 = some .boolean) (hd : decode Y.2.1 pc = .ok (.ireturn, 1)) : jS Y Φ pc (ji_zret Φ Y.2.2.2.2.2.1 Y.2.2.2.2.2.2) := by
  intro k hk lv st h a b hi
  unfold ji_zret at hi
  split at hi
  · obtain ⟨h1, h2, hi⟩ := jb2 hi
    obtain ⟨hcc, hi⟩ := hi
    intro p l e s m args below meth c g hc H locs ls hP hS hL
    refine W.widen (Nat.le_of_ble_eq_true h1) (Nat.le_of_ble_eq_true h2) ?_
    exact W.zret hc.1 hc.2.1 (hc.2.2.2.2.2.1.trans hr) (by rcases hcc with rfl | rfl <;> rfl) (fun t ht _ => ⟨⟨some (.int _), h, hi, rfl, by rw [ht]; exact hP⟩, hS.F ht⟩) hS.2.2 hd hc.2.2.2.2.1
  · exact hi.elim
def ji_lret (Φ : jPost) (MC MS : Nat) : jI := fun _ _ st h a b => match st with
  | [.long x] => cond (Nat.ble a MC && Nat.ble b MS) (Φ (some (.long x)) h) False
  | _ => False
theorem jS_lret (hr : Y.2.2.2.1 = some .long) (hd : decode Y.2.1 pc = .ok (.lreturn, 1)) : jS Y Φ pc (ji_lret Φ Y.2.2.2.2.2.1 Y.2.2.2.2.2.2) := by
  intro k hk lv st h a b hi
  unfold ji_lret at hi
  split at hi
  · obtain ⟨h1, h2, hi⟩ := jb2 hi
    skip
    intro p l e s m args below meth c g hc H locs ls hP hS hL
    refine W.widen (Nat.le_of_ble_eq_true h1) (Nat.le_of_ble_eq_true h2) ?_
    exact W.lret hc.1 hc.2.1 (hc.2.2.2.2.2.1.trans hr) (fun t ht _ => ⟨⟨some (.long _), h, hi, rfl, by rw [ht]; exact hP⟩, hS.F ht⟩) hS.2.2 hd hc.2.2.2.2.1
  · exact hi.elim
def ji_fret (Φ : jPost) (MC MS : Nat) : jI := fun _ _ st h a b => match st with
  | [.float x] => cond (Nat.ble a MC && Nat.ble b MS) (Φ (some (.float x)) h) False
  | _ => False
theorem jS_fret (hr : Y.2.2.2.1 = some .float) (hd : decode Y.2.1 pc = .ok (.freturn, 1)) : jS Y Φ pc (ji_fret Φ Y.2.2.2.2.2.1 Y.2.2.2.2.2.2) := by
  intro k hk lv st h a b hi
  unfold ji_fret at hi
  split at hi
  · obtain ⟨h1, h2, hi⟩ := jb2 hi
    skip
    intro p l e s m args below meth c g hc H locs ls hP hS hL
    refine W.widen (Nat.le_of_ble_eq_true h1) (Nat.le_of_ble_eq_true h2) ?_
    exact W.fret hc.1 hc.2.1 (hc.2.2.2.2.2.1.trans hr) (fun t ht _ => ⟨⟨some (.float _), h, hi, rfl, by rw [ht]; exact hP⟩, hS.F ht⟩) hS.2.2 hd hc.2.2.2.2.1
  · exact hi.elim
def ji_dret (Φ : jPost) (MC MS : Nat) : jI := fun _ _ st h a b => match st with
  | [.double x] => cond (Nat.ble a MC && Nat.ble b MS) (Φ (some (.double x)) h) False
  | _ => False
theorem jS_dret (hr : Y.2.2.2.1 = some .double) (hd : decode Y.2.1 pc = .ok (.dreturn, 1)) : jS Y Φ pc (ji_dret Φ Y.2.2.2.2.2.1 Y.2.2.2.2.2.2) := by
  intro k hk lv st h a b hi
  unfold ji_dret at hi
  split at hi
  · obtain ⟨h1, h2, hi⟩ := jb2 hi
    skip
    intro p l e s m args below meth c g hc H locs ls hP hS hL
    refine W.widen (Nat.le_of_ble_eq_true h1) (Nat.le_of_ble_eq_true h2) ?_
    exact W.dret hc.1 hc.2.1 (hc.2.2.2.2.2.1.trans hr) (fun t ht _ => ⟨⟨some (.double _), h, hi, rfl, by rw [ht]; exact hP⟩, hS.F ht⟩) hS.2.2 hd hc.2.2.2.2.1
  · exact hi.elim
def ji_aret (Φ : jPost) (MC MS : Nat) : jI := fun _ _ st h a b => match st with
  | [.ref x] => cond (Nat.ble a MC && Nat.ble b MS) (Φ (some (.ref x)) h) False
  | [.null] => cond (Nat.ble a MC && Nat.ble b MS) (Φ (some .null) h) False
  | _ => False
theorem jS_aret {rt : FieldType} (hr : Y.2.2.2.1 = some rt) (hrt : (∃ n, rt = .object n) ∨ ∃ t, rt = .array t) (hd : decode Y.2.1 pc = .ok (.areturn, 1)) : jS Y Φ pc (ji_aret Φ Y.2.2.2.2.2.1 Y.2.2.2.2.2.2) := by
  intro k hk lv st h a b hi
  unfold ji_aret at hi
  split at hi
  · rename_i x
    obtain ⟨h1, h2, hi⟩ := jb2 hi
    intro p l e s m args below meth c g hc H locs ls hP hS hL
    refine W.widen (Nat.le_of_ble_eq_true h1) (Nat.le_of_ble_eq_true h2) ?_
    exact W.aret (v := jtr g (.ref x)) hc.1 hc.2.1 (hc.2.2.2.2.2.1.trans hr) hrt (Or.inr ⟨_, rfl⟩) (fun t ht _ => ⟨⟨some (.ref x), h, hi, rfl, by rw [ht]; exact hP⟩, hS.F ht⟩) hS.2.2 hd hc.2.2.2.2.1
  · obtain ⟨h1, h2, hi⟩ := jb2 hi
    intro p l e s m args below meth c g hc H locs ls hP hS hL
    refine W.widen (Nat.le_of_ble_eq_true h1) (Nat.le_of_ble_eq_true h2) ?_
    exact W.aret (v := .null) hc.1 hc.2.1 (hc.2.2.2.2.2.1.trans hr) hrt (Or.inl rfl) (fun t ht _ => ⟨⟨some .null, h, hi, rfl, by rw [ht]; exact hP⟩, hS.F ht⟩) hS.2.2 hd hc.2.2.2.2.1
  · exact hi.elim
/-- a field of an object of class ci -/
def ji_getf (ci f nx : Nat) : jI := fun k lv st h a b => match st with
  | .ref r :: st => ∃ vs, h[r]? = some (.inr (ci, vs)) ∧ (match vs[f]? with
    | some v => k nx lv (v :: st) h a b
    | none => False)
  | _ => False
theorem jhv {g : jg} {vs : List Value} {f : Nat} {v : Value} (h : vs[f]? = some v) : (vs.map (jtr g))[f]? = some (jtr g v) := by rw [List.getElem?_map, h]; rfl
theorem jS_getf {ci f index N : Nat} {ref C : String} {T : u_T} (hin : ∀ w ∈ u_ws C T N, w ∈ lw_tbl) (hcl : vwCl[ci]? = some (C, T, N)) (hf : f < N) (hl : Cond.fieldLink Y.1.cls index ref (T f).2.1 (T f).2.2.1 ∈ lw_tbl) (hsm : (T f).1 = ref ∨ Cond.sameField ref (T f).1 (T f).2.1 (T f).2.2.1 ∈ lw_tbl) (hd : decode Y.2.1 pc = .ok (.getfield index, 3)) (hn : pc + 3 = nx) : jS Y Φ pc (ji_getf ci f nx) := by
  intro k hk lv st h a b hi
  unfold ji_getf at hi
  split at hi
  · obtain ⟨vs, hr, hi⟩ := hi
    split at hi
    · rename_i v hv
      intro p l e s m args below meth c g hc H locs ls hP hS hL
      subst hn
      obtain ⟨q, rfl, hq⟩ := hP.obj hr
      have hK := hc.2.2.2.2.2.2.2
      refine va_get hc.1 hc.2.1 (hK.fields hin) (fun _ h => h) hc.2.2.2.1 hK.2.1 hP.2.2.2.1 q (jws_at hq) hcl f hf (hK.word hl rfl rfl) ?_ (jhv hv) hd (hk _ _ _ _ _ _ hi p l e s m args below meth c g hc H locs ls hP hS hL)
      rcases hsm with e | e
      · intro x hx; rw [← e]; exact hx
      · intro x hx; exact u_same (args := args) (hK.word e rfl rfl) x hx
    · exact hi.elim
  · exact hi.elim
theorem jS_getfN {ci f index N : Nat} {ref C : String} {T : u_T} (hin : ∀ w ∈ u_ws C T N, w ∈ lw_tbl) (hcl : vwCl[ci]? = some (C, T, N)) (hf : f < N) {host : String} (hl : Cond.fieldLinkNest Y.1.cls index ref (T f).2.1 (T f).2.2.1 host ∈ lw_tbl) (hsm : (T f).1 = ref ∨ Cond.sameField ref (T f).1 (T f).2.1 (T f).2.2.1 ∈ lw_tbl) (hd : decode Y.2.1 pc = .ok (.getfield index, 3)) (hn : pc + 3 = nx) : jS Y Φ pc (ji_getf ci f nx) := by
  intro k hk lv st h a b hi
  unfold ji_getf at hi
  split at hi
  · obtain ⟨vs, hr, hi⟩ := hi
    split at hi
    · rename_i v hv
      intro p l e s m args below meth c g hc H locs ls hP hS hL
      subst hn
      obtain ⟨q, rfl, hq⟩ := hP.obj hr
      have hK := hc.2.2.2.2.2.2.2
      refine va_getN hc.1 hc.2.1 (hK.fields hin) (fun _ h => h) hc.2.2.2.1 hK.2.1 hP.2.2.2.1 q (jws_at hq) hcl f hf (hK.word hl rfl rfl) ?_ (jhv hv) hd (hk _ _ _ _ _ _ hi p l e s m args below meth c g hc H locs ls hP hS hL)
      rcases hsm with e | e
      · intro x hx; rw [← e]; exact hx
      · intro x hx; exact u_same (args := args) (hK.word e rfl rfl) x hx
    · exact hi.elim
  · exact hi.elim
def ji_putf (ci f : Nat) (ty : FieldType) (nx : Nat) : jI := fun k lv st h a b => match st with
  | v :: .ref r :: st => jfit ty v ∧ ∃ vs, h[r]? = some (.inr (ci, vs)) ∧ (match vs[f]? with
    | some _ => k nx lv st (h.set r (.inr (ci, vs.set f v))) a b
    | none => False)
  | _ => False
theorem jput_at {g : jg} {s : State} {args : Array Value} {H1 : Heap} {ci f N q : Nat} {C : String} {T : u_T} {vs : List Value} {v : Value} {cell : Cell} {ty0 : Nat → FieldType} (hts : ∀ w ∈ u_ws C T N, w.before args s = true) (hcl : vwCl[ci]? = some (C, T, N)) (hty : ∀ k, k < N → parseFieldDescriptor (T k).2.2.1 = some (ty0 k)) (hnm : ∀ a, a < N → ∀ b, b < N → a ≠ b → (T a).2.1 ≠ (T b).2.1)
    (hK : va_K g.2.2.1 vwCl (jtl g) s) (hf : f < N) (hl : f < vs.length) (e1 : H1[g.1.1 + q]? = some (cell.setSlot (g.2.2.1.2 ci f) (jtr g v))) (q2 : cell.cls = g.2.2.1.1 ci) (q3 : cell.vm = .none) (q4 : ∀ k, k < N → cell.slots[g.2.2.1.2 ci k]? = some (vp_V (vs.map (jtr g)) k)) : va_at g.2.2.1 vwCl (g.1.1 + q, jE g (.inr (ci, vs.set f v))) H1 := by
  have hap := va_apart (own := C) (Ts := u_ws C T N) hts (fun _ h => h) ty0 hty hnm hK hcl
  refine ⟨_, hcl, ?_⟩
  rw [List.map_set]
  refine t_OB.to (V := updV (vp_V (vs.map (jtr g))) f (jtr g v)) ⟨_, e1, q2, q3, t_set q4 hap hf (jtr g v)⟩ (fun j _ => vp_updV_set (by simpa using hl) (jtr g v) j)
theorem jS_putf {ci f index N : Nat} {ref C : String} {T : u_T} {ty0 : Nat → FieldType} (hin : ∀ w ∈ u_ws C T N, w ∈ lw_tbl) (hcl : vwCl[ci]? = some (C, T, N)) (hty : ∀ k, k < N → parseFieldDescriptor (T k).2.2.1 = some (ty0 k)) (hnm : ∀ a, a < N → ∀ b, b < N → a ≠ b → (T a).2.1 ≠ (T b).2.1) (hf : f < N)
    (hl : Cond.fieldLink Y.1.cls index ref (T f).2.1 (T f).2.2.1 ∈ lw_tbl) (hsm : (T f).1 = ref ∨ Cond.sameField ref (T f).1 (T f).2.1 (T f).2.2.1 ∈ lw_tbl) (hfin : (T f).2.2.2 = false) (hd : decode Y.2.1 pc = .ok (.putfield index, 3)) (hn : pc + 3 = nx) : jS Y Φ pc (ji_putf ci f (ty0 f) nx) := by
  intro k hk lv st h a b hi
  unfold ji_putf at hi
  split at hi
  · obtain ⟨hfit, vs, hr, hi⟩ := hi
    split at hi
    · rename_i v _ _ _ hv
      intro p l e s m args below meth c g hc H locs ls hP hS hL
      subst hn
      obtain ⟨q, rfl, hq⟩ := hP.obj hr
      have hK := hc.2.2.2.2.2.2.2
      have hts := hK.fields (args := args) hin
      obtain ⟨r, h1, cell, q1, q2, q3, q4⟩ := hP.2.2.2.1 q _ (jws_at hq)
      have hrr : r = (C, T, N) := Option.some.inj (h1.symm.trans hcl)
      subst hrr
      obtain ⟨hSl, hfc, kC, hkC, hkind⟩ := hK.2.1.1 ci _ hcl
      obtain ⟨cf, kf, fi, fd, hi2, hsl⟩ := hSl f hf
      have hlay := hts _ (u_in_lay hf)
      unfold u_lay at hlay
      rw [if_neg (by rw [hfin]; decide)] at hlay
      have hst := (u_facts hfc hkC (u_lays hts (fun _ h => h) hf) hi2).1
      obtain ⟨hnr, hfi⟩ := jfit_ok (g := g) hfit
      have h6 := u_store hfc hkC hkind hlay hi2 (hty f hf) hnr hfi
      have hsame : s.fieldFound? ref (T f).2.1 (T f).2.2.1 = some (cf, kf, fi, fd) := by
        rcases hsm with e | e
        · rw [← e]; exact hi2
        · exact u_same (args := args) (hK.word e rfl rfl) _ hi2
      refine W.putK hc.1 hc.2.1 (f := fd) ⟨hc.2.2.2.1, hK.word hl rfl rfl, ⟨_, _, _, hsame⟩, hst⟩ (by rw [q2]; exact h6) q1 q3 (by rw [hsl]; exact k2_hasslot (q4 f hf)) rfl rfl hd fun H' e1 e2 e3 => ?_
      rw [hsl] at e1 ⊢
      exact hk _ _ _ _ _ _ hi p l e s m args below meth c g hc H' _ ls (hP.upd hq e2 e3 (jput_at hts hcl hty hnm hK.2.1 hf (List.getElem?_eq_some_iff.mp hv).1 e1 q2 q3 q4) trivial) (hS.put e2 e3 (Nat.le_add_right _ _)) hL
    · exact hi.elim
  · exact hi.elim
theorem jS_putF {ci f index N : Nat} {ref C : String} {T : u_T} {ty0 : Nat → FieldType} (hin : ∀ w ∈ u_ws C T N, w ∈ lw_tbl) (hcl : vwCl[ci]? = some (C, T, N)) (hty : ∀ k, k < N → parseFieldDescriptor (T k).2.2.1 = some (ty0 k)) (hnm : ∀ a, a < N → ∀ b, b < N → a ≠ b → (T a).2.1 ≠ (T b).2.1) (hf : f < N)
    (hl : Cond.fieldLink Y.1.cls index ref (T f).2.1 (T f).2.2.1 ∈ lw_tbl) (hsm : (T f).1 = ref) (hfin : (T f).2.2.2 = true) (hin2 : Y.1.name = "<init>") (hdecl : (T f).1 = Y.1.cls) (hd : decode Y.2.1 pc = .ok (.putfield index, 3)) (hn : pc + 3 = nx) : jS Y Φ pc (ji_putf ci f (ty0 f) nx) := by
  intro k hk lv st h a b hi
  unfold ji_putf at hi
  split at hi
  · obtain ⟨hfit, vs, hr, hi⟩ := hi
    split at hi
    · rename_i v _ _ _ hv
      intro p l e s m args below meth c g hc H locs ls hP hS hL
      subst hn
      obtain ⟨q, rfl, hq⟩ := hP.obj hr
      have hK := hc.2.2.2.2.2.2.2
      have hts := hK.fields (args := args) hin
      obtain ⟨r, h1, cell, q1, q2, q3, q4⟩ := hP.2.2.2.1 q _ (jws_at hq)
      have hrr : r = (C, T, N) := Option.some.inj (h1.symm.trans hcl)
      subst hrr
      obtain ⟨hSl, hfc, kC, hkC, hkind⟩ := hK.2.1.1 ci _ hcl
      obtain ⟨cf, kf, fi, fd, hi2, hsl⟩ := hSl f hf
      have hlay := hts _ (u_in_lay hf)
      unfold u_lay at hlay
      rw [if_pos hfin] at hlay
      have hst := (u_facts hfc hkC (u_lays hts (fun _ h => h) hf) hi2).1
      have hcf : m.cls = cf := by
        obtain ⟨_, _, c', _, _, _, -, -, hf', -, -, -, hown2, -⟩ := Cond.laysFinal_spec hlay
        have e1 : c' = cf := by have := hi2.symm.trans hf'; simp at this; exact this.1.symm
        rw [hdecl] at hown2
        rw [← e1]; exact Option.some.inj (hc.2.2.2.1.symm.trans hown2)
      obtain ⟨hnr, hfi⟩ := jfit_ok (g := g) hfit
      have h6 := u_fits hfc hkC hkind (Or.inr hlay) hi2 (hty f hf) hnr hfi
      have hsame : s.fieldFound? ref (T f).2.1 (T f).2.2.1 = some (cf, kf, fi, fd) := by rw [← hsm]; exact hi2
      refine W.putFinK hc.1 hc.2.1 hc.2.2.2.1 (hK.word hl rfl rfl) hsame hst hcf (hc.2.2.2.2.2.2.1.trans hin2) (by rw [q2]; exact h6) q1 q3 (by rw [hsl]; exact k2_hasslot (q4 f hf)) rfl rfl hd fun H' e1 e2 e3 => ?_
      rw [hsl] at e1 ⊢
      exact hk _ _ _ _ _ _ hi p l e s m args below meth c g hc H' _ ls (hP.upd hq e2 e3 (jput_at hts hcl hty hnm hK.2.1 hf (List.getElem?_eq_some_iff.mp hv).1 e1 q2 q3 q4) trivial) (hS.put e2 e3 (Nat.le_add_right _ _)) hL
    · exact hi.elim
  · exact hi.elim
def ji_new (ci N : Nat) (fs : List Value) (MC MS nx : Nat) : jI := fun k lv st h a b => cond (Nat.ble (a + 1) MC && Nat.ble (b + N) MS) (k nx lv (.ref h.length :: st) (h ++ [.inr (ci, fs)]) (a + 1) (b + N)) False
theorem jS_new {ci index N : Nat} {C : String} {T : u_T} {fs : List Value} {ty0 : Nat → FieldType} (hin : ∀ w ∈ u_ws C T N, w ∈ lw_tbl) (hcl : vwCl[ci]? = some (C, T, N)) (hty : ∀ k, k < N → parseFieldDescriptor (T k).2.2.1 = some (ty0 k)) (hfs : ∀ j, j < N → defaultValue (ty0 j) = vp_V fs j) (hfr : ∀ g : jg, fs.map (jtr g) = fs)
    (hl : Cond.classLink Y.1.cls index C ∈ lw_tbl) (hins : Cond.instantiable C N ∈ lw_tbl) (hini : Cond.initialized C ∈ lw_tbl) (hd : decode Y.2.1 pc = .ok (.new index, 3)) (hn : pc + 3 = nx) : jS Y Φ pc (ji_new ci N fs Y.2.2.2.2.2.1 Y.2.2.2.2.2.2 nx) := by
  intro k hk lv st h a b hi
  obtain ⟨h1, h2, hi⟩ := jb2 hi
  intro p l e s m args below meth c g hc H locs ls hP hS hL
  subst hn
  have hK := hc.2.2.2.2.2.2.2
  have hts := hK.fields (args := args) hin
  have hKn := hK.2.1.1 ci _ hcl
  refine W.newcK hc.1 hc.2.1 hc.2.2.2.1 (hK.word hl rfl rfl) (hK.word hins rfl rfl) (hK.word hini rfl rfl) rfl hd (Nat.le_of_ble_eq_true h1) (Nat.le_of_ble_eq_true h2) hKn.2.1 rfl fun H1 kC hkC e1 z1 o1 => ?_
  have := hk _ _ _ _ _ _ hi p l e s m args below meth c g hc H1 locs ls (hP.new z1 o1 ⟨_, hcl, (u_born ty0 hts (fun _ h => h) hKn hkC e1 hty).to (by rw [hfr g]; exact hfs)⟩ trivial) ⟨Nat.le_trans hS.1 (by omega), fun x g1 g2 => (o1 x (Nat.lt_of_lt_of_le g1 hS.1)).trans (hS.2.1 x g1 g2), hS.2.2⟩ hL
  rw [List.map_cons, show jtr g (.ref h.length) = .ref H.size from congrArg Value.ref hP.ref] at this
  exact this
def ji_newarr (ty : FieldType) (z : jZ) (MC MS nx : Nat) : jI := fun k lv st h a b => match st with
  | .int n :: st => ∃ N, n = nI N ∧ N ≤ 100000 ∧ b + N ≤ MS ∧ cond (Nat.ble (a + 1) MC) (k nx lv (.ref h.length :: st) (h ++ [.inl (ty, N, z)]) (a + 1) (b + N)) False
  | _ => False
theorem jS_newarr {ty : FieldType} {at_ : ArrayType} {z : jZ} (hat : newarray.typeOf at_ = ty) (hty : ty ∈ jtys) (hz : ∀ (g : jg) (N : Nat) (cA : ClassId), va_at g.2.2.1 vwCl = va_at g.2.2.1 vwCl ∧ ∀ q (H : Heap), H[q]? = some (arrV (g.2.2.2 ty) N (fun _ => defaultValue ty)) → va_at g.2.2.1 vwCl (q, jE g (.inl (ty, N, z))) H) (hby : componentBytes ty ≤ 8) (hra : ∀ (U : State) (cA : ClassId), va_RA U cA ty = (U.vm.findClass ("[" ++ ty.toString) = some cA))
    (hw : Cond.arrayClass ty ∈ lw_tbl) (hd : decode Y.2.1 pc = .ok (.newarray at_, 2)) (hn : pc + 2 = nx) : jS Y Φ pc (ji_newarr ty z Y.2.2.2.2.2.1 Y.2.2.2.2.2.2 nx) := by
  intro k hk lv st h a b hi
  unfold ji_newarr at hi
  split at hi
  · obtain ⟨N, rfl, hN, hms, hi⟩ := hi
    obtain ⟨hmc, hi⟩ := jb1 hi
    intro p l e s m args below meth c g hc H locs ls hP hS hL
    subst hn; subst hat
    have hK := hc.2.2.2.2.2.2.2
    have hwd : (Cond.arrayClass (newarray.typeOf at_)).before args s = true := word_at (s := s) (args := #[]) (State.WarmedH.refl s) (Or.inr ⟨_, rfl⟩) (hK.1 _ (List.mem_filter.mpr ⟨hw, rfl⟩))
    refine va_newaK hc.1 hc.2.1 hwd rfl hd rfl (nI_pos (by omega)) (nI_clamp (by omega)) (Nat.le_trans (Nat.mul_le_mul hN hby) (by decide)) (Nat.le_of_ble_eq_true hmc) hms rfl fun H1 cA e1 z1 o1 hAr hNm => ?_
    have hra2 := (hK.arrOf hty).2
    rw [hra] at hra2
    have hcA : cA = g.2.2.2 (newarray.typeOf at_) := Option.some.inj (hNm.symm.trans hra2)
    subst hcA
    have := hk _ _ _ _ _ _ hi p l e s m args below meth c g hc H1 locs ls (hP.new z1 o1 ((hz g N 0).2 _ _ e1) ⟨hty, hN⟩) ⟨Nat.le_trans hS.1 (by omega), fun x g1 g2 => (o1 x (Nat.lt_of_lt_of_le g1 hS.1)).trans (hS.2.1 x g1 g2), hS.2.2⟩ hL
    rw [List.map_cons, show jtr g (.ref h.length) = .ref H.size from congrArg Value.ref hP.ref] at this
    exact this
  · exact hi.elim
end jsound
