/-! THE ENGINE, first half: an abstract machine over a list of cells at places 0, 1, 2 .. (place 0: the empty row that the JDK keeps, place 1: the script, place k + 2: the k-th cell made since the start) -/
def jT : List Cond := lw_tbl.filter jgw
theorem jT_warm {w : Cond} (hw : jgw w = true) {s U : State} (hW : s.WarmedH U.vm) (h : va_Nw w s) : va_Nw w U := by
  unfold jgw at hw
  split at hw
  · exact va_Nw.warmF hW h
  · exact va_Nw.warmM hW h
  · exact va_Nw.warmC hW h
  · exact va_Nw.warmD hW h
  · exact word_at hW (good_of_word hw) h
theorem jT_tabs {w : Cond} (hw : jgw w = true) {u U : State} (hvm : u.vm = U.vm) (h : va_Nw w u) : va_Nw w U := by
  exact jT_warm hw (by rw [← hvm]; exact State.WarmedH.refl u) h
/-- g: (start of the made cells, the script's cell, the JDK's empty row, the script's length), the script, class numbers and slots, array classes -/
abbrev jg : Type := (Nat × Nat × Nat × Nat) × (Nat → Int32) × va_G × (FieldType → ClassId)
def jad (g : jg) (k : Nat) : Nat := match k with
  | 0 => g.1.2.2.1
  | 1 => g.1.2.1
  | k + 2 => g.1.1 + k
def jtr (g : jg) (v : Value) : Value := match v with
  | .ref k => .ref (jad g k)
  | w => w
abbrev jC : Type := (FieldType × vp_A) ⊕ (Nat × List Value)
abbrev jZ : Type := (Nat → Int32) ⊕ (Nat → Int64) ⊕ (Nat → UInt32) ⊕ (Nat → UInt64) ⊕ (Nat → Option Nat)
def jE (g : jg) (c : jC) : va_E := match c with
  | .inl (ty, n, .inl f) => .inl (g.2.2.2 ty, n, .inl f)
  | .inl (ty, n, .inr (.inl f)) => .inl (g.2.2.2 ty, n, .inr (.inl f))
  | .inl (ty, n, .inr (.inr (.inl f))) => .inl (g.2.2.2 ty, n, .inr (.inr (.inl f)))
  | .inl (ty, n, .inr (.inr (.inr (.inl f)))) => .inl (g.2.2.2 ty, n, .inr (.inr (.inr (.inl f))))
  | .inl (ty, n, .inr (.inr (.inr (.inr f)))) => .inl (g.2.2.2 ty, n, .inr (.inr (.inr (.inr (fun j => (f j).map (jad g))))))
  | .inr (ci, vs) => .inr (ci, vs.map (jtr g))
def jD : jC := .inl (.object "java/lang/Object", 0, .inr (.inr (.inr (.inr (fun _ => none)))))
def jX (g : jg) : jC := .inl (.byte, g.1.2.2.2, .inl g.2.1)
def jws (g : jg) (h : List jC) : va_W := (h.drop 2).zipIdx.map (fun q => (g.1.1 + q.2, jE g q.1))
theorem jws_get (g : jg) (h : List jC) (k : Nat) : (jws g h)[k]? = (h[k + 2]?).map (fun c => (g.1.1 + k, jE g c)) := by
  unfold jws
  rw [List.getElem?_map, List.getElem?_zipIdx, List.getElem?_drop]
  rw [Nat.add_comm 2 k]
  cases h[k + 2]? <;> simp
theorem jws_len (g : jg) (h : List jC) : (jws g h).length = h.length - 2 := by simp [jws]
theorem jws_set (g : jg) (h : List jC) (k : Nat) (c : jC) : jws g (h.set (k + 2) c) = (jws g h).set k (g.1.1 + k, jE g c) := by
  apply List.ext_getElem?
  intro j
  rw [jws_get]
  by_cases hj : k = j
  · subst hj
    by_cases hl : k + 2 < h.length
    · rw [List.getElem?_set_self hl, List.getElem?_set_self (by rw [jws_len]; omega)]
      rfl
    · rw [List.getElem?_eq_none (by simp; omega), List.getElem?_eq_none (by rw [List.length_set, jws_len]; omega)]
      rfl
  · rw [List.getElem?_set_ne (by omega), List.getElem?_set_ne hj, jws_get]
theorem jws_push (g : jg) (h : List jC) (c : jC) (h2 : 2 ≤ h.length) : jws g (h ++ [c]) = jws g h ++ [(g.1.1 + (h.length - 2), jE g c)] := by
  apply List.ext_getElem?
  intro j
  rw [jws_get]
  by_cases hj : j < h.length - 2
  · rw [List.getElem?_append_left (by omega), List.getElem?_append_left (by rw [jws_len]; omega), jws_get]
  · rw [List.getElem?_append_right (by omega), List.getElem?_append_right (by rw [jws_len]; omega), jws_len]
    by_cases hz : j = h.length - 2
    · subst hz
      rw [show h.length - 2 + 2 - h.length = 0 by omega, Nat.sub_self]
      rfl
    · rw [List.getElem?_eq_none (by simp; omega), List.getElem?_eq_none (by simp; omega)]
      rfl
/-- the kinds of rows that are made -/
def jtys : List FieldType := [.int, .long, .float, .boolean, .object "QuasiSums$Sum", .object "QuasiSums$Item", .object "QuasiSums$Row", .object "java/lang/Object"]
def jok (c : jC) : Prop := match c with
  | .inl (ty, n, _) => ty ∈ jtys ∧ n ≤ 100000
  | .inr _ => True
def jP (g : jg) (h : List jC) (H : Heap) : Prop := H.size + 2 = g.1.1 + h.length ∧ h[0]? = some jD ∧ h[1]? = some (jX g) ∧ va_P g.2.2.1 vwCl (jws g h) H ∧ ∀ (k : Nat) (c : jC), h[k + 2]? = some c → jok c
theorem jP.two {g : jg} {h : List jC} {H : Heap} (hP : jP g h H) : 2 ≤ h.length := (List.getElem?_eq_some_iff.mp hP.2.2.1).1
def jA (g : jg) : Nat → Prop := fun q => g.1.1 ≤ q
theorem jws_D (g : jg) (h : List jC) : va_D (jA g) (jws g h) := by
  refine ⟨fun i j p q hi hj hpq => ?_, fun k q hk => ?_⟩
  · rw [jws_get] at hi hj
    obtain ⟨c1, -, rfl⟩ := Option.map_eq_some_iff.mp hi
    obtain ⟨c2, -, rfl⟩ := Option.map_eq_some_iff.mp hj
    have : g.1.1 + i = g.1.1 + j := hpq
    omega
  · rw [jws_get] at hk
    obtain ⟨c1, -, rfl⟩ := Option.map_eq_some_iff.mp hk
    exact Nat.le_add_right _ _
theorem jws_at {g : jg} {h : List jC} {k : Nat} {c : jC} (hk : h[k + 2]? = some c) : (jws g h)[k]? = some (g.1.1 + k, jE g c) := by rw [jws_get, hk]; rfl
/-- behind a write at a made cell -/
theorem jP.upd {g : jg} {h : List jC} {H H1 : Heap} (hP : jP g h H) {k : Nat} {c0 c : jC} (hk : h[k + 2]? = some c0) (hz : H1.size = H.size) (oq : ∀ q : Nat, q ≠ g.1.1 + k → H1[q]? = H[q]?) (he : va_at g.2.2.1 vwCl (g.1.1 + k, jE g c) H1) (hok : jok c) : jP g (h.set (k + 2) c) H1 := by
  have hl := (List.getElem?_eq_some_iff.mp hk).1
  refine ⟨by rw [hz, List.length_set]; exact hP.1, ?_, ?_, ?_, fun j x hj => ?_⟩
  · rw [List.getElem?_set_ne (by omega)]; exact hP.2.1
  · rw [List.getElem?_set_ne (by omega)]; exact hP.2.2.1
  · rw [jws_set]; exact hP.2.2.2.1.set (jws_D g h) (jws_at hk) he oq
  · by_cases e : k = j
    · subst e
      rw [List.getElem?_set_self hl] at hj
      cases hj
      exact hok
    · rw [List.getElem?_set_ne (by omega)] at hj
      exact hP.2.2.2.2 j x hj
theorem jP.new {g : jg} {h : List jC} {H H1 : Heap} (hP : jP g h H) {c : jC} (hz : H1.size = H.size + 1) (oq : ∀ q : Nat, q < H.size → H1[q]? = H[q]?) (he : va_at g.2.2.1 vwCl (H.size, jE g c) H1) (hok : jok c) : jP g (h ++ [c]) H1 := by
  have h2 := hP.two
  have h1 := hP.1
  refine ⟨by rw [hz, List.length_append]; simp; omega, ?_, ?_, ?_, fun j x hj => ?_⟩
  · rw [List.getElem?_append_left (by omega)]; exact hP.2.1
  · rw [List.getElem?_append_left (by omega)]; exact hP.2.2.1
  · rw [jws_push g h c h2]
    refine (hP.2.2.2.1.kept (fun k q hk => oq q.1 ((hP.2.2.2.1 k q hk).lt))).app (fun k q hk => ?_)
    have hz0 : k < 1 := (List.getElem?_eq_some_iff.mp hk).1
    rw [show k = 0 by omega] at hk
    cases hk
    rw [show g.1.1 + (h.length - 2) = H.size by omega]
    exact he
  · by_cases e : j + 2 < h.length
    · rw [List.getElem?_append_left e] at hj
      exact hP.2.2.2.2 j x hj
    · rw [List.getElem?_append_right (by omega)] at hj
      have hz0 : j + 2 - h.length < 1 := (List.getElem?_eq_some_iff.mp hj).1
      rw [show j + 2 - h.length = 0 by omega] at hj
      cases hj
      exact hok
theorem jP.ref {g : jg} {h : List jC} {H : Heap} (hP : jP g h H) : jad g h.length = H.size := by
  obtain ⟨k, hk⟩ : ∃ k, h.length = k + 2 := ⟨h.length - 2, by have := hP.two; omega⟩
  rw [hk]
  show g.1.1 + k = H.size
  have := hP.1
  omega
def jtl (g : jg) : List (ClassId × FieldType) := jtys.map (fun ty => (g.2.2.2 ty, ty))
def jNc : List (String × String) := [("QuasiSums$Row", "QuasiSums$Sum"), ("QuasiSums$Sum", "QuasiSums$Row")]
def jAO : List String := ["QuasiSums$Sum", "QuasiSums$Item", "QuasiSums$Row", "java/lang/Object"]
def jDf (d : Nat) (U : State) (H : Heap) : Prop := ∃ cell : Cell, H[d]? = some cell ∧ U.isArrayOf cell (.object "java/lang/Object") ∧ cell.slots.size = 0
/-- the class object of the rows of objects is there -/
def jMr (U : State) : Prop := ∃ mi : Nat, va_Mi "[Ljava/lang/Object;" mi U
/-- what holds of the machine at every method's start -/
def jK (g : jg) (U : State) : Prop :=
  (∀ w ∈ jT, va_Nw w U) ∧ va_K g.2.2.1 vwCl (jtl g) U ∧ ((∀ q ∈ jNc, va_Nc q.1 q.2 U) ∧ ∀ C ∈ jAO, va_AO C U) ∧ va_X g.1.2.1 g.1.2.2.2 g.2.1 U U.heap ∧ g.1.2.2.2 ≤ 3072 ∧ g.1.2.1 < g.1.1 ∧ g.1.2.2.1 < g.1.1 ∧ g.1.1 ≤ U.heap.size ∧ jDf g.1.2.2.1 U U.heap ∧ va_Z "java/util/ArrayList" "DEFAULTCAPACITY_EMPTY_ELEMENTDATA" "[Ljava/lang/Object;" (.ref g.1.2.2.1) (jA g) U U.heap ∧ jMr U

theorem jK.warm {g : jg} {s U : State} (h : jK g s) (hW : s.WarmedH U.vm) (hz : s.heap.size ≤ U.heap.size) (hq : ∀ q : Nat, q < s.heap.size → ¬ jA g q → U.heap[q]? = s.heap[q]?) : jK g U := by
  obtain ⟨h1, h2, h3, h4, hL, h5, h6, h7, h8, h9, mi, h10⟩ := h
  have e : ∀ q : Nat, q < g.1.1 → U.heap[q]? = s.heap[q]? := fun q hq1 => hq q (Nat.lt_of_lt_of_le hq1 h7) (Nat.not_le.mpr hq1)
  refine ⟨fun w hw => jT_warm (List.mem_filter.mp hw).2 hW (h1 w hw), va_K.moved hW.alike h2, ⟨fun q hq2 => (h3.1 q hq2).moved hW.alike, fun C hC => (h3.2 C hC).moved hW.alike⟩, (h4.kept (e _ h5)).moved hW.alike, hL, h5, h6, Nat.le_trans h7 hz, ?_, (h9.kept (fun a ha hn => hq a ha hn)).moved hW.alike, mi, h10.moved hW.alike⟩
  obtain ⟨cell, c1, c2, c3⟩ := h8
  exact ⟨cell, by rw [e _ h6]; exact c1, State.isArrayOf_alike hW.alike c2, c3⟩
theorem jK.word {g : jg} {s : State} (h : jK g s) {args : Array Value} {w : Cond} (hw : w ∈ lw_tbl) (hg : jgw w = true) (ht : w.onTables = true) : w.before args s = true :=
  va_Nw.use ht (h.1 w (List.mem_filter.mpr ⟨hw, hg⟩))
/-- a method: its name, code, number of locals, result; depth, cells, slots -/
abbrev jY : Type := MethodName × ByteArray × Nat × Option FieldType × Nat × Nat × Nat
def jrm (Y : jY) : Room := { frames := Y.2.2.2.2.1, cells := Y.2.2.2.2.2.1, slots := Y.2.2.2.2.2.2, locals := 48 * Y.2.2.2.2.1 }
abbrev jPost : Type := Option Value → List jC → Prop
def jPc (g : jg) (As : List Value) (h : List jC) : Array Value → State → Prop := fun a U => a = (As.map (jtr g)).toArray ∧ jP g h U.heap ∧ jK g U
def jQ (g : jg) (Φ : jPost) : Array Value → State → Outcome → State → Prop := fun _ st o t => (∃ (r : Option Value) (h' : List jC), Φ r h' ∧ o = .returned (r.map (jtr g)) ∧ jP g h' t.heap) ∧ va_F (jA g) st t
def jww (Y : jY) : List Cond := [.code Y.1 Y.2.1 Y.2.2.1 Y.2.2.2.1]
/-- THE CONTRACT: from the cells h with the arguments As the method comes to its end with Φ of its answer and the cells then -/
def jCt (Y : jY) (As : List Value) (h : List jC) (Φ : jPost) : Prop := ∀ (l : Launch) (g : jg), Met l Y.1 (jww Y) (jrm Y) (jPc g As h) (jQ g Φ) Y.2.2.2.2.2.1 Y.2.2.2.2.2.2 (jA g)
def jL (g : jg) (ls : Array Slot) (nL : Nat) (lv : List (Option Value)) : Prop := ls.size = nL ∧ lv_wf ls ∧ ∀ (i : Nat) (v : Value), lv[i]? = some (some v) → ls[i]? = some (.val (jtr g v))
def jctx (Y : jY) (g : jg) (p : Program) (s : State) (m : MethodId) (meth : Method) (c : Code) : Prop :=
  p.tables.exec = Jvm.exec ∧ c.code = Y.2.1 ∧ c.maxLocals = Y.2.2.1 ∧ s.vm.findClass Y.1.cls = some m.cls ∧ meth.locks = false ∧ meth.sig.returnType = Y.2.2.2.1 ∧ meth.name = Y.1.name ∧ jK g s
abbrev jKt : Type := Nat → List (Option Value) → List Value → List jC → Nat → Nat → Prop
abbrev jI : Type := jKt → List (Option Value) → List Value → List jC → Nat → Nat → Prop
def jG (Y : jY) (Φ : jPost) : jKt := fun pc lv st h a b => ∀ (p : Program) (l : Launch) (e : Env) (s : State) (m : MethodId) (args : Array Value) (below : List Frame) (meth : Method) (c : Code) (g : jg), jctx Y g p s m meth c →
  ∀ (H : Heap) (locs : List Loc) (ls : Array Slot), jP g h H → va_S (jA g) s.heap H locs → jL g ls Y.2.2.1 lv → W p l e (jrm Y) s m args below meth c H locs a b (MQ below (jQ g Φ) args s Y.2.2.2.2.2.1 Y.2.2.2.2.2.2 (jA g)) (F0 m pc ls (st.map (jtr g)))
def jS (Y : jY) (Φ : jPost) (pc : Nat) (i : jI) : Prop := ∀ k : jKt, (∀ pc lv st h a b, k pc lv st h a b → jG Y Φ pc lv st h a b) → ∀ lv st h a b, i k lv st h a b → jG Y Φ pc lv st h a b
def jbad : jI := fun _ _ _ _ _ _ => False
theorem jS_bad {Y : jY} {Φ : jPost} {pc : Nat} : jS Y Φ pc jbad := fun _ _ _ _ _ _ _ h => h.elim
def jN (k : Nat) (x y : Nat → jI) : Nat → jI := fun pc => cond (Nat.blt pc k) (x pc) (y pc)
def jlf (k : Nat) (i : jI) : Nat → jI := fun pc => cond (Nat.beq pc k) i jbad
theorem jSN {Y : jY} {Φ : jPost} {k : Nat} {x y : Nat → jI} (hx : ∀ pc, jS Y Φ pc (x pc)) (hy : ∀ pc, jS Y Φ pc (y pc)) : ∀ pc, jS Y Φ pc (jN k x y pc) := by
  intro pc
  unfold jN
  cases Nat.blt pc k
  · exact hy pc
  · exact hx pc
theorem jSl {Y : jY} {Φ : jPost} {k : Nat} {i : jI} (hi : jS Y Φ k i) : ∀ pc, jS Y Φ pc (jlf k i pc) := by
  intro pc
  unfold jlf
  cases hb : Nat.beq pc k
  · exact jS_bad
  · rw [Nat.eq_of_beq_eq_true hb]; exact hi
/-- whether a place is one of those where a walk rests -/
def jcut : List Nat → Nat → Bool
  | [], _ => false
  | x :: xs, q => cond (Nat.beq x q) true (jcut xs q)
/-- a walk of n instructions at most, which rests at the places of C: K of where it stands then -/
def jw (P : Nat → jI) (K : jKt) (C : List Nat) : Nat → jKt
  | 0 => K
  | n + 1 => fun pc lv st h a b => P pc (fun pc lv st h a b => cond (jcut C pc) (K pc lv st h a b) (jw P K C n pc lv st h a b)) lv st h a b
theorem jw_sound {Y : jY} {Φ : jPost} {P : Nat → jI} (hP : ∀ pc, jS Y Φ pc (P pc)) (C : List Nat) : ∀ (n pc : Nat) lv st h a b, jw P (jG Y Φ) C n pc lv st h a b → jG Y Φ pc lv st h a b
  | 0, _, _, _, _, _, _, h => h
  | n + 1, pc, lv, st, h, a, b, hw => hP pc _ (fun pc lv st h a b hq => by
      cases hc : jcut C pc
      · rw [hc] at hq
        exact jw_sound hP C n pc lv st h a b hq
      · rw [hc] at hq
        exact hq) lv st h a b hw
def jle (l1 l2 : List (Option Value)) : Prop := ∀ (i : Nat) (v : Value), l1[i]? = some (some v) → l2[i]? = some (some v)
theorem jG_le {Y : jY} {Φ : jPost} {pc : Nat} {l1 l2 : List (Option Value)} {st : List Value} {h : List jC} {a b : Nat} (hl : jle l1 l2) (hG : jG Y Φ pc l1 st h a b) : jG Y Φ pc l2 st h a b :=
  fun p l e s m args below meth c g hc H locs ls hP hS hL => hG p l e s m args below meth c g hc H locs ls hP hS ⟨hL.1, hL.2.1, fun i v hv => hL.2.2 i v (hl i v hv)⟩
/-! the start of a method -/
def jent : List Value → List (Option Value)
  | [] => []
  | v :: vs => match v.category with
    | 2 => some v :: none :: jent vs
    | _ => some v :: jent vs
theorem jtr_cat (g : jg) (v : Value) : (jtr g v).category = v.category := by cases v <;> rfl
theorem jent_args (g : jg) : ∀ (vs : List Value) (k i : Nat) (v : Value), (jent vs)[i]? = some (some v) → (k + i, jtr g v) ∈ lv_args k (vs.map (jtr g))
  | [], k, i, v, h => by simp [jent] at h
  | w :: vs, k, i, v, h => by
    rcases lv_cat w with hc | hc
    · have e : jent (w :: vs) = some w :: jent vs := by simp only [jent, hc]
      have e2 : lv_args k ((w :: vs).map (jtr g)) = (k, jtr g w) :: lv_args (k + 1) (vs.map (jtr g)) := by
        rw [List.map_cons, lv_args, jtr_cat, hc]; rfl
      rw [e] at h
      rw [e2]
      cases i with
      | zero => simp only [List.getElem?_cons_zero] at h; cases h; exact List.mem_cons_self
      | succ i =>
        rw [List.getElem?_cons_succ] at h
        have := jent_args g vs (k + 1) i v h
        rw [show k + 1 + i = k + (i + 1) by omega] at this
        exact List.mem_cons_of_mem _ this
    · have e : jent (w :: vs) = some w :: none :: jent vs := by simp only [jent, hc]
      have e2 : lv_args k ((w :: vs).map (jtr g)) = (k, jtr g w) :: lv_args (k + 2) (vs.map (jtr g)) := by
        rw [List.map_cons, lv_args, jtr_cat, hc]; rfl
      rw [e] at h
      rw [e2]
      match i, h with
      | 0, h => simp only [List.getElem?_cons_zero] at h; cases h; exact List.mem_cons_self
      | 1, h => simp at h
      | i + 2, h =>
        rw [List.getElem?_cons_succ, List.getElem?_cons_succ] at h
        have := jent_args g vs (k + 2) i v h
        rw [show k + 2 + i = k + (i + 2) by omega] at this
        exact List.mem_cons_of_mem _ this
theorem jsl_len (g : jg) : ∀ vs : List Value, (lg_sl (vs.map (jtr g))).length = (jent vs).length
  | [] => rfl
  | w :: vs => by
    have ih := jsl_len g vs
    rcases lv_cat w with hc | hc
    · have e : jent (w :: vs) = some w :: jent vs := by simp only [jent, hc]
      rw [e, List.map_cons]
      simp only [lg_sl, List.flatMap_cons, List.length_append, List.length_cons] at ih ⊢
      rw [ih, jtr_cat, hc]
      simp; omega
    · have e : jent (w :: vs) = some w :: none :: jent vs := by simp only [jent, hc]
      rw [e, List.map_cons]
      simp only [lg_sl, List.flatMap_cons, List.length_append, List.length_cons] at ih ⊢
      rw [ih, jtr_cat, hc]
      simp; omega
def jpad (n : Nat) (l : List (Option Value)) : List (Option Value) := l ++ List.replicate (n - l.length) none
theorem jcall_blind (g : jg) (As : List Value) (h : List jC) : FrameBlind (jPc g As h) := by
  intro a U fr mk hp
  refine ⟨hp.1, hp.2.1, hp.2.2.warm (U := U.calling fr mk a) (State.WarmedH.refl U) (Nat.le_refl _) (fun _ _ _ => rfl)⟩
/-- a method's contract out of the walk from its start -/
theorem jCt_of {Y : jY} {Φ : jPost} {As : List Value} {h : List jC} (hy : plainName Y.1.cls = true) (hn : (jent As).length ≤ Y.2.2.1) (hG : jG Y Φ 0 (jpad Y.2.2.1 (jent As)) [] h 0 0) : jCt Y As h Φ := by
  intro l g
  refine Met.ofW (cc := Y.2.1) (maxL := Y.2.2.1) (ret := Y.2.2.2.1) hy rfl ?_
  intro p e s m args below meth c s₁ B hml hv
  obtain ⟨rfl, hP, hK⟩ := hv
  have hl := lv_entry (As.map (jtr g)) (n := Y.2.2.1) (by rw [jsl_len]; exact hn)
  rw [lg_entry_eq]
  generalize (lg_sl (As.map (jtr g)) ++ List.replicate (Y.2.2.1 - (lg_sl (As.map (jtr g))).length) Slot.unset).toArray = ls at hl ⊢
  refine hG p l e s m _ below meth c g ⟨B.exec, B.bytes, hml, findClass_of_methodNamed B.named, B.notSynchronized, B.returns, (name_of_methodNamed B.named B.method).1, hK⟩ s.heap [] ls hP va_S.rf ⟨hl.1, hl.2.1, fun i v hv => ?_⟩
  unfold jpad at hv
  by_cases hi : i < (jent As).length
  · rw [List.getElem?_append_left hi] at hv
    have := jent_args g As 0 i v hv
    rw [Nat.zero_add] at this
    exact hl.2.2 _ this
  · rw [List.getElem?_append_right (by omega)] at hv
    have := List.eq_of_mem_replicate (List.mem_of_getElem? hv)
    cases this
/-- a method's program, and what a user of the engine sees of it -/
theorem jrun {Y : jY} {Φ : jPost} {As : List Value} {h : List jC} {P : Nat → jI} (hP : ∀ pc, jS Y Φ pc (P pc)) (hy : plainName Y.1.cls = true) (hn : (jent As).length ≤ Y.2.2.1)
    (hu : ∀ G : jKt, (∀ (C : List Nat) (n pc : Nat) lv st h a b, jw P G C n pc lv st h a b → G pc lv st h a b) → (∀ (pc : Nat) l1 l2 st h a b, jle l1 l2 → G pc l1 st h a b → G pc l2 st h a b) → G 0 (jpad Y.2.2.1 (jent As)) [] h 0 0) : jCt Y As h Φ :=
  jCt_of hy hn (hu (jG Y Φ) (jw_sound hP) (fun _ _ _ _ _ _ _ hl hG => jG_le hl hG))
