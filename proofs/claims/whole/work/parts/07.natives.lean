/-! THE ENGINE, fifth part: calls among nest mates, clones, copies, bits of floats -/
theorem jP.row {g : jg} {h : List jC} {H : Heap} (hP : jP g h H) {r n : Nat} {ty : FieldType} {x : jZ} (ho : ty ≠ .object "java/lang/Object") (hb : ty ≠ .byte) (hr : h[r]? = some (.inl (ty, n, x))) : ∃ k, r = k + 2 ∧ h[k + 2]? = some (.inl (ty, n, x)) ∧ ty ∈ jtys ∧ n ≤ 100000 := by
  match r, hr with
  | 0, hr => rw [hP.2.1] at hr; cases hr; exact absurd rfl ho
  | 1, hr => rw [hP.2.2.1] at hr; cases hr; exact absurd rfl hb
  | k + 2, hr => exact ⟨k, rfl, hr, hP.2.2.2.2 k _ hr⟩
theorem jpushS {g : jg} {s : State} {H : Heap} {locs : List Loc} (hS : va_S (jA g) s.heap H locs) (x : Cell) : va_S (jA g) s.heap (H.push x) locs ∧ (H.push x).size = H.size + 1 ∧ (H.push x)[H.size]? = some x ∧ ∀ q : Nat, q < H.size → (H.push x)[q]? = H[q]? := by
  have o1 : ∀ q : Nat, q < H.size → (H.push x)[q]? = H[q]? := fun q hq => by rw [Array.getElem?_push, if_neg (Nat.ne_of_lt hq)]
  exact ⟨⟨Nat.le_trans hS.1 (by rw [Array.size_push]; omega), fun y h1 h2 => (o1 y (Nat.lt_of_lt_of_le h1 hS.1)).trans (hS.2.1 y h1 h2), hS.2.2⟩, Array.size_push .., Array.getElem?_push_size, o1⟩
section jsound
variable {Y : jY} {Φ : jPost} {pc nx : Nat}
theorem jcallN {Y Z : jY} {n : Nat} (hz : jYok Z n) {g : jg} {s : State} {args : Array Value} (hK : jK g s) {index : Nat} {own host : String} (hl : Cond.methodLinkNest own index Z.1 host ∈ lw_tbl) (hdp : Z.2.2.2.2.1 + 1 ≤ Y.2.2.2.2.1) (hnl : Z.2.2.1 ≤ 29) : va_CN (jrm Y) s args own index Z.1 host Z.2.1 Z.2.2.1 Z.2.2.2.1 (jww Z) (jrm Z) Z.2.2.2.2.2.1 Z.2.2.2.2.2.2 n := by
  refine ⟨⟨rfl, rfl, hdp, ?_, fun w hw a' U hW => ?_, List.mem_cons_self⟩, hK.word hz.1 rfl rfl, hK.word hz.2.1 rfl rfl, hz.2.2.1, fun sig h => ?_, hK.word hl rfl rfl⟩
  · show 8 + (Z.2.2.1 + 11) + 48 * Z.2.2.2.2.1 ≤ 48 * Y.2.2.2.2.1
    omega
  · rw [List.mem_singleton.mp hw]
    exact word_at hW (Or.inl rfl) (hK.word (args := args) hz.1 rfl rfl)
  · have h2 := hz.2.2.2
    rw [h] at h2
    exact (Option.some.inj h2).symm
theorem jS_scallN {Z : jY} {n index : Nat} {host : String} (hz : jYok Z n) (hst : Cond.static Z.1 ∈ lw_tbl) (hl : Cond.methodLinkNest Y.1.cls index Z.1 host ∈ lw_tbl) (hdp : Z.2.2.2.2.1 + 1 ≤ Y.2.2.2.2.1) (hnl : Z.2.2.1 ≤ 29) (hd : decode Y.2.1 pc = .ok (.invokestatic index, 3)) (hn : pc + 3 = nx) : jS Y Φ pc (ji_call Z n Y.2.2.2.2.2.1 Y.2.2.2.2.2.2 nx) := by
  intro k hk lv st h a b hi
  obtain ⟨hf, hcat, hlen, Ψ, hCt, hi⟩ := jchk_ok hi
  intro p l e s m args below meth c g hc H locs ls hP hS hL
  have hK := hc.2.2.2.2.2.2.2
  obtain ⟨n1, n2⟩ := jargs (g := g) hlen
  exact jback (Z := Z) (va_runSN (Ts := []) ⟨hc.1, hc.2.1, hc.2.2.1, hc.2.2.2.1, fun _ h => by cases h⟩ (hCt l g) ⟨jcallN hz hK hl hdp hnl, hK.word hst rfl rfl, trivial⟩ ⟨jcall_blind g _ h, jpre hK hS hP _⟩ rfl n1 hL.1 n2 (lv_room (st := (st.drop n).map (jtr g)) (by rw [jcs_sum]; exact hcat)) hd hf) hc hS hn hL (fun r h' hψ => hk _ _ _ _ _ _ (hi r h' hψ))
theorem jS_icallN {Z : jY} {n index : Nat} {host : String} {nm : MethodName} {cc : ByteArray} {nL d mc ms : Nat} (e : Z = (nm, cc, nL, none, d, mc, ms)) (hz : jYok Z n) (hin : Cond.instanceMethod Z.1 ∈ lw_tbl) (hnm : Z.1.name = "<init>") (hl : Cond.methodLinkNest Y.1.cls index Z.1 host ∈ lw_tbl) (hdp : Z.2.2.2.2.1 + 1 ≤ Y.2.2.2.2.1) (hnl : Z.2.2.1 ≤ 29) (hd : decode Y.2.1 pc = .ok (.invokespecial index, 3)) (hn : pc + 3 = nx) : jS Y Φ pc (ji_icall Z n Y.2.2.2.2.2.1 Y.2.2.2.2.2.2 nx) := by
  subst e
  intro k hk lv st h a b hi
  obtain ⟨hf, hcat, hlen, hi⟩ := jchk_ok hi
  split at hi
  · rename_i r rest he
    obtain ⟨Ψ, hCt, hi⟩ := hi
    intro p l e s m args below meth c g hc H locs ls hP hS hL
    have hK := hc.2.2.2.2.2.2.2
    obtain ⟨n1, n2, n3⟩ := jargs2 (g := g) hlen he
    exact jback (Z := (nm, cc, nL, none, d, mc, ms)) (va_runIN (Ts := []) ⟨hc.1, hc.2.1, hc.2.2.1, hc.2.2.2.1, fun _ h => by cases h⟩ (hCt l g) ⟨jcallN hz hK hl hdp hnl, hnm, hK.word hin rfl rfl⟩ ⟨jcall_blind g _ h, jpre hK hS hP (.ref r :: (st.take n).reverse)⟩ rfl n1 hL.1 n2 (lv_room (st := rest.map (jtr g)) (by rw [jcs_sum]; omega)) hd hf) hc hS hn hL (fun r h' hψ => hk _ _ _ _ _ _ (hi r h' hψ))
  · exact hi.elim
theorem jS_vcallN {Z : jY} {n index ci : Nat} {host : String} (hz : jYok Z n) (hin : Cond.instanceMethod Z.1 ∈ lw_tbl) (hsel : Cond.selects Z.1.cls Z.1 Z.1 ∈ lw_tbl) (hci : (vwCl[ci]?).map (fun r => r.1) = some Z.1.cls) (hl : Cond.methodLinkNest Y.1.cls index Z.1 host ∈ lw_tbl) (hdp : Z.2.2.2.2.1 + 1 ≤ Y.2.2.2.2.1) (hnl : Z.2.2.1 ≤ 29) (hd : decode Y.2.1 pc = .ok (.invokevirtual index, 3)) (hn : pc + 3 = nx) : jS Y Φ pc (ji_vcall Z n ci Y.2.2.2.2.2.1 Y.2.2.2.2.2.2 nx) := by
  intro k hk lv st h a b hi
  obtain ⟨hf, hcat, hlen, hi⟩ := jchk_ok hi
  split at hi
  · rename_i r rest he
    obtain ⟨⟨vs, hr⟩, Ψ, hCt, hi⟩ := hi
    intro p l e s m args below meth c g hc H locs ls hP hS hL
    have hK := hc.2.2.2.2.2.2.2
    obtain ⟨n1, n2, n3⟩ := jargs2 (g := g) hlen he
    obtain ⟨q, rfl, hq⟩ := hP.obj hr
    obtain ⟨rc, hrc⟩ := hP.cl hq
    have hrv := va_recv hK.2.1 hP.2.2.2.1 hrc (jws_at hq)
    rw [hrc] at hci
    rw [show rc.1 = Z.1.cls from Option.some.inj hci] at hrv
    exact jback (Z := Z) (va_runVN (Ts := []) (C := Z.1.cls) ⟨hc.1, hc.2.1, hc.2.2.1, hc.2.2.2.1, fun _ h => by cases h⟩ (hCt l g) ⟨jcallN hz hK hl hdp hnl, hK.word hin rfl rfl, hK.word hsel rfl rfl⟩ ⟨jcall_blind g _ h, hrv, jpre hK hS hP (.ref (q + 2) :: (st.take n).reverse)⟩ rfl n1 hL.1 n2 (lv_room (st := rest.map (jtr g)) (by rw [jcs_sum]; omega)) hd hf) hc hS hn hL (fun r h' hψ => hk _ _ _ _ _ _ (hi r h' hψ))
  · exact hi.elim
theorem jrfl {g : jg} {h : List jC} {H : Heap} (hP : jP g h H) : jtr g (.ref h.length) = .ref H.size := congrArg Value.ref hP.ref
/-- a row of references is made -/
def ji_anew (C : String) (MC MS nx : Nat) : jI := fun k lv st h a b => match st with
  | .int n :: st => ∃ N, n = nI N ∧ N ≤ 100000 ∧ b + N ≤ MS ∧ cond (Nat.ble (a + 1) MC) (k nx lv (.ref h.length :: st) (h ++ [.inl (.object C, N, .inr (.inr (.inr (.inr (fun _ => none)))))]) (a + 1) (b + N)) False
  | _ => False
theorem jS_anew {index : Nat} {C : String} (hty : FieldType.object C ∈ jtys) (hl : Cond.classLink Y.1.cls index C ∈ lw_tbl) (ho : C ∈ jAO) (hd : decode Y.2.1 pc = .ok (.anewarray index, 3)) (hn : pc + 3 = nx) : jS Y Φ pc (ji_anew C Y.2.2.2.2.2.1 Y.2.2.2.2.2.2 nx) := by
  intro k hk lv st h a b hi
  unfold ji_anew at hi
  split at hi
  · obtain ⟨N, rfl, hN, hms, hi⟩ := hi
    obtain ⟨hmc, hi⟩ := jb1 hi
    intro p l e s m args below meth c g hc H locs ls hP hS hL
    subst hn
    have hK := hc.2.2.2.2.2.2.2
    have hN2 : (nI N).toNatClampNeg = N := nI_clamp (by omega)
    refine W.anew hc.1 hc.2.1 hc.2.2.2.1 (hK.word hl rfl rfl) ((hK.2.2.1.2 C ho).use) rfl hd rfl (nI_pos (by omega)) (by rw [hN2]; omega) (Nat.le_of_ble_eq_true hmc) (by rw [hN2]; exact hms) fun cA kA comp f1 f2 f3 f4 => ?_
    rw [hN2, arrV_new]
    have hcA : cA = g.2.2.2 (.object C) := Option.some.inj (f1.symm.trans (jRA_name (hK.arrOf hty).2))
    subst hcA
    obtain ⟨s1, z1, e1, o1⟩ := jpushS hS (arrV (g.2.2.2 (.object C)) N (fun _ => .null))
    have := hk _ _ _ _ _ _ hi p l e s m args below meth c g hc _ locs ls (hP.new z1 o1 e1 ⟨hty, hN⟩) s1 hL
    rw [List.map_cons, jrfl hP] at this
    exact this
  · exact hi.elim
def ji_clonei (MC MS nx : Nat) : jI := fun k lv st h a b => match st with
  | .ref r :: st => ∃ n f, h[r]? = some (.inl (.int, n, .inl f)) ∧ b + n ≤ MS ∧ cond (Nat.ble (a + 1) MC) (k nx lv (.ref h.length :: st) (h ++ [.inl (.int, n, .inl f)]) (a + 1) (b + n)) False
  | _ => False
theorem jS_clonei {index : Nat} (hl : Cond.methodLink Y.1.cls index ⟨"[" ++ FieldType.toString .int, "clone", "()Ljava/lang/Object;"⟩ ∈ lw_tbl) (hsm : Cond.sameMethod ("[" ++ FieldType.toString .int) "java/lang/Object" "clone" "()Ljava/lang/Object;" ∈ lw_tbl) (hnat : Cond.native ⟨"java/lang/Object", "clone", "()Ljava/lang/Object;"⟩ ∈ lw_tbl) (hin : Cond.instanceMethod ⟨"java/lang/Object", "clone", "()Ljava/lang/Object;"⟩ ∈ lw_tbl)
    (hsel : Cond.selects ("[" ++ FieldType.toString .int) ⟨"[" ++ FieldType.toString .int, "clone", "()Ljava/lang/Object;"⟩ ⟨"java/lang/Object", "clone", "()Ljava/lang/Object;"⟩ ∈ lw_tbl) (hcl : Cond.castable ("[" ++ FieldType.toString .int) "java/lang/Cloneable" ∈ lw_tbl) (hdp : 1 ≤ Y.2.2.2.2.1) (hcat : ∀ st : List Value, True) (hd : decode Y.2.1 pc = .ok (.invokevirtual index, 3)) (hn : pc + 3 = nx) : jS Y Φ pc (fun k lv st h a b => cond (Nat.ble (jcs st) 9) (ji_clonei Y.2.2.2.2.2.1 Y.2.2.2.2.2.2 nx k lv st h a b) False) := by
  intro k hk lv st h a b hi
  replace hi := jb1 hi
  obtain ⟨hcs, hi⟩ := hi
  replace hcs := Nat.le_of_ble_eq_true hcs
  unfold ji_clonei at hi
  split at hi
  · rename_i r st
    obtain ⟨n, f, hr, hms, hi⟩ := hi
    obtain ⟨hmc, hi⟩ := jb1 hi
    intro p l e s m args below meth c g hc H locs ls hP hS hL
    subst hn
    obtain ⟨q, rfl, hq, hty, hN⟩ := hP.row (fun z => by cases z) (fun z => by cases z) hr
    have hK := hc.2.2.2.2.2.2.2
    have hat : H[g.1.1 + q]? = some (arrV (g.2.2.2 .int) n (fun j => .int (f j))) := hP.2.2.2.1 q _ (jws_at hq)
    obtain ⟨-, kS, hkS, compS, hkindS⟩ := (hK.arrOf hty).1 0 (fun _ => .null)
    have hnm := jRA_name (hK.arrOf hty).2
    obtain ⟨c0, t0, f1, f2, f3⟩ := Cond.castable_spec (hK.word (args := args) hcl rfl rfl)
    cases hnm.symm.trans f1
    obtain ⟨s1, z1, e1, o1⟩ := jpushS hS (arrV (g.2.2.2 .int) n (fun j => .int (f j)))
    refine W.of (H' := H.push (arrV (g.2.2.2 .int) n (fun j => .int (f j)))) (locs' := locs) (cells' := a + 1) (slots' := b + n) (g2 := F0 m (pc + 3) ls (.ref H.size :: st.map (jtr g))) (fun T hT X => ?_) ?_
    · obtain ⟨-, kA, hkA, comp, hkind⟩ := State.isArrayOf_alike X.warmed.alike ((hK.arrOf hty).1 0 (fun _ => .null))
      obtain ⟨vm', X', stp⟩ := X.cloneArray hc.1 hc.2.2.2.1 (hK.word hl rfl rfl) (hK.word hsm rfl rfl) (hK.word hnat rfl rfl) (hK.word hin rfl rfl) (hK.word hsel rfl rfl) (a := g.1.1 + q) (cell := arrV (g.2.2.2 .int) n (fun j => .int (f j))) (by rw [hT]; exact hat) (fun k h => by cases h) (fun h => by cases h) hnm f2 f3
        (fun i v hv => by
          have hk' : T.vm.classes[g.2.2.2 .int]? = some kA := hkA
          have hv2 : fits .int v = true := va_fit (cA := g.2.2.2 .int) (n := n) (fun i _ => rfl) i v hv
          show T.fitsSlot (g.2.2.2 .int) .none i v = true
          simpa [State.fitsSlot, State.slotType?, hk', hkind] using hv2)
        (g := F0 m pc ls (.ref (g.1.1 + q) :: st.map (jtr g))) rfl (by rw [hc.2.2.1]; exact hL.1) rfl (by rw [hc.2.1]; exact hd) hdp (by
          show 2 * 0 + ((st.map (jtr g)).map fun v => v.category).sum + 14 ≤ 48 * Y.2.2.2.2.1
          rw [jcs_sum]
          have : jcs (Value.ref (q + 2) :: st) = 1 + jcs st := rfl
          have h9 : jcs (Value.ref (q + 2) :: st) ≤ 9 := hcs
          omega) (Nat.le_of_ble_eq_true hmc) (by rw [arrV_size]; exact hms) (hloader := Vm.clonesLoader_of_array hkS hkindS)
      rw [arrV_size] at X'
      exact ⟨(T.setVm vm').pushCell (arrV (g.2.2.2 .int) n (fun j => .int (f j))), by rw [← hT]; rfl, X', fun tg hs => stp tg (by rw [hT]; exact hs)⟩
    · have := hk _ _ _ _ _ _ hi p l e s m args below meth c g hc _ locs ls (hP.new z1 o1 e1 ⟨hty, hN⟩) s1 hL
      rw [List.map_cons, jrfl hP] at this
      exact this
  · exact hi.elim
def ji_clonef (MC MS nx : Nat) : jI := fun k lv st h a b => match st with
  | .ref r :: st => ∃ n f, h[r]? = some (.inl (.float, n, .inr (.inr (.inl f)))) ∧ b + n ≤ MS ∧ cond (Nat.ble (a + 1) MC) (k nx lv (.ref h.length :: st) (h ++ [.inl (.float, n, .inr (.inr (.inl f)))]) (a + 1) (b + n)) False
  | _ => False
theorem jS_clonef {index : Nat} (hl : Cond.methodLink Y.1.cls index ⟨"[" ++ FieldType.toString .float, "clone", "()Ljava/lang/Object;"⟩ ∈ lw_tbl) (hsm : Cond.sameMethod ("[" ++ FieldType.toString .float) "java/lang/Object" "clone" "()Ljava/lang/Object;" ∈ lw_tbl) (hnat : Cond.native ⟨"java/lang/Object", "clone", "()Ljava/lang/Object;"⟩ ∈ lw_tbl) (hin : Cond.instanceMethod ⟨"java/lang/Object", "clone", "()Ljava/lang/Object;"⟩ ∈ lw_tbl)
    (hsel : Cond.selects ("[" ++ FieldType.toString .float) ⟨"[" ++ FieldType.toString .float, "clone", "()Ljava/lang/Object;"⟩ ⟨"java/lang/Object", "clone", "()Ljava/lang/Object;"⟩ ∈ lw_tbl) (hcl : Cond.castable ("[" ++ FieldType.toString .float) "java/lang/Cloneable" ∈ lw_tbl) (hdp : 1 ≤ Y.2.2.2.2.1) (hcat : ∀ st : List Value, True) (hd : decode Y.2.1 pc = .ok (.invokevirtual index, 3)) (hn : pc + 3 = nx) : jS Y Φ pc (fun k lv st h a b => cond (Nat.ble (jcs st) 9) (ji_clonef Y.2.2.2.2.2.1 Y.2.2.2.2.2.2 nx k lv st h a b) False) := by
  intro k hk lv st h a b hi
  replace hi := jb1 hi
  obtain ⟨hcs, hi⟩ := hi
  replace hcs := Nat.le_of_ble_eq_true hcs
  unfold ji_clonef at hi
  split at hi
  · rename_i r st
    obtain ⟨n, f, hr, hms, hi⟩ := hi
    obtain ⟨hmc, hi⟩ := jb1 hi
    intro p l e s m args below meth c g hc H locs ls hP hS hL
    subst hn
    obtain ⟨q, rfl, hq, hty, hN⟩ := hP.row (fun z => by cases z) (fun z => by cases z) hr
    have hK := hc.2.2.2.2.2.2.2
    have hat : H[g.1.1 + q]? = some (arrV (g.2.2.2 .float) n (fun j => .float (f j))) := hP.2.2.2.1 q _ (jws_at hq)
    obtain ⟨-, kS, hkS, compS, hkindS⟩ := (hK.arrOf hty).1 0 (fun _ => .null)
    have hnm := jRA_name (hK.arrOf hty).2
    obtain ⟨c0, t0, f1, f2, f3⟩ := Cond.castable_spec (hK.word (args := args) hcl rfl rfl)
    cases hnm.symm.trans f1
    obtain ⟨s1, z1, e1, o1⟩ := jpushS hS (arrV (g.2.2.2 .float) n (fun j => .float (f j)))
    refine W.of (H' := H.push (arrV (g.2.2.2 .float) n (fun j => .float (f j)))) (locs' := locs) (cells' := a + 1) (slots' := b + n) (g2 := F0 m (pc + 3) ls (.ref H.size :: st.map (jtr g))) (fun T hT X => ?_) ?_
    · obtain ⟨-, kA, hkA, comp, hkind⟩ := State.isArrayOf_alike X.warmed.alike ((hK.arrOf hty).1 0 (fun _ => .null))
      obtain ⟨vm', X', stp⟩ := X.cloneArray hc.1 hc.2.2.2.1 (hK.word hl rfl rfl) (hK.word hsm rfl rfl) (hK.word hnat rfl rfl) (hK.word hin rfl rfl) (hK.word hsel rfl rfl) (a := g.1.1 + q) (cell := arrV (g.2.2.2 .float) n (fun j => .float (f j))) (by rw [hT]; exact hat) (fun k h => by cases h) (fun h => by cases h) hnm f2 f3
        (fun i v hv => by
          have hk' : T.vm.classes[g.2.2.2 .float]? = some kA := hkA
          have hv2 : fits .float v = true := va_fit (cA := g.2.2.2 .float) (n := n) (fun i _ => rfl) i v hv
          show T.fitsSlot (g.2.2.2 .float) .none i v = true
          simpa [State.fitsSlot, State.slotType?, hk', hkind] using hv2)
        (g := F0 m pc ls (.ref (g.1.1 + q) :: st.map (jtr g))) rfl (by rw [hc.2.2.1]; exact hL.1) rfl (by rw [hc.2.1]; exact hd) hdp (by
          show 2 * 0 + ((st.map (jtr g)).map fun v => v.category).sum + 14 ≤ 48 * Y.2.2.2.2.1
          rw [jcs_sum]
          have : jcs (Value.ref (q + 2) :: st) = 1 + jcs st := rfl
          have h9 : jcs (Value.ref (q + 2) :: st) ≤ 9 := hcs
          omega) (Nat.le_of_ble_eq_true hmc) (by rw [arrV_size]; exact hms) (hloader := Vm.clonesLoader_of_array hkS hkindS)
      rw [arrV_size] at X'
      exact ⟨(T.setVm vm').pushCell (arrV (g.2.2.2 .float) n (fun j => .float (f j))), by rw [← hT]; rfl, X', fun tg hs => stp tg (by rw [hT]; exact hs)⟩
    · have := hk _ _ _ _ _ _ hi p l e s m args below meth c g hc _ locs ls (hP.new z1 o1 e1 ⟨hty, hN⟩) s1 hL
      rw [List.map_cons, jrfl hP] at this
      exact this
  · exact hi.elim
def ji_cloneq (C : String) (MC MS nx : Nat) : jI := fun k lv st h a b => match st with
  | .ref r :: st => ∃ n f, h[r]? = some (.inl (.object C, n, .inr (.inr (.inr (.inr f))))) ∧ b + n ≤ MS ∧ cond (Nat.ble (a + 1) MC) (k nx lv (.ref h.length :: st) (h ++ [.inl (.object C, n, .inr (.inr (.inr (.inr f))))]) (a + 1) (b + n)) False
  | _ => False
theorem jS_cloneq {C : String} (hC : C ≠ "java/lang/Object") {index : Nat} (hl : Cond.methodLink Y.1.cls index ⟨"[" ++ FieldType.toString (.object C), "clone", "()Ljava/lang/Object;"⟩ ∈ lw_tbl) (hsm : Cond.sameMethod ("[" ++ FieldType.toString (.object C)) "java/lang/Object" "clone" "()Ljava/lang/Object;" ∈ lw_tbl) (hnat : Cond.native ⟨"java/lang/Object", "clone", "()Ljava/lang/Object;"⟩ ∈ lw_tbl) (hin : Cond.instanceMethod ⟨"java/lang/Object", "clone", "()Ljava/lang/Object;"⟩ ∈ lw_tbl)
    (hsel : Cond.selects ("[" ++ FieldType.toString (.object C)) ⟨"[" ++ FieldType.toString (.object C), "clone", "()Ljava/lang/Object;"⟩ ⟨"java/lang/Object", "clone", "()Ljava/lang/Object;"⟩ ∈ lw_tbl) (hcl : Cond.castable ("[" ++ FieldType.toString (.object C)) "java/lang/Cloneable" ∈ lw_tbl) (hdp : 1 ≤ Y.2.2.2.2.1) (hcat : ∀ st : List Value, True) (hd : decode Y.2.1 pc = .ok (.invokevirtual index, 3)) (hn : pc + 3 = nx) : jS Y Φ pc (fun k lv st h a b => cond (Nat.ble (jcs st) 9) (ji_cloneq C Y.2.2.2.2.2.1 Y.2.2.2.2.2.2 nx k lv st h a b) False) := by
  intro k hk lv st h a b hi
  replace hi := jb1 hi
  obtain ⟨hcs, hi⟩ := hi
  replace hcs := Nat.le_of_ble_eq_true hcs
  unfold ji_cloneq at hi
  split at hi
  · rename_i r st
    obtain ⟨n, f, hr, hms, hi⟩ := hi
    obtain ⟨hmc, hi⟩ := jb1 hi
    intro p l e s m args below meth c g hc H locs ls hP hS hL
    subst hn
    obtain ⟨q, rfl, hq, hty, hN⟩ := hP.row (fun z => by cases z; exact hC rfl) (fun z => by cases z) hr
    have hK := hc.2.2.2.2.2.2.2
    have hat : H[g.1.1 + q]? = some (arrV (g.2.2.2 (.object C)) n (fun j => va_rf ((f j).map (jad g)))) := hP.2.2.2.1 q _ (jws_at hq)
    obtain ⟨-, kS, hkS, compS, hkindS⟩ := (hK.arrOf hty).1 0 (fun _ => .null)
    have hnm := jRA_name (hK.arrOf hty).2
    obtain ⟨c0, t0, f1, f2, f3⟩ := Cond.castable_spec (hK.word (args := args) hcl rfl rfl)
    cases hnm.symm.trans f1
    obtain ⟨s1, z1, e1, o1⟩ := jpushS hS (arrV (g.2.2.2 (.object C)) n (fun j => va_rf ((f j).map (jad g))))
    refine W.of (H' := H.push (arrV (g.2.2.2 (.object C)) n (fun j => va_rf ((f j).map (jad g))))) (locs' := locs) (cells' := a + 1) (slots' := b + n) (g2 := F0 m (pc + 3) ls (.ref H.size :: st.map (jtr g))) (fun T hT X => ?_) ?_
    · obtain ⟨-, kA, hkA, comp, hkind⟩ := State.isArrayOf_alike X.warmed.alike ((hK.arrOf hty).1 0 (fun _ => .null))
      obtain ⟨vm', X', stp⟩ := X.cloneArray hc.1 hc.2.2.2.1 (hK.word hl rfl rfl) (hK.word hsm rfl rfl) (hK.word hnat rfl rfl) (hK.word hin rfl rfl) (hK.word hsel rfl rfl) (a := g.1.1 + q) (cell := arrV (g.2.2.2 (.object C)) n (fun j => va_rf ((f j).map (jad g)))) (by rw [hT]; exact hat) (fun k h => by cases h) (fun h => by cases h) hnm f2 f3
        (fun i v hv => by
          have hk' : T.vm.classes[g.2.2.2 (.object C)]? = some kA := hkA
          have hv2 : fits (.object C) v = true := va_fit (cA := g.2.2.2 (.object C)) (n := n) (fun i _ => by cases f i <;> rfl) i v hv
          show T.fitsSlot (g.2.2.2 (.object C)) .none i v = true
          simpa [State.fitsSlot, State.slotType?, hk', hkind] using hv2)
        (g := F0 m pc ls (.ref (g.1.1 + q) :: st.map (jtr g))) rfl (by rw [hc.2.2.1]; exact hL.1) rfl (by rw [hc.2.1]; exact hd) hdp (by
          show 2 * 0 + ((st.map (jtr g)).map fun v => v.category).sum + 14 ≤ 48 * Y.2.2.2.2.1
          rw [jcs_sum]
          have : jcs (Value.ref (q + 2) :: st) = 1 + jcs st := rfl
          have h9 : jcs (Value.ref (q + 2) :: st) ≤ 9 := hcs
          omega) (Nat.le_of_ble_eq_true hmc) (by rw [arrV_size]; exact hms) (hloader := Vm.clonesLoader_of_array hkS hkindS)
      rw [arrV_size] at X'
      exact ⟨(T.setVm vm').pushCell (arrV (g.2.2.2 (.object C)) n (fun j => va_rf ((f j).map (jad g)))), by rw [← hT]; rfl, X', fun tg hs => stp tg (by rw [hT]; exact hs)⟩
    · have := hk _ _ _ _ _ _ hi p l e s m args below meth c g hc _ locs ls (hP.new z1 o1 e1 ⟨hty, hN⟩) s1 hL
      rw [List.map_cons, jrfl hP] at this
      exact this
  · exact hi.elim
def ji_copyi (nx : Nat) : jI := fun k lv st h a b => match st with
  | .int n' :: .int dp' :: .ref r1 :: .int sp' :: .ref r0 :: st => ∃ n0 f n1 f1 sp dp n, h[r0]? = some (.inl (.int, n0, .inl f)) ∧ h[r1]? = some (.inl (.int, n1, .inl f1)) ∧ n' = nI n ∧ dp' = nI dp ∧ sp' = nI sp ∧ sp + n ≤ n0 ∧ dp + n ≤ n1 ∧ Nat.le (jcs st) 4 ∧ k nx lv st (h.set r1 (.inl (.int, n1, .inl (va_cpy f f1 sp dp n)))) a b
  | _ => False
theorem jS_copyi {index : Nat} (hl : Cond.methodLink Y.1.cls index arraycopyName ∈ lw_tbl) (hnat : Cond.native arraycopyName ∈ lw_tbl) (hst : Cond.static arraycopyName ∈ lw_tbl) (hini : Cond.initialized "java/lang/System" ∈ lw_tbl) (hdp : 1 ≤ Y.2.2.2.2.1) (hd : decode Y.2.1 pc = .ok (.invokestatic index, 3)) (hn : pc + 3 = nx) : jS Y Φ pc (ji_copyi nx) := by
  intro k hk lv st h a b hi
  unfold ji_copyi at hi
  split at hi
  · rename_i r1 _ r0 st
    obtain ⟨n0, f, n1, f1, sp, dp, n, hr0, hr1, rfl, rfl, rfl, hb0, hb1, hcs, hi⟩ := hi
    intro p l e s m args below meth c g hc H locs ls hP hS hL
    subst hn
    obtain ⟨q0, rfl, hq0, hty, hN0⟩ := hP.row (fun z => by cases z) (fun z => by cases z) hr0
    obtain ⟨q1, rfl, hq1, -, hN1⟩ := hP.row (fun z => by cases z) (fun z => by cases z) hr1
    have hK := hc.2.2.2.2.2.2.2
    have hat0 : H[g.1.1 + q0]? = some (arrV (g.2.2.2 .int) n0 (fun j => .int (f j))) := hP.2.2.2.1 q0 _ (jws_at hq0)
    have hat1 : H[g.1.1 + q1]? = some (arrV (g.2.2.2 .int) n1 (fun j => .int (f1 j))) := hP.2.2.2.1 q1 _ (jws_at hq1)
    obtain ⟨-, k0, hk0, cm0, hkk0⟩ := (hK.arrOf hty).1 n0 (fun _ => .null)
    have en : (nI n).toNatClampNeg = n := nI_clamp (by omega)
    have es : (nI sp).toNatClampNeg = sp := nI_clamp (by omega)
    have ed : (nI dp).toNatClampNeg = dp := nI_clamp (by omega)
    have ecp : copied (arrV (g.2.2.2 .int) n0 (fun j => .int (f j))) (arrV (g.2.2.2 .int) n1 (fun j => .int (f1 j))) (nI sp) (nI dp) (nI n) = arrV (g.2.2.2 .int) n1 (fun j => .int ((va_cpy f f1 sp dp n) j)) := by
      have := va_copied Value.int (g.2.2.2 .int) (g.2.2.2 .int) (n1 := n1) (dp := dp) f f1 hb0
      unfold copied
      rw [en, es, ed]
      rw [this]
      done
    have hl1 : g.1.1 + q1 < H.size := (Array.getElem?_eq_some_iff.mp hat1).1
    refine W.of (H' := H.setIfInBounds (g.1.1 + q1) (arrV (g.2.2.2 .int) n1 (fun j => .int ((va_cpy f f1 sp dp n) j)))) (locs' := locs ++ ((arrV (g.2.2.2 .int) n0 (fun j => .int (f j)) : Cell).stretch sp n).zipIdx.map fun q => ⟨g.1.1 + q1, dp + q.2⟩) (cells' := a) (slots' := b) (g2 := F0 m (pc + 3) ls (st.map (jtr g))) (fun T hT X => ?_) ?_
    · obtain ⟨vm', X', stp⟩ := X.arraycopy hc.1 hc.2.2.2.1 (hK.word hl rfl rfl) (hK.word hnat rfl rfl) (hK.word hst rfl rfl) (hK.word hini rfl rfl) (src := g.1.1 + q0) (dst := g.1.1 + q1) (cs := arrV (g.2.2.2 .int) n0 (fun j => .int (f j))) (cd := arrV (g.2.2.2 .int) n1 (fun j => .int (f1 j))) (srcPos := nI sp) (destPos := nI dp) (n := nI n) (by rw [hT]; exact hat0) (by rw [hT]; exact hat1) (fun _ h => by cases h) (fun _ h => by cases h) (fun h => by cases h) (fun h => by cases h) hk0 hk0 hkk0 hkk0 (by simp) (nI_pos (by omega)) (nI_pos (by omega)) (nI_pos (by omega))
        (by rw [arrV_size, nI_toInt (by omega), nI_toInt (by omega)]; omega) (by rw [arrV_size, nI_toInt (by omega), nI_toInt (by omega)]; omega)
        (fun vm₁ hvm i hi => by
          rw [en] at hi
          rw [es]
          have eg : (arrV (g.2.2.2 .int) n0 (fun j => .int (f j)) : Cell).slots.getD (sp + i) .null = .int (f (sp + i)) := by
            rw [Array.getD_eq_getD_getElem?, arrV_read _ _ (by omega)]; rfl
          rw [eg]
          exact ⟨rfl, trivial⟩)
        (g := F0 m pc ls (.int (nI n) :: .int (nI dp) :: .ref (g.1.1 + q1) :: .int (nI sp) :: .ref (g.1.1 + q0) :: st.map (jtr g))) rfl (by rw [hc.2.2.1]; exact hL.1) (rest := st.map (jtr g)) rfl (by rw [hc.2.1]; exact hd) hdp (by
          have hw : nativeFrameWords "java/lang/System" "arraycopy" 5 ≤ 20 := by decide
          show 2 * 0 + ((st.map (jtr g)).map fun v => v.category).sum + _ ≤ 48 * Y.2.2.2.2.1
          rw [jcs_sum]
          have h9 : jcs st ≤ 4 := hcs
          omega)
      rw [ecp, en, es, ed] at X'
      rw [ecp] at stp
      exact ⟨_, by rw [← hT]; rfl, X', stp⟩
    · have oq : ∀ q : Nat, q ≠ g.1.1 + q1 → (H.setIfInBounds (g.1.1 + q1) (arrV (g.2.2.2 .int) n1 (fun j => .int ((va_cpy f f1 sp dp n) j))))[q]? = H[q]? := fun q hq => by simp [Array.getElem?_setIfInBounds, Ne.symm hq]
      refine hk _ _ _ _ _ _ hi p l e s m args below meth c g hc _ _ ls (hP.upd hq1 (by simp) oq (show (H.setIfInBounds (g.1.1 + q1) _)[g.1.1 + q1]? = some _ by simp [Array.getElem?_setIfInBounds, hl1]; rfl) ⟨hty, hN1⟩) ⟨by simp; exact hS.1, fun q g1 g2 => by rw [oq q (fun e => g2 (by rw [e]; exact Nat.le_add_right _ _))]; exact hS.2.1 q g1 g2, fun q hq => ?_⟩ hL
      rcases List.mem_append.mp hq with h | h
      · exact hS.2.2 q h
      · obtain ⟨z, -, hz⟩ := List.mem_map.mp h
        rw [← hz]
        exact Nat.le_add_right _ _
  · exact hi.elim
def ji_copyo (nx : Nat) : jI := fun k lv st h a b => match st with
  | .int n' :: .int dp' :: .ref r1 :: .int sp' :: .ref r0 :: st => ∃ n0 f n1 f1 sp dp n, h[r0]? = some (.inl (.object "java/lang/Object", n0, .inr (.inr (.inr (.inr f))))) ∧ h[r1]? = some (.inl (.object "java/lang/Object", n1, .inr (.inr (.inr (.inr f1))))) ∧ 0 < n0 ∧ 0 < n1 ∧ n' = nI n ∧ dp' = nI dp ∧ sp' = nI sp ∧ sp + n ≤ n0 ∧ dp + n ≤ n1 ∧ (∀ i, i < n → ∀ y, f (sp + i) = some y → ∃ ci vs, h[y]? = some (.inr (ci, vs)) ∧ jcst ci "java/lang/Object" = true) ∧ Nat.le (jcs st) 4 ∧ k nx lv st (h.set r1 (.inl (.object "java/lang/Object", n1, .inr (.inr (.inr (.inr (va_cpy f f1 sp dp n))))))) a b
  | _ => False
theorem jS_copyo {index : Nat} (hl : Cond.methodLink Y.1.cls index arraycopyName ∈ lw_tbl) (hnat : Cond.native arraycopyName ∈ lw_tbl) (hst : Cond.static arraycopyName ∈ lw_tbl) (hini : Cond.initialized "java/lang/System" ∈ lw_tbl) (hdp : 1 ≤ Y.2.2.2.2.1) (hd : decode Y.2.1 pc = .ok (.invokestatic index, 3)) (hn : pc + 3 = nx) : jS Y Φ pc (ji_copyo nx) := by
  intro k hk lv st h a b hi
  unfold ji_copyo at hi
  split at hi
  · rename_i r1 _ r0 st
    obtain ⟨n0, f, n1, f1, sp, dp, n, hr0, hr1, hp0, hp1, rfl, rfl, rfl, hb0, hb1, hel, hcs, hi⟩ := hi
    intro p l e s m args below meth c g hc H locs ls hP hS hL
    subst hn
    obtain ⟨q0, rfl, hq0, hty, hN0⟩ := hP.arr (by omega) (fun z => by cases z) hr0
    obtain ⟨q1, rfl, hq1, -, hN1⟩ := hP.arr (by omega) (fun z => by cases z) hr1
    have hK := hc.2.2.2.2.2.2.2
    have hat0 : H[g.1.1 + q0]? = some (arrV (g.2.2.2 (.object "java/lang/Object")) n0 (fun j => va_rf ((f j).map (jad g)))) := hP.2.2.2.1 q0 _ (jws_at hq0)
    have hat1 : H[g.1.1 + q1]? = some (arrV (g.2.2.2 (.object "java/lang/Object")) n1 (fun j => va_rf ((f1 j).map (jad g)))) := hP.2.2.2.1 q1 _ (jws_at hq1)
    obtain ⟨-, k0, hk0, cm0, hkk0⟩ := (hK.arrOf hty).1 n0 (fun _ => .null)
    have en : (nI n).toNatClampNeg = n := nI_clamp (by omega)
    have es : (nI sp).toNatClampNeg = sp := nI_clamp (by omega)
    have ed : (nI dp).toNatClampNeg = dp := nI_clamp (by omega)
    have ecp : copied (arrV (g.2.2.2 (.object "java/lang/Object")) n0 (fun j => va_rf ((f j).map (jad g)))) (arrV (g.2.2.2 (.object "java/lang/Object")) n1 (fun j => va_rf ((f1 j).map (jad g)))) (nI sp) (nI dp) (nI n) = arrV (g.2.2.2 (.object "java/lang/Object")) n1 (fun j => va_rf (((va_cpy f f1 sp dp n) j).map (jad g))) := by
      have := va_copied (fun x => va_rf x) (g.2.2.2 (.object "java/lang/Object")) (g.2.2.2 (.object "java/lang/Object")) (n1 := n1) (dp := dp) (fun j => (f j).map (jad g)) (fun j => (f1 j).map (jad g)) hb0
      unfold copied
      rw [en, es, ed]
      rw [this]
      congr 1; funext j; simp only [va_cpy]; split <;> rfl
    have hl1 : g.1.1 + q1 < H.size := (Array.getElem?_eq_some_iff.mp hat1).1
    refine W.of (H' := H.setIfInBounds (g.1.1 + q1) (arrV (g.2.2.2 (.object "java/lang/Object")) n1 (fun j => va_rf (((va_cpy f f1 sp dp n) j).map (jad g))))) (locs' := locs ++ ((arrV (g.2.2.2 (.object "java/lang/Object")) n0 (fun j => va_rf ((f j).map (jad g))) : Cell).stretch sp n).zipIdx.map fun q => ⟨g.1.1 + q1, dp + q.2⟩) (cells' := a) (slots' := b) (g2 := F0 m (pc + 3) ls (st.map (jtr g))) (fun T hT X => ?_) ?_
    · obtain ⟨vm', X', stp⟩ := X.arraycopy hc.1 hc.2.2.2.1 (hK.word hl rfl rfl) (hK.word hnat rfl rfl) (hK.word hst rfl rfl) (hK.word hini rfl rfl) (src := g.1.1 + q0) (dst := g.1.1 + q1) (cs := arrV (g.2.2.2 (.object "java/lang/Object")) n0 (fun j => va_rf ((f j).map (jad g)))) (cd := arrV (g.2.2.2 (.object "java/lang/Object")) n1 (fun j => va_rf ((f1 j).map (jad g)))) (srcPos := nI sp) (destPos := nI dp) (n := nI n) (by rw [hT]; exact hat0) (by rw [hT]; exact hat1) (fun _ h => by cases h) (fun _ h => by cases h) (fun h => by cases h) (fun h => by cases h) hk0 hk0 hkk0 hkk0 (by simp) (nI_pos (by omega)) (nI_pos (by omega)) (nI_pos (by omega))
        (by rw [arrV_size, nI_toInt (by omega), nI_toInt (by omega)]; omega) (by rw [arrV_size, nI_toInt (by omega), nI_toInt (by omega)]; omega)
        (fun vm₁ hvm i hi => by
          rw [en] at hi
          rw [es]
          have eg : (arrV (g.2.2.2 (.object "java/lang/Object")) n0 (fun j => va_rf ((f j).map (jad g))) : Cell).slots.getD (sp + i) .null = va_rf ((f (sp + i)).map (jad g)) := by
            rw [Array.getD_eq_getD_getElem?, arrV_read _ _ (by omega)]; rfl
          rw [eg]
          refine ⟨by cases f (sp + i) <;> rfl, ?_⟩
          cases hfy : f (sp + i) with
          | none => trivial
          | some y =>
            obtain ⟨ci, vs, hy, hcs⟩ := hel i hi y hfy
            obtain ⟨qy, rfl, hqy⟩ := hP.obj hy
            obtain ⟨rc, hrc⟩ := hP.cl hqy
            obtain ⟨cell, c1, c2, c3⟩ := va_recv hK.2.1 hP.2.2.2.1 hrc (jws_at hqy)
            obtain ⟨kC, hkC, -⟩ := Vm.findClass_spec c3
            obtain ⟨kA, comp, r1, r2, r3, -⟩ := (hK.arrOf hty).2
            cases hk0.symm.trans r1
            cases hkk0.symm.trans r2
            obtain ⟨kE, hkE, -⟩ := Vm.findClass_spec r3
            obtain ⟨kC', hkC', -⟩ := hvm.2.2 _ _ hkC
            obtain ⟨kE', hkE', -⟩ := hvm.2.2 _ _ hkE
            have hasg : s.vm.assignable cell.cls cm0 = true := by
              rcases jcst_ok hK hcs hrc with e | e
              · rw [e] at c3
                cases c3.symm.trans r3
                exact va_asg _ _
              · obtain ⟨c0, t0, f1, f2, f3⟩ := Cond.castable_spec (va_Nw.use (A := args) rfl e)
                cases c3.symm.trans f1
                cases r3.symm.trans f2
                exact f3
            refine ⟨cell, (show T.heap[g.1.1 + qy]? = some cell by rw [hT]; exact c1), (fun q h => by rw [h] at c2; cases c2), ⟨kC', hkC'⟩, ⟨kE', hkE'⟩, ?_⟩
            show vm₁.assignable _ _ = true
            rw [hvm.assignable]
            exact hasg)
        (g := F0 m pc ls (.int (nI n) :: .int (nI dp) :: .ref (g.1.1 + q1) :: .int (nI sp) :: .ref (g.1.1 + q0) :: st.map (jtr g))) rfl (by rw [hc.2.2.1]; exact hL.1) (rest := st.map (jtr g)) rfl (by rw [hc.2.1]; exact hd) hdp (by
          have hw : nativeFrameWords "java/lang/System" "arraycopy" 5 ≤ 20 := by decide
          show 2 * 0 + ((st.map (jtr g)).map fun v => v.category).sum + _ ≤ 48 * Y.2.2.2.2.1
          rw [jcs_sum]
          have h9 : jcs st ≤ 4 := hcs
          omega)
      rw [ecp, en, es, ed] at X'
      rw [ecp] at stp
      exact ⟨_, by rw [← hT]; rfl, X', stp⟩
    · have oq : ∀ q : Nat, q ≠ g.1.1 + q1 → (H.setIfInBounds (g.1.1 + q1) (arrV (g.2.2.2 (.object "java/lang/Object")) n1 (fun j => va_rf (((va_cpy f f1 sp dp n) j).map (jad g)))))[q]? = H[q]? := fun q hq => by simp [Array.getElem?_setIfInBounds, Ne.symm hq]
      refine hk _ _ _ _ _ _ hi p l e s m args below meth c g hc _ _ ls (hP.upd hq1 (by simp) oq (show (H.setIfInBounds (g.1.1 + q1) _)[g.1.1 + q1]? = some _ by simp [Array.getElem?_setIfInBounds, hl1]; rfl) ⟨hty, hN1⟩) ⟨by simp; exact hS.1, fun q g1 g2 => by rw [oq q (fun e => g2 (by rw [e]; exact Nat.le_add_right _ _))]; exact hS.2.1 q g1 g2, fun q hq => ?_⟩ hL
      rcases List.mem_append.mp hq with h | h
      · exact hS.2.2 q h
      · obtain ⟨z, -, hz⟩ := List.mem_map.mp h
        rw [← hz]
        exact Nat.le_add_right _ _
  · exact hi.elim
def ji_f2bits (nx : Nat) : jI := fun k lv st h a b => match st with
  | .float x :: st => Nat.le (jcs st) 8 ∧ k nx lv (.int x.toInt32 :: st) h a b
  | _ => False
theorem jS_f2bits {index : Nat} (hl : Cond.methodLink Y.1.cls index ⟨"java/lang/Float", "floatToRawIntBits", "(F)I"⟩ ∈ lw_tbl) (hnat : Cond.native ⟨"java/lang/Float", "floatToRawIntBits", "(F)I"⟩ ∈ lw_tbl) (hst : Cond.static ⟨"java/lang/Float", "floatToRawIntBits", "(F)I"⟩ ∈ lw_tbl) (hini : Cond.initialized "java/lang/Float" ∈ lw_tbl) (hdp : 1 ≤ Y.2.2.2.2.1) (hd : decode Y.2.1 pc = .ok (.invokestatic index, 3)) (hn : pc + 3 = nx) : jS Y Φ pc (ji_f2bits nx) := by
  intro k hk lv st h a b hi
  unfold ji_f2bits at hi
  split at hi
  · obtain ⟨hcs, hi⟩ := hi
    intro p l e s m args below meth c g hc H locs ls hP hS hL
    subst hn
    have hK := hc.2.2.2.2.2.2.2
    exact vn_f2i hc.1 hc.2.1 (hc.2.2.1.trans hL.1.symm) hc.2.2.2.1 (hK.word hl rfl rfl) (hK.word hnat rfl rfl) (hK.word hst rfl rfl) (hK.word hini rfl rfl) hdp (by rw [jcs_sum]; show _ ≤ 48 * Y.2.2.2.2.1; have h9 : jcs _ ≤ 8 := hcs; omega) hd (hk _ _ _ _ _ _ hi p l e s m args below meth c g hc H locs ls hP hS hL)
  · exact hi.elim
def ji_bits2f (nx : Nat) : jI := fun k lv st h a b => match st with
  | .int x :: st => Nat.le (jcs st) 8 ∧ vn_sni2f x = false ∧ k nx lv (.float x.toUInt32 :: st) h a b
  | _ => False
theorem jS_bits2f {index : Nat} (hl : Cond.methodLink Y.1.cls index ⟨"java/lang/Float", "intBitsToFloat", "(I)F"⟩ ∈ lw_tbl) (hnat : Cond.native ⟨"java/lang/Float", "intBitsToFloat", "(I)F"⟩ ∈ lw_tbl) (hst : Cond.static ⟨"java/lang/Float", "intBitsToFloat", "(I)F"⟩ ∈ lw_tbl) (hini : Cond.initialized "java/lang/Float" ∈ lw_tbl) (hdp : 1 ≤ Y.2.2.2.2.1) (hd : decode Y.2.1 pc = .ok (.invokestatic index, 3)) (hn : pc + 3 = nx) : jS Y Φ pc (ji_bits2f nx) := by
  intro k hk lv st h a b hi
  unfold ji_bits2f at hi
  split at hi
  · obtain ⟨hcs, hv, hi⟩ := hi
    intro p l e s m args below meth c g hc H locs ls hP hS hL
    subst hn
    have hK := hc.2.2.2.2.2.2.2
    exact vn_i2f hc.1 hc.2.1 (hc.2.2.1.trans hL.1.symm) hc.2.2.2.1 (hK.word hl rfl rfl) (hK.word hnat rfl rfl) (hK.word hst rfl rfl) (hK.word hini rfl rfl) hv hdp (by rw [jcs_sum]; show _ ≤ 48 * Y.2.2.2.2.1; have h9 : jcs _ ≤ 8 := hcs; omega) hd (hk _ _ _ _ _ _ hi p l e s m args below meth c g hc H locs ls hP hS hL)
  · exact hi.elim
def ji_d2bits (nx : Nat) : jI := fun k lv st h a b => match st with
  | .double x :: st => Nat.le (jcs st) 8 ∧ k nx lv (.long x.toInt64 :: st) h a b
  | _ => False
theorem jS_d2bits {index : Nat} (hl : Cond.methodLink Y.1.cls index ⟨"java/lang/Double", "doubleToRawLongBits", "(D)J"⟩ ∈ lw_tbl) (hnat : Cond.native ⟨"java/lang/Double", "doubleToRawLongBits", "(D)J"⟩ ∈ lw_tbl) (hst : Cond.static ⟨"java/lang/Double", "doubleToRawLongBits", "(D)J"⟩ ∈ lw_tbl) (hini : Cond.initialized "java/lang/Double" ∈ lw_tbl) (hdp : 1 ≤ Y.2.2.2.2.1) (hd : decode Y.2.1 pc = .ok (.invokestatic index, 3)) (hn : pc + 3 = nx) : jS Y Φ pc (ji_d2bits nx) := by
  intro k hk lv st h a b hi
  unfold ji_d2bits at hi
  split at hi
  · obtain ⟨hcs, hi⟩ := hi
    intro p l e s m args below meth c g hc H locs ls hP hS hL
    subst hn
    have hK := hc.2.2.2.2.2.2.2
    exact vn_d2l hc.1 hc.2.1 (hc.2.2.1.trans hL.1.symm) hc.2.2.2.1 (hK.word hl rfl rfl) (hK.word hnat rfl rfl) (hK.word hst rfl rfl) (hK.word hini rfl rfl) hdp (by rw [jcs_sum]; show _ ≤ 48 * Y.2.2.2.2.1; have h9 : jcs _ ≤ 8 := hcs; omega) hd (hk _ _ _ _ _ _ hi p l e s m args below meth c g hc H locs ls hP hS hL)
  · exact hi.elim
def ji_objinit (nx : Nat) : jI := fun k lv st h a b => match st with
  | .ref _ :: st => cond (Nat.ble (jcs st) 8) (k nx lv st h a b) False
  | _ => False
theorem jS_objinit {index : Nat} (hl : Cond.methodLink Y.1.cls index objectInit ∈ lw_tbl) (hin : Cond.instanceMethod objectInit ∈ lw_tbl) (hcode : Cond.code objectInit ⟨#[0xb1]⟩ 1 none ∈ lw_tbl) (hdp : 1 ≤ Y.2.2.2.2.1) (hd : decode Y.2.1 pc = .ok (.invokespecial index, 3)) (hn : pc + 3 = nx) : jS Y Φ pc (ji_objinit nx) := by
  intro k hk lv st h a b hi
  unfold ji_objinit at hi
  split at hi
  · obtain ⟨hcs, hi⟩ := jb1 hi
    intro p l e s m args below meth c g hc H locs ls hP hS hL
    subst hn
    have hK := hc.2.2.2.2.2.2.2
    have h9 := Nat.le_of_ble_eq_true hcs
    refine W.objInit hc.1 hc.2.1 hc.2.2.2.1 (hK.word hl rfl rfl) (hK.word hin rfl rfl) (hK.word hcode rfl rfl) rfl (by rw [hc.2.2.1]; exact hL.1) rfl hd hdp ?_ (hk _ _ _ _ _ _ hi p l e s m args below meth c g hc H locs ls hP hS hL)
    show 2 * 0 + _ + 12 ≤ 48 * Y.2.2.2.2.1
    rw [jcs_sum]
    omega
  · exact hi.elim
end jsound
