/-! Math.abs(float): the machine runs its own entry for it -/
section
variable {p : Program} {l : Launch} {e : Env} {R : Room} {s : State} {m : MethodId} {args : Array Value} {below : List Frame} {meth : Method} {c : Code} {H : Heap} {locs : List Loc} {cells slots : Nat} {Q : State → Prop}
variable {cc : ByteArray} {pc : Nat} {ls : Array Slot} {rest : List Value}
theorem vm_absf0 {T : State} (X : Stand p l e R s m args below meth c T locs cells slots) (hexec : p.tables.exec = Jvm.exec) {own : String} {index : Nat} (hown : s.vm.findClass own = some m.cls) (hlink : (Cond.methodLink own index yJ9_abs_f6c48).before args s = true) (hstat : (Cond.static yJ9_abs_f6c48).before args s = true) (hinit : (Cond.initialized "java/lang/Math").before args s = true) (hcode : (Cond.code yJ9_abs_f6c48 cJ9_abs_f6c48 1 (some .float)).before args s = true)
    {g : JFrame} (hg : g.method = m) (hsize : g.locals.size = c.maxLocals) {rest : List Value} {b : UInt32} (hb : b &&& 0x7fffffff ≤ 0x7f800000) (hstack : g.stack = .float b :: rest) (hdg : decode c.code g.pc = .ok (.invokestatic index, 3)) (hframes : 1 ≤ R.frames) (hlocals : 2 * g.monitorRoom + (rest.map fun v => v.category).sum + 12 ≤ R.locals) (hc : cells ≤ R.cells) (hs : slots ≤ R.slots) :
    ∃ vm', Stand p l e R s m args below meth c (T.setVm vm') locs cells slots ∧ ∀ target, Steps p.tables e below ((T.setVm vm').setTop { g with pc := g.pc + 3, stack := .float (b &&& 0x7fffffff) :: rest }) target → Steps p.tables e below (T.setTop g) target := by
  obtain ⟨mk, hnS⟩ : ∃ mk, s.methodNamed? yJ9_abs_f6c48 = some mk := by
    cases h : s.methodNamed? yJ9_abs_f6c48 with
    | none => simp [Cond.before, Cond.holds, Cond.value, h] at hcode
    | some mk => exact ⟨mk, rfl⟩
  obtain ⟨methM, cM, hmethM, hcodeM, hbytesM, hlocalsM, hretM, hlocksM, hexM, hsigM⟩ := Cond.code_spec hnS hcode
  obtain ⟨kS, hkS, hkname⟩ := className_of_methodNamed hnS
  obtain ⟨hmnM, hmdM⟩ := name_of_methodNamed hnS hmethM
  have hstatM := Cond.static_spec hnS hmethM hstat
  have hinitS : kS.init = .initialized := Cond.initialized_spec (findClass_of_methodNamed hnS) hkS hinit
  have hsig2 : parseMethodDescriptor "(F)F" = some { parameters := [.float], returnType := some .float } := by decide +kernel
  have hps : methM.sig.parameters = [.float] := by
    have h3 : parseMethodDescriptor "(F)F" = some methM.sig := hsigM
    rw [hsig2] at h3
    rw [← Option.some.inj h3]
  obtain ⟨vm', X', step⟩ := X.invokestatic hexec hown hlink hnS hmethM hstatM hkS hinitS (by decide) hg (argsL := [.float b]) (rest := rest) (by rw [hps]; rfl) hstack hdg
  refine ⟨vm', X', fun target hrest => step target fun acts => ?_⟩
  subst hg
  have hn' : (T.setVm vm').methodNamed? yJ9_abs_f6c48 = some mk := (State.methodNamed?_setVm (s := s) X'.warmed.alike _).trans hnS
  have hcodeU : (Cond.code yJ9_abs_f6c48 cJ9_abs_f6c48 1 (some .float)).before args (T.setVm vm') = true := Cond.tabsOnly_warm (args' := args) (T := T.setVm vm') X'.warmed _ rfl hcode
  obtain ⟨methP, cP, hmethP, hcodeP, -, hlocalsP, -, hlocksP, -, hsigP⟩ := Cond.code_spec hn' hcodeU
  obtain ⟨kP, hkP, hknP⟩ := className_of_methodNamed hn'
  obtain ⟨hmnP, hmdP⟩ := name_of_methodNamed hn' hmethP
  have hkP' : vm'.classes[mk.cls]? = some kP := hkP
  have hxP : kP.methods[mk.idx]? = some methP := by simpa [Vm.method?, hkP'] using hmethP
  have hbootP : kP.loader = none := Vm.bootOf_findClass (findClass_of_methodNamed hn') hkP
  exact Free.Fl.Abs.Steps.absF p (g := { g with stack := rest }) (ig := .invokestatic index) (len := 3) X'.here.top X'.here.above X'.here.running X'.here.runnable X'.here.alone X'.here.code acts hkP hxP hbootP hknP hmnP hmdP hsigP hcodeP hlocalsP hlocksP
    (X'.room_calling (g := { g with stack := rest }) hsize hmethP hcodeP (R' := {}) (by show 0 + 1 ≤ R.frames; omega) (by rw [hlocalsP]; show 2 * g.monitorRoom + _ + (1 + 11) + 0 ≤ R.locals; omega) (by show cells + 0 ≤ R.cells; omega) (by show slots + 0 ≤ R.slots; omega)) hb hdg hrest
theorem vm_absf (hexec : p.tables.exec = Jvm.exec) (hb : c.code = cc) (hml : c.maxLocals = ls.size) {own : String} {index : Nat} (hown : s.vm.findClass own = some m.cls) (hlink : (Cond.methodLink own index yJ9_abs_f6c48).before args s = true) (hstat : (Cond.static yJ9_abs_f6c48).before args s = true) (hinit : (Cond.initialized "java/lang/Math").before args s = true) (hcode : (Cond.code yJ9_abs_f6c48 cJ9_abs_f6c48 1 (some .float)).before args s = true) {b : UInt32} (hv : b &&& 0x7fffffff ≤ 0x7f800000)
    (hframes : 1 ≤ R.frames) (hlocals : (rest.map fun v => v.category).sum + 12 ≤ R.locals) (hc : cells ≤ R.cells) (hs : slots ≤ R.slots) (hdg : decode cc pc = .ok (.invokestatic index, 3))
    (k : W p l e R s m args below meth c H locs cells slots Q (F0 m (pc + 3) ls (.float (b &&& 0x7fffffff) :: rest))) : W p l e R s m args below meth c H locs cells slots Q (F0 m pc ls (.float b :: rest)) := by
  intro T hT X
  obtain ⟨vm', X', st⟩ := vm_absf0 X hexec hown hlink hstat hinit hcode (b := b) (g := F0 m pc ls (.float b :: rest)) rfl (by rw [hml]) hv rfl (by rw [hb]; exact hdg) hframes (by show 2 * 0 + _ + _ ≤ _; omega) hc hs
  obtain ⟨t, a1, b1⟩ := k (T.setVm vm') hT X'
  exact ⟨t, st t a1, b1⟩
end
def ji_mabsf (MC MS nx : Nat) : jI := fun k lv st h a b => match st with
  | .float x :: st => Nat.le a MC ∧ Nat.le b MS ∧ Nat.le (jcs st) 8 ∧ x &&& 0x7fffffff ≤ 0x7f800000 ∧ k nx lv (.float (fab x) :: st) h a b
  | _ => False
theorem jS_mabsf {Y : jY} {Φ : jPost} {pc nx : Nat} {index : Nat} (hl : Cond.methodLink Y.1.cls index yJ9_abs_f6c48 ∈ lw_tbl) (hst : Cond.static yJ9_abs_f6c48 ∈ lw_tbl) (hini : Cond.initialized "java/lang/Math" ∈ lw_tbl) (hco : Cond.code yJ9_abs_f6c48 cJ9_abs_f6c48 1 (some .float) ∈ lw_tbl) (hdp : 1 ≤ Y.2.2.2.2.1) (hd : decode Y.2.1 pc = .ok (.invokestatic index, 3)) (hn : pc + 3 = nx) : jS Y Φ pc (ji_mabsf Y.2.2.2.2.2.1 Y.2.2.2.2.2.2 nx) := by
  intro k hk lv st h a b hi
  unfold ji_mabsf at hi
  split at hi
  · obtain ⟨h1, h2, hcs, hv, hi⟩ := hi
    intro p l e s m args below meth c g hc H locs ls hP hS hL
    subst hn
    have hK := hc.2.2.2.2.2.2.2
    exact vm_absf hc.1 hc.2.1 (hc.2.2.1.trans hL.1.symm) hc.2.2.2.1 (hK.word hl rfl rfl) (hK.word hst rfl rfl) (hK.word hini rfl rfl) (hK.word hco rfl rfl) hv hdp (by rw [jcs_sum]; show _ ≤ 48 * Y.2.2.2.2.1; have h9 : jcs _ ≤ 8 := hcs; omega) h1 h2 hd (hk _ _ _ _ _ _ hi p l e s m args below meth c g hc H locs ls hP hS hL)
  · exact hi.elim
def jp2_X12_shareOf (Φ : jPost) (pc : Nat) : jI := bif Nat.beq pc 33 then ji_mabsf 0 0 36 else jp_X12_shareOf Φ pc
theorem js2_X12_shareOf (Φ : jPost) (pc : Nat) : jS jy_X12_shareOf Φ pc (jp2_X12_shareOf Φ pc) := by
  unfold jp2_X12_shareOf
  by_cases h1 : pc = 33
  · subst h1
    exact jS_mabsf (Y := jy_X12_shareOf) (index := 224) (jmem 1228 (by decide +kernel)) (jmem 1229 (by decide +kernel)) (jmem 56 (by decide +kernel)) (jmem 1230 (by decide +kernel)) (by decide) (by decide +kernel) rfl
  rw [js_nbf h1]
  exact js_X12_shareOf Φ pc
