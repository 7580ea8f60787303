/-! a call with ten words beneath it (goes() calls numberOf() so) -/
theorem va_runS10 {p : Program} {l : Launch} {e : Env} {R : Room} {s : State} {m : MethodId} {args : Array Value} {below : List Frame} {meth : Method} {c : Code} {H : Heap} {locs : List Loc} {cells slots : Nat}
    {y : MethodName} {bytes cc : ByteArray} {maxL nL mc ms n index : Nat} {ret : Option FieldType} {ws : List Cond} {rm : Room} {Pc : Array Value → State → Prop} {Qc : Array Value → State → Outcome → State → Prop} {free : Addr → Prop} {Ts : List Cond} {own : String} {As rest : List Value} {g : JFrame}
    (S : CallFix p m c cc nL s args Ts own) (hM : Met l y ws rm Pc Qc mc ms free) (cb : CallB R s args own index y bytes maxL ret ws rm mc ms n) (hstt : (Cond.static y).before args s = true) (hp : PreS s H Pc As) (hlo : 10 + (maxL + 11) + rm.locals ≤ R.locals)
    (hg : g.method = m) (hn : As.length = n) (hsize : g.locals.size = nL) (hstack : g.stack = As.reverse ++ rest) (hW : 2 * g.monitorRoom + (rest.map fun v => v.category).sum ≤ 10) (hdg : decode cc g.pc = .ok (.invokestatic index, 3)) (hf : cells + mc ≤ R.cells ∧ slots + ms ≤ R.slots) :
    va_Run p l e R s m args below meth c H locs cells slots mc ms g rest (Qc As.toArray) (free) := by
  obtain ⟨k1, k2, k3, -, k5, k6, k7, k8, k9, k10, k11⟩ := cb
  have hK : Back l R p e below s args y 3 10 (PreOf R mc ms Pc) (PostOf Qc mc ms free) := back_of (bytes := bytes) (maxL := maxL) (ret := ret) hM hp.1 k1 k2 k3 hlo k5 k6 (fun a' U hW => word_at hW (Or.inl rfl) k8)
  intro T hT X
  obtain ⟨v, vm₁, ⟨U', l2, c2, s2⟩, -, X', ⟨g', mk, t, L, e1, e2, hq, h1, hL, h2, h3⟩, st⟩ := callS X S.1 (bytes := bytes) (maxL := maxL) (ret := ret) S.2.2.2.1 k11 hstt k8 k7 k9 hK hg (hsize.trans S.2.2.1.symm) (argsL := As) (rest := rest) (fun sig h => hn.trans (k10 sig h)) hstack hW (by rw [S.2.1]; exact hdg)
    (fun vm₁ hW₁ => ⟨hf.1, hf.2, hp.2 (T.setVm vm₁) hT hW₁⟩)
  dsimp only [Pt.U, Pt.locs, Pt.cells, Pt.slots] at X' e1 e2 h1 h2 h3 st
  subst h1
  subst h2
  subst h3
  exact ⟨v, (T.setVm vm₁).calling g' mk As.toArray, t, U', L, hT, X', hL, e1, e2, hq, st⟩
def jchkW (Z : jY) (n MC MS : Nat) (st : List Value) (a b : Nat) : Bool := Nat.ble (a + Z.2.2.2.2.2.1) MC && Nat.ble (b + Z.2.2.2.2.2.2) MS && Nat.ble (jcs (st.drop n)) 10 && Nat.ble n st.length
def ji_callW (Z : jY) (n MC MS nx : Nat) : jI := fun k lv st h a b => cond (jchkW Z n MC MS st a b) (∃ Ψ, jCt Z (st.take n).reverse h Ψ ∧ ∀ r h', Ψ r h' → k nx lv (r.toList ++ st.drop n) h' (a + Z.2.2.2.2.2.1) (b + Z.2.2.2.2.2.2)) False
theorem jS_scallW {Y : jY} {Φ : jPost} {pc nx : Nat} {Z : jY} {n index : Nat} (hz : jYok Z n) (hst : Cond.static Z.1 ∈ lw_tbl) (hl : Cond.methodLink Y.1.cls index Z.1 ∈ lw_tbl) (hdp : Z.2.2.2.2.1 + 1 ≤ Y.2.2.2.2.1) (hnl : Z.2.2.1 ≤ 27) (hd : decode Y.2.1 pc = .ok (.invokestatic index, 3)) (hn : pc + 3 = nx) : jS Y Φ pc (ji_callW Z n Y.2.2.2.2.2.1 Y.2.2.2.2.2.2 nx) := by
  intro k hk lv st h a b hi
  obtain ⟨h1, hi⟩ := jb1 hi
  unfold jchkW at h1
  simp only [Bool.and_eq_true] at h1
  obtain ⟨⟨⟨h1, h2⟩, h3⟩, h4⟩ := h1
  have hf : a + Z.2.2.2.2.2.1 ≤ Y.2.2.2.2.2.1 ∧ b + Z.2.2.2.2.2.2 ≤ Y.2.2.2.2.2.2 := ⟨Nat.le_of_ble_eq_true h1, Nat.le_of_ble_eq_true h2⟩
  have hcat := Nat.le_of_ble_eq_true h3
  have hlen := Nat.le_of_ble_eq_true h4
  obtain ⟨Ψ, hCt, hi⟩ := hi
  intro p l e s m args below meth c g hc H locs ls hP hS hL
  have hK := hc.2.2.2.2.2.2.2
  obtain ⟨n1, n2⟩ := jargs (g := g) hlen
  refine jback (Z := Z) (va_runS10 (Ts := []) ⟨hc.1, hc.2.1, hc.2.2.1, hc.2.2.2.1, fun _ h => by cases h⟩ (hCt l g) (jcallB hz hK (hK.word hl rfl rfl) hdp (by omega)) (hK.word hst rfl rfl) ⟨jcall_blind g _ h, jpre hK hS hP _⟩ ?_ rfl n1 hL.1 n2 ?_ hd hf) hc hS hn hL (fun r h' hψ => hk _ _ _ _ _ _ (hi r h' hψ))
  · show 10 + (Z.2.2.1 + 11) + 48 * Z.2.2.2.2.1 ≤ 48 * Y.2.2.2.2.1
    omega
  · show 2 * 0 + _ ≤ 10
    rw [jcs_sum]
    omega
def jp2_X12_goes (d : Nat) (Φ : jPost) (pc : Nat) : jI := bif Nat.beq pc 102 then ji_callW jy_X12_numberOf 3 0 0 105 else bif Nat.beq pc 136 then ji_callW jy_X12_numberOf 3 0 0 139 else bif Nat.beq pc 174 then ji_callW jy_X12_numberOf 3 0 0 177 else bif Nat.beq pc 184 then ji_callW jy_X12_numberOf 3 0 0 187 else jp_X12_goes d Φ pc
theorem js_nbf {n m : Nat} (h : ¬ n = m) : Nat.beq n m = false := by
  cases hb : Nat.beq n m with
  | false => rfl
  | true => exact absurd (Nat.eq_of_beq_eq_true hb) h
theorem js2_X12_goes (d : Nat) (Φ : jPost) (pc : Nat) : jS (jy_X12_goes (d + 1)) Φ pc (jp2_X12_goes d Φ pc) := by
  have one : ∀ pc, decode cX12_goes pc = .ok (.invokestatic 184, 3) → jS (jy_X12_goes (d + 1)) Φ pc (ji_callW jy_X12_numberOf 3 0 0 (pc + 3)) := fun pc hd => jS_scallW (index := 184) (Z := jy_X12_numberOf) jok_X12_numberOf (jmem 1134 (show lw_tbl[1134]? = some (Cond.static ⟨"QuasiSumsModel", "numberOf", "(III)I"⟩) from by decide +kernel)) (jmem 1133 (show lw_tbl[1133]? = some (Cond.methodLink "QuasiSumsModel" 184 ⟨"QuasiSumsModel", "numberOf", "(III)I"⟩) from by decide +kernel)) (show 1 + 1 ≤ d + 1 + 3 from by omega) (by decide) hd rfl
  unfold jp2_X12_goes
  by_cases h1 : pc = 102
  · subst h1
    exact one 102 (by decide +kernel)
  rw [js_nbf h1]
  by_cases h2 : pc = 136
  · subst h2
    exact one 136 (by decide +kernel)
  rw [js_nbf h2]
  by_cases h3 : pc = 174
  · subst h3
    exact one 174 (by decide +kernel)
  rw [js_nbf h3]
  by_cases h4 : pc = 184
  · subst h4
    exact one 184 (by decide +kernel)
  rw [js_nbf h4]
  exact js_X12_goes d Φ pc
