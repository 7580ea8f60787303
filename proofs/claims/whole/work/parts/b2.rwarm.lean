/-! the reference: warm, warmth -/
def zFF (z : zS) : Prop := (∀ k, k < 6 → fok 194 (zC z k)) ∧ ∀ q, zI z = some q → ∀ k, k < 6 → fok 194 (q.2.2.1 k)
abbrev isCell (x : Int32) : Prop := 0 ≤ x.toInt ∧ x.toInt ≤ 5
def zsC (z : zS) (C : Nat → UInt32) : zS := (zR z, zT z, zO z, C, zK z, zW z, zP z, zX z, zI z)
def zwarm (z : zS) (k x c : Int32) : Value × zS := if isCell k ∧ isNum z x c then
    (let v := jwmF (zC z (tn k)) (jshrF (jmany (zR z (tn x)).1) (zR z (tn x)).2 (tn c))
     (.int v.toInt32, zsC z (va_up (zC z) (tn k) v)))
  else (.int (-1), z)
def jallF (f : Nat → UInt32) : Nat → UInt32
  | 0 => FP.fconst0
  | k + 1 => FP.fadd (jallF f k) (f k)
def jallD (f : Nat → UInt32) : Nat → UInt64
  | 0 => FP.dconst0
  | k + 1 => FP.dadd (jallD f k) (FP.f2d (f k))
def zwarmth (z : zS) (x : Int32) : Value := if x.toInt = 0 then .long (jallF (zC z) 6).toInt32.toInt64 else if x.toInt = 1 then .long (jallD (zC z) 6).toInt64 else .long (-9223372036854775808)
theorem r_warm {h : List jC} (hh : 53 ≤ h.length) {s : Nat → Int32} {I : jIs} {L : jLss} {F : jFs} {z : zS} (hE : EncR s I L F z) (hz : zWF z) (hf : zFF z) (k x y : Int32) : jCt jy_X12_warm [.ref 20, .int k, .int x, .int y] (jR h s I L F) (zPost h (zwarm z k x y).1 (zwarm z k x y).2) := by
  have hbad : ¬ (isCell k ∧ isNum z x y) → zPost h (zwarm z k x y).1 (zwarm z k x y).2 (some (.int (-1))) (jR h s I L F) := by
    intro hn
    rw [zwarm, if_neg hn]
    exact ⟨rfl, s, I, L, F, rfl, hE⟩
  refine jrun2 (js_X12_warm _) rfl rfl rfl (fun G hG hW hB => ?_)
  refine hG [] 300 _ _ _ _ _ _ ?_
  conv => whnf
  refine jcall (c_X12_in k (nI 0) (nI 5) _) ?_
  rintro r h' ⟨rfl, rfl⟩
  conv => whnf
  refine ⟨fun c => ?_, fun c => ?_⟩ <;> rw [jbi_0] at c
  · conv => whnf
    exact hbad (fun q => c q.1)
  have c := Decidable.not_not.mp c
  have ck : isCell k := c
  conv => whnf
  refine jcall (c_X12_isRegister x _) ?_
  rintro r h' ⟨rfl, rfl⟩
  conv => whnf
  refine ⟨fun c => ?_, fun c => ?_⟩ <;> rw [jbi_0] at c
  · conv => whnf
    exact hbad (fun q => c q.2.1)
  have c := Decidable.not_not.mp c
  obtain ⟨hx, hx4⟩ := isReg_nI c
  have hw := (hE.2.1 (tn x) hx4).1
  have hg := (hE.2.1 (tn x) hx4).2
  have hw6 := (hz.1 (tn x) hx4).1
  have hm := jmany_le hw6
  have hio := c_X12_isOf hh s I L F hx4 hw6 hw y
  rw [← hx] at hio
  conv => whnf
  refine ⟨⟨_, m_0 hh⟩, jcall (hio) ?_⟩
  rintro r h' ⟨rfl, rfl⟩
  conv => whnf
  refine ⟨fun c2 => ?_, fun c2 => ?_⟩ <;> rw [jbi_0] at c2
  case refine_2 =>
    conv => whnf
    exact hbad (fun q => c2 q.2.2)
  have c2 := Decidable.not_not.mp c2
  have hy := tn_eq c2.1
  have hyl : tn y < jmany (zR z (tn x)).1 := tn_lt c2.1 c2.2
  have hs := c_X12_shareOf hh s I L F hx4 hw6 hw hyl
  rw [← hx, ← hy, jshrF_ext (fun c hc => hg c (by omega)) hyl] at hs
  have hk := tn_eq ck.1
  have hk6 : tn k < 6 := tn_lt ck.1 (by have := ck.2; omega)
  have sh := shr_ok (zR z (tn x)).2 (n := jmany (zR z (tn x)).1) (by omega) hyl
  have cell : F 13 (tn k) = zC z (tn k) := hE.2.2.2.2.1 (tn k) hk6
  obtain ⟨w1, w2, w3⟩ := wm_ok (hf.1 (tn k) hk6) sh.1
  rw [zwarm, if_pos ⟨ck, c, c2⟩]
  generalize jshrF (jmany (zR z (tn x)).1) (zR z (tn x)).2 (tn y) = v at *
  conv => whnf
  refine ⟨_, m_0 hh, ?_⟩
  conv => whnf
  refine ⟨_, m_0 hh, ?_⟩
  conv => whnf
  refine ⟨_, _, _, m_13 hh, hk, hk6, ?_⟩
  conv => whnf
  rw [cell]
  refine ⟨w2, ?_⟩
  conv => whnf
  refine ⟨⟨_, m_0 hh⟩, jcall (hs) ?_⟩
  rintro r h' ⟨rfl, rfl⟩
  conv => whnf
  refine ⟨w3, ?_⟩
  conv => whnf
  refine ⟨_, _, _, m_13 hh, hk, hk6, ?_⟩
  conv => whnf
  erw [ms_13 (va_up (F 13) (tn k) (jwmF (zC z (tn k)) v))]
  refine ⟨_, m_0 hh, ?_⟩
  conv => whnf
  refine ⟨_, _, _, m_13 hh, hk, hk6, ?_⟩
  conv => whnf
  refine jcall (c_J_f2i _ _) ?_
  rintro r h' ⟨rfl, rfl⟩
  conv => whnf
  refine ⟨?_, s, I, L, _, rfl, ?_⟩
  · rw [show va_up F 13 (va_up (F 13) (tn k) (jwmF (zC z (tn k)) v)) 13 (tn k) = jwmF (zC z (tn k)) v by simp [va_up]]
    rw [f2i_fin (fmg_fin w1.1 (by decide))]
  · obtain ⟨e1, e2, e3, e4, e5, e6, e7, e8, e9, e10⟩ := hE
    refine ⟨e1, e2, e3, e4, ?_, e6, e7, e8, e9, e10⟩
    intro j hj
    show va_up F 13 (va_up (F 13) (tn k) (jwmF (zC z (tn k)) v)) 13 j = va_up (zC z) (tn k) (jwmF (zC z (tn k)) v) j
    have := e5 j hj
    unfold va_up
    rw [if_pos rfl]
    split
    · rfl
    · exact this
