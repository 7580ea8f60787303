/-! isNaN, floatToIntBits of the JDK -/
theorem c_J_isNaN (x : UInt32) (h : List jC) : jCt jy_Jxf58ca_isNaN_12338 [.float x] h (fun r h' => r = some (.int (jbi (¬ Op.cmpValue (FP.fcmp x x) .l = nI 0))) ∧ h' = h) := by
  refine jrun2 (js_Jxf58ca_isNaN_12338 _) (by decide +kernel) rfl rfl (fun G hG hWW hBB => ?_)
  refine hG [] 300 _ _ _ _ _ _ ?_
  conv => whnf
  refine ⟨fun c => ?_, fun c => ?_⟩
  · conv => whnf
    refine ⟨Or.inl rfl, ?_, rfl⟩
    rw [jbi_f (fun w => w c)]
  · conv => whnf
    refine ⟨Or.inr rfl, ?_, rfl⟩
    rw [jbi_t c]
/-- a float's bits as one int, all that is no number alike -/
def jf2i (x : UInt32) : Int32 := if Op.cmpValue (FP.fcmp x x) .l = nI 0 then x.toInt32 else nI 2143289344
theorem c_J_f2i (x : UInt32) (h : List jC) : jCt jy_Jxf58ca_floatToIntBits_5c35a [.float x] h (fun r h' => r = some (.int (jf2i x)) ∧ h' = h) := by
  refine jrun2 (js_Jxf58ca_floatToIntBits_5c35a _) (by decide +kernel) rfl rfl (fun G hG hWW hBB => ?_)
  refine hG [] 300 _ _ _ _ _ _ ?_
  conv => whnf
  refine jcall (c_J_isNaN x _) ?_
  rintro r h' ⟨rfl, rfl⟩
  conv => whnf
  refine ⟨fun c => ?_, fun c => ?_⟩ <;> rw [jbi_0] at c
  · conv => whnf
    rw [jf2i, if_neg (Decidable.not_not.mp c)]
    exact ⟨rfl, rfl⟩
  · have c := Decidable.not_not.mp c
    conv => whnf
    refine ⟨Nat.zero_le _, ?_⟩
    conv => whnf
    rw [jf2i, if_pos c]
    exact ⟨rfl, rfl⟩
