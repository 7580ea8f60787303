/-! the class's constructor: printed by genbd.py -/
def jxf0 : Nat → Option Nat := va_up (va_up (va_up (va_up (fun _ => none) 0 (some 12)) 1 (some 14)) 2 (some 16)) 3 (some 18)
def jx0 (sc : jC) (ef : Nat → Int32) : List jC := [jD, sc, mx 3 4 7 8 (nI 0) .null .null, aO "QuasiSums$Sum" 4 jxf0, oO 0 5 (.ref 6) .null, aI 7 (fun _ => nI 0), aI 1 ef, aF 6 (fun _ => 0), aO "QuasiSums$Item" 12 (fun _ => none), aO "QuasiSums$Row" 3 (fun _ => none), aI 80 (fun _ => nI 0), oA (nI 0) 0 0, oS 0 13, aL 1 (fun _ => 0), oS 0 15, aL 1 (fun _ => 0), oS 0 17, aL 1 (fun _ => 0), oS 0 19, aL 1 (fun _ => 0)]
theorem c_X11_init {sc : jC} {vs : List Value} (hvs : vs = [.null, .null, .null, .null, .null, .null, .int (nI 0), .null, .null, .null]) : jCt jy_X11_init [.ref 2] [jD, sc, .inr (10, vs)] (fun r h' => r = none ∧ ∃ ef, h' = jx0 sc ef ∧ ∀ t, t < 1 → ef t = nI (zend (0, fun _ => 0) t)) := by
  subst hvs
  refine jrun2 (js_X11_init _) rfl rfl rfl (fun G hG hW hB => ?_)
  refine hG [12] 300 _ _ _ _ _ _ ?_
  conv => whnf
  refine ⟨4, rfl, by decide, by decide, ?_⟩
  conv => whnf
  refine ⟨trivial, _, rfl, ?_⟩
  conv => whnf
  show G 12 _ [] [jD, sc, .inr (10, [.ref 3, .null, .null, .null, .null, .null, .int (nI 0), .null, .null, .null]), aO "QuasiSums$Sum" 4 (fun _ => none)] _ _
  refine hG [24] 300 _ _ _ _ _ _ ?_
  conv => whnf
  refine jcall (c_X4_init (s := 4) (p := 0) rfl (by decide)) ?_
  rintro r' h' ⟨rfl, ef, rfl, hef⟩
  conv => whnf
  refine ⟨trivial, _, rfl, ?_⟩
  conv => whnf
  show G 24 _ [] [jD, sc, .inr (10, [.ref 3, .ref 4, .null, .null, .null, .null, .int (nI 0), .null, .null, .null]), aO "QuasiSums$Sum" 4 (fun _ => none), oO 0 5 (.ref 6) .null, aI 7 (fun _ => nI 0), aI 1 ef] _ _
  refine hG [32] 300 _ _ _ _ _ _ ?_
  conv => whnf
  refine ⟨6, rfl, by decide, by decide, ?_⟩
  conv => whnf
  refine ⟨trivial, _, rfl, ?_⟩
  conv => whnf
  show G 32 _ [] [jD, sc, .inr (10, [.ref 3, .ref 4, .ref 7, .null, .null, .null, .int (nI 0), .null, .null, .null]), aO "QuasiSums$Sum" 4 (fun _ => none), oO 0 5 (.ref 6) .null, aI 7 (fun _ => nI 0), aI 1 ef, aF 6 (fun _ => 0)] _ _
  refine hG [41] 300 _ _ _ _ _ _ ?_
  conv => whnf
  refine ⟨12, rfl, by decide, by decide, ?_⟩
  conv => whnf
  refine ⟨trivial, _, rfl, ?_⟩
  conv => whnf
  show G 41 _ [] [jD, sc, .inr (10, [.ref 3, .ref 4, .ref 7, .ref 8, .null, .null, .int (nI 0), .null, .null, .null]), aO "QuasiSums$Sum" 4 (fun _ => none), oO 0 5 (.ref 6) .null, aI 7 (fun _ => nI 0), aI 1 ef, aF 6 (fun _ => 0), aO "QuasiSums$Item" 12 (fun _ => none)] _ _
  refine hG [49] 300 _ _ _ _ _ _ ?_
  conv => whnf
  refine ⟨3, rfl, by decide, by decide, ?_⟩
  conv => whnf
  refine ⟨trivial, _, rfl, ?_⟩
  conv => whnf
  show G 49 _ [] [jD, sc, .inr (10, [.ref 3, .ref 4, .ref 7, .ref 8, .ref 9, .null, .int (nI 0), .null, .null, .null]), aO "QuasiSums$Sum" 4 (fun _ => none), oO 0 5 (.ref 6) .null, aI 7 (fun _ => nI 0), aI 1 ef, aF 6 (fun _ => 0), aO "QuasiSums$Item" 12 (fun _ => none), aO "QuasiSums$Row" 3 (fun _ => none)] _ _
  refine hG [57] 300 _ _ _ _ _ _ ?_
  conv => whnf
  refine ⟨80, rfl, by decide, by decide, ?_⟩
  conv => whnf
  refine ⟨trivial, _, rfl, ?_⟩
  conv => whnf
  show G 57 _ [] [jD, sc, .inr (10, [.ref 3, .ref 4, .ref 7, .ref 8, .ref 9, .ref 10, .int (nI 0), .null, .null, .null]), aO "QuasiSums$Sum" 4 (fun _ => none), oO 0 5 (.ref 6) .null, aI 7 (fun _ => nI 0), aI 1 ef, aF 6 (fun _ => 0), aO "QuasiSums$Item" 12 (fun _ => none), aO "QuasiSums$Row" 3 (fun _ => none), aI 80 (fun _ => nI 0)] _ _
  refine hG [62] 300 _ _ _ _ _ _ ?_
  conv => whnf
  refine ⟨trivial, _, rfl, ?_⟩
  conv => whnf
  show G 62 _ [] [jD, sc, .inr (10, [.ref 3, .ref 4, .ref 7, .ref 8, .ref 9, .ref 10, .int (nI 0), .null, .null, .null]), aO "QuasiSums$Sum" 4 (fun _ => none), oO 0 5 (.ref 6) .null, aI 7 (fun _ => nI 0), aI 1 ef, aF 6 (fun _ => 0), aO "QuasiSums$Item" 12 (fun _ => none), aO "QuasiSums$Row" 3 (fun _ => none), aI 80 (fun _ => nI 0)] _ _
  refine hG [67] 300 _ _ _ _ _ _ ?_
  conv => whnf
  refine ⟨trivial, _, rfl, ?_⟩
  conv => whnf
  show G 67 _ [] [jD, sc, .inr (10, [.ref 3, .ref 4, .ref 7, .ref 8, .ref 9, .ref 10, .int (nI 0), .null, .null, .null]), aO "QuasiSums$Sum" 4 (fun _ => none), oO 0 5 (.ref 6) .null, aI 7 (fun _ => nI 0), aI 1 ef, aF 6 (fun _ => 0), aO "QuasiSums$Item" 12 (fun _ => none), aO "QuasiSums$Row" 3 (fun _ => none), aI 80 (fun _ => nI 0)] _ _
  refine hG [78] 300 _ _ _ _ _ _ ?_
  conv => whnf
  refine jcall (c_AL_init (l := 11) rfl) ?_
  rintro r' h' ⟨rfl, rfl⟩
  conv => whnf
  refine ⟨trivial, _, rfl, ?_⟩
  conv => whnf
  show G 78 _ [] [jD, sc, .inr (10, [.ref 3, .ref 4, .ref 7, .ref 8, .ref 9, .ref 10, .int (nI 0), .null, .ref 11, .null]), aO "QuasiSums$Sum" 4 (fun _ => none), oO 0 5 (.ref 6) .null, aI 7 (fun _ => nI 0), aI 1 ef, aF 6 (fun _ => 0), aO "QuasiSums$Item" 12 (fun _ => none), aO "QuasiSums$Row" 3 (fun _ => none), aI 80 (fun _ => nI 0), oA (nI 0) 0 0] _ _
  refine hG [83] 300 _ _ _ _ _ _ ?_
  conv => whnf
  refine ⟨trivial, _, rfl, ?_⟩
  conv => whnf
  show G 83 _ [] [jD, sc, .inr (10, [.ref 3, .ref 4, .ref 7, .ref 8, .ref 9, .ref 10, .int (nI 0), .null, .ref 11, .null]), aO "QuasiSums$Sum" 4 (fun _ => none), oO 0 5 (.ref 6) .null, aI 7 (fun _ => nI 0), aI 1 ef, aF 6 (fun _ => 0), aO "QuasiSums$Item" 12 (fun _ => none), aO "QuasiSums$Row" 3 (fun _ => none), aI 80 (fun _ => nI 0), oA (nI 0) 0 0] _ _
  refine hG [85] 300 _ _ _ _ _ _ ?_
  conv => whnf
  show G 85 [some (.ref 2), some (.int (nI 0))] [] [jD, sc, .inr (10, [.ref 3, .ref 4, .ref 7, .ref 8, .ref 9, .ref 10, .int (nI 0), .null, .ref 11, .null]), aO "QuasiSums$Sum" 4 (fun _ => none), oO 0 5 (.ref 6) .null, aI 7 (fun _ => nI 0), aI 1 ef, aF 6 (fun _ => 0), aO "QuasiSums$Item" 12 (fun _ => none), aO "QuasiSums$Row" 3 (fun _ => none), aI 80 (fun _ => nI 0), oA (nI 0) 0 0] _ _
  refine hG [85] 300 _ _ _ _ _ _ ?_
  conv => whnf
  refine ⟨_, rfl, ?_⟩
  conv => whnf
  refine ⟨_, _, _, rfl, ?_⟩
  conv => whnf
  refine ⟨fun qb => ?_, fun qb => ?_⟩ <;> rw [nI_leI (by omega) (by omega)] at qb
  · omega
  conv => whnf
  refine ⟨_, rfl, ?_⟩
  conv => whnf
  refine jcall (c_X8_init (s := 12) (w := 0) (by decide) rfl) ?_
  rintro r' h' ⟨rfl, rfl⟩
  conv => whnf
  refine ⟨_, _, _, 0, 7, _, rfl, rfl, by decide, rfl, rfl, ?_⟩
  conv => whnf
  show G 85 [some (.ref 2), some (.int (nI 0 + nI 1))] [] [jD, sc, .inr (10, [.ref 3, .ref 4, .ref 7, .ref 8, .ref 9, .ref 10, .int (nI 0), .null, .ref 11, .null]), aO "QuasiSums$Sum" 4 (va_up (fun _ => none) 0 (some 12)), oO 0 5 (.ref 6) .null, aI 7 (fun _ => nI 0), aI 1 ef, aF 6 (fun _ => 0), aO "QuasiSums$Item" 12 (fun _ => none), aO "QuasiSums$Row" 3 (fun _ => none), aI 80 (fun _ => nI 0), oA (nI 0) 0 0, oS 0 13, aL 1 (fun _ => 0)] _ _
  rw [show nI 0 + nI 1 = nI 1 by decide]
  refine hG [85] 300 _ _ _ _ _ _ ?_
  conv => whnf
  refine ⟨_, rfl, ?_⟩
  conv => whnf
  refine ⟨_, _, _, rfl, ?_⟩
  conv => whnf
  refine ⟨fun qb => ?_, fun qb => ?_⟩ <;> rw [nI_leI (by omega) (by omega)] at qb
  · omega
  conv => whnf
  refine ⟨_, rfl, ?_⟩
  conv => whnf
  refine jcall (c_X8_init (s := 14) (w := 0) (by decide) rfl) ?_
  rintro r' h' ⟨rfl, rfl⟩
  conv => whnf
  refine ⟨_, _, _, 1, 7, _, rfl, rfl, by decide, rfl, rfl, ?_⟩
  conv => whnf
  show G 85 [some (.ref 2), some (.int (nI 1 + nI 1))] [] [jD, sc, .inr (10, [.ref 3, .ref 4, .ref 7, .ref 8, .ref 9, .ref 10, .int (nI 0), .null, .ref 11, .null]), aO "QuasiSums$Sum" 4 (va_up (va_up (fun _ => none) 0 (some 12)) 1 (some 14)), oO 0 5 (.ref 6) .null, aI 7 (fun _ => nI 0), aI 1 ef, aF 6 (fun _ => 0), aO "QuasiSums$Item" 12 (fun _ => none), aO "QuasiSums$Row" 3 (fun _ => none), aI 80 (fun _ => nI 0), oA (nI 0) 0 0, oS 0 13, aL 1 (fun _ => 0), oS 0 15, aL 1 (fun _ => 0)] _ _
  rw [show nI 1 + nI 1 = nI 2 by decide]
  refine hG [85] 300 _ _ _ _ _ _ ?_
  conv => whnf
  refine ⟨_, rfl, ?_⟩
  conv => whnf
  refine ⟨_, _, _, rfl, ?_⟩
  conv => whnf
  refine ⟨fun qb => ?_, fun qb => ?_⟩ <;> rw [nI_leI (by omega) (by omega)] at qb
  · omega
  conv => whnf
  refine ⟨_, rfl, ?_⟩
  conv => whnf
  refine jcall (c_X8_init (s := 16) (w := 0) (by decide) rfl) ?_
  rintro r' h' ⟨rfl, rfl⟩
  conv => whnf
  refine ⟨_, _, _, 2, 7, _, rfl, rfl, by decide, rfl, rfl, ?_⟩
  conv => whnf
  show G 85 [some (.ref 2), some (.int (nI 2 + nI 1))] [] [jD, sc, .inr (10, [.ref 3, .ref 4, .ref 7, .ref 8, .ref 9, .ref 10, .int (nI 0), .null, .ref 11, .null]), aO "QuasiSums$Sum" 4 (va_up (va_up (va_up (fun _ => none) 0 (some 12)) 1 (some 14)) 2 (some 16)), oO 0 5 (.ref 6) .null, aI 7 (fun _ => nI 0), aI 1 ef, aF 6 (fun _ => 0), aO "QuasiSums$Item" 12 (fun _ => none), aO "QuasiSums$Row" 3 (fun _ => none), aI 80 (fun _ => nI 0), oA (nI 0) 0 0, oS 0 13, aL 1 (fun _ => 0), oS 0 15, aL 1 (fun _ => 0), oS 0 17, aL 1 (fun _ => 0)] _ _
  rw [show nI 2 + nI 1 = nI 3 by decide]
  refine hG [85] 300 _ _ _ _ _ _ ?_
  conv => whnf
  refine ⟨_, rfl, ?_⟩
  conv => whnf
  refine ⟨_, _, _, rfl, ?_⟩
  conv => whnf
  refine ⟨fun qb => ?_, fun qb => ?_⟩ <;> rw [nI_leI (by omega) (by omega)] at qb
  · omega
  conv => whnf
  refine ⟨_, rfl, ?_⟩
  conv => whnf
  refine jcall (c_X8_init (s := 18) (w := 0) (by decide) rfl) ?_
  rintro r' h' ⟨rfl, rfl⟩
  conv => whnf
  refine ⟨_, _, _, 3, 7, _, rfl, rfl, by decide, rfl, rfl, ?_⟩
  conv => whnf
  show G 85 [some (.ref 2), some (.int (nI 3 + nI 1))] [] [jD, sc, .inr (10, [.ref 3, .ref 4, .ref 7, .ref 8, .ref 9, .ref 10, .int (nI 0), .null, .ref 11, .null]), aO "QuasiSums$Sum" 4 (va_up (va_up (va_up (va_up (fun _ => none) 0 (some 12)) 1 (some 14)) 2 (some 16)) 3 (some 18)), oO 0 5 (.ref 6) .null, aI 7 (fun _ => nI 0), aI 1 ef, aF 6 (fun _ => 0), aO "QuasiSums$Item" 12 (fun _ => none), aO "QuasiSums$Row" 3 (fun _ => none), aI 80 (fun _ => nI 0), oA (nI 0) 0 0, oS 0 13, aL 1 (fun _ => 0), oS 0 15, aL 1 (fun _ => 0), oS 0 17, aL 1 (fun _ => 0), oS 0 19, aL 1 (fun _ => 0)] _ _
  rw [show nI 3 + nI 1 = nI 4 by decide]
  refine hG [] 300 _ _ _ _ _ _ ?_
  conv => whnf
  refine ⟨_, rfl, ?_⟩
  conv => whnf
  refine ⟨_, _, _, rfl, ?_⟩
  conv => whnf
  refine ⟨fun qb => ?_, fun qb => ?_⟩ <;> rw [nI_leI (by omega) (by omega)] at qb
  · conv => whnf
    exact ⟨rfl, ef, rfl, hef⟩
  · omega
