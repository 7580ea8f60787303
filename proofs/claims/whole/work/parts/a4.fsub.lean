/-! one away from a number of the first octave -/
theorem fint_un2 {t : Nat} (h : t < 2 ^ 24) : ∃ V : UInt32, FP.Core.FFin V ∧ V.toNat < 2 ^ 31 ∧ FP.Core.unitsOf FP.Core.b32 (fmg V) = t * 2 ^ 126 := by
  by_cases h0 : t = 0
  · refine ⟨0, ffin_of (by decide), by decide, ?_⟩
    rw [show fmg 0 = 0 from rfl, FP.Core.unitsOf_zero, h0, Nat.zero_mul]
  obtain ⟨V, v1, v2⟩ := fint_un h
  have hl := ffin_lt v1
  have big : 127 * 2 ^ 23 ≤ fmg V := by
    rw [← FP.Core.unitsOf_le_iff (f := FP.Core.b32), v2, un_K (by decide), show (2 : Nat) ^ 23 * 2 ^ (127 - 1) = 1 * 2 ^ 149 by decide +kernel]
    exact Nat.mul_le_mul_right _ (by omega)
  generalize hm : fmg V = m at *
  have e : (UInt32.ofNat (m - 23 * 2 ^ 23)).toNat = m - 23 * 2 ^ 23 := UInt32.toNat_ofNat_of_lt' (by show _ < 2 ^ 32; omega)
  have e2 : fmg (UInt32.ofNat (m - 23 * 2 ^ 23)) = m - 23 * 2 ^ 23 := by rw [fmg_fp (by omega), e]
  refine ⟨UInt32.ofNat (m - 23 * 2 ^ 23), ffin_of (by omega), by omega, ?_⟩
  have u := un_ups (m := m - 23 * 2 ^ 23) (by omega) 23
  rw [show m - 23 * 2 ^ 23 + 23 * 2 ^ 23 = m by omega, v2] at u
  rw [e2]
  refine Nat.eq_of_mul_eq_mul_right (Nat.two_pow_pos 23) (u.symm.trans ?_)
  rw [Nat.mul_assoc, show (2 : Nat) ^ 126 * 2 ^ 23 = 2 ^ 149 by decide +kernel]
theorem fsub_one {x : UInt32} (h1 : 127 * 2 ^ 23 ≤ x.toNat) (h2 : x.toNat < 128 * 2 ^ 23) : FP.Core.FFin (FP.fsub x FP.fconst1) ∧ (FP.fsub x FP.fconst1).toNat < 2 ^ 31 ∧ FP.Core.unitsOf FP.Core.b32 (fmg (FP.fsub x FP.fconst1)) = (x.toNat - 127 * 2 ^ 23) * 2 ^ 126 := by
  have ex := fmg_fp (x := x) (by omega)
  have hx : FP.Core.FFin x := ffin_of (by omega)
  have hb : FP.Core.FFin (FP.Core.fneg FP.fconst1) := ffin_of (by decide +kernel)
  have nb : (FP.Core.fneg FP.fconst1).toNat = 2 ^ 31 + 127 * 2 ^ 23 := by decide +kernel
  have es : FP.fsub x FP.fconst1 = FP.fadd x (FP.Core.fneg FP.fconst1) := FP.Core.fsub_eq _ _
  rw [es]
  have nz := fadd_nz hx hb (by omega)
  have vx := fval_of hx.ne_nan
  have vb := fval_of hb.ne_nan
  have mb : fmg (FP.Core.fneg FP.fconst1) = 127 * 2 ^ 23 := by unfold fmg; omega
  rw [if_neg (by omega), ex] at vx
  rw [if_pos (by omega), mb, un_K (by decide)] at vb
  have ux : FP.Core.unitsOf FP.Core.b32 x.toNat = (2 ^ 23 + (x.toNat - 127 * 2 ^ 23)) * 2 ^ 126 := by
    rw [un_hi (by omega), show x.toNat / 2 ^ 23 = 127 by omega, show x.toNat % 2 ^ 23 = x.toNat - 127 * 2 ^ 23 by omega]
  obtain ⟨V, v1, v2, v3⟩ := fint_un2 (t := x.toNat - 127 * 2 ^ 23) (by omega)
  have vV := fval_of v1.ne_nan
  rw [if_neg (by omega), v3] at vV
  have es2 : FP.Core.zval FP.Core.b32 (FP.Core.val32 x) + FP.Core.zval FP.Core.b32 (FP.Core.val32 (FP.Core.fneg FP.fconst1)) = FP.Core.zval FP.Core.b32 (FP.Core.val32 V) := by
    rw [vx, vb, vV, ux]
    generalize x.toNat - 127 * 2 ^ 23 = t
    rw [Nat.add_mul, show (2 : Nat) ^ 23 * 2 ^ (127 - 1) = 2 ^ 23 * 2 ^ 126 by decide +kernel]
    omega
  have hn : FP.Core.val32 (FP.fadd x (FP.Core.fneg FP.fconst1)) ≠ .nan := (FP.Core.notNaN_iff32 _).mp (FP.Core.fadd_out hx.notNaN hb)
  have e : FP.Core.val32 (FP.fadd x (FP.Core.fneg FP.fconst1)) = _ := FP.Core.val32_fadd _ _
  have l1 := FP.Core.sum_le FP.Core.good_b32 (fin_ex hx) (fin_ex hb) (FP.Core.val32_fits _) (FP.Core.val32_fits _) (FP.Core.val32_fits V) v1.ne_nan (Int.le_of_eq es2)
  have l2 := FP.Core.sum_ge FP.Core.good_b32 (fin_ex hx) (fin_ex hb) (FP.Core.val32_fits _) (FP.Core.val32_fits _) (FP.Core.val32_fits V) v1.ne_nan (Int.le_of_eq es2.symm)
  rw [← e] at l1 l2
  have q := Int.le_antisymm l1 l2
  have vr := fval_of hn
  rw [q, vV] at vr
  have lt : (FP.fadd x (FP.Core.fneg FP.fconst1)).toNat < 2 ^ 31 := by
    rcases Nat.lt_or_ge (FP.fadd x (FP.Core.fneg FP.fconst1)).toNat (2 ^ 31) with q | q
    · exact q
    · rw [if_pos q] at vr
      have : FP.Core.unitsOf FP.Core.b32 (fmg (FP.fadd x (FP.Core.fneg FP.fconst1))) = 0 := by omega
      rw [FP.Core.unitsOf_eq_zero] at this
      have := (FP.fadd x (FP.Core.fneg FP.fconst1)).toNat_lt
      unfold fmg at *
      omega
  rw [if_neg (by omega)] at vr
  refine ⟨?_, lt, by omega⟩
  refine ffin_of ?_
  refine Nat.lt_of_le_of_lt (m := fmg V) ?_ (ffin_lt v1)
  rw [← FP.Core.unitsOf_le_iff (f := FP.Core.b32)]
  omega
/-! comparisons, by the bits -/
theorem fk_pos {x : UInt32} (h : x.toNat < 2 ^ 31) : FP.Core.fkey x = (x.toNat : Int) := by unfold FP.Core.fkey; rw [if_neg (by omega)]
theorem cmp_ge {a b : UInt32} (ha : FP.Core.FFin a) (hb : FP.Core.FFin b) (op : CmpOp) : (nI 0 ≤ Op.cmpValue (FP.fcmp a b) op) ↔ FP.Core.fkey b ≤ FP.Core.fkey a := by
  have e : FP.fcmp a b = _ := FP.Core.fcmp_key ha.ne_nan hb.ne_nan
  rw [e, FP.Core.compare_ite]
  split
  · refine ⟨fun q => absurd q (by cases op <;> decide), fun q => by omega⟩
  · split
    · exact ⟨fun _ => by omega, fun _ => by cases op <;> decide⟩
    · exact ⟨fun _ => by omega, fun _ => by cases op <;> decide⟩
theorem cmp_lt {a b : UInt32} (ha : FP.Core.FFin a) (hb : FP.Core.FFin b) (op : CmpOp) : (Op.cmpValue (FP.fcmp a b) op < nI 0) ↔ FP.Core.fkey a < FP.Core.fkey b := by
  have e : FP.fcmp a b = _ := FP.Core.fcmp_key ha.ne_nan hb.ne_nan
  rw [e, FP.Core.compare_ite]
  split
  · rename_i q
    exact ⟨fun _ => q, fun _ => by cases op <;> decide⟩
  · split
    · exact ⟨fun q => absurd q (by cases op <;> decide), fun q => by omega⟩
    · exact ⟨fun q => absurd q (by cases op <;> decide), fun q => by omega⟩
theorem cmp_eq {a b : UInt32} (ha : FP.Core.FFin a) (hb : FP.Core.FFin b) (op : CmpOp) : (Op.cmpValue (FP.fcmp a b) op = nI 0) ↔ FP.Core.fkey a = FP.Core.fkey b := by
  have e : FP.fcmp a b = _ := FP.Core.fcmp_key ha.ne_nan hb.ne_nan
  rw [e, FP.Core.compare_ite]
  split
  · exact ⟨fun q => absurd q (by cases op <;> decide), fun q => by omega⟩
  · split
    · rename_i q
      exact ⟨fun _ => q, fun _ => by cases op <;> decide⟩
    · exact ⟨fun q => absurd q (by cases op <;> decide), fun q => by omega⟩
/-- the sign away, as the class takes it -/
theorem fneg_nat {x : UInt32} (h : 2 ^ 31 ≤ x.toNat) : (FP.fneg x).toNat = fmg x := by
  have e : (FP.fneg x).toNat = x.toNat ^^^ 2 ^ 31 := by
    show (x ^^^ 0x80000000).toNat = _
    rw [UInt32.toNat_xor]; rfl
  have h2 := x.toNat_lt
  rw [e]
  have e3 : x.toNat = 2 ^ 31 + fmg x := by unfold fmg; omega
  have l : fmg x < 2 ^ 31 := Nat.mod_lt _ (by decide)
  generalize fmg x = m at *
  rw [e3]
  apply Nat.eq_of_testBit_eq
  intro i
  rw [Nat.testBit_xor, Nat.testBit_two_pow]
  rcases Nat.lt_trichotomy i 31 with q | q | q
  · rw [Nat.testBit_two_pow_add_gt q, decide_eq_false (by omega), Bool.xor_false]
  · subst q
    rw [Nat.testBit_two_pow_add_eq, decide_eq_true rfl, Nat.testBit_lt_two_pow l]
    rfl
  · have w : (2 : Nat) ^ 32 ≤ 2 ^ i := Nat.pow_le_pow_right (by decide) q
    rw [Nat.testBit_lt_two_pow (x := 2 ^ 31 + m) (by omega), Nat.testBit_lt_two_pow (x := m) (by omega), decide_eq_false (by omega)]
    rfl
