/-! FLOATS, plain laws -/
/-- a float's bits, the sign away -/
def fmg (x : UInt32) : Nat := x.toNat % 2 ^ 31
/-- finite, and no zero of the sign - -/
def fok (K : Nat) (x : UInt32) : Prop := fmg x ≤ K * 2 ^ 23 ∧ x.toNat ≠ 2 ^ 31
theorem fmg_fin {K : Nat} {x : UInt32} (h : fmg x ≤ K * 2 ^ 23) (hK : K ≤ 254) : FP.Core.FFin x := by
  rw [FP.Core.fin_bits32]
  have : K * 2 ^ 23 ≤ 254 * 2 ^ 23 := Nat.mul_le_mul_right _ hK
  unfold fmg at *
  omega
theorem vf_of (x : UInt32) (h : FP.Core.fIsNaN x = false) : vf_n32 x := by
  have := (FP.Core.ne_nan32 x).mp ((FP.Core.notNaN_iff32 x).mp h)
  show x &&& 0x7fffffff ≤ 0x7f800000
  rw [UInt32.le_iff_toNat_le, FP.Core.mask_toNat32]
  exact this
theorem vf_fadd {a b : UInt32} (ha : FP.Core.FFin a) (hb : FP.Core.FFin b) : vf_n32 (FP.fadd a b) := vf_of _ (FP.Core.fadd_out ha.notNaN hb)
theorem vf_fsub {a b : UInt32} (ha : FP.Core.FFin a) (hb : FP.Core.FFin b) : vf_n32 (FP.fsub a b) := vf_of _ (FP.Core.fsub_out ha.notNaN hb)
theorem vf_fmul {a b : UInt32} (ha : FP.Core.FFin a) (hb : FP.Core.FFin b) : vf_n32 (FP.fmul a b) := vf_of _ (FP.Core.fmul_out ha hb)
theorem zabs (f : FP.Core.Fmt) (y : FP.Core.Datum) : (FP.Core.zval f y).natAbs = FP.Core.zmag f y := by
  unfold FP.Core.zval FP.Core.signed
  split <;> omega
/-- the value in units, within another's: so are the bits -/
theorem fmg_of_zval {x V : UInt32} (hx : FP.Core.val32 x ≠ .nan) (hV : FP.Core.val32 V ≠ .nan) (h : (FP.Core.zval FP.Core.b32 (FP.Core.val32 x)).natAbs ≤ (FP.Core.zval FP.Core.b32 (FP.Core.val32 V)).natAbs) : fmg x ≤ fmg V := by
  rw [zabs, zabs, FP.Core.zmag_toNat32 hx, FP.Core.zmag_toNat32 hV, FP.Core.unitsOf_le_iff] at h
  exact h
theorem zval_of_fmg {x V : UInt32} (hx : FP.Core.val32 x ≠ .nan) (hV : FP.Core.val32 V ≠ .nan) (h : fmg x ≤ fmg V) : (FP.Core.zval FP.Core.b32 (FP.Core.val32 x)).natAbs ≤ (FP.Core.zval FP.Core.b32 (FP.Core.val32 V)).natAbs := by
  rw [zabs, zabs, FP.Core.zmag_toNat32 hx, FP.Core.zmag_toNat32 hV, FP.Core.unitsOf_le_iff]
  exact h
theorem fin_ex {x : UInt32} (h : FP.Core.FFin x) : ∃ s c q, FP.Core.val32 x = .fin s c q := by
  unfold FP.Core.FFin at h
  exact h
/-- a sum's value, within what the exact sum is within -/
theorem fadd_within {a b V : UInt32} (ha : FP.Core.FFin a) (hb : FP.Core.FFin b) (hV : FP.Core.FFin V) (h : (FP.Core.zval FP.Core.b32 (FP.Core.val32 a) + FP.Core.zval FP.Core.b32 (FP.Core.val32 b)).natAbs ≤ (FP.Core.zval FP.Core.b32 (FP.Core.val32 V)).natAbs) : fmg (FP.fadd a b) ≤ fmg V := by
  have hn : FP.Core.val32 (FP.fadd a b) ≠ .nan := (FP.Core.notNaN_iff32 _).mp (FP.Core.fadd_out ha.notNaN hb)
  refine fmg_of_zval hn hV.ne_nan ?_
  have e : FP.Core.val32 (FP.fadd a b) = _ := FP.Core.val32_fadd a b
  have f1 := FP.Core.negate_fits (FP.Core.val32_fits V)
  have n1 := FP.Core.negate_ne_nan hV.ne_nan
  rcases Int.le_total 0 (FP.Core.zval FP.Core.b32 (FP.Core.val32 V)) with q | q
  · have h1 := FP.Core.sum_le FP.Core.good_b32 (fin_ex ha) (fin_ex hb) (FP.Core.val32_fits a) (FP.Core.val32_fits b) (FP.Core.val32_fits V) hV.ne_nan (by omega)
    have h2 := FP.Core.sum_ge FP.Core.good_b32 (fin_ex ha) (fin_ex hb) (FP.Core.val32_fits a) (FP.Core.val32_fits b) f1 n1 (by rw [FP.Core.zval_negate]; omega)
    rw [FP.Core.zval_negate] at h2
    rw [e]
    omega
  · have h1 := FP.Core.sum_le FP.Core.good_b32 (fin_ex ha) (fin_ex hb) (FP.Core.val32_fits a) (FP.Core.val32_fits b) f1 n1 (by rw [FP.Core.zval_negate]; omega)
    have h2 := FP.Core.sum_ge FP.Core.good_b32 (fin_ex ha) (fin_ex hb) (FP.Core.val32_fits a) (FP.Core.val32_fits b) (FP.Core.val32_fits V) hV.ne_nan (by omega)
    rw [FP.Core.zval_negate] at h1
    rw [e]
    omega
