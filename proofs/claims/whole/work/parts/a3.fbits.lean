/-! halves and doubles, on the bits -/
theorem mhalf (u p q : Nat) (h : q = 2 * p) : 2 * u * p = u * q := by rw [h]; ac_rfl
theorem mhalf2 (u p q : Nat) (h : p = 2 * q) : u * p = 2 * u * q := by rw [h]; ac_rfl
theorem mhalf3 (a b p q : Nat) (h : q = 2 * p) : a * (b * 2) * p = a * b * q := by rw [h]; ac_rfl
theorem mhalf4 (t a b c d : Nat) (h : a * b = c * d) : t * a * b = t * c * d := by rw [Nat.mul_assoc, h, ← Nat.mul_assoc]
theorem un_lo {m : Nat} (h : m < 2 ^ 23) : FP.Core.unitsOf FP.Core.b32 m = m := by
  unfold FP.Core.unitsOf
  rw [FP.Core.tails_b32, if_pos h]
theorem un_hi {m : Nat} (h : 2 ^ 23 ≤ m) : FP.Core.unitsOf FP.Core.b32 m = (2 ^ 23 + m % 2 ^ 23) * 2 ^ (m / 2 ^ 23 - 1) := by
  unfold FP.Core.unitsOf
  rw [FP.Core.tails_b32, if_neg (by omega)]
theorem un_K {K : Nat} (h : 1 ≤ K) : FP.Core.unitsOf FP.Core.b32 (K * 2 ^ 23) = 2 ^ 23 * 2 ^ (K - 1) := by
  rw [un_hi (by omega), Nat.mul_mod_left, Nat.mul_div_cancel _ (by decide), Nat.add_zero]
/-- one more in the exponent -/
theorem un_up {m : Nat} (h : 2 ^ 23 ≤ m) : FP.Core.unitsOf FP.Core.b32 (m + 2 ^ 23) = 2 * FP.Core.unitsOf FP.Core.b32 m := by
  rw [un_hi h, un_hi (by omega), Nat.add_mod_right, Nat.add_div_right _ (by decide)]
  obtain ⟨e, he⟩ : ∃ e, m / 2 ^ 23 = e + 1 := ⟨m / 2 ^ 23 - 1, by omega⟩
  rw [he, show (e + 1).succ - 1 = e + 1 by omega, show e + 1 - 1 = e by omega, show (2 : Nat) ^ (e + 1) = 2 ^ e * 2 from Nat.pow_succ _ _]
  generalize 2 ^ 23 + m % 2 ^ 23 = u
  ac_rfl
theorem un_ups {m : Nat} (h : 2 ^ 23 ≤ m) : ∀ k, FP.Core.unitsOf FP.Core.b32 (m + k * 2 ^ 23) = FP.Core.unitsOf FP.Core.b32 m * 2 ^ k
  | 0 => by simp
  | k + 1 => by
    rw [show m + (k + 1) * 2 ^ 23 = (m + k * 2 ^ 23) + 2 ^ 23 by omega, un_up (by omega), un_ups h k, show (2 : Nat) ^ (k + 1) = 2 ^ k * 2 from Nat.pow_succ _ _]
    ac_rfl
theorem un_dbl {m : Nat} (h : m < 2 ^ 23) : FP.Core.unitsOf FP.Core.b32 (2 * m) = 2 * m := by
  by_cases q : 2 * m < 2 ^ 23
  · exact un_lo q
  · rw [un_hi (by omega), show 2 * m / 2 ^ 23 = 1 by omega]
    omega
theorem f_half : fmg 1056964608 = 126 * 2 ^ 23 ∧ FP.Core.FFin 1056964608 := ⟨by decide, by rw [FP.Core.fin_bits32]; decide⟩
theorem f_one : fmg FP.fconst1 = 127 * 2 ^ 23 ∧ FP.Core.FFin FP.fconst1 := ⟨by decide, by rw [FP.Core.fin_bits32]; decide⟩
theorem f_two : fmg FP.fconst2 = 128 * 2 ^ 23 ∧ FP.Core.FFin FP.fconst2 := ⟨by decide, by rw [FP.Core.fin_bits32]; decide⟩
theorem f_223 : fmg 1258291200 = 150 * 2 ^ 23 ∧ FP.Core.FFin 1258291200 := ⟨by decide, by rw [FP.Core.fin_bits32]; decide⟩
theorem f_zero : fmg FP.fconst0 = 0 ∧ FP.Core.FFin FP.fconst0 := ⟨by decide, by rw [FP.Core.fin_bits32]; decide⟩
theorem ffin_lt {x : UInt32} (h : FP.Core.FFin x) : fmg x < 2139095040 := (FP.Core.fin_bits32 x).mp h
theorem ffin_of {x : UInt32} (h : fmg x < 2139095040) : FP.Core.FFin x := (FP.Core.fin_bits32 x).mpr h
theorem fhalf {x : UInt32} (hx : FP.Core.FFin x) (h1 : x.toNat < 2 ^ 31) (h2 : 2 * 2 ^ 23 ≤ x.toNat) : (FP.fmul x 1056964608).toNat = x.toNat - 2 ^ 23 := by
  have hl := ffin_lt hx
  have e := fmg_fp h1
  rw [fmul_pos hx f_half.2 h1 (by decide)]
  refine fmul_is hx f_half.2 (by omega) ?_
  have := un_up (m := x.toNat - 2 ^ 23) (by omega)
  rw [show x.toNat - 2 ^ 23 + 2 ^ 23 = x.toNat by omega] at this
  rw [e, this, f_half.1, un_K (by decide)]
  generalize FP.Core.unitsOf FP.Core.b32 (x.toNat - 2 ^ 23) = u
  exact mhalf _ _ _ (by decide +kernel)
theorem fdouble {x : UInt32} (hx : fmg x < 254 * 2 ^ 23) (h1 : x.toNat < 2 ^ 31) : (FP.fmul x FP.fconst2).toNat = if x.toNat < 2 ^ 23 then 2 * x.toNat else x.toNat + 2 ^ 23 := by
  have e := fmg_fp h1
  have hf : FP.Core.FFin x := ffin_of (by omega)
  rw [fmul_pos hf f_two.2 h1 (by decide)]
  refine fmul_is hf f_two.2 (by split <;> omega) ?_
  have : FP.Core.unitsOf FP.Core.b32 (if x.toNat < 2 ^ 23 then 2 * x.toNat else x.toNat + 2 ^ 23) = 2 * FP.Core.unitsOf FP.Core.b32 x.toNat := by
    split
    · rename_i q
      rw [un_dbl q, un_lo q]
    · exact un_up (by omega)
  rw [this, e, f_two.1, un_K (by decide)]
  generalize FP.Core.unitsOf FP.Core.b32 x.toNat = u
  exact mhalf2 _ _ _ (by decide +kernel)
/-- half of what is within a power of two -/
theorem fhalf_le {x : UInt32} {K : Nat} (hK : 2 ≤ K) (hK2 : K ≤ 254) (h : fmg x ≤ K * 2 ^ 23) : fmg (FP.fmul x 1056964608) ≤ (K - 1) * 2 ^ 23 := by
  refine fmul_le (fmg_fin h hK2) f_half.2 ?_
  have := (FP.Core.unitsOf_le_iff (f := FP.Core.b32)).mpr h
  rw [un_K (by omega)] at this
  rw [un_K (by omega), f_half.1, un_K (by decide)]
  refine Nat.le_trans (Nat.mul_le_mul_right _ this) (Nat.le_of_eq ?_)
  obtain ⟨k, rfl⟩ : ∃ k, K = k + 2 := ⟨K - 2, by omega⟩
  rw [show k + 2 - 1 = k + 1 by omega, show k + 1 - 1 = k by omega, show (2 : Nat) ^ (k + 1) = 2 ^ k * 2 from Nat.pow_succ _ _]
  exact mhalf3 _ _ _ _ (by decide +kernel)
/-- a whole number's float -/
theorem fint_un {t : Nat} (h : t < 2 ^ 24) : ∃ V : UInt32, FP.Core.FFin V ∧ FP.Core.unitsOf FP.Core.b32 (fmg V) = t * 2 ^ 149 := by
  have e : (Int64.ofNat t).toInt = (t : Int) := Int64.toInt_ofNat_of_lt (by omega)
  have q := FP.Core.l2f_int (a := Int64.ofNat t) (by rw [e]; omega)
  have z := FP.Core.FInt_zval q
  have n := FP.Core.FInt_ne_nan q
  have v := fval_of n
  refine ⟨FP.Core.l2f (Int64.ofNat t), FP.Core.l2f_fin _, ?_⟩
  rw [z, e] at v
  unfold FP.Core.one32 at v
  have : ((t * 2 ^ 149 : Nat) : Int) = (t : Int) * ((2 ^ 149 : Nat) : Int) := Int.natCast_mul _ _
  rw [← this] at v
  split at v <;> omega
/-- 2^23 times, and then its whole part -/
theorem f_whole {y : UInt32} {t : Nat} (hy : FP.Core.FFin y) (h1 : y.toNat < 2 ^ 31) (ht : t < 2 ^ 24) (h : FP.Core.unitsOf FP.Core.b32 (fmg y) = t * 2 ^ 126) : FP.f2i (FP.fmul y 1258291200) = nI t := by
  obtain ⟨V, v1, v2⟩ := fint_un ht
  have e : fmg (FP.fmul y 1258291200) = fmg V := by
    refine fmul_is hy f_223.2 (by have := ffin_lt v1; omega) ?_
    rw [h, v2, f_223.1, un_K (by decide)]
    exact mhalf4 _ _ _ _ _ (by decide +kernel)
  have p := fmul_pos hy f_223.2 h1 (by decide)
  have hf : FP.Core.FFin (FP.fmul y 1258291200) := ffin_of (by rw [e]; exact ffin_lt v1)
  have q := FP.Core.f2i_val hf.ne_nan
  rw [fsgn hf.ne_nan, FP.Core.zmag_toNat32 hf.ne_nan] at q
  have e2 : FP.Core.unitsOf FP.Core.b32 ((FP.fmul y 1258291200).toNat % 2 ^ 31) = t * 2 ^ 149 := by
    have : FP.Core.unitsOf FP.Core.b32 (fmg (FP.fmul y 1258291200)) = t * 2 ^ 149 := by rw [e, v2]
    exact this
  have e3 : (FP.fmul y 1258291200).toNat < 2 ^ 31 := by rw [p]; unfold fmg; omega
  rw [e2, decide_eq_false (by omega)] at q
  unfold FP.Core.one32 at q
  rw [Nat.mul_div_cancel _ (Nat.two_pow_pos _)] at q
  have q2 : (FP.Core.f2i (FP.fmul y 1258291200)).toInt = (t : Int) := by
    rw [q]
    show max (-2 ^ 31 : Int) (min (2 ^ 31 - 1) (t : Int)) = t
    omega
  apply (jeq _ _).mpr
  rw [nI_toInt (by omega)]
  exact q2
