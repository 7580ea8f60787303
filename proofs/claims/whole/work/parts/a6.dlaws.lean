/-! DOUBLES, plain laws: printed by gen64.py -/
/-- a float's bits, the sign away -/
def dmg (x : UInt64) : Nat := x.toNat % 2 ^ 63
/-- finite, and no zero of the sign - -/
def dok (K : Nat) (x : UInt64) : Prop := dmg x ≤ K * 2 ^ 52 ∧ x.toNat ≠ 2 ^ 63
theorem dmg_fin {K : Nat} {x : UInt64} (h : dmg x ≤ K * 2 ^ 52) (hK : K ≤ 2046) : FP.Core.DFin x := by
  rw [FP.Core.fin_bits]
  have : K * 2 ^ 52 ≤ 2046 * 2 ^ 52 := Nat.mul_le_mul_right _ hK
  unfold dmg at *
  omega
theorem vd_of (x : UInt64) (h : FP.Core.dIsNaN x = false) : vf_n64 x := by
  have := (FP.Core.ne_nan x).mp ((FP.Core.notNaN_iff x).mp h)
  show x &&& 0x7fffffffffffffff ≤ 0x7ff0000000000000
  rw [UInt64.le_iff_toNat_le, FP.Core.mask_toNat]
  exact this
theorem vd_dadd {a b : UInt64} (ha : FP.Core.DFin a) (hb : FP.Core.DFin b) : vf_n64 (FP.dadd a b) := vd_of _ (FP.Core.dadd_out ha.notNaN hb)
theorem vd_dsub {a b : UInt64} (ha : FP.Core.DFin a) (hb : FP.Core.DFin b) : vf_n64 (FP.dsub a b) := vd_of _ (FP.Core.dsub_out ha.notNaN hb)
theorem vd_dmul {a b : UInt64} (ha : FP.Core.DFin a) (hb : FP.Core.DFin b) : vf_n64 (FP.dmul a b) := vd_of _ (FP.Core.dmul_out ha hb)
/-- the value in units, within another's: so are the bits -/
theorem dmg_of_zval {x V : UInt64} (hx : FP.Core.val64 x ≠ .nan) (hV : FP.Core.val64 V ≠ .nan) (h : (FP.Core.zval FP.Core.b64 (FP.Core.val64 x)).natAbs ≤ (FP.Core.zval FP.Core.b64 (FP.Core.val64 V)).natAbs) : dmg x ≤ dmg V := by
  rw [zabs, zabs, FP.Core.zmag_bits hx, FP.Core.zmag_bits hV, FP.Core.unitsOf_le_iff] at h
  exact h
theorem zval_of_dmg {x V : UInt64} (hx : FP.Core.val64 x ≠ .nan) (hV : FP.Core.val64 V ≠ .nan) (h : dmg x ≤ dmg V) : (FP.Core.zval FP.Core.b64 (FP.Core.val64 x)).natAbs ≤ (FP.Core.zval FP.Core.b64 (FP.Core.val64 V)).natAbs := by
  rw [zabs, zabs, FP.Core.zmag_bits hx, FP.Core.zmag_bits hV, FP.Core.unitsOf_le_iff]
  exact h
theorem din_ex {x : UInt64} (h : FP.Core.DFin x) : ∃ s c q, FP.Core.val64 x = .fin s c q := by
  unfold FP.Core.DFin at h
  exact h
/-- a sum's value, within what the exact sum is within -/
theorem dadd_within {a b V : UInt64} (ha : FP.Core.DFin a) (hb : FP.Core.DFin b) (hV : FP.Core.DFin V) (h : (FP.Core.zval FP.Core.b64 (FP.Core.val64 a) + FP.Core.zval FP.Core.b64 (FP.Core.val64 b)).natAbs ≤ (FP.Core.zval FP.Core.b64 (FP.Core.val64 V)).natAbs) : dmg (FP.dadd a b) ≤ dmg V := by
  have hn : FP.Core.val64 (FP.dadd a b) ≠ .nan := (FP.Core.notNaN_iff _).mp (FP.Core.dadd_out ha.notNaN hb)
  refine dmg_of_zval hn hV.ne_nan ?_
  have e : FP.Core.val64 (FP.dadd a b) = _ := FP.Core.val64_dadd a b
  have f1 := FP.Core.negate_fits (FP.Core.val64_fits V)
  have n1 := FP.Core.negate_ne_nan hV.ne_nan
  rcases Int.le_total 0 (FP.Core.zval FP.Core.b64 (FP.Core.val64 V)) with q | q
  · have h1 := FP.Core.sum_le FP.Core.good_b64 (din_ex ha) (din_ex hb) (FP.Core.val64_fits a) (FP.Core.val64_fits b) (FP.Core.val64_fits V) hV.ne_nan (by omega)
    have h2 := FP.Core.sum_ge FP.Core.good_b64 (din_ex ha) (din_ex hb) (FP.Core.val64_fits a) (FP.Core.val64_fits b) f1 n1 (by rw [FP.Core.zval_negate]; omega)
    rw [FP.Core.zval_negate] at h2
    rw [e]
    omega
  · have h1 := FP.Core.sum_le FP.Core.good_b64 (din_ex ha) (din_ex hb) (FP.Core.val64_fits a) (FP.Core.val64_fits b) f1 n1 (by rw [FP.Core.zval_negate]; omega)
    have h2 := FP.Core.sum_ge FP.Core.good_b64 (din_ex ha) (din_ex hb) (FP.Core.val64_fits a) (FP.Core.val64_fits b) (FP.Core.val64_fits V) hV.ne_nan (by omega)
    rw [FP.Core.zval_negate] at h1
    rw [e]
    omega
/-! products, no zero of the sign - -/
theorem dsgn {x : UInt64} (h : FP.Core.val64 x ≠ .nan) : FP.Core.sgn (FP.Core.val64 x) = decide (2 ^ 63 ≤ x.toNat) := FP.Core.sgn_bits h
theorem dmul_parts {a b : UInt64} (ha : FP.Core.DFin a) (hb : FP.Core.DFin b) : ∃ s A e, FP.Core.val64 (FP.dmul a b) = FP.Core.roundRatio FP.Core.b64 s A 1 e ∧ s = (decide (2 ^ 63 ≤ a.toNat) != decide (2 ^ 63 ≤ b.toNat)) ∧ 2 * FP.Core.b64.qmin ≤ e ∧ FP.Core.inUnits A e (2 * FP.Core.b64.qmin) = FP.Core.unitsOf FP.Core.b64 (dmg a) * FP.Core.unitsOf FP.Core.b64 (dmg b) := by
  obtain ⟨s, c, q, e1⟩ := din_ex ha
  obtain ⟨t, d, r, e2⟩ := din_ex hb
  have g1 := FP.Core.val64_fits a
  have g2 := FP.Core.val64_fits b
  have s1 := dsgn ha.ne_nan
  have s2 := dsgn hb.ne_nan
  have z1 := FP.Core.zmag_bits ha.ne_nan
  have z2 := FP.Core.zmag_bits hb.ne_nan
  have e : FP.Core.val64 (FP.dmul a b) = _ := FP.Core.val64_dmul a b
  rw [e1] at g1 s1 z1
  rw [e2] at g2 s2 z2
  obtain ⟨p1, p2, p3⟩ := FP.Core.product_units g1 g2
  rw [e1, e2, p1] at e
  refine ⟨_, _, _, e, ?_, p2, ?_⟩
  · rw [← s1, ← s2]; rfl
  · rw [p3, z1, z2]; rfl
theorem dmul_le {a b : UInt64} (ha : FP.Core.DFin a) (hb : FP.Core.DFin b) {m : Nat} (h : FP.Core.unitsOf FP.Core.b64 (dmg a) * FP.Core.unitsOf FP.Core.b64 (dmg b) ≤ FP.Core.unitsOf FP.Core.b64 m * 2 ^ 1074) : dmg (FP.dmul a b) ≤ m := by
  obtain ⟨s, A, e, h1, -, h2, h3⟩ := dmul_parts ha hb
  have := FP.Core.mag_le (e0 := 2 * FP.Core.b64.qmin) (m := m) FP.Core.good_b64 h1 (by decide) (by decide) h2 (by rw [h3, Nat.mul_one]; exact h)
  rwa [FP.Core.mag_toNat64] at this
theorem dmul_ge {a b : UInt64} (ha : FP.Core.DFin a) (hb : FP.Core.DFin b) {m : Nat} (hm : m ≤ 9218868437227405312) (h : FP.Core.unitsOf FP.Core.b64 m * 2 ^ 1074 ≤ FP.Core.unitsOf FP.Core.b64 (dmg a) * FP.Core.unitsOf FP.Core.b64 (dmg b)) : m ≤ dmg (FP.dmul a b) := by
  obtain ⟨s, A, e, h1, -, h2, h3⟩ := dmul_parts ha hb
  have := FP.Core.mag_ge (e0 := 2 * FP.Core.b64.qmin) (m := m) FP.Core.good_b64 h1 (by decide) (by decide) h2 (by rw [FP.Core.infBits_b64]; exact hm) (by rw [h3, Nat.mul_one]; exact h)
  rwa [FP.Core.mag_toNat64] at this
theorem dmul_is {a b : UInt64} (ha : FP.Core.DFin a) (hb : FP.Core.DFin b) {m : Nat} (hm : m ≤ 9218868437227405312) (h : FP.Core.unitsOf FP.Core.b64 (dmg a) * FP.Core.unitsOf FP.Core.b64 (dmg b) = FP.Core.unitsOf FP.Core.b64 m * 2 ^ 1074) : dmg (FP.dmul a b) = m :=
  Nat.le_antisymm (dmul_le ha hb (Nat.le_of_eq h)) (dmul_ge ha hb hm (Nat.le_of_eq h.symm))
theorem dmul_pos {a b : UInt64} (ha : FP.Core.DFin a) (hb : FP.Core.DFin b) (sa : a.toNat < 2 ^ 63) (sb : b.toNat < 2 ^ 63) : (FP.dmul a b).toNat = dmg (FP.dmul a b) := by
  obtain ⟨s, A, e, h1, h2, -⟩ := dmul_parts ha hb
  have hn : FP.Core.val64 (FP.dmul a b) ≠ .nan := (FP.Core.notNaN_iff _).mp (FP.Core.dmul_out ha hb)
  have h4 := dsgn hn
  rw [h1, FP.Core.sgn_roundRatio, h2, decide_eq_false (by omega), decide_eq_false (by omega)] at h4
  have h5 : ¬ 2 ^ 63 ≤ (FP.dmul a b).toNat := of_decide_eq_false h4.symm
  unfold dmg
  omega
theorem dmg_fp {x : UInt64} (h : x.toNat < 2 ^ 63) : dmg x = x.toNat := Nat.mod_eq_of_lt h
theorem dval_of {x : UInt64} (h : FP.Core.val64 x ≠ .nan) : FP.Core.zval FP.Core.b64 (FP.Core.val64 x) = if 2 ^ 63 ≤ x.toNat then -(FP.Core.unitsOf FP.Core.b64 (dmg x) : Int) else (FP.Core.unitsOf FP.Core.b64 (dmg x) : Int) := by
  have h1 := dsgn h
  have h2 := FP.Core.zmag_bits h
  unfold FP.Core.zval FP.Core.signed
  rw [h1, h2]
  simp only [decide_eq_true_eq]
  rfl
theorem dadd_nz {a b : UInt64} (ha : FP.Core.DFin a) (hb : FP.Core.DFin b) (h0 : b.toNat ≠ 2 ^ 63) : (FP.dadd a b).toNat ≠ 2 ^ 63 := by
  intro hc
  have hn : FP.Core.val64 (FP.dadd a b) ≠ .nan := (FP.Core.notNaN_iff _).mp (FP.Core.dadd_out ha.notNaN hb)
  have e : FP.Core.val64 (FP.dadd a b) = _ := FP.Core.val64_dadd a b
  have v0 := dval_of hn
  have m0 : dmg (FP.dadd a b) = 0 := by unfold dmg; rw [hc]
  rw [hc, if_pos (Nat.le_refl _), m0, FP.Core.unitsOf_zero] at v0
  have s0 := dsgn hn
  rw [hc, decide_eq_true (Nat.le_refl _)] at s0
  obtain ⟨s, c, q, e1⟩ := din_ex ha
  obtain ⟨t, d, r, e2⟩ := din_ex hb
  have g1 := FP.Core.val64_fits a
  have g2 := FP.Core.val64_fits b
  have V : FP.Core.val64 1 = .fin false 1 FP.Core.b64.qmin := by decide +kernel
  have W : FP.Core.val64 9223372036854775809 = .fin true 1 FP.Core.b64.qmin := by decide +kernel
  have zV : FP.Core.zval FP.Core.b64 (FP.Core.val64 1) = 1 := by rw [V]; decide +kernel
  have zW : FP.Core.zval FP.Core.b64 (FP.Core.val64 9223372036854775809) = -1 := by rw [W]; decide +kernel
  by_cases hz : FP.Core.zval FP.Core.b64 (FP.Core.val64 a) + FP.Core.zval FP.Core.b64 (FP.Core.val64 b) = 0
  · have va := dval_of ha.ne_nan
    have vb := dval_of hb.ne_nan
    have sa := dsgn ha.ne_nan
    have sb := dsgn hb.ne_nan
    rw [e1] at g1 sa
    rw [e2] at g2 sb
    obtain ⟨sg, n, x, p1, p2, p3⟩ := FP.Core.sum_units g1 g2
    rw [← e1, ← e2, hz] at p3
    have p1' : sg = FP.Core.sumSign s t (FP.Core.sumUnits s c q t d r (min q r)) ∧ n = (FP.Core.sumUnits s c q t d r (min q r)).natAbs := by
      have := p1
      unfold FP.Core.exactSum at this
      injection this with i1 i2 i3
      exact ⟨i1.symm, i2.symm⟩
    have n0 : n = 0 := by
      have : FP.Core.inUnits n x FP.Core.b64.qmin = 0 := by
        unfold FP.Core.signed at p3
        split at p3 <;> omega
      unfold FP.Core.inUnits at this
      rcases Nat.mul_eq_zero.mp this with q | q
      · exact q
      · exact absurd q (Nat.ne_of_gt (Nat.two_pow_pos _))
    have z0 : FP.Core.sumUnits s c q t d r (min q r) = 0 := by omega
    rw [e1, e2, p1] at e
    rw [e] at s0
    have : FP.Core.sgn (FP.Core.round FP.Core.b64 (.fin sg n x)) = sg := FP.Core.sgn_roundRatio _ _ _ _ _
    rw [this, p1'.1, FP.Core.sumSign, if_pos z0] at s0
    have st : s = true ∧ t = true := by
      cases s <;> cases t <;> simp at s0 ⊢
    have sa' : 2 ^ 63 ≤ a.toNat := by
      have : s = decide (2 ^ 63 ≤ a.toNat) := sa
      rw [st.1] at this
      exact of_decide_eq_true this.symm
    have sb' : 2 ^ 63 ≤ b.toNat := by
      have : t = decide (2 ^ 63 ≤ b.toNat) := sb
      rw [st.2] at this
      exact of_decide_eq_true this.symm
    rw [if_pos sa'] at va
    rw [if_pos sb'] at vb
    have : FP.Core.unitsOf FP.Core.b64 (dmg b) = 0 := by omega
    rw [FP.Core.unitsOf_eq_zero] at this
    unfold dmg at this
    have := b.toNat_lt
    omega
  · rcases Int.lt_or_gt_of_ne hz with q | q
    · have := FP.Core.sum_le FP.Core.good_b64 (din_ex ha) (din_ex hb) (FP.Core.val64_fits a) (FP.Core.val64_fits b) (FP.Core.val64_fits 9223372036854775809) (by rw [W]; intro h; cases h) (by rw [zW]; omega)
      rw [← FP.Core.val64_dadd, zW] at this
      have : FP.Core.zval FP.Core.b64 (FP.Core.val64 (FP.dadd a b)) ≤ -1 := this
      rw [v0] at this
      exact absurd this (by decide)
    · have := FP.Core.sum_ge FP.Core.good_b64 (din_ex ha) (din_ex hb) (FP.Core.val64_fits a) (FP.Core.val64_fits b) (FP.Core.val64_fits 1) (by rw [V]; intro h; cases h) (by rw [zV]; omega)
      rw [← FP.Core.val64_dadd, zV] at this
      have : 1 ≤ FP.Core.zval FP.Core.b64 (FP.Core.val64 (FP.dadd a b)) := this
      rw [v0] at this
      exact absurd this (by decide)
/-! halves and doubles, on the bits -/
theorem dn_lo {m : Nat} (h : m < 2 ^ 52) : FP.Core.unitsOf FP.Core.b64 m = m := by
  unfold FP.Core.unitsOf
  rw [FP.Core.tails_b64, if_pos h]
theorem dn_hi {m : Nat} (h : 2 ^ 52 ≤ m) : FP.Core.unitsOf FP.Core.b64 m = (2 ^ 52 + m % 2 ^ 52) * 2 ^ (m / 2 ^ 52 - 1) := by
  unfold FP.Core.unitsOf
  rw [FP.Core.tails_b64, if_neg (by omega)]
theorem dn_K {K : Nat} (h : 1 ≤ K) : FP.Core.unitsOf FP.Core.b64 (K * 2 ^ 52) = 2 ^ 52 * 2 ^ (K - 1) := by
  rw [dn_hi (by omega), Nat.mul_mod_left, Nat.mul_div_cancel _ (by decide), Nat.add_zero]
/-- one more in the exponent -/
theorem dn_up {m : Nat} (h : 2 ^ 52 ≤ m) : FP.Core.unitsOf FP.Core.b64 (m + 2 ^ 52) = 2 * FP.Core.unitsOf FP.Core.b64 m := by
  rw [dn_hi h, dn_hi (by omega), Nat.add_mod_right, Nat.add_div_right _ (by decide)]
  obtain ⟨e, he⟩ : ∃ e, m / 2 ^ 52 = e + 1 := ⟨m / 2 ^ 52 - 1, by omega⟩
  rw [he, show (e + 1).succ - 1 = e + 1 by omega, show e + 1 - 1 = e by omega, show (2 : Nat) ^ (e + 1) = 2 ^ e * 2 from Nat.pow_succ _ _]
  generalize 2 ^ 52 + m % 2 ^ 52 = u
  ac_rfl
theorem dn_ups {m : Nat} (h : 2 ^ 52 ≤ m) : ∀ k, FP.Core.unitsOf FP.Core.b64 (m + k * 2 ^ 52) = FP.Core.unitsOf FP.Core.b64 m * 2 ^ k
  | 0 => by simp
  | k + 1 => by
    rw [show m + (k + 1) * 2 ^ 52 = (m + k * 2 ^ 52) + 2 ^ 52 by omega, dn_up (by omega), dn_ups h k, show (2 : Nat) ^ (k + 1) = 2 ^ k * 2 from Nat.pow_succ _ _]
    ac_rfl
theorem dn_dbl {m : Nat} (h : m < 2 ^ 52) : FP.Core.unitsOf FP.Core.b64 (2 * m) = 2 * m := by
  by_cases q : 2 * m < 2 ^ 52
  · exact dn_lo q
  · rw [dn_hi (by omega), show 2 * m / 2 ^ 52 = 1 by omega]
    omega
theorem d_half : dmg 4602678819172646912 = 1022 * 2 ^ 52 ∧ FP.Core.DFin 4602678819172646912 := ⟨by decide, by rw [FP.Core.fin_bits]; decide⟩
theorem d_one : dmg FP.dconst1 = 1023 * 2 ^ 52 ∧ FP.Core.DFin FP.dconst1 := ⟨by decide, by rw [FP.Core.fin_bits]; decide⟩
theorem d_two : dmg 4611686018427387904 = 1024 * 2 ^ 52 ∧ FP.Core.DFin 4611686018427387904 := ⟨by decide, by rw [FP.Core.fin_bits]; decide⟩
theorem d_252 : dmg 4841369599423283200 = 1075 * 2 ^ 52 ∧ FP.Core.DFin 4841369599423283200 := ⟨by decide, by rw [FP.Core.fin_bits]; decide⟩
theorem d_zero : dmg FP.dconst0 = 0 ∧ FP.Core.DFin FP.dconst0 := ⟨by decide, by rw [FP.Core.fin_bits]; decide⟩
theorem dfin_lt {x : UInt64} (h : FP.Core.DFin x) : dmg x < 9218868437227405312 := (FP.Core.fin_bits x).mp h
theorem dfin_of {x : UInt64} (h : dmg x < 9218868437227405312) : FP.Core.DFin x := (FP.Core.fin_bits x).mpr h
theorem dhalf {x : UInt64} (hx : FP.Core.DFin x) (h1 : x.toNat < 2 ^ 63) (h2 : 2 * 2 ^ 52 ≤ x.toNat) : (FP.dmul x 4602678819172646912).toNat = x.toNat - 2 ^ 52 := by
  have hl := dfin_lt hx
  have e := dmg_fp h1
  rw [dmul_pos hx d_half.2 h1 (by decide)]
  refine dmul_is hx d_half.2 (by omega) ?_
  have := dn_up (m := x.toNat - 2 ^ 52) (by omega)
  rw [show x.toNat - 2 ^ 52 + 2 ^ 52 = x.toNat by omega] at this
  rw [e, this, d_half.1, dn_K (by decide)]
  generalize FP.Core.unitsOf FP.Core.b64 (x.toNat - 2 ^ 52) = u
  exact mhalf _ _ _ (by decide +kernel)
theorem ddouble {x : UInt64} (hx : dmg x < 2046 * 2 ^ 52) (h1 : x.toNat < 2 ^ 63) : (FP.dmul x 4611686018427387904).toNat = if x.toNat < 2 ^ 52 then 2 * x.toNat else x.toNat + 2 ^ 52 := by
  have e := dmg_fp h1
  have hf : FP.Core.DFin x := dfin_of (by omega)
  rw [dmul_pos hf d_two.2 h1 (by decide)]
  refine dmul_is hf d_two.2 (by split <;> omega) ?_
  have : FP.Core.unitsOf FP.Core.b64 (if x.toNat < 2 ^ 52 then 2 * x.toNat else x.toNat + 2 ^ 52) = 2 * FP.Core.unitsOf FP.Core.b64 x.toNat := by
    split
    · rename_i q
      rw [dn_dbl q, dn_lo q]
    · exact dn_up (by omega)
  rw [this, e, d_two.1, dn_K (by decide)]
  generalize FP.Core.unitsOf FP.Core.b64 x.toNat = u
  exact mhalf2 _ _ _ (by decide +kernel)
/-- half of what is within a power of two -/
theorem dhalf_le {x : UInt64} {K : Nat} (hK : 2 ≤ K) (hK2 : K ≤ 2046) (h : dmg x ≤ K * 2 ^ 52) : dmg (FP.dmul x 4602678819172646912) ≤ (K - 1) * 2 ^ 52 := by
  refine dmul_le (dmg_fin h hK2) d_half.2 ?_
  have := (FP.Core.unitsOf_le_iff (f := FP.Core.b64)).mpr h
  rw [dn_K (by omega)] at this
  rw [dn_K (by omega), d_half.1, dn_K (by decide)]
  refine Nat.le_trans (Nat.mul_le_mul_right _ this) (Nat.le_of_eq ?_)
  obtain ⟨k, rfl⟩ : ∃ k, K = k + 2 := ⟨K - 2, by omega⟩
  rw [show k + 2 - 1 = k + 1 by omega, show k + 1 - 1 = k by omega, show (2 : Nat) ^ (k + 1) = 2 ^ k * 2 from Nat.pow_succ _ _]
  exact mhalf3 _ _ _ _ (by decide +kernel)
/-- a whole number's float -/
theorem dint_un {t : Nat} (h : t < 2 ^ 53) : ∃ V : UInt64, FP.Core.DFin V ∧ FP.Core.unitsOf FP.Core.b64 (dmg V) = t * 2 ^ 1074 := by
  have e : (Int64.ofNat t).toInt = (t : Int) := Int64.toInt_ofNat_of_lt (by omega)
  have q := FP.Core.l2d_int (a := Int64.ofNat t) (by rw [e]; omega)
  have z := FP.Core.DInt_zval q
  have n := FP.Core.DInt_ne_nan q
  have v := dval_of n
  refine ⟨FP.Core.l2d (Int64.ofNat t), FP.Core.l2d_fin _, ?_⟩
  rw [z, e] at v
  unfold FP.Core.one64 at v
  have : ((t * 2 ^ 1074 : Nat) : Int) = (t : Int) * ((2 ^ 1074 : Nat) : Int) := Int.natCast_mul _ _
  rw [← this] at v
  split at v <;> omega
/-- 2^23 times, and then its whole part -/
theorem d_whole {y : UInt64} {t : Nat} (hy : FP.Core.DFin y) (h1 : y.toNat < 2 ^ 63) (ht : t < 2 ^ 53) (h : FP.Core.unitsOf FP.Core.b64 (dmg y) = t * 2 ^ 1022) : FP.d2l (FP.dmul y 4841369599423283200) = lN t := by
  obtain ⟨V, v1, v2⟩ := dint_un ht
  have e : dmg (FP.dmul y 4841369599423283200) = dmg V := by
    refine dmul_is hy d_252.2 (by have := dfin_lt v1; omega) ?_
    rw [h, v2, d_252.1, dn_K (by decide)]
    exact mhalf4 _ _ _ _ _ (by decide +kernel)
  have p := dmul_pos hy d_252.2 h1 (by decide)
  have hf : FP.Core.DFin (FP.dmul y 4841369599423283200) := dfin_of (by rw [e]; exact dfin_lt v1)
  have q := FP.Core.d2l_val hf.ne_nan
  rw [dsgn hf.ne_nan, FP.Core.zmag_bits hf.ne_nan] at q
  have e2 : FP.Core.unitsOf FP.Core.b64 ((FP.dmul y 4841369599423283200).toNat % 2 ^ 63) = t * 2 ^ 1074 := by
    have : FP.Core.unitsOf FP.Core.b64 (dmg (FP.dmul y 4841369599423283200)) = t * 2 ^ 1074 := by rw [e, v2]
    exact this
  have e3 : (FP.dmul y 4841369599423283200).toNat < 2 ^ 63 := by rw [p]; unfold dmg; omega
  rw [e2, decide_eq_false (by omega)] at q
  unfold FP.Core.one64 at q
  rw [Nat.mul_div_cancel _ (Nat.two_pow_pos _)] at q
  have q2 : (FP.Core.d2l (FP.dmul y 4841369599423283200)).toInt = (t : Int) := by
    rw [q]
    show max (-2 ^ 63 : Int) (min (2 ^ 63 - 1) (t : Int)) = t
    omega
  apply Int64.toInt_inj.mp
  show _ = (Int64.ofNat t).toInt
  rw [Int64.toInt_ofNat_of_lt (by omega)]
  exact q2
/-! one away from a number of the first octave -/
theorem dint_un2 {t : Nat} (h : t < 2 ^ 53) : ∃ V : UInt64, FP.Core.DFin V ∧ V.toNat < 2 ^ 63 ∧ FP.Core.unitsOf FP.Core.b64 (dmg V) = t * 2 ^ 1022 := by
  by_cases h0 : t = 0
  · refine ⟨0, dfin_of (by decide), by decide, ?_⟩
    rw [show dmg 0 = 0 from rfl, FP.Core.unitsOf_zero, h0, Nat.zero_mul]
  obtain ⟨V, v1, v2⟩ := dint_un h
  have hl := dfin_lt v1
  have big : 1023 * 2 ^ 52 ≤ dmg V := by
    rw [← FP.Core.unitsOf_le_iff (f := FP.Core.b64), v2, dn_K (by decide), show (2 : Nat) ^ 52 * 2 ^ (1023 - 1) = 1 * 2 ^ 1074 by decide +kernel]
    exact Nat.mul_le_mul_right _ (by omega)
  generalize hm : dmg V = m at *
  have e : (UInt64.ofNat (m - 52 * 2 ^ 52)).toNat = m - 52 * 2 ^ 52 := UInt64.toNat_ofNat_of_lt' (by show _ < 2 ^ 64; omega)
  have e2 : dmg (UInt64.ofNat (m - 52 * 2 ^ 52)) = m - 52 * 2 ^ 52 := by rw [dmg_fp (by omega), e]
  refine ⟨UInt64.ofNat (m - 52 * 2 ^ 52), dfin_of (by omega), by omega, ?_⟩
  have u := dn_ups (m := m - 52 * 2 ^ 52) (by omega) 52
  rw [show m - 52 * 2 ^ 52 + 52 * 2 ^ 52 = m by omega, v2] at u
  rw [e2]
  refine Nat.eq_of_mul_eq_mul_right (Nat.two_pow_pos 52) (u.symm.trans ?_)
  rw [Nat.mul_assoc, show (2 : Nat) ^ 1022 * 2 ^ 52 = 2 ^ 1074 by decide +kernel]
theorem dsub_one {x : UInt64} (h1 : 1023 * 2 ^ 52 ≤ x.toNat) (h2 : x.toNat < 1024 * 2 ^ 52) : FP.Core.DFin (FP.dsub x FP.dconst1) ∧ (FP.dsub x FP.dconst1).toNat < 2 ^ 63 ∧ FP.Core.unitsOf FP.Core.b64 (dmg (FP.dsub x FP.dconst1)) = (x.toNat - 1023 * 2 ^ 52) * 2 ^ 1022 := by
  have ex := dmg_fp (x := x) (by omega)
  have hx : FP.Core.DFin x := dfin_of (by omega)
  have hb : FP.Core.DFin (FP.Core.dneg FP.dconst1) := dfin_of (by decide +kernel)
  have nb : (FP.Core.dneg FP.dconst1).toNat = 2 ^ 63 + 1023 * 2 ^ 52 := by decide +kernel
  have es : FP.dsub x FP.dconst1 = FP.dadd x (FP.Core.dneg FP.dconst1) := FP.Core.dsub_eq _ _
  rw [es]
  have nz := dadd_nz hx hb (by omega)
  have vx := dval_of hx.ne_nan
  have vb := dval_of hb.ne_nan
  have mb : dmg (FP.Core.dneg FP.dconst1) = 1023 * 2 ^ 52 := by unfold dmg; omega
  rw [if_neg (by omega), ex] at vx
  rw [if_pos (by omega), mb, dn_K (by decide)] at vb
  have ux : FP.Core.unitsOf FP.Core.b64 x.toNat = (2 ^ 52 + (x.toNat - 1023 * 2 ^ 52)) * 2 ^ 1022 := by
    rw [dn_hi (by omega), show x.toNat / 2 ^ 52 = 1023 by omega, show x.toNat % 2 ^ 52 = x.toNat - 1023 * 2 ^ 52 by omega]
  obtain ⟨V, v1, v2, v3⟩ := dint_un2 (t := x.toNat - 1023 * 2 ^ 52) (by omega)
  have vV := dval_of v1.ne_nan
  rw [if_neg (by omega), v3] at vV
  have es2 : FP.Core.zval FP.Core.b64 (FP.Core.val64 x) + FP.Core.zval FP.Core.b64 (FP.Core.val64 (FP.Core.dneg FP.dconst1)) = FP.Core.zval FP.Core.b64 (FP.Core.val64 V) := by
    rw [vx, vb, vV, ux]
    generalize x.toNat - 1023 * 2 ^ 52 = t
    rw [Nat.add_mul, show (2 : Nat) ^ 52 * 2 ^ (1023 - 1) = 2 ^ 52 * 2 ^ 1022 by decide +kernel]
    omega
  have hn : FP.Core.val64 (FP.dadd x (FP.Core.dneg FP.dconst1)) ≠ .nan := (FP.Core.notNaN_iff _).mp (FP.Core.dadd_out hx.notNaN hb)
  have e : FP.Core.val64 (FP.dadd x (FP.Core.dneg FP.dconst1)) = _ := FP.Core.val64_dadd _ _
  have l1 := FP.Core.sum_le FP.Core.good_b64 (din_ex hx) (din_ex hb) (FP.Core.val64_fits _) (FP.Core.val64_fits _) (FP.Core.val64_fits V) v1.ne_nan (Int.le_of_eq es2)
  have l2 := FP.Core.sum_ge FP.Core.good_b64 (din_ex hx) (din_ex hb) (FP.Core.val64_fits _) (FP.Core.val64_fits _) (FP.Core.val64_fits V) v1.ne_nan (Int.le_of_eq es2.symm)
  rw [← e] at l1 l2
  have q := Int.le_antisymm l1 l2
  have vr := dval_of hn
  rw [q, vV] at vr
  have lt : (FP.dadd x (FP.Core.dneg FP.dconst1)).toNat < 2 ^ 63 := by
    rcases Nat.lt_or_ge (FP.dadd x (FP.Core.dneg FP.dconst1)).toNat (2 ^ 63) with q | q
    · exact q
    · rw [if_pos q] at vr
      have : FP.Core.unitsOf FP.Core.b64 (dmg (FP.dadd x (FP.Core.dneg FP.dconst1))) = 0 := by omega
      rw [FP.Core.unitsOf_eq_zero] at this
      have := (FP.dadd x (FP.Core.dneg FP.dconst1)).toNat_lt
      unfold dmg at *
      omega
  rw [if_neg (by omega)] at vr
  refine ⟨?_, lt, by omega⟩
  refine dfin_of ?_
  refine Nat.lt_of_le_of_lt (m := dmg V) ?_ (dfin_lt v1)
  rw [← FP.Core.unitsOf_le_iff (f := FP.Core.b64)]
  omega
/-! comparisons, by the bits -/
theorem dk_pos {x : UInt64} (h : x.toNat < 2 ^ 63) : FP.Core.dkey x = (x.toNat : Int) := by unfold FP.Core.dkey; rw [if_neg (by omega)]
theorem dcm_ge {a b : UInt64} (ha : FP.Core.DFin a) (hb : FP.Core.DFin b) (op : CmpOp) : (nI 0 ≤ Op.cmpValue (FP.dcmp a b) op) ↔ FP.Core.dkey b ≤ FP.Core.dkey a := by
  have e : FP.dcmp a b = _ := FP.Core.dcmp_key ha.ne_nan hb.ne_nan
  rw [e, FP.Core.compare_ite]
  split
  · refine ⟨fun q => absurd q (by cases op <;> decide), fun q => by omega⟩
  · split
    · exact ⟨fun _ => by omega, fun _ => by cases op <;> decide⟩
    · exact ⟨fun _ => by omega, fun _ => by cases op <;> decide⟩
theorem dcm_lt {a b : UInt64} (ha : FP.Core.DFin a) (hb : FP.Core.DFin b) (op : CmpOp) : (Op.cmpValue (FP.dcmp a b) op < nI 0) ↔ FP.Core.dkey a < FP.Core.dkey b := by
  have e : FP.dcmp a b = _ := FP.Core.dcmp_key ha.ne_nan hb.ne_nan
  rw [e, FP.Core.compare_ite]
  split
  · rename_i q
    exact ⟨fun _ => q, fun _ => by cases op <;> decide⟩
  · split
    · exact ⟨fun q => absurd q (by cases op <;> decide), fun q => by omega⟩
    · exact ⟨fun q => absurd q (by cases op <;> decide), fun q => by omega⟩
theorem dcm_eq {a b : UInt64} (ha : FP.Core.DFin a) (hb : FP.Core.DFin b) (op : CmpOp) : (Op.cmpValue (FP.dcmp a b) op = nI 0) ↔ FP.Core.dkey a = FP.Core.dkey b := by
  have e : FP.dcmp a b = _ := FP.Core.dcmp_key ha.ne_nan hb.ne_nan
  rw [e, FP.Core.compare_ite]
  split
  · exact ⟨fun q => absurd q (by cases op <;> decide), fun q => by omega⟩
  · split
    · rename_i q
      exact ⟨fun _ => q, fun _ => by cases op <;> decide⟩
    · exact ⟨fun q => absurd q (by cases op <;> decide), fun q => by omega⟩
/-- the sign away, as the class takes it -/
theorem dneg_nat {x : UInt64} (h : 2 ^ 63 ≤ x.toNat) : (FP.dneg x).toNat = dmg x := by
  have e : (FP.dneg x).toNat = x.toNat ^^^ 2 ^ 63 := by
    show (x ^^^ 0x8000000000000000).toNat = _
    rw [UInt64.toNat_xor]; rfl
  have h2 := x.toNat_lt
  rw [e]
  have e3 : x.toNat = 2 ^ 63 + dmg x := by unfold dmg; omega
  have l : dmg x < 2 ^ 63 := Nat.mod_lt _ (by decide)
  generalize dmg x = m at *
  rw [e3]
  apply Nat.eq_of_testBit_eq
  intro i
  rw [Nat.testBit_xor, Nat.testBit_two_pow]
  rcases Nat.lt_trichotomy i 63 with q | q | q
  · rw [Nat.testBit_two_pow_add_gt q, decide_eq_false (by omega), Bool.xor_false]
  · subst q
    rw [Nat.testBit_two_pow_add_eq, decide_eq_true rfl, Nat.testBit_lt_two_pow l]
    rfl
  · have w : (2 : Nat) ^ 64 ≤ 2 ^ i := Nat.pow_le_pow_right (by decide) q
    rw [Nat.testBit_lt_two_pow (x := 2 ^ 63 + m) (by omega), Nat.testBit_lt_two_pow (x := m) (by omega), decide_eq_false (by omega)]
    rfl
