/-! products, no zero of the sign - -/
theorem fsgn {x : UInt32} (h : FP.Core.val32 x ≠ .nan) : FP.Core.sgn (FP.Core.val32 x) = decide (2 ^ 31 ≤ x.toNat) := FP.Core.sgn_bits32 h
theorem fmul_parts {a b : UInt32} (ha : FP.Core.FFin a) (hb : FP.Core.FFin b) : ∃ s A e, FP.Core.val32 (FP.fmul a b) = FP.Core.roundRatio FP.Core.b32 s A 1 e ∧ s = (decide (2 ^ 31 ≤ a.toNat) != decide (2 ^ 31 ≤ b.toNat)) ∧ 2 * FP.Core.b32.qmin ≤ e ∧ FP.Core.inUnits A e (2 * FP.Core.b32.qmin) = FP.Core.unitsOf FP.Core.b32 (fmg a) * FP.Core.unitsOf FP.Core.b32 (fmg b) := by
  obtain ⟨s, c, q, e1⟩ := fin_ex ha
  obtain ⟨t, d, r, e2⟩ := fin_ex hb
  have g1 := FP.Core.val32_fits a
  have g2 := FP.Core.val32_fits b
  have s1 := fsgn ha.ne_nan
  have s2 := fsgn hb.ne_nan
  have z1 := FP.Core.zmag_toNat32 ha.ne_nan
  have z2 := FP.Core.zmag_toNat32 hb.ne_nan
  have e : FP.Core.val32 (FP.fmul a b) = _ := FP.Core.val32_fmul a b
  rw [e1] at g1 s1 z1
  rw [e2] at g2 s2 z2
  obtain ⟨p1, p2, p3⟩ := FP.Core.product_units g1 g2
  rw [e1, e2, p1] at e
  refine ⟨_, _, _, e, ?_, p2, ?_⟩
  · rw [← s1, ← s2]; rfl
  · rw [p3, z1, z2]; rfl
theorem fmul_le {a b : UInt32} (ha : FP.Core.FFin a) (hb : FP.Core.FFin b) {m : Nat} (h : FP.Core.unitsOf FP.Core.b32 (fmg a) * FP.Core.unitsOf FP.Core.b32 (fmg b) ≤ FP.Core.unitsOf FP.Core.b32 m * 2 ^ 149) : fmg (FP.fmul a b) ≤ m := by
  obtain ⟨s, A, e, h1, -, h2, h3⟩ := fmul_parts ha hb
  have := FP.Core.mag_le (e0 := 2 * FP.Core.b32.qmin) (m := m) FP.Core.good_b32 h1 (by decide) (by decide) h2 (by rw [h3, Nat.mul_one]; exact h)
  rwa [FP.Core.mag_toNat32] at this
theorem fmul_ge {a b : UInt32} (ha : FP.Core.FFin a) (hb : FP.Core.FFin b) {m : Nat} (hm : m ≤ 2139095040) (h : FP.Core.unitsOf FP.Core.b32 m * 2 ^ 149 ≤ FP.Core.unitsOf FP.Core.b32 (fmg a) * FP.Core.unitsOf FP.Core.b32 (fmg b)) : m ≤ fmg (FP.fmul a b) := by
  obtain ⟨s, A, e, h1, -, h2, h3⟩ := fmul_parts ha hb
  have := FP.Core.mag_ge (e0 := 2 * FP.Core.b32.qmin) (m := m) FP.Core.good_b32 h1 (by decide) (by decide) h2 (by rw [FP.Core.infBits_b32]; exact hm) (by rw [h3, Nat.mul_one]; exact h)
  rwa [FP.Core.mag_toNat32] at this
theorem fmul_is {a b : UInt32} (ha : FP.Core.FFin a) (hb : FP.Core.FFin b) {m : Nat} (hm : m ≤ 2139095040) (h : FP.Core.unitsOf FP.Core.b32 (fmg a) * FP.Core.unitsOf FP.Core.b32 (fmg b) = FP.Core.unitsOf FP.Core.b32 m * 2 ^ 149) : fmg (FP.fmul a b) = m :=
  Nat.le_antisymm (fmul_le ha hb (Nat.le_of_eq h)) (fmul_ge ha hb hm (Nat.le_of_eq h.symm))
theorem fmul_pos {a b : UInt32} (ha : FP.Core.FFin a) (hb : FP.Core.FFin b) (sa : a.toNat < 2 ^ 31) (sb : b.toNat < 2 ^ 31) : (FP.fmul a b).toNat = fmg (FP.fmul a b) := by
  obtain ⟨s, A, e, h1, h2, -⟩ := fmul_parts ha hb
  have hn : FP.Core.val32 (FP.fmul a b) ≠ .nan := (FP.Core.notNaN_iff32 _).mp (FP.Core.fmul_out ha hb)
  have h4 := fsgn hn
  rw [h1, FP.Core.sgn_roundRatio, h2, decide_eq_false (by omega), decide_eq_false (by omega)] at h4
  have h5 : ¬ 2 ^ 31 ≤ (FP.fmul a b).toNat := of_decide_eq_false h4.symm
  unfold fmg
  omega
theorem fmg_fp {x : UInt32} (h : x.toNat < 2 ^ 31) : fmg x = x.toNat := Nat.mod_eq_of_lt h
theorem fval_of {x : UInt32} (h : FP.Core.val32 x ≠ .nan) : FP.Core.zval FP.Core.b32 (FP.Core.val32 x) = if 2 ^ 31 ≤ x.toNat then -(FP.Core.unitsOf FP.Core.b32 (fmg x) : Int) else (FP.Core.unitsOf FP.Core.b32 (fmg x) : Int) := by
  have h1 := fsgn h
  have h2 := FP.Core.zmag_toNat32 h
  unfold FP.Core.zval FP.Core.signed
  rw [h1, h2]
  simp only [decide_eq_true_eq]
  rfl
theorem fadd_nz {a b : UInt32} (ha : FP.Core.FFin a) (hb : FP.Core.FFin b) (h0 : b.toNat ≠ 2 ^ 31) : (FP.fadd a b).toNat ≠ 2 ^ 31 := by
  intro hc
  have hn : FP.Core.val32 (FP.fadd a b) ≠ .nan := (FP.Core.notNaN_iff32 _).mp (FP.Core.fadd_out ha.notNaN hb)
  have e : FP.Core.val32 (FP.fadd a b) = _ := FP.Core.val32_fadd a b
  have v0 := fval_of hn
  have m0 : fmg (FP.fadd a b) = 0 := by unfold fmg; rw [hc]
  rw [hc, if_pos (Nat.le_refl _), m0, FP.Core.unitsOf_zero] at v0
  have s0 := fsgn hn
  rw [hc, decide_eq_true (Nat.le_refl _)] at s0
  obtain ⟨s, c, q, e1⟩ := fin_ex ha
  obtain ⟨t, d, r, e2⟩ := fin_ex hb
  have g1 := FP.Core.val32_fits a
  have g2 := FP.Core.val32_fits b
  have V : FP.Core.val32 1 = .fin false 1 FP.Core.b32.qmin := by decide +kernel
  have W : FP.Core.val32 2147483649 = .fin true 1 FP.Core.b32.qmin := by decide +kernel
  have zV : FP.Core.zval FP.Core.b32 (FP.Core.val32 1) = 1 := by rw [V]; decide +kernel
  have zW : FP.Core.zval FP.Core.b32 (FP.Core.val32 2147483649) = -1 := by rw [W]; decide +kernel
  by_cases hz : FP.Core.zval FP.Core.b32 (FP.Core.val32 a) + FP.Core.zval FP.Core.b32 (FP.Core.val32 b) = 0
  · have va := fval_of ha.ne_nan
    have vb := fval_of hb.ne_nan
    have sa := fsgn ha.ne_nan
    have sb := fsgn hb.ne_nan
    rw [e1] at g1 sa
    rw [e2] at g2 sb
    obtain ⟨sg, n, x, p1, p2, p3⟩ := FP.Core.sum_units g1 g2
    rw [← e1, ← e2, hz] at p3
    have p1' : sg = FP.Core.sumSign s t (FP.Core.sumUnits s c q t d r (min q r)) ∧ n = (FP.Core.sumUnits s c q t d r (min q r)).natAbs := by
      have := p1
      unfold FP.Core.exactSum at this
      injection this with i1 i2 i3
      exact ⟨i1.symm, i2.symm⟩
    have n0 : n = 0 := by
      have : FP.Core.inUnits n x FP.Core.b32.qmin = 0 := by
        unfold FP.Core.signed at p3
        split at p3 <;> omega
      unfold FP.Core.inUnits at this
      rcases Nat.mul_eq_zero.mp this with q | q
      · exact q
      · exact absurd q (Nat.ne_of_gt (Nat.two_pow_pos _))
    have z0 : FP.Core.sumUnits s c q t d r (min q r) = 0 := by omega
    rw [e1, e2, p1] at e
    rw [e] at s0
    have : FP.Core.sgn (FP.Core.round FP.Core.b32 (.fin sg n x)) = sg := FP.Core.sgn_roundRatio _ _ _ _ _
    rw [this, p1'.1, FP.Core.sumSign, if_pos z0] at s0
    have st : s = true ∧ t = true := by
      cases s <;> cases t <;> simp at s0 ⊢
    have sa' : 2 ^ 31 ≤ a.toNat := by
      have : s = decide (2 ^ 31 ≤ a.toNat) := sa
      rw [st.1] at this
      exact of_decide_eq_true this.symm
    have sb' : 2 ^ 31 ≤ b.toNat := by
      have : t = decide (2 ^ 31 ≤ b.toNat) := sb
      rw [st.2] at this
      exact of_decide_eq_true this.symm
    rw [if_pos sa'] at va
    rw [if_pos sb'] at vb
    have : FP.Core.unitsOf FP.Core.b32 (fmg b) = 0 := by omega
    rw [FP.Core.unitsOf_eq_zero] at this
    unfold fmg at this
    have := b.toNat_lt
    omega
  · rcases Int.lt_or_gt_of_ne hz with q | q
    · have := FP.Core.sum_le FP.Core.good_b32 (fin_ex ha) (fin_ex hb) (FP.Core.val32_fits a) (FP.Core.val32_fits b) (FP.Core.val32_fits 2147483649) (by rw [W]; intro h; cases h) (by rw [zW]; omega)
      rw [← FP.Core.val32_fadd, zW] at this
      have : FP.Core.zval FP.Core.b32 (FP.Core.val32 (FP.fadd a b)) ≤ -1 := this
      rw [v0] at this
      exact absurd this (by decide)
    · have := FP.Core.sum_ge FP.Core.good_b32 (fin_ex ha) (fin_ex hb) (FP.Core.val32_fits a) (FP.Core.val32_fits b) (FP.Core.val32_fits 1) (by rw [V]; intro h; cases h) (by rw [zV]; omega)
      rw [← FP.Core.val32_fadd, zV] at this
      have : 1 ≤ FP.Core.zval FP.Core.b32 (FP.Core.val32 (FP.fadd a b)) := this
      rw [v0] at this
      exact absurd this (by decide)
