/-! shares are good numbers, and cells that warm stay so -/
theorem fdiv_ge {a b : UInt32} (ha : FP.Core.FFin a) (hb : FP.Core.FFin b) (h0 : fmg b ≠ 0) {m : Nat} (hm : m ≤ 2139095040) (h : FP.Core.unitsOf FP.Core.b32 m * FP.Core.unitsOf FP.Core.b32 (fmg b) ≤ FP.Core.unitsOf FP.Core.b32 (fmg a) * 2 ^ 149) : m ≤ fmg (FP.fdiv a b) := by
  obtain ⟨s, c, q, e1⟩ := fin_ex ha
  obtain ⟨t, d, r, e2⟩ := fin_ex hb
  have g1 := FP.Core.val32_fits a
  have g2 := FP.Core.val32_fits b
  have z1 := FP.Core.zmag_toNat32 ha.ne_nan
  have z2 := FP.Core.zmag_toNat32 hb.ne_nan
  have e : FP.Core.val32 (FP.fdiv a b) = _ := FP.Core.val32_fdiv a b
  rw [e1] at g1 z1
  rw [e2] at g2 z2
  have z1' : c * 2 ^ (q - FP.Core.b32.qmin).toNat = FP.Core.unitsOf FP.Core.b32 (fmg a) := z1
  have z2' : d * 2 ^ (r - FP.Core.b32.qmin).toNat = FP.Core.unitsOf FP.Core.b32 (fmg b) := z2
  have d0 : d ≠ 0 := by
    intro h
    rw [h, Nat.zero_mul] at z2'
    exact h0 (FP.Core.unitsOf_eq_zero.mp z2'.symm)
  have e' : FP.Core.decode FP.Core.b32 (FP.fdiv a b).toNat = FP.Core.roundRatio FP.Core.b32 (s != t) c d (q - r) := by
    rw [e1, e2] at e
    show FP.Core.val32 (FP.fdiv a b) = _
    rw [e]
    unfold FP.Core.quotient
    simp only
    rw [if_neg d0]
  have q1 := g1.2.1
  have r1 := g2.2.1
  have k0 : FP.Core.b32.qmin = -149 := FP.Core.qmin_b32
  obtain ⟨A, hA⟩ : ∃ A : Nat, q - FP.Core.b32.qmin = (A : Int) := ⟨(q - FP.Core.b32.qmin).toNat, by omega⟩
  obtain ⟨B, hB⟩ : ∃ B : Nat, r - FP.Core.b32.qmin = (B : Int) := ⟨(r - FP.Core.b32.qmin).toNat, by omega⟩
  have := FP.Core.mag_ge (e0 := FP.Core.b32.qmin - (B : Int)) (m := m) FP.Core.good_b32 e' (Nat.pos_of_ne_zero d0) (by omega) (by omega) (by rw [FP.Core.infBits_b32]; exact hm) (by
    unfold FP.Core.inUnits
    rw [show (q - r - (FP.Core.b32.qmin - (B : Int))).toNat = A + 149 by omega, show (FP.Core.b32.qmin - (FP.Core.b32.qmin - (B : Int))).toNat = B by omega]
    rw [hA, show ((A : Int)).toNat = A from rfl] at z1'
    rw [hB, show ((B : Int)).toNat = B from rfl] at z2'
    rw [← z1', ← z2'] at h
    rw [show (2 : Nat) ^ (A + 149) = 2 ^ A * 2 ^ 149 from Nat.pow_add _ _ _, ← Nat.mul_assoc]
    refine Nat.le_trans (Nat.le_of_eq ?_) h
    generalize FP.Core.unitsOf FP.Core.b32 m = u
    generalize (2 : Nat) ^ B = p
    ac_rfl)
  rwa [FP.Core.mag_toNat32] at this
theorem tot_zero (g : Nat → Int64) {n : Nat} (hn : n ≤ 64) : (Op.cmpValue (FP.fcmp (jtotF g n) FP.fconst0) .l = nI 0) ↔ fmg (jtotF g n) = 0 := by
  obtain ⟨t1, t2, -⟩ := tot_ok g n hn
  rw [cmp_eq t1 f_zero.2, fk_pos t2, show FP.Core.fkey FP.fconst0 = 0 by decide +kernel, fmg_fp t2]
  omega
theorem shr_ok (g : Nat → Int64) {n i : Nat} (hn : n ≤ 64) (hi : i < n) : fok 193 (jshrF n g i) ∧ (¬ Op.cmpValue (FP.fcmp (jtotF g n) FP.fconst0) .l = nI 0 → vf_n32 (FP.fdiv (FP.l2f (g i)) (jtotF g n))) := by
  obtain ⟨t1, t2, t3, t4⟩ := tot_ok g n hn
  have tz := tot_zero g hn
  have t5 := t4 i hi
  unfold jshrF
  split
  · rename_i q
    exact ⟨⟨by rw [f_zero.1]; exact Nat.zero_le _, by decide⟩, fun c => absurd q c⟩
  · rename_i q
    have n0 : fmg (jtotF g n) ≠ 0 := fun c => q (tz.mpr c)
    have nz : ¬ FP.Core.FZero (jtotF g n) := fun c => n0 ((FP.Core.zero_bits232 _).mp c)
    have lf : FP.Core.FFin (FP.l2f (g i)) := FP.Core.l2f_fin _
    refine ⟨?_, fun _ => vf_of _ (FP.Core.fdiv_out lf.notNaN t1 nz)⟩
    by_cases h0 : (g i).toInt = 0
    · have e : g i = 0 := by
        apply Int64.toInt_inj.mp
        rw [h0]; rfl
      have e2 : FP.l2f (g i) = 0 := by rw [e]; exact FP.Core.l2f_zero
      have v : FP.Core.val32 (FP.fdiv (FP.l2f (g i)) (jtotF g n)) = _ := FP.Core.val32_fdiv _ _
      obtain ⟨t, d, r, e3⟩ := fin_ex t1
      have st := fsgn t1.ne_nan
      have z2 := FP.Core.zmag_toNat32 t1.ne_nan
      rw [e3] at st z2
      have st' : t = false := by
        have : t = decide (2 ^ 31 ≤ (jtotF g n).toNat) := st
        rw [this]
        exact decide_eq_false (by omega)
      have d0 : d ≠ 0 := by
        intro h
        have z2' : d * 2 ^ (r - FP.Core.b32.qmin).toNat = FP.Core.unitsOf FP.Core.b32 (fmg (jtotF g n)) := z2
        rw [h, Nat.zero_mul] at z2'
        exact n0 (FP.Core.unitsOf_eq_zero.mp z2'.symm)
      rw [e2, e3, FP.Core.val32_zero] at v
      unfold FP.Core.quotient at v
      simp only at v
      rw [if_neg d0] at v
      unfold FP.Core.roundRatio at v
      rw [if_pos rfl, st'] at v
      have v' : FP.Core.val32 (FP.fdiv 0 (jtotF g n)) = FP.Core.val32 0 := by rw [v, FP.Core.val32_zero]; rfl
      have := FP.Core.val32_inj (by rw [v', FP.Core.val32_zero]; intro h; cases h) v'
      rw [e2, this]
      exact ⟨by decide, by decide⟩
    · have b1 := FP.Core.l2f_big h0
      have b2 := FP.Core.l2f_mag (g i)
      have b1' : 127 * 2 ^ 23 ≤ fmg (FP.l2f (g i)) := b1.1
      have u1 := FP.Core.fdiv_mag (a := FP.l2f (g i)) (b := jtotF g n) (K := 192) (L := 127) b2 (Nat.le_trans b1' t5) (ffin_lt t1) (by decide) (by decide)
      have u2 := fdiv_ge (m := 1) lf t1 n0 (by decide) (by
        rw [un_lo (m := 1) (by decide), Nat.one_mul]
        refine Nat.le_trans t3 ?_
        have := (FP.Core.unitsOf_le_iff (f := FP.Core.b32)).mpr b1'
        rw [un_K (by decide)] at this
        refine Nat.le_trans ?_ (Nat.mul_le_mul_right _ this)
        refine Nat.le_trans (Nat.mul_le_mul_right _ hn) ?_
        exact Nat.le_of_ble_eq_true (by decide +kernel))
      refine ⟨Nat.le_of_lt u1, ?_⟩
      have := (FP.fdiv (FP.l2f (g i)) (jtotF g n)).toNat_lt
      unfold fmg at u2
      omega
/-- a cell that warms -/
def jwmF (c x : UInt32) : UInt32 := FP.fadd (FP.fmul c 1056964608) x
theorem wm_ok {c x : UInt32} (hc : fok 194 c) (hx : fok 193 x) : fok 194 (jwmF c x) ∧ vf_n32 (FP.fmul c 1056964608) ∧ vf_n32 (FP.fadd (FP.fmul c 1056964608) x) := by
  have f1 := fmg_fin hc.1 (by decide)
  have f2 := fmg_fin hx.1 (by decide)
  have h1 := fhalf_le (by decide) (by decide) hc.1
  have f3 := fmg_fin h1 (by decide)
  refine ⟨⟨?_, fadd_nz f3 f2 hx.2⟩, vf_fmul f1 f_half.2, vf_fadd f3 f2⟩
  have e : (UInt32.ofNat (194 * 2 ^ 23)).toNat = 194 * 2 ^ 23 := UInt32.toNat_ofNat_of_lt' (by decide)
  have em : fmg (UInt32.ofNat (194 * 2 ^ 23)) = 194 * 2 ^ 23 := by decide
  have fV : FP.Core.FFin (UInt32.ofNat (194 * 2 ^ 23)) := ffin_of (by decide)
  have := fadd_within f3 f2 fV (by
    have u1 := (FP.Core.unitsOf_le_iff (f := FP.Core.b32)).mpr h1
    have u2 := (FP.Core.unitsOf_le_iff (f := FP.Core.b32)).mpr hx.1
    have v1 := fval_of f3.ne_nan
    have v2 := fval_of f2.ne_nan
    have v3 := fval_of fV.ne_nan
    rw [em, if_neg (by decide)] at v3
    have k1 : FP.Core.unitsOf FP.Core.b32 (194 * 2 ^ 23) = 2 * FP.Core.unitsOf FP.Core.b32 (193 * 2 ^ 23) := by
      rw [un_K (by decide), un_K (by decide)]
    rw [v3, k1]
    have u1' : FP.Core.unitsOf FP.Core.b32 (fmg (FP.fmul c 1056964608)) ≤ FP.Core.unitsOf FP.Core.b32 (193 * 2 ^ 23) := u1
    generalize FP.Core.unitsOf FP.Core.b32 (193 * 2 ^ 23) = P at *
    split at v1 <;> split at v2 <;> omega)
  rw [em] at this
  exact this
