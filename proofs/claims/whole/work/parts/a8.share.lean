/-! shares -/
theorem fpos_of {r : UInt32} (hr : FP.Core.FFin r) (nz : r.toNat ≠ 2 ^ 31) (hv : 0 ≤ FP.Core.zval FP.Core.b32 (FP.Core.val32 r)) : r.toNat < 2 ^ 31 := by
  rcases Nat.lt_or_ge r.toNat (2 ^ 31) with q | q
  · exact q
  · have v := fval_of hr.ne_nan
    rw [if_pos q] at v
    have : FP.Core.unitsOf FP.Core.b32 (fmg r) = 0 := by omega
    rw [FP.Core.unitsOf_eq_zero] at this
    have := r.toNat_lt
    unfold fmg at *
    omega
theorem fint_un3 {k : Nat} (h : k ≤ 64) : ∃ V : UInt32, FP.Core.FFin V ∧ V.toNat < 2 ^ 31 ∧ fmg V ≤ 198 * 2 ^ 23 ∧ FP.Core.unitsOf FP.Core.b32 (fmg V) = k * 2 ^ 214 := by
  by_cases h0 : k = 0
  · refine ⟨0, ffin_of (by decide), by decide, by decide, ?_⟩
    rw [show fmg 0 = 0 from rfl, FP.Core.unitsOf_zero, h0, Nat.zero_mul]
  obtain ⟨V, v1, v2⟩ := fint_un (t := k) (by omega)
  have hl := ffin_lt v1
  have big : 127 * 2 ^ 23 ≤ fmg V := by
    rw [← FP.Core.unitsOf_le_iff (f := FP.Core.b32), v2, un_K (by decide), show (2 : Nat) ^ 23 * 2 ^ (127 - 1) = 1 * 2 ^ 149 by decide]
    exact Nat.mul_le_mul_right _ (by omega)
  have sml : fmg V ≤ 133 * 2 ^ 23 := by
    rw [← FP.Core.unitsOf_le_iff (f := FP.Core.b32), v2, un_K (by decide), show (2 : Nat) ^ 23 * 2 ^ (133 - 1) = 64 * 2 ^ 149 by decide +kernel]
    exact Nat.mul_le_mul_right _ h
  generalize hm : fmg V = m at *
  have e : (UInt32.ofNat (m + 65 * 2 ^ 23)).toNat = m + 65 * 2 ^ 23 := UInt32.toNat_ofNat_of_lt' (by show _ < 2 ^ 32; omega)
  have e2 : fmg (UInt32.ofNat (m + 65 * 2 ^ 23)) = m + 65 * 2 ^ 23 := by rw [fmg_fp (by omega), e]
  refine ⟨UInt32.ofNat (m + 65 * 2 ^ 23), ffin_of (by omega), by omega, by omega, ?_⟩
  rw [e2, un_ups (by omega), v2, Nat.mul_assoc, show (2 : Nat) ^ 149 * 2 ^ 65 = 2 ^ 214 by decide +kernel]
def fab (x : UInt32) : UInt32 := x &&& 0x7fffffff
theorem fab_nat (x : UInt32) : (fab x).toNat = fmg x := FP.Core.mask_toNat32 x
theorem fab_mg (x : UInt32) : fmg (fab x) = fmg x := by
  have := fab_nat x
  unfold fmg at *
  omega
theorem fab_lt (x : UInt32) : (fab x).toNat < 2 ^ 31 := by rw [fab_nat]; exact Nat.mod_lt _ (by decide)
def jtotF (g : Nat → Int64) : Nat → UInt32
  | 0 => FP.fconst0
  | k + 1 => FP.fadd (jtotF g k) (fab (FP.l2f (g k)))
def jshrF (n : Nat) (g : Nat → Int64) (i : Nat) : UInt32 := if Op.cmpValue (FP.fcmp (jtotF g n) FP.fconst0) .l = nI 0 then FP.fconst0 else FP.fdiv (FP.l2f (g i)) (jtotF g n)
theorem l2f_nz (v : Int64) : (FP.l2f v).toNat ≠ 2 ^ 31 := by
  intro hc
  by_cases h0 : v.toInt = 0
  · have : v = 0 := by
      apply Int64.toInt_inj.mp
      rw [h0]; rfl
    subst this
    have e : FP.l2f 0 = 0 := FP.Core.l2f_zero
    rw [e] at hc
    exact absurd hc (by decide)
  · have := (FP.Core.l2f_big h0).1
    have e : (FP.Core.l2f v).toNat = 2 ^ 31 := hc
    rw [e] at this
    exact absurd this (by decide)
theorem tot_ok (g : Nat → Int64) : ∀ k, k ≤ 64 → FP.Core.FFin (jtotF g k) ∧ (jtotF g k).toNat < 2 ^ 31 ∧ FP.Core.unitsOf FP.Core.b32 (fmg (jtotF g k)) ≤ k * 2 ^ 214 ∧ ∀ j, j < k → fmg (FP.l2f (g j)) ≤ fmg (jtotF g k)
  | 0, _ => ⟨f_zero.2, by show FP.fconst0.toNat < _; decide, by show FP.Core.unitsOf FP.Core.b32 (fmg FP.fconst0) ≤ _; rw [f_zero.1, FP.Core.unitsOf_zero]; exact Nat.zero_le _, fun j hj => by omega⟩
  | k + 1, hk => by
    obtain ⟨t1, t2, t3, t4⟩ := tot_ok g k (by omega)
    have lf : FP.Core.FFin (FP.l2f (g k)) := FP.Core.l2f_fin _
    have lm : fmg (FP.l2f (g k)) < 192 * 2 ^ 23 := FP.Core.l2f_mag _
    have a1 : FP.Core.FFin (fab (FP.l2f (g k))) := ffin_of (by rw [fab_mg]; exact ffin_lt lf)
    have a2 := fab_lt (FP.l2f (g k))
    have a3 := fab_mg (FP.l2f (g k))
    have va := fval_of a1.ne_nan
    have vt := fval_of t1.ne_nan
    rw [if_neg (by omega), a3] at va
    rw [if_neg (by omega)] at vt
    have au : FP.Core.unitsOf FP.Core.b32 (fmg (FP.l2f (g k))) < 2 ^ 214 := by
      have := (FP.Core.unitsOf_lt_iff (f := FP.Core.b32)).mpr lm
      rw [un_K (by decide), show (2 : Nat) ^ 23 * 2 ^ (192 - 1) = 2 ^ 214 by decide +kernel] at this
      exact this
    obtain ⟨V, w1, w2, w3, w4⟩ := fint_un3 hk
    have vV := fval_of w1.ne_nan
    rw [if_neg (by omega), w4] at vV
    have w := fadd_within t1 a1 w1 (by
      rw [va, vt, vV]
      have : ((k + 1) * 2 ^ 214 : Nat) = k * 2 ^ 214 + 2 ^ 214 := by rw [Nat.add_mul, Nat.one_mul]
      rw [this]
      generalize (2 : Nat) ^ 214 = P at *
      generalize k * P = Q at *
      omega)
    have n1 : FP.Core.FFin (FP.fadd (jtotF g k) (fab (FP.l2f (g k)))) := ffin_of (Nat.lt_of_le_of_lt w (by omega))
    have e : FP.Core.val32 (FP.fadd (jtotF g k) (fab (FP.l2f (g k)))) = _ := FP.Core.val32_fadd _ _
    have l1 := FP.Core.sum_ge FP.Core.good_b32 (fin_ex t1) (fin_ex a1) (FP.Core.val32_fits _) (FP.Core.val32_fits _) (FP.Core.val32_fits (jtotF g k)) t1.ne_nan (by rw [va]; omega)
    have l2 := FP.Core.sum_ge FP.Core.good_b32 (fin_ex t1) (fin_ex a1) (FP.Core.val32_fits _) (FP.Core.val32_fits _) (FP.Core.val32_fits (fab (FP.l2f (g k)))) a1.ne_nan (by rw [vt]; omega)
    rw [← e] at l1 l2
    have nz := fadd_nz t1 a1 (by omega)
    have p1 := fpos_of n1 nz (by rw [vt] at l1; omega)
    have vr := fval_of n1.ne_nan
    rw [if_neg (by omega)] at vr
    refine ⟨n1, p1, ?_, fun j hj => ?_⟩
    · rw [← w4, FP.Core.unitsOf_le_iff]
      exact w
    · show fmg (FP.l2f (g j)) ≤ fmg (FP.fadd (jtotF g k) (fab (FP.l2f (g k))))
      by_cases q : j = k
      · subst q
        rw [vr, va] at l2
        rw [← FP.Core.unitsOf_le_iff (f := FP.Core.b32)]
        omega
      · refine Nat.le_trans (t4 j (by omega)) ?_
        rw [vr, vt] at l1
        rw [← FP.Core.unitsOf_le_iff (f := FP.Core.b32)]
        omega
