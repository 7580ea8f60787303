/-! floatBits -/
theorem nI_dec (n : Nat) : nI (n + 1) + (-1) = nI n := by
  rw [← nI_add, Int32.add_assoc]
  exact Int32.add_zero _
theorem i_or (s : Int32) (n : Nat) {b : Nat} (hs : s.toBitVec.toNat = 2 ^ 31 * b) (h : n < 2 ^ 31) : (s ||| nI n).toBitVec.toNat = 2 ^ 31 * b + n := by
  rw [Int32.toBitVec_or, BitVec.toNat_or, hs, Nat.two_pow_add_eq_or_of_lt h]
  congr 1
  show (BitVec.ofNat 32 n).toNat = n
  rw [BitVec.toNat_ofNat]
  exact Nat.mod_eq_of_lt (by omega)
def fsg (x : UInt32) : Int32 := if 2 ^ 31 ≤ x.toNat then -2147483648 else nI 0
theorem fsg_or {x : UInt32} {n : Nat} (hn : fmg x = n) : fsg x ||| nI n = x.toInt32 := by
  have hx := x.toNat_lt
  have l : n < 2 ^ 31 := by rw [← hn]; exact Nat.mod_lt _ (by decide)
  apply Int32.toBitVec_inj.mp
  apply BitVec.eq_of_toNat_eq
  show _ = x.toNat
  unfold fsg
  unfold fmg at hn
  split
  · rw [i_or (b := 1) _ _ (by decide) l]
    omega
  · rw [i_or (b := 0) _ _ (by decide) l]
    omega
theorem nI_or {a t : Nat} (ha : a < 256) (ht : t < 2 ^ 23) : nI (a * 2 ^ 23) ||| nI t = nI (a * 2 ^ 23 + t) := by
  apply Int32.toBitVec_inj.mp
  apply BitVec.eq_of_toNat_eq
  rw [Int32.toBitVec_or, BitVec.toNat_or]
  show (BitVec.ofNat 32 _).toNat ||| (BitVec.ofNat 32 _).toNat = (BitVec.ofNat 32 _).toNat
  rw [BitVec.toNat_ofNat, BitVec.toNat_ofNat, BitVec.toNat_ofNat, Nat.mod_eq_of_lt (by omega), Nat.mod_eq_of_lt (by omega), Nat.mod_eq_of_lt (by omega), Nat.mul_comm, Nat.two_pow_add_eq_or_of_lt ht]
theorem i_or_assoc (a b c : Int32) : a ||| b ||| c = a ||| (b ||| c) := Int32.or_assoc _ _ _
theorem fk_lt0 {x : UInt32} (h0 : x.toNat ≠ 2 ^ 31) : (FP.Core.fkey x < FP.Core.fkey FP.fconst0) ↔ 2 ^ 31 ≤ x.toNat := by
  have e : FP.Core.fkey FP.fconst0 = 0 := by decide +kernel
  have hx := x.toNat_lt
  rw [e]
  unfold FP.Core.fkey
  split <;> omega
theorem c_X11_floatBits {x : UInt32} (hx : FP.Core.FFin x) (h0 : x.toNat ≠ 2 ^ 31) (h : List jC) : jCt jy_X11_floatBits [.float x] h (fun r h' => r = some (.int x.toInt32) ∧ h' = h) := by
  have hl := ffin_lt hx
  have k1 : FP.Core.fkey FP.fconst1 = ((127 * 2 ^ 23 : Nat) : Int) := by decide +kernel
  have k2 : FP.Core.fkey FP.fconst2 = ((128 * 2 ^ 23 : Nat) : Int) := by decide +kernel
  refine jrun2 (js_X11_floatBits _) rfl rfl rfl (fun G hG hW hB => ?_)
  -- where the loops end
  have endA : ∀ k j (y : UInt32) v, fmg x + j * 2 ^ 23 = y.toNat + k * 2 ^ 23 → j ≤ 127 + k → 127 * 2 ^ 23 ≤ y.toNat → y.toNat < 128 * 2 ^ 23 → G 89 [some (.float x), some (.int (fsg x)), some (.float y), some (.int (nI (127 + k - j))), some (.int v)] [] h 0 0 := by
    intro k j y v e ejk y1 y2
    have fy : FP.Core.FFin y := ffin_of (by rw [fmg_fp (by omega)]; omega)
    refine hG [] 300 _ _ _ _ _ _ ?_
    conv => whnf
    refine ⟨fun c => ?_, fun c => ?_⟩ <;> rw [cmp_ge fy f_one.2, fk_pos (x := y) (by omega), k1] at c
    case refine_2 => omega
    obtain ⟨s1, s2, s3⟩ := fsub_one y1 y2
    have w := f_whole s1 s2 (t := y.toNat - 127 * 2 ^ 23) (by omega) s3
    conv => whnf
    refine ⟨vf_fsub fy f_one.2, ?_⟩
    conv => whnf
    refine ⟨vf_fmul s1 f_223.2, ?_⟩
    conv => whnf
    refine ⟨?_, rfl⟩
    erw [w, pk_shlN _ 23 (by decide) (n := 127 + k - j) (by omega), i_or_assoc, nI_or (by omega) (by omega)]
    rw [fsg_or (by omega)]
  have endB : ∀ (y : UInt32) e v, fmg x < 2 ^ 23 → y.toNat < 127 * 2 ^ 23 → FP.Core.unitsOf FP.Core.b32 (fmg y) = fmg x * 2 ^ 126 → G 89 [some (.float x), some (.int (fsg x)), some (.float y), some (.int e), some (.int v)] [] h 0 0 := by
    intro y e v hm y1 y2
    have fy : FP.Core.FFin y := ffin_of (by rw [fmg_fp (by omega)]; omega)
    refine hG [] 300 _ _ _ _ _ _ ?_
    conv => whnf
    refine ⟨fun c => ?_, fun c => ?_⟩ <;> rw [cmp_ge fy f_one.2, fk_pos (x := y) (by omega), k1] at c
    · omega
    have w := f_whole fy (by omega) (t := fmg x) (by omega) y2
    conv => whnf
    refine ⟨vf_fmul fy f_223.2, ?_⟩
    conv => whnf
    refine ⟨?_, rfl⟩
    erw [w]
    rw [fsg_or rfl]
  have loopA : ∀ f k j (y : UInt32), fmg x + j * 2 ^ 23 = y.toNat + k * 2 ^ 23 → j ≤ 127 + k → j ≤ 126 → j * 2 ^ 23 + 2 ^ 23 ≤ y.toNat → y.toNat < 128 * 2 ^ 23 → 127 ≤ y.toNat / 2 ^ 23 + f → G 63 [some (.float x), some (.int (fsg x)), some (.float y), some (.int (nI (127 + k - j))), some (.int (nI j))] [] h 0 0 := by
    intro f
    induction f with
    | zero =>
      intro k j y e ejk j1 y0 y2 y3
      have fy : FP.Core.FFin y := ffin_of (by rw [fmg_fp (by omega)]; omega)
      refine hG [89] 300 _ _ _ _ _ _ ?_
      conv => whnf
      refine ⟨fun qb => ?_, fun qb => ?_⟩ <;> rw [nI_leI (by omega) (by omega)] at qb
      · exact endA k j y _ e ejk (by omega) y2
      conv => whnf
      refine ⟨fun c => ?_, fun c => ?_⟩ <;> rw [cmp_ge fy f_one.2, fk_pos (x := y) (by omega), k1] at c
      case refine_2 => omega
      exact endA k j y _ e ejk (by omega) y2
    | succ f ih =>
      intro k j y e ejk j1 y0 y2 y3
      have fy : FP.Core.FFin y := ffin_of (by rw [fmg_fp (by omega)]; omega)
      refine hG [63,89] 300 _ _ _ _ _ _ ?_
      conv => whnf
      refine ⟨fun qb => ?_, fun qb => ?_⟩ <;> rw [nI_leI (by omega) (by omega)] at qb
      · exact endA k j y _ e ejk (by omega) y2
      conv => whnf
      refine ⟨fun c => ?_, fun c => ?_⟩ <;> rw [cmp_ge fy f_one.2, fk_pos (x := y) (by omega), k1] at c
      · exact endA k j y _ e ejk (by omega) y2
      have d := fdouble (x := y) (by rw [fmg_fp (by omega)]; omega) (by omega)
      rw [if_neg (by omega)] at d
      conv => whnf
      refine ⟨vf_fmul fy f_two.2, ?_⟩
      conv => whnf
      rw [nI_add]
      obtain ⟨q, hq⟩ : ∃ q, 127 + k - j = q + 1 := ⟨127 + k - j - 1, by omega⟩
      rw [hq]
      erw [nI_dec]
      rw [show q = 127 + k - (j + 1) by omega]
      have a1 : fmg x + (j + 1) * 2 ^ 23 = (FP.fmul y FP.fconst2).toNat + k * 2 ^ 23 := by
        rw [d, Nat.add_mul, Nat.one_mul, ← Nat.add_assoc, e]
        exact Nat.add_right_comm _ _ _
      have a2 : j + 1 ≤ 127 + k := by
        clear a1 e y0 y2 y3 c ih d
        omega
      exact ih k (j + 1) _ a1 a2 (by omega) (by rw [d, Nat.add_mul, Nat.one_mul]; exact Nat.add_le_add_right y0 _) (by rw [d]; omega) (by rw [d]; omega)
  have loopB : ∀ f j (y : UInt32) e, fmg x < 2 ^ 23 → f + j = 126 → y.toNat < 127 * 2 ^ 23 → FP.Core.unitsOf FP.Core.b32 (fmg y) = fmg x * 2 ^ j → G 63 [some (.float x), some (.int (fsg x)), some (.float y), some (.int e), some (.int (nI j))] [] h 0 0 := by
    intro f
    induction f with
    | zero =>
      intro j y e hm hj y1 y2
      obtain rfl : j = 126 := by omega
      refine hG [89] 300 _ _ _ _ _ _ ?_
      conv => whnf
      refine ⟨fun qb => ?_, fun qb => ?_⟩ <;> rw [nI_leI (by omega) (by omega)] at qb
      · exact endB y _ _ hm y1 y2
      omega
    | succ f ih =>
      intro j y e hm hj y1 y2
      have fy : FP.Core.FFin y := ffin_of (by rw [fmg_fp (by omega)]; omega)
      refine hG [63,89] 300 _ _ _ _ _ _ ?_
      conv => whnf
      refine ⟨fun qb => ?_, fun qb => ?_⟩ <;> rw [nI_leI (by omega) (by omega)] at qb
      · omega
      conv => whnf
      refine ⟨fun c => ?_, fun c => ?_⟩ <;> rw [cmp_ge fy f_one.2, fk_pos (x := y) (by omega), k1] at c
      · omega
      have d := fdouble (x := y) (by rw [fmg_fp (by omega)]; omega) (by omega)
      have e1 := fmg_fp (x := y) (by omega)
      have u : FP.Core.unitsOf FP.Core.b32 (FP.fmul y FP.fconst2).toNat = 2 * FP.Core.unitsOf FP.Core.b32 (fmg y) := by
        rw [d, e1]
        split
        · rename_i q
          rw [un_dbl q, un_lo q]
        · exact un_up (by omega)
      have lt : (FP.fmul y FP.fconst2).toNat < 2 ^ 31 := by rw [d]; split <;> omega
      have u2 : FP.Core.unitsOf FP.Core.b32 (FP.fmul y FP.fconst2).toNat = fmg x * 2 ^ (j + 1) := by
        rw [u, y2, show (2 : Nat) ^ (j + 1) = 2 ^ j * 2 from Nat.pow_succ _ _]
        ac_rfl
      have small : (FP.fmul y FP.fconst2).toNat < 127 * 2 ^ 23 := by
        rw [← FP.Core.unitsOf_lt_iff (f := FP.Core.b32), u2, un_K (by decide)]
        refine Nat.lt_of_lt_of_le (Nat.mul_lt_mul_of_pos_right hm (Nat.two_pow_pos _)) ?_
        exact Nat.mul_le_mul_left _ (Nat.pow_le_pow_right (by decide) (by omega))
      conv => whnf
      refine ⟨vf_fmul fy f_two.2, ?_⟩
      conv => whnf
      rw [nI_add]
      exact ih (j + 1) _ _ hm (by omega) small (by rw [fmg_fp lt]; exact u2)
  have loop1 : ∀ f k (y : UInt32), fmg x = y.toNat + k * 2 ^ 23 → (k = 0 ∨ 127 * 2 ^ 23 ≤ y.toNat) → y.toNat < (128 + f) * 2 ^ 23 → y.toNat < 2 ^ 31 → G 32 [some (.float x), some (.int (fsg x)), some (.float y), some (.int (nI (127 + k))), some (.int (nI k))] [] h 0 0 := by
    intro f
    have out : ∀ k (y : UInt32), fmg x = y.toNat + k * 2 ^ 23 → (k = 0 ∨ 127 * 2 ^ 23 ≤ y.toNat) → y.toNat < 128 * 2 ^ 23 → G 60 [some (.float x), some (.int (fsg x)), some (.float y), some (.int (nI (127 + k))), some (.int (nI k))] [] h 0 0 := by
      intro k y e y1 y2
      refine hG [63] 300 _ _ _ _ _ _ ?_
      conv => whnf
      by_cases q : y.toNat < 2 ^ 23
      · obtain rfl : k = 0 := by omega
        refine loopB 126 0 y _ (by omega) rfl (by omega) ?_
        rw [fmg_fp (by omega), un_lo q, Nat.pow_zero, Nat.mul_one]
        omega
      · exact loopA 127 k 0 y (by omega) (by omega) (by omega) (by omega) y2 (by omega)
    induction f with
    | zero =>
      intro k y e y1 y2 y3
      have fy : FP.Core.FFin y := ffin_of (by rw [fmg_fp (by omega)]; omega)
      refine hG [60] 300 _ _ _ _ _ _ ?_
      conv => whnf
      refine ⟨fun qb => ?_, fun qb => ?_⟩ <;> rw [nI_leI (by omega) (by omega)] at qb
      · exact out k y e y1 y2
      conv => whnf
      refine ⟨fun c => ?_, fun c => ?_⟩ <;> rw [cmp_lt fy f_two.2, fk_pos (x := y) (by omega), k2] at c
      · exact out k y e y1 y2
      · omega
    | succ f ih =>
      intro k y e y1 y2 y3
      have fy : FP.Core.FFin y := ffin_of (by rw [fmg_fp (by omega)]; omega)
      refine hG [32,60] 300 _ _ _ _ _ _ ?_
      conv => whnf
      refine ⟨fun qb => ?_, fun qb => ?_⟩ <;> rw [nI_leI (by omega) (by omega)] at qb
      · omega
      conv => whnf
      refine ⟨fun c => ?_, fun c => ?_⟩ <;> rw [cmp_lt fy f_two.2, fk_pos (x := y) (by omega), k2] at c
      · exact out k y e y1 (Int.ofNat_lt.mp c)
      have d := fhalf fy y3 (by omega)
      conv => whnf
      refine ⟨vf_fmul fy f_half.2, ?_⟩
      conv => whnf
      rw [nI_add, nI_add]
      exact ih (k + 1) _ (by rw [d]; omega) (Or.inr (by rw [d]; omega)) (by rw [d]; omega) (by rw [d]; omega)
  refine hG [12,25] 300 _ _ _ _ _ _ ?_
  conv => whnf
  refine ⟨fun c => ?_, fun c => ?_⟩ <;> rw [cmp_ge hx f_zero.2] at c
  · have c' : ¬ 2 ^ 31 ≤ x.toNat := by rw [← fk_lt0 h0]; omega
    conv => whnf
    rw [show nI 0 = fsg x from (if_neg c').symm]
    refine hG [25] 300 _ _ _ _ _ _ ?_
    conv => whnf
    refine ⟨fun c2 => ?_, fun c2 => ?_⟩ <;> rw [cmp_ge hx f_zero.2] at c2
    case refine_2 => exact absurd c c2
    conv => whnf
    refine hG [32] 300 _ _ _ _ _ _ ?_
    conv => whnf
    exact loop1 127 0 x (by rw [fmg_fp (by omega)]; omega) (Or.inl rfl) (by rw [← fmg_fp (x := x) (by omega)]; omega) (by omega)
  · have c' : 2 ^ 31 ≤ x.toNat := by rw [← fk_lt0 h0]; omega
    conv => whnf
    rw [show (-2147483648 : Int32) = fsg x from (if_pos c').symm]
    refine hG [25] 300 _ _ _ _ _ _ ?_
    conv => whnf
    refine ⟨fun c2 => ?_, fun c2 => ?_⟩ <;> rw [cmp_ge hx f_zero.2] at c2
    · exact absurd c2 c
    conv => whnf
    have e := fneg_nat c'
    refine hG [32] 300 _ _ _ _ _ _ ?_
    conv => whnf
    exact loop1 127 0 (FP.fneg x) (by rw [e]; omega) (Or.inl rfl) (by omega) (by omega)
