/-! doubleBits -/
theorem lN_dec (n : Nat) : lN (n + 1) - 1 = lN n := (lN_sub (a := n + 1) (b := 1) (by omega)).trans rfl
theorem pl_shlN {n : Nat} (s : Int64) (k : Nat) (hs : (s.toBitVec.smod 64).toNat = k) (h : n * 2 ^ k < 2 ^ 64) : lN n <<< s = lN (n * 2 ^ k) := by
  apply Int64.toBitVec_inj.mp
  apply BitVec.eq_of_toNat_eq
  have hn : n < 2 ^ 64 := Nat.lt_of_le_of_lt (Nat.le_mul_of_pos_right n (Nat.two_pow_pos k)) h
  show ((BitVec.ofNat 64 n) <<< (s.toBitVec.smod 64).toNat).toNat = (BitVec.ofNat 64 _).toNat
  rw [hs, BitVec.toNat_shiftLeft, Nat.shiftLeft_eq, BitVec.toNat_ofNat, BitVec.toNat_ofNat, Nat.mod_eq_of_lt hn]
theorem l_or (s : Int64) (n : Nat) {b : Nat} (hs : s.toBitVec.toNat = 2 ^ 63 * b) (h : n < 2 ^ 63) : (s ||| lN n).toBitVec.toNat = 2 ^ 63 * b + n := by
  rw [Int64.toBitVec_or, BitVec.toNat_or, hs, Nat.two_pow_add_eq_or_of_lt h]
  congr 1
  show (BitVec.ofNat 64 n).toNat = n
  rw [BitVec.toNat_ofNat]
  exact Nat.mod_eq_of_lt (by omega)
def dsg (x : UInt64) : Int64 := if 2 ^ 63 ≤ x.toNat then -9223372036854775808 else 0
theorem dsg_or {x : UInt64} {n : Nat} (hn : dmg x = n) : dsg x ||| lN n = x.toInt64 := by
  have hx := x.toNat_lt
  have l : n < 2 ^ 63 := by rw [← hn]; exact Nat.mod_lt _ (by decide)
  apply Int64.toBitVec_inj.mp
  apply BitVec.eq_of_toNat_eq
  show _ = x.toNat
  unfold dsg
  unfold dmg at hn
  split
  · rw [l_or (b := 1) _ _ (by decide) l]
    omega
  · rw [l_or (b := 0) _ _ (by decide) l]
    omega
theorem lN_or {a t : Nat} (ha : a < 2048) (ht : t < 2 ^ 52) : lN (a * 2 ^ 52) ||| lN t = lN (a * 2 ^ 52 + t) := by
  apply Int64.toBitVec_inj.mp
  apply BitVec.eq_of_toNat_eq
  rw [Int64.toBitVec_or, BitVec.toNat_or]
  show (BitVec.ofNat 64 _).toNat ||| (BitVec.ofNat 64 _).toNat = (BitVec.ofNat 64 _).toNat
  rw [BitVec.toNat_ofNat, BitVec.toNat_ofNat, BitVec.toNat_ofNat, Nat.mod_eq_of_lt (by omega), Nat.mod_eq_of_lt (by omega), Nat.mod_eq_of_lt (by omega), Nat.mul_comm, Nat.two_pow_add_eq_or_of_lt ht]
theorem l_or_assoc (a b c : Int64) : a ||| b ||| c = a ||| (b ||| c) := Int64.or_assoc _ _ _
theorem dk_lt0 {x : UInt64} (h0 : x.toNat ≠ 2 ^ 63) : (FP.Core.dkey x < FP.Core.dkey FP.dconst0) ↔ 2 ^ 63 ≤ x.toNat := by
  have e : FP.Core.dkey FP.dconst0 = 0 := by decide +kernel
  have hx := x.toNat_lt
  rw [e]
  unfold FP.Core.dkey
  split <;> omega
theorem c_X11_doubleBits {x : UInt64} (hx : FP.Core.DFin x) (h0 : x.toNat ≠ 2 ^ 63) (h : List jC) : jCt jy_X11_doubleBits [.double x] h (fun r h' => r = some (.long x.toInt64) ∧ h' = h) := by
  have hl := dfin_lt hx
  have k1 : FP.Core.dkey FP.dconst1 = ((1023 * 2 ^ 52 : Nat) : Int) := by decide +kernel
  have k2 : FP.Core.dkey 4611686018427387904 = ((1024 * 2 ^ 52 : Nat) : Int) := by decide +kernel
  refine jrun2 (js_X11_doubleBits _) rfl rfl rfl (fun G hG hW hB => ?_)
  -- where the loops end
  have endA : ∀ k j (y : UInt64) v, dmg x + j * 2 ^ 52 = y.toNat + k * 2 ^ 52 → j ≤ 1023 + k → 1023 * 2 ^ 52 ≤ y.toNat → y.toNat < 1024 * 2 ^ 52 → G 111 [some (.double x), none, some (.long (dsg x)), none, some (.double y), none, some (.long (lN (1023 + k - j))), none, some (.int v)] [] h 0 0 := by
    intro k j y v e ejk y1 y2
    have fy : FP.Core.DFin y := dfin_of (by rw [dmg_fp (by omega)]; omega)
    refine hG [] 300 _ _ _ _ _ _ ?_
    conv => whnf
    refine ⟨fun c => ?_, fun c => ?_⟩ <;> rw [dcm_ge fy d_one.2, dk_pos (x := y) (by omega), k1] at c
    case refine_2 => omega
    obtain ⟨s1, s2, s3⟩ := dsub_one y1 y2
    have w := d_whole s1 s2 (t := y.toNat - 1023 * 2 ^ 52) (by omega) s3
    conv => whnf
    refine ⟨vd_dsub fy d_one.2, ?_⟩
    conv => whnf
    refine ⟨vd_dmul s1 d_252.2, ?_⟩
    conv => whnf
    refine ⟨?_, rfl⟩
    erw [w, pl_shlN _ 52 (by decide +kernel) (n := 1023 + k - j) (by omega), l_or_assoc, lN_or (by omega) (by omega)]
    rw [dsg_or (by omega)]
  have endB : ∀ (y : UInt64) e v, dmg x < 2 ^ 52 → y.toNat < 1023 * 2 ^ 52 → FP.Core.unitsOf FP.Core.b64 (dmg y) = dmg x * 2 ^ 1022 → G 111 [some (.double x), none, some (.long (dsg x)), none, some (.double y), none, some (.long e), none, some (.int v)] [] h 0 0 := by
    intro y e v hm y1 y2
    have fy : FP.Core.DFin y := dfin_of (by rw [dmg_fp (by omega)]; omega)
    refine hG [] 300 _ _ _ _ _ _ ?_
    conv => whnf
    refine ⟨fun c => ?_, fun c => ?_⟩ <;> rw [dcm_ge fy d_one.2, dk_pos (x := y) (by omega), k1] at c
    · omega
    have w := d_whole fy (by omega) (t := dmg x) (by omega) y2
    conv => whnf
    refine ⟨vd_dmul fy d_252.2, ?_⟩
    conv => whnf
    refine ⟨?_, rfl⟩
    erw [w]
    rw [dsg_or rfl]
  have loopA : ∀ f k j (y : UInt64), dmg x + j * 2 ^ 52 = y.toNat + k * 2 ^ 52 → j ≤ 1023 + k → j ≤ 1022 → j * 2 ^ 52 + 2 ^ 52 ≤ y.toNat → y.toNat < 1024 * 2 ^ 52 → 1023 ≤ y.toNat / 2 ^ 52 + f → G 76 [some (.double x), none, some (.long (dsg x)), none, some (.double y), none, some (.long (lN (1023 + k - j))), none, some (.int (nI j))] [] h 0 0 := by
    intro f
    induction f with
    | zero =>
      intro k j y e ejk j1 y0 y2 y3
      have fy : FP.Core.DFin y := dfin_of (by rw [dmg_fp (by omega)]; omega)
      refine hG [111] 300 _ _ _ _ _ _ ?_
      conv => whnf
      refine ⟨fun qb => ?_, fun qb => ?_⟩ <;> rw [nI_leI (by omega) (by omega)] at qb
      · exact endA k j y _ e ejk (by omega) y2
      conv => whnf
      refine ⟨fun c => ?_, fun c => ?_⟩ <;> rw [dcm_ge fy d_one.2, dk_pos (x := y) (by omega), k1] at c
      case refine_2 => omega
      exact endA k j y _ e ejk (by omega) y2
    | succ f ih =>
      intro k j y e ejk j1 y0 y2 y3
      have fy : FP.Core.DFin y := dfin_of (by rw [dmg_fp (by omega)]; omega)
      refine hG [76,111] 300 _ _ _ _ _ _ ?_
      conv => whnf
      refine ⟨fun qb => ?_, fun qb => ?_⟩ <;> rw [nI_leI (by omega) (by omega)] at qb
      · exact endA k j y _ e ejk (by omega) y2
      conv => whnf
      refine ⟨fun c => ?_, fun c => ?_⟩ <;> rw [dcm_ge fy d_one.2, dk_pos (x := y) (by omega), k1] at c
      · exact endA k j y _ e ejk (by omega) y2
      have d := ddouble (x := y) (by rw [dmg_fp (by omega)]; omega) (by omega)
      rw [if_neg (by omega)] at d
      conv => whnf
      refine ⟨vd_dmul fy d_two.2, ?_⟩
      conv => whnf
      rw [nI_add]
      obtain ⟨q, hq⟩ : ∃ q, 1023 + k - j = q + 1 := ⟨1023 + k - j - 1, by omega⟩
      rw [hq]
      erw [lN_dec]
      rw [show q = 1023 + k - (j + 1) by omega]
      have a1 : dmg x + (j + 1) * 2 ^ 52 = (FP.dmul y 4611686018427387904).toNat + k * 2 ^ 52 := by
        rw [d, Nat.add_mul, Nat.one_mul, ← Nat.add_assoc, e]
        exact Nat.add_right_comm _ _ _
      have a2 : j + 1 ≤ 1023 + k := by
        clear a1 e y0 y2 y3 c ih d
        omega
      exact ih k (j + 1) _ a1 a2 (by omega) (by rw [d, Nat.add_mul, Nat.one_mul]; exact Nat.add_le_add_right y0 _) (by rw [d]; omega) (by rw [d]; omega)
  have loopB : ∀ f j (y : UInt64) e, dmg x < 2 ^ 52 → f + j = 1022 → y.toNat < 1023 * 2 ^ 52 → FP.Core.unitsOf FP.Core.b64 (dmg y) = dmg x * 2 ^ j → G 76 [some (.double x), none, some (.long (dsg x)), none, some (.double y), none, some (.long e), none, some (.int (nI j))] [] h 0 0 := by
    intro f
    induction f with
    | zero =>
      intro j y e hm hj y1 y2
      obtain rfl : j = 1022 := by omega
      refine hG [111] 300 _ _ _ _ _ _ ?_
      conv => whnf
      refine ⟨fun qb => ?_, fun qb => ?_⟩ <;> rw [nI_leI (by omega) (by omega)] at qb
      · exact endB y _ _ hm y1 y2
      omega
    | succ f ih =>
      intro j y e hm hj y1 y2
      have fy : FP.Core.DFin y := dfin_of (by rw [dmg_fp (by omega)]; omega)
      refine hG [76,111] 300 _ _ _ _ _ _ ?_
      conv => whnf
      refine ⟨fun qb => ?_, fun qb => ?_⟩ <;> rw [nI_leI (by omega) (by omega)] at qb
      · omega
      conv => whnf
      refine ⟨fun c => ?_, fun c => ?_⟩ <;> rw [dcm_ge fy d_one.2, dk_pos (x := y) (by omega), k1] at c
      · omega
      have d := ddouble (x := y) (by rw [dmg_fp (by omega)]; omega) (by omega)
      have e1 := dmg_fp (x := y) (by omega)
      have u : FP.Core.unitsOf FP.Core.b64 (FP.dmul y 4611686018427387904).toNat = 2 * FP.Core.unitsOf FP.Core.b64 (dmg y) := by
        rw [d, e1]
        split
        · rename_i q
          rw [dn_dbl q, dn_lo q]
        · exact dn_up (by omega)
      have lt : (FP.dmul y 4611686018427387904).toNat < 2 ^ 63 := by rw [d]; split <;> omega
      have u2 : FP.Core.unitsOf FP.Core.b64 (FP.dmul y 4611686018427387904).toNat = dmg x * 2 ^ (j + 1) := by
        rw [u, y2, show (2 : Nat) ^ (j + 1) = 2 ^ j * 2 from Nat.pow_succ _ _]
        ac_rfl
      have small : (FP.dmul y 4611686018427387904).toNat < 1023 * 2 ^ 52 := by
        rw [← FP.Core.unitsOf_lt_iff (f := FP.Core.b64), u2, dn_K (by decide)]
        refine Nat.lt_of_lt_of_le (Nat.mul_lt_mul_of_pos_right hm (Nat.two_pow_pos _)) ?_
        exact Nat.mul_le_mul_left _ (Nat.pow_le_pow_right (by decide) (by omega))
      conv => whnf
      refine ⟨vd_dmul fy d_two.2, ?_⟩
      conv => whnf
      rw [nI_add]
      exact ih (j + 1) _ _ hm (by omega) small (by rw [dmg_fp lt]; exact u2)
  have loop1 : ∀ f k (y : UInt64), dmg x = y.toNat + k * 2 ^ 52 → (k = 0 ∨ 1023 * 2 ^ 52 ≤ y.toNat) → y.toNat < (1024 + f) * 2 ^ 52 → y.toNat < 2 ^ 63 → G 36 [some (.double x), none, some (.long (dsg x)), none, some (.double y), none, some (.long (lN (1023 + k))), none, some (.int (nI k))] [] h 0 0 := by
    intro f
    have out : ∀ k (y : UInt64), dmg x = y.toNat + k * 2 ^ 52 → (k = 0 ∨ 1023 * 2 ^ 52 ≤ y.toNat) → y.toNat < 1024 * 2 ^ 52 → G 73 [some (.double x), none, some (.long (dsg x)), none, some (.double y), none, some (.long (lN (1023 + k))), none, some (.int (nI k))] [] h 0 0 := by
      intro k y e y1 y2
      refine hG [76] 300 _ _ _ _ _ _ ?_
      conv => whnf
      by_cases q : y.toNat < 2 ^ 52
      · obtain rfl : k = 0 := by omega
        refine loopB 1022 0 y _ (by omega) rfl (by omega) ?_
        rw [dmg_fp (by omega), dn_lo q, Nat.pow_zero, Nat.mul_one]
        omega
      · exact loopA 1023 k 0 y (by omega) (by omega) (by omega) (by omega) y2 (by omega)
    induction f with
    | zero =>
      intro k y e y1 y2 y3
      have fy : FP.Core.DFin y := dfin_of (by rw [dmg_fp (by omega)]; omega)
      refine hG [73] 300 _ _ _ _ _ _ ?_
      conv => whnf
      refine ⟨fun qb => ?_, fun qb => ?_⟩ <;> rw [nI_leI (by omega) (by omega)] at qb
      · exact out k y e y1 y2
      conv => whnf
      refine ⟨fun c => ?_, fun c => ?_⟩ <;> rw [dcm_lt fy d_two.2, dk_pos (x := y) (by omega), k2] at c
      · exact out k y e y1 y2
      · omega
    | succ f ih =>
      intro k y e y1 y2 y3
      have fy : FP.Core.DFin y := dfin_of (by rw [dmg_fp (by omega)]; omega)
      refine hG [36,73] 300 _ _ _ _ _ _ ?_
      conv => whnf
      refine ⟨fun qb => ?_, fun qb => ?_⟩ <;> rw [nI_leI (by omega) (by omega)] at qb
      · omega
      conv => whnf
      refine ⟨fun c => ?_, fun c => ?_⟩ <;> rw [dcm_lt fy d_two.2, dk_pos (x := y) (by omega), k2] at c
      · exact out k y e y1 (Int.ofNat_lt.mp c)
      have d := dhalf fy y3 (by omega)
      conv => whnf
      refine ⟨vd_dmul fy d_half.2, ?_⟩
      conv => whnf
      rw [nI_add]
      erw [lN_add (1023 + k) 1]
      exact ih (k + 1) _ (by rw [d]; omega) (Or.inr (by rw [d]; omega)) (by rw [d]; omega) (by rw [d]; omega)
  refine hG [13,26] 300 _ _ _ _ _ _ ?_
  conv => whnf
  refine ⟨fun c => ?_, fun c => ?_⟩ <;> rw [dcm_ge hx d_zero.2] at c
  · have c' : ¬ 2 ^ 63 ≤ x.toNat := by rw [← dk_lt0 h0]; omega
    conv => whnf
    rw [show (0 : Int64) = dsg x from (if_neg c').symm]
    refine hG [26] 300 _ _ _ _ _ _ ?_
    conv => whnf
    refine ⟨fun c2 => ?_, fun c2 => ?_⟩ <;> rw [dcm_ge hx d_zero.2] at c2
    case refine_2 => exact absurd c c2
    conv => whnf
    refine hG [36] 300 _ _ _ _ _ _ ?_
    conv => whnf
    exact loop1 1023 0 x (by rw [dmg_fp (by omega)]; omega) (Or.inl rfl) (by rw [← dmg_fp (x := x) (by omega)]; omega) (by omega)
  · have c' : 2 ^ 63 ≤ x.toNat := by rw [← dk_lt0 h0]; omega
    conv => whnf
    rw [show (-9223372036854775808 : Int64) = dsg x from (if_pos c').symm]
    refine hG [26] 300 _ _ _ _ _ _ ?_
    conv => whnf
    refine ⟨fun c2 => ?_, fun c2 => ?_⟩ <;> rw [dcm_ge hx d_zero.2] at c2
    · exact absurd c2 c
    conv => whnf
    have e := dneg_nat c'
    refine hG [36] 300 _ _ _ _ _ _ ?_
    conv => whnf
    exact loop1 1023 0 (FP.dneg x) (by rw [e]; omega) (Or.inl rfl) (by omega) (by omega)
