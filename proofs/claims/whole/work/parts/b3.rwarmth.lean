theorem allF_ok {f : Nat → UInt32} (hf : ∀ k, k < 6 → fok 194 (f k)) : ∀ k, k ≤ 6 → fmg (jallF f k) < (195 + 2 * k) * 2 ^ 23 ∧ (jallF f k).toNat ≠ 2 ^ 31
  | 0, _ => ⟨by show fmg FP.fconst0 < _; decide, by show FP.fconst0.toNat ≠ _; decide⟩
  | k + 1, hk => by
    obtain ⟨h1, h2⟩ := allF_ok hf k (by omega)
    have c := hf k (by omega)
    have c1 : fmg (f k) < (195 + 2 * k) * 2 ^ 23 := by have := c.1; omega
    refine ⟨?_, fadd_nz (ffin_of (by omega)) (fmg_fin c.1 (by decide)) c.2⟩
    have := FP.Core.fadd_mag (a := jallF f k) (b := f k) (K := 195 + 2 * k) h1 c1 (by omega)
    refine Nat.lt_of_lt_of_le this (Nat.mul_le_mul_right _ (by omega))
theorem allF_fin {f : Nat → UInt32} (hf : ∀ k, k < 6 → fok 194 (f k)) {k : Nat} (hk : k ≤ 6) : FP.Core.FFin (jallF f k) := ffin_of (by have := (allF_ok hf k hk).1; omega)
theorem f2d_is {x : UInt32} (h : FP.Core.FFin x) : FP.f2d x = FP.Core.f2d x := by
  unfold FP.f2d
  rw [if_neg (by rw [h.notNaN]; exact Bool.false_ne_true)]
theorem f2d_mg {x : UInt32} (h : FP.Core.FFin x) : dmg (FP.f2d x) ≤ 1151 * 2 ^ 52 ∧ vf_n64 (FP.f2d x) := by
  rw [f2d_is h]
  refine ⟨?_, vd_of _ (FP.Core.f2d_out h.notNaN)⟩
  obtain ⟨s, c, q, e1⟩ := fin_ex h
  have g1 := FP.Core.val32_fits x
  have z1 := FP.Core.zmag_toNat32 h.ne_nan
  have hl := ffin_lt h
  have e := FP.Core.val64_f2d x
  rw [e1] at e g1 z1
  have z1' : c * 2 ^ (q - FP.Core.b32.qmin).toNat = FP.Core.unitsOf FP.Core.b32 (fmg x) := z1
  have k0 : FP.Core.b32.qmin = -149 := FP.Core.qmin_b32
  have k1 : FP.Core.b64.qmin = -1074 := FP.Core.qmin_b64
  have q1 := g1.2.1
  have u : FP.Core.unitsOf FP.Core.b32 (fmg x) ≤ 2 ^ 23 * 2 ^ 254 := by
    have := (FP.Core.unitsOf_le_iff (f := FP.Core.b32)).mpr (show fmg x ≤ 255 * 2 ^ 23 by omega)
    rwa [un_K (by decide)] at this
  have := FP.Core.mag_le (e0 := FP.Core.b64.qmin) (m := 1151 * 2 ^ 52) (n := (FP.Core.f2d x).toNat) (B := 1) FP.Core.good_b64 e (by decide) (Int.le_refl _) (by omega) (by
    rw [dn_K (by decide), Nat.mul_one, Int.sub_self, show (0 : Int).toNat = 0 from rfl, Nat.pow_zero, Nat.mul_one]
    unfold FP.Core.inUnits
    rw [show (q - FP.Core.b64.qmin).toNat = (q - FP.Core.b32.qmin).toNat + 925 by omega, show (2 : Nat) ^ ((q - FP.Core.b32.qmin).toNat + 925) = 2 ^ (q - FP.Core.b32.qmin).toNat * 2 ^ 925 from Nat.pow_add _ _ _, ← Nat.mul_assoc, z1']
    refine Nat.le_trans (Nat.mul_le_mul_right _ u) (Nat.le_of_ble_eq_true (by decide +kernel)))
  rwa [FP.Core.mag_toNat64] at this
theorem allD_ok {f : Nat → UInt32} (hf : ∀ k, k < 6 → fok 194 (f k)) : ∀ k, k ≤ 6 → dmg (jallD f k) < (1152 + 2 * k) * 2 ^ 52 ∧ (jallD f k).toNat ≠ 2 ^ 63
  | 0, _ => ⟨by show dmg FP.dconst0 < _; decide, by show FP.dconst0.toNat ≠ _; decide⟩
  | k + 1, hk => by
    obtain ⟨h1, h2⟩ := allD_ok hf k (by omega)
    have c := f2d_mg (fmg_fin (hf k (by omega)).1 (by decide))
    have c1 : dmg (FP.f2d (f k)) < (1152 + 2 * k) * 2 ^ 52 := by have := c.1; omega
    have f1 : FP.Core.DFin (jallD f k) := dfin_of (by omega)
    have f2 : FP.Core.DFin (FP.f2d (f k)) := dfin_of (by omega)
    refine ⟨?_, ?_⟩
    · have := FP.Core.dadd_mag (a := jallD f k) (b := FP.f2d (f k)) (K := 1152 + 2 * k) h1 c1 (by omega)
      refine Nat.lt_of_lt_of_le this (Nat.mul_le_mul_right _ (by omega))
    · have : FP.dadd (jallD f k) (FP.f2d (f k)) = FP.dadd (FP.f2d (f k)) (jallD f k) := FP.Core.dadd_comm _ _
      show (FP.dadd (jallD f k) (FP.f2d (f k))).toNat ≠ _
      rw [this]
      exact dadd_nz f2 f1 h2
theorem allD_fin {f : Nat → UInt32} (hf : ∀ k, k < 6 → fok 194 (f k)) {k : Nat} (hk : k ≤ 6) : FP.Core.DFin (jallD f k) := dfin_of (by have := (allD_ok hf k hk).1; omega)
theorem c_J_d2l {x : UInt64} (hx : FP.Core.DFin x) (h : List jC) : jCt jy_Jxe99ae_doubleToLongBits_ccdee [.double x] h (fun r h' => r = some (.long x.toInt64) ∧ h' = h) := by
  have nan : jCt jy_Jxe99ae_isNaN_b9ae7 [.double x] h (fun r h' => r = some (.int (nI 0)) ∧ h' = h) := by
    refine jrun2 (js_Jxe99ae_isNaN_b9ae7 _) (by decide +kernel) rfl rfl (fun G hG hWW hBB => ?_)
    refine hG [] 300 _ _ _ _ _ _ ?_
    conv => whnf
    refine ⟨fun c => ?_, fun c => ?_⟩
    · conv => whnf
      exact ⟨Or.inl rfl, rfl, rfl⟩
    · exact absurd ((dcm_eq hx hx .l).mpr rfl) c
  refine jrun2 (js_Jxe99ae_doubleToLongBits_ccdee _) (by decide +kernel) rfl rfl (fun G hG hWW hBB => ?_)
  refine hG [] 300 _ _ _ _ _ _ ?_
  conv => whnf
  refine jcall nan ?_
  rintro r h' ⟨rfl, rfl⟩
  conv => whnf
  refine ⟨fun c => absurd rfl c, fun c => ?_⟩
  conv => whnf
  refine ⟨Nat.zero_le _, ?_⟩
  conv => whnf
  exact ⟨rfl, rfl⟩
