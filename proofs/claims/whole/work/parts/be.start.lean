/-! the start: both sides hold the same state -/
def jst0 (sc : jC) (ef : Nat → Int32) : List jC := jx0 sc ef ++ mo ji0 :: jrows0
def jtg0 : jTg := fun k => if k = 2 then 1 else if k = 3 then 2 else if k = 4 then 13 else if k = 7 then 3 else if k = 8 then 4 else if k = 9 then 5 else if k = 10 then 6 else if k = 11 then 7 else if 20 ≤ k ∧ k < 53 then 9 else 0
theorem jst0_len (sc : jC) (ef : Nat → Int32) : (jst0 sc ef).length = 53 := rfl
theorem EncX_init {sc : jC} {ef : Nat → Int32} (hef : ∀ t, t < 1 → ef t = nI (zend (0, fun _ => 0) t)) : EncX jtg0 (jst0 sc ef) zS0 := by
  have reg : ∀ a g, fz0 jtg0 a → (jst0 sc ef)[a]? = some (oS 0 g) → fz0 jtg0 g → (jst0 sc ef)[g]? = some (aL 1 (fun _ => 0)) → xS (fz0 jtg0) (jst0 sc ef) a (0, fun _ => 0) := fun a g h1 h2 h3 h4 => ⟨h1, g, _, h3, h2, h4, fun _ _ => rfl⟩
  refine ⟨3, 4, 7, 8, nI 0, .null, .null, rfl, ⟨rfl, jxf0, rfl, fun r hr => ?_⟩, ⟨rfl, 5, 6, _, ef, .null, rfl, rfl, rfl, rfl, rfl, fun j hj => rfl, hef, Or.inl rfl⟩, ⟨rfl, _, rfl, fun k hk => rfl⟩, ⟨rfl, _, rfl, fun p hp => rfl⟩, ⟨rfl, _, rfl, fun r hr => rfl⟩, ⟨rfl, rfl, _, rfl, fun j hj => absurd hj (Nat.not_lt_zero j)⟩, rfl, ⟨rfl, nI 0, 0, rfl, Or.inl ⟨rfl, rfl, rfl, rfl⟩⟩, rfl, ⟨Nat.le_refl 53, rfl, fun k h1 h2 => ?_, fun k hk => ?_⟩⟩
  · match r, hr with
    | 0, _ => exact ⟨12, rfl, reg 12 13 rfl rfl rfl rfl⟩
    | 1, _ => exact ⟨14, rfl, reg 14 15 rfl rfl rfl rfl⟩
    | 2, _ => exact ⟨16, rfl, reg 16 17 rfl rfl rfl rfl⟩
    | 3, _ => exact ⟨18, rfl, reg 18 19 rfl rfl rfl rfl⟩
  · unfold jtg0
    rw [if_neg (by omega), if_neg (by omega), if_neg (by omega), if_neg (by omega), if_neg (by omega), if_neg (by omega), if_neg (by omega), if_neg (by omega), if_pos ⟨h1, h2⟩]
  · have hk : 53 ≤ k := hk
    unfold jtg0
    rw [if_neg (by omega), if_neg (by omega), if_neg (by omega), if_neg (by omega), if_neg (by omega), if_neg (by omega), if_neg (by omega), if_neg (by omega), if_neg (by omega)]
theorem jB_init {sc : jC} {ef : Nat → Int32} (hef : ∀ t, t < 1 → ef t = nI (zend (0, fun _ => 0) t)) : jB (jst0 sc ef) zS0 zS0 := ⟨⟨_, EncX_init hef⟩, _, _, _, _, jR_init rfl, Enc_init⟩
theorem zG_init : zG zS0 := ⟨zWF_init, fun k _ => ⟨by show fmg 0 ≤ _; decide, by show (0 : UInt32).toNat ≠ _; decide⟩, fun q hq => by cases hq⟩
