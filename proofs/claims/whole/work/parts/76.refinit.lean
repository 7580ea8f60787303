/-! the reference's constructor (printed by gen76.py) -/
theorem jq_get {h0 : List jC} (hl : h0.length = 20) (o : jC) (rs : List jC) : (h0 ++ o :: rs)[20]? = some o := by rw [List.getElem?_append_right (by omega), hl]; rfl
theorem jq_set {h0 : List jC} (hl : h0.length = 20) (o x : jC) (rs : List jC) : (h0 ++ o :: rs).set 20 x = h0 ++ x :: rs := by rw [List.set_append_right _ _ (by omega), hl]; rfl
theorem jq_app (h0 : List jC) (o x : jC) (rs : List jC) : (h0 ++ o :: rs) ++ [x] = h0 ++ o :: (rs ++ [x]) := by rw [List.append_assoc]; rfl
theorem jq_len {h0 : List jC} (hl : h0.length = 20) (o : jC) (rs : List jC) : (h0 ++ o :: rs).length = rs.length + 21 := by rw [List.length_append, hl, List.length_cons]; omega
def ji0 : Nat → Int32 := fun k => if k = 9 then -2 else nI 0
theorem ji0_at (k : Nat) (h : k ≠ 9) : ji0 k = nI 0 := if_neg h

def jrows0 : List jC := [aI 3 (fun _ => nI 0), aI 3 (fun _ => nI 0), aI 4 (fun _ => nI 0), aL 128 (fun _ => 0), aL 32 (fun _ => 0), aI 8 (fun _ => nI 0), aI 8 (fun _ => nI 0), aL 256 (fun _ => 0), aI 32 (fun _ => nI 0), aI 7 (fun _ => nI 0), aI 6 (fun _ => nI 0), aI 7 (fun _ => nI 0), aF 6 (fun _ => 0), aZ 3 (fun _ => nI 0), aI 3 (fun _ => nI 0), aI 120 (fun _ => nI 0), aI 40 (fun _ => nI 0), aI 12 (fun _ => nI 0), aI 12 (fun _ => nI 0), aL 480 (fun _ => 0), aI 80 (fun _ => nI 0), aI 80 (fun _ => nI 0), aZ 80 (fun _ => nI 0), aI 80 (fun _ => nI 0), aL 80 (fun _ => 0), aI 4 (fun _ => nI 0), aL 128 (fun _ => 0), aI 7 (fun _ => nI 0), aF 6 (fun _ => 0), aI 12 (fun _ => nI 0), aI 12 (fun _ => nI 0), aL 480 (fun _ => 0)]
theorem c_X12_init {h0 : List jC} (hl : h0.length = 20) {vs : List Value} (hvs : vs = [.int (nI 0), .null, .null, .int (nI 0), .null, .null, .null, .null, .null, .null, .int (nI 0), .null, .int (nI 0), .null, .null, .int (nI 0), .null, .null, .null, .null, .null, .null, .null, .null, .null, .null, .int (nI 0), .int (nI 0), .int (nI 0), .int (nI 0), .null, .null, .null, .null, .null, .null, .int (nI 0), .null, .null, .null, .null, .null]) : jCt jy_X12_init [.ref 20] (h0 ++ [.inr (11, vs)]) (fun r h' => r = none ∧ h' = h0 ++ mo ji0 :: jrows0) := by
  subst hvs
  refine jrun2 (js_X12_init _) rfl rfl rfl (fun G hG hW hB => ?_)
  refine hG [] 300 _ _ _ _ _ _ ?_
  conv => whnf
  rw [show h0 ++ [(.inr (11, [.int (nI 0), .null, .null, .int (nI 0), .null, .null, .null, .null, .null, .null, .int (nI 0), .null, .int (nI 0), .null, .null, .int (nI 0), .null, .null, .null, .null, .null, .null, .null, .null, .null, .null, .int (nI 0), .int (nI 0), .int (nI 0), .int (nI 0), .null, .null, .null, .null, .null, .null, .int (nI 0), .null, .null, .null, .null, .null]) : jC)] = h0 ++ .inr (11, [.int (nI 0), .null, .null, .int (nI 0), .null, .null, .null, .null, .null, .null, .int (nI 0), .null, .int (nI 0), .null, .null, .int (nI 0), .null, .null, .null, .null, .null, .null, .null, .null, .null, .null, .int (nI 0), .int (nI 0), .int (nI 0), .int (nI 0), .null, .null, .null, .null, .null, .null, .int (nI 0), .null, .null, .null, .null, .null]) :: [] from rfl]
  refine ⟨3, rfl, by decide, by decide, ?_⟩
  rw [jq_len hl, jq_app h0]
  conv => whnf
  refine ⟨trivial, _, jq_get hl _ _, ?_⟩
  rw [jq_set hl]
  conv => whnf
  refine ⟨3, rfl, by decide, by decide, ?_⟩
  rw [jq_len hl, jq_app h0]
  conv => whnf
  refine ⟨trivial, _, jq_get hl _ _, ?_⟩
  rw [jq_set hl]
  conv => whnf
  refine ⟨4, rfl, by decide, by decide, ?_⟩
  rw [jq_len hl, jq_app h0]
  conv => whnf
  refine ⟨trivial, _, jq_get hl _ _, ?_⟩
  rw [jq_set hl]
  conv => whnf
  refine ⟨128, rfl, by decide, by decide, ?_⟩
  rw [jq_len hl, jq_app h0]
  conv => whnf
  refine ⟨trivial, _, jq_get hl _ _, ?_⟩
  rw [jq_set hl]
  conv => whnf
  refine ⟨32, rfl, by decide, by decide, ?_⟩
  rw [jq_len hl, jq_app h0]
  conv => whnf
  refine ⟨trivial, _, jq_get hl _ _, ?_⟩
  rw [jq_set hl]
  conv => whnf
  refine ⟨8, rfl, by decide, by decide, ?_⟩
  rw [jq_len hl, jq_app h0]
  conv => whnf
  refine ⟨trivial, _, jq_get hl _ _, ?_⟩
  rw [jq_set hl]
  conv => whnf
  refine ⟨8, rfl, by decide, by decide, ?_⟩
  rw [jq_len hl, jq_app h0]
  conv => whnf
  refine ⟨trivial, _, jq_get hl _ _, ?_⟩
  rw [jq_set hl]
  conv => whnf
  refine ⟨256, rfl, by decide, by decide, ?_⟩
  rw [jq_len hl, jq_app h0]
  conv => whnf
  refine ⟨trivial, _, jq_get hl _ _, ?_⟩
  rw [jq_set hl]
  conv => whnf
  refine ⟨32, rfl, by decide, by decide, ?_⟩
  rw [jq_len hl, jq_app h0]
  conv => whnf
  refine ⟨trivial, _, jq_get hl _ _, ?_⟩
  rw [jq_set hl]
  conv => whnf
  refine ⟨7, rfl, by decide, by decide, ?_⟩
  rw [jq_len hl, jq_app h0]
  conv => whnf
  refine ⟨trivial, _, jq_get hl _ _, ?_⟩
  rw [jq_set hl]
  conv => whnf
  refine ⟨6, rfl, by decide, by decide, ?_⟩
  rw [jq_len hl, jq_app h0]
  conv => whnf
  refine ⟨trivial, _, jq_get hl _ _, ?_⟩
  rw [jq_set hl]
  conv => whnf
  refine ⟨7, rfl, by decide, by decide, ?_⟩
  rw [jq_len hl, jq_app h0]
  conv => whnf
  refine ⟨trivial, _, jq_get hl _ _, ?_⟩
  rw [jq_set hl]
  conv => whnf
  refine ⟨6, rfl, by decide, by decide, ?_⟩
  rw [jq_len hl, jq_app h0]
  conv => whnf
  refine ⟨trivial, _, jq_get hl _ _, ?_⟩
  rw [jq_set hl]
  conv => whnf
  refine ⟨3, rfl, by decide, by decide, ?_⟩
  rw [jq_len hl, jq_app h0]
  conv => whnf
  refine ⟨trivial, _, jq_get hl _ _, ?_⟩
  rw [jq_set hl]
  conv => whnf
  refine ⟨3, rfl, by decide, by decide, ?_⟩
  rw [jq_len hl, jq_app h0]
  conv => whnf
  refine ⟨trivial, _, jq_get hl _ _, ?_⟩
  rw [jq_set hl]
  conv => whnf
  refine ⟨120, rfl, by decide, by decide, ?_⟩
  rw [jq_len hl, jq_app h0]
  conv => whnf
  refine ⟨trivial, _, jq_get hl _ _, ?_⟩
  rw [jq_set hl]
  conv => whnf
  refine ⟨40, rfl, by decide, by decide, ?_⟩
  rw [jq_len hl, jq_app h0]
  conv => whnf
  refine ⟨trivial, _, jq_get hl _ _, ?_⟩
  rw [jq_set hl]
  conv => whnf
  refine ⟨12, rfl, by decide, by decide, ?_⟩
  rw [jq_len hl, jq_app h0]
  conv => whnf
  refine ⟨trivial, _, jq_get hl _ _, ?_⟩
  rw [jq_set hl]
  conv => whnf
  refine ⟨12, rfl, by decide, by decide, ?_⟩
  rw [jq_len hl, jq_app h0]
  conv => whnf
  refine ⟨trivial, _, jq_get hl _ _, ?_⟩
  rw [jq_set hl]
  conv => whnf
  refine ⟨480, rfl, by decide, by decide, ?_⟩
  rw [jq_len hl, jq_app h0]
  conv => whnf
  refine ⟨trivial, _, jq_get hl _ _, ?_⟩
  rw [jq_set hl]
  conv => whnf
  refine ⟨80, rfl, by decide, by decide, ?_⟩
  rw [jq_len hl, jq_app h0]
  conv => whnf
  refine ⟨trivial, _, jq_get hl _ _, ?_⟩
  rw [jq_set hl]
  conv => whnf
  refine ⟨80, rfl, by decide, by decide, ?_⟩
  rw [jq_len hl, jq_app h0]
  conv => whnf
  refine ⟨trivial, _, jq_get hl _ _, ?_⟩
  rw [jq_set hl]
  conv => whnf
  refine ⟨80, rfl, by decide, by decide, ?_⟩
  rw [jq_len hl, jq_app h0]
  conv => whnf
  refine ⟨trivial, _, jq_get hl _ _, ?_⟩
  rw [jq_set hl]
  conv => whnf
  refine ⟨80, rfl, by decide, by decide, ?_⟩
  rw [jq_len hl, jq_app h0]
  conv => whnf
  refine ⟨trivial, _, jq_get hl _ _, ?_⟩
  rw [jq_set hl]
  conv => whnf
  refine ⟨80, rfl, by decide, by decide, ?_⟩
  rw [jq_len hl, jq_app h0]
  conv => whnf
  refine ⟨trivial, _, jq_get hl _ _, ?_⟩
  rw [jq_set hl]
  conv => whnf
  refine ⟨4, rfl, by decide, by decide, ?_⟩
  rw [jq_len hl, jq_app h0]
  conv => whnf
  refine ⟨trivial, _, jq_get hl _ _, ?_⟩
  rw [jq_set hl]
  conv => whnf
  refine ⟨128, rfl, by decide, by decide, ?_⟩
  rw [jq_len hl, jq_app h0]
  conv => whnf
  refine ⟨trivial, _, jq_get hl _ _, ?_⟩
  rw [jq_set hl]
  conv => whnf
  refine ⟨trivial, _, jq_get hl _ _, ?_⟩
  rw [jq_set hl]
  conv => whnf
  refine ⟨7, rfl, by decide, by decide, ?_⟩
  rw [jq_len hl, jq_app h0]
  conv => whnf
  refine ⟨trivial, _, jq_get hl _ _, ?_⟩
  rw [jq_set hl]
  conv => whnf
  refine ⟨6, rfl, by decide, by decide, ?_⟩
  rw [jq_len hl, jq_app h0]
  conv => whnf
  refine ⟨trivial, _, jq_get hl _ _, ?_⟩
  rw [jq_set hl]
  conv => whnf
  refine ⟨12, rfl, by decide, by decide, ?_⟩
  rw [jq_len hl, jq_app h0]
  conv => whnf
  refine ⟨trivial, _, jq_get hl _ _, ?_⟩
  rw [jq_set hl]
  conv => whnf
  refine ⟨12, rfl, by decide, by decide, ?_⟩
  rw [jq_len hl, jq_app h0]
  conv => whnf
  refine ⟨trivial, _, jq_get hl _ _, ?_⟩
  rw [jq_set hl]
  conv => whnf
  refine ⟨480, rfl, by decide, by decide, ?_⟩
  rw [jq_len hl, jq_app h0]
  conv => whnf
  refine ⟨trivial, _, jq_get hl _ _, ?_⟩
  rw [jq_set hl]
  conv => whnf
  exact ⟨rfl, rfl⟩
/-- the constructor's cells hold the start's state -/
def zS0 : zS := (fun _ => (0, fun _ => 0), [], (0, fun _ => 0), fun _ => 0, fun _ => none, fun _ => none, (0, fun _ => 0), [], none)
theorem jR_init {h0 : List jC} (hl : h0.length = 20) : h0 ++ mo ji0 :: jrows0 = jR (h0 ++ mo ji0 :: jrows0) ji0 (fun _ _ => nI 0) (fun _ _ => 0) (fun _ _ => 0) := by
  unfold jR
  refine (jput_self (fun i hi => ?_)).symm
  rw [List.getElem?_append_right (by omega), hl, Nat.add_sub_cancel_left]
  exact mi_33 (P := fun i => (mo ji0 :: jrows0)[i]? = some (mc ji0 (fun _ _ => nI 0) (fun _ _ => 0) (fun _ _ => 0) i)) ⟨rfl, rfl, rfl, rfl, rfl, rfl, rfl, rfl, rfl, rfl, rfl, rfl, rfl, rfl, rfl, rfl, rfl, rfl, rfl, rfl, rfl, rfl, rfl, rfl, rfl, rfl, rfl, rfl, rfl, rfl, rfl, rfl, rfl⟩ i hi
theorem Enc_init : EncR ji0 (fun _ _ => nI 0) (fun _ _ => 0) (fun _ _ => 0) zS0 := by
  refine ⟨⟨Or.inl rfl, Or.inl rfl⟩, fun r hr => ⟨rfl, fun c hc => rfl⟩, ⟨rfl, fun i q hi => by cases hi⟩, ⟨rfl, fun j hj => rfl⟩, fun k hk => rfl, fun p hp => rfl, fun r hr => rfl, ⟨rfl, fun j hj => absurd hj (Nat.not_lt_zero j)⟩, ⟨rfl, fun i q hi => by cases hi⟩, rfl⟩
theorem zWF_init : zWF zS0 := by
  have hc : zcan (0, fun _ => 0) := ⟨Nat.zero_le _, fun c h1 h2 => rfl⟩
  refine ⟨fun r hr => hc, ⟨Nat.zero_le _, fun q hq => (by cases hq)⟩, ⟨Nat.zero_le _, fun j hj => ⟨(by show 0 < 2 ^ 0; decide), fun _ => rfl, fun _ => Nat.zero_testBit _, fun i hi hb => absurd (show Nat.testBit 0 (i - 1) = true from hb) (by simp)⟩⟩, fun p hp => trivial, fun r hr q hq => (by cases hq), ⟨Nat.zero_le _, fun j => (by show 0 < 128; decide)⟩, Nat.zero_le _, fun q hq => (by cases hq)⟩
