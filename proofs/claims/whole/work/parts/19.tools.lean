/-! small tools for the walks -/
theorem jG_wd {Y : jY} {Φ : jPost} {pc : Nat} {lv : List (Option Value)} {st : List Value} {h : List jC} {a b a' b' : Nat} (ha : a ≤ a') (hb : b ≤ b') (hG : jG Y Φ pc lv st h a' b') : jG Y Φ pc lv st h a b :=
  fun p l e s m args below meth c g hc H locs ls hP hS hL => W.widen ha hb (hG p l e s m args below meth c g hc H locs ls hP hS hL)
/-- a method's contract out of the walk from its start -/
theorem jCt_of2 {Y : jY} {Φ : jPost} {As : List Value} {h : List jC} (hy : plainFor Y.1 = true) (hn : (jent As).length ≤ Y.2.2.1) (hG : jG Y Φ 0 (jpad Y.2.2.1 (jent As)) [] h 0 0) : jCt Y As h Φ := by
  intro l g
  refine va_MetF (cc := Y.2.1) (maxL := Y.2.2.1) (ret := Y.2.2.2.1) hy rfl ?_
  intro p e s m args below meth c s₁ B hml hv
  obtain ⟨rfl, hP, hK⟩ := hv
  have hl := lv_entry (As.map (jtr g)) (n := Y.2.2.1) (by rw [jsl_len]; exact hn)
  rw [lg_entry_eq]
  generalize (lg_sl (As.map (jtr g)) ++ List.replicate (Y.2.2.1 - (lg_sl (As.map (jtr g))).length) Slot.unset).toArray = ls at hl ⊢
  refine hG p l e s m _ below meth c g ⟨B.exec, B.bytes, hml, findClass_of_methodNamed B.named, B.notSynchronized, B.returns, (name_of_methodNamed B.named B.method).1, hK⟩ s.heap [] ls hP va_S.rf ⟨hl.1, hl.2.1, fun i v hv => ?_⟩
  unfold jpad at hv
  by_cases hi : i < (jent As).length
  · rw [List.getElem?_append_left hi] at hv
    have := jent_args g As 0 i v hv
    rw [Nat.zero_add] at this
    exact hl.2.2 _ this
  · rw [List.getElem?_append_right (by omega)] at hv
    have := List.eq_of_mem_replicate (List.mem_of_getElem? hv)
    cases this
theorem jrun2 {Y : jY} {Φ : jPost} {As : List Value} {h : List jC} {P : Nat → jI} {lv : List (Option Value)} (hP : ∀ pc, jS Y Φ pc (P pc)) (hy : plainFor Y.1 = true) (hn : Nat.ble (jent As).length Y.2.2.1 = true) (hlv : jpad Y.2.2.1 (jent As) = lv)
    (hu : ∀ G : jKt, (∀ (C : List Nat) (n pc : Nat) lv st h a b, jw P G C n pc lv st h a b → G pc lv st h a b) → (∀ {pc : Nat} {l1 l2 st h a b}, jle l1 l2 → G pc l1 st h a b → G pc l2 st h a b) → (∀ {pc : Nat} {lv st h a b} (a' b' : Nat), a ≤ a' → b ≤ b' → G pc lv st h a' b' → G pc lv st h a b) → G 0 lv [] h 0 0) : jCt Y As h Φ :=
  jCt_of2 hy (Nat.le_of_ble_eq_true hn) (by rw [hlv]; exact hu (jG Y Φ) (jw_sound hP) (fun hl hG => jG_le hl hG) (fun _ _ ha hb hG => jG_wd ha hb hG))
/-- a truth as the machine has it -/
def jbi (p : Prop) [Decidable p] : Int32 := if p then nI 1 else nI 0
theorem nI_10 : nI 1 ≠ nI 0 := by decide
theorem jbi_0 {p : Prop} [Decidable p] : (jbi p = nI 0) ↔ ¬ p := by
  unfold jbi
  by_cases hp : p
  · simp [hp, nI_10]
  · simp [hp]
theorem jbi_1 {p : Prop} [Decidable p] : (jbi p = nI 1) ↔ p := by
  unfold jbi
  by_cases hp : p
  · simp [hp]
  · simp [hp, Ne.symm nI_10]
theorem jbi_t {p : Prop} [Decidable p] (h : p) : jbi p = nI 1 := if_pos h
theorem jbi_f {p : Prop} [Decidable p] (h : ¬ p) : jbi p = nI 0 := if_neg h
theorem jbi_01 (p : Prop) [Decidable p] : jbi p = nI 0 ∨ jbi p = nI 1 := by
  unfold jbi; split
  · exact Or.inr rfl
  · exact Or.inl rfl
theorem jbi_c {p q : Prop} [Decidable p] [Decidable q] (h : p ↔ q) : jbi p = jbi q := by
  unfold jbi; simp only [h]
theorem jlt (x y : Int32) : x < y ↔ x.toInt < y.toInt := Int32.lt_iff_toInt_lt
theorem jleI (x y : Int32) : x ≤ y ↔ x.toInt ≤ y.toInt := Int32.le_iff_toInt_le
theorem jeq (x y : Int32) : x = y ↔ x.toInt = y.toInt := ⟨fun h => by rw [h], fun h => Int32.toInt_inj.mp h⟩
theorem j0 : (nI 0).toInt = 0 := by decide
theorem j1 : (nI 1).toInt = 1 := by decide
theorem jsh_l : ∀ n, n < 32 → ((nI n &&& 31).toBitVec.smod 32).toNat = n := by decide +kernel
theorem jI_shr {c i : Nat} (hc : c < 2 ^ 31) (hi : i < 32) : nI c >>> (nI i &&& 31) = nI (c / 2 ^ i) := pk_shrN hc _ i (jsh_l i hi)
theorem jI_shl {c i : Nat} (hi : i < 32) (hc : c * 2 ^ i < 2 ^ 32) : nI c <<< (nI i &&& 31) = nI (c * 2 ^ i) := pk_shlN _ i (jsh_l i hi) hc
theorem jI_and (a b : Nat) : nI a &&& nI b = nI (a &&& b) := by
  apply Int32.toBitVec_inj.mp
  show BitVec.ofNat 32 a &&& BitVec.ofNat 32 b = BitVec.ofNat 32 (a &&& b)
  exact BitVec.ofNat_and.symm
theorem jI_or (a b : Nat) : nI a ||| nI b = nI (a ||| b) := by
  apply Int32.toBitVec_inj.mp
  show BitVec.ofNat 32 a ||| BitVec.ofNat 32 b = BitVec.ofNat 32 (a ||| b)
  exact BitVec.ofNat_or.symm
theorem jand1 (a : Nat) : a &&& 1 = a % 2 := Nat.and_one_is_mod a
theorem jI_bit {c i : Nat} (hc : c < 2 ^ 31) (hi : i < 32) : nI c >>> (nI i &&& 31) &&& nI 1 = nI (c / 2 ^ i % 2) := by rw [jI_shr hc hi, jI_and, jand1]
theorem jI_one {i : Nat} (hi : i < 32) : nI 1 <<< (nI i &&& 31) = nI (2 ^ i) := by
  rw [jI_shl hi (by rw [Nat.one_mul]; exact Nat.pow_lt_pow_right (by decide) hi), Nat.one_mul]
theorem jI_m1 {a : Nat} (h : 1 ≤ a) : nI a - nI 1 = nI (a - 1) := pk_sub h
theorem jAI {a b P Q : Prop} (h1 : a → P) (h2 : b → Q) : (a → P) ∧ (b → Q) := ⟨h1, h2⟩
theorem jcall {Z : jY} {As : List Value} {h : List jC} {Q : Option Value → List jC → Prop} {Ψ : jPost} (hc : jCt Z As h Ψ) (k : ∀ r h', Ψ r h' → Q r h') : ∃ Ψ, jCt Z As h Ψ ∧ ∀ r h', Ψ r h' → Q r h' := ⟨Ψ, hc, k⟩
theorem jCt_mono {Y : jY} {As : List Value} {h : List jC} {Φ Ψ : jPost} (hc : jCt Y As h Φ) (hi : ∀ r h', Φ r h' → Ψ r h') : jCt Y As h Ψ := by
  intro l g
  refine MetFree.mono (hc l g) (fun _ _ q => q) (fun _ _ _ _ _ q => q) (fun a st o t _ q => ?_)
  obtain ⟨⟨⟨r, h', h1, h2⟩, h3⟩, h4⟩ := q
  exact ⟨⟨⟨r, h', hi r h' h1, h2⟩, h3⟩, h4⟩
