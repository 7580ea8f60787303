theorem und_bit (o : zOrd) (a b : Nat) (ha : 0 < a) : zund o a b ↔ (o.2 b).testBit (a - 1) = true := by
  obtain ⟨k, rfl⟩ : ∃ k, a = k + 1 := ⟨a - 1, by omega⟩
  show 2 * o.2 b / 2 ^ (k + 1) % 2 = 1 ↔ _
  rw [show (2 : Nat) ^ (k + 1) = 2 * 2 ^ k by rw [Nat.pow_succ, Nat.mul_comm], Nat.mul_div_mul_left _ _ (by decide), Nat.add_sub_cancel, Nat.testBit_eq_decide_div_mod_eq, decide_eq_true_iff]
theorem zbelO_ok {o : zOrd} (ho : zordOk o) {i j : Nat} (hi : 1 ≤ i ∧ i ≤ o.1) (hj : 1 ≤ j ∧ j ≤ o.1) (hc : ¬ (i = j ∨ zund o j i)) : zordOk (zbelO o i j) := by
  have hb := zbelO_b (j := j) ho hi
  have h6 := ho.1
  have hij : i ≠ j := fun q => hc (Or.inl q)
  have hji : (o.2 i).testBit (j - 1) = false := by
    cases h : (o.2 i).testBit (j - 1) with
    | false => rfl
    | true => exact absurd (Or.inr ((und_bit o j i (by omega)).mpr h)) hc
  -- who is below whom, in the old order
  have irr : ∀ a, 1 ≤ a → a ≤ 6 → (o.2 a).testBit (a - 1) = false := fun a h1 h2 => (ho.2 a (by omega)).2.2.1 (by omega)
  have tra : ∀ a b, 1 ≤ a → a ≤ 6 → b < 7 → (o.2 b).testBit (a - 1) = true → ∀ k, (o.2 a).testBit k = true → (o.2 b).testBit k = true := fun a b h1 h2 h3 h4 => (ho.2 b h3).2.2.2 a (by omega) h4
  have new : ∀ k m, ((zbelO o i j).2 k).testBit m = true ↔ (o.2 k).testBit m = true ∨ (((0 < k ∧ k ≤ o.1) ∧ (k = j ∨ (o.2 k).testBit (j - 1) = true)) ∧ ((o.2 i).testBit m = true ∨ m = i - 1)) := by
    intro k m
    show (if (0 < k ∧ k ≤ o.1) ∧ (k = j ∨ zund o j k) then o.2 k ||| (o.2 i ||| 2 ^ (i - 1)) else o.2 k).testBit m = true ↔ _
    rw [← und_bit o j k (by omega)]
    split
    · rename_i c
      rw [Nat.testBit_or, Nat.testBit_or, Nat.testBit_two_pow]
      simp only [Bool.or_eq_true, decide_eq_true_eq, c, true_and]
      rw [show (i - 1 = m) = (m = i - 1) from propext ⟨Eq.symm, Eq.symm⟩]
    · rename_i c
      constructor
      · exact Or.inl
      · rintro (q | q)
        · exact q
        · exact absurd q.1 c
  refine ⟨ho.1, fun k hk => ⟨(hb k hk).1, (hb k hk).2, fun hk0 => ?_, fun a ha hab m hm => ?_⟩⟩
  · cases h : ((zbelO o i j).2 k).testBit (k - 1) with
    | false => rfl
    | true =>
      rcases (new k (k - 1)).mp h with q | ⟨⟨u, v⟩, w⟩
      · rw [irr k hk0 (by omega)] at q; cases q
      · rcases v with rfl | v
        · rcases w with w | w
          · rw [hji] at w; cases w
          · omega
        · rcases w with w | w
          · have := tra k i (by omega) (by omega) (by omega) w _ v
            rw [hji] at this; cases this
          · have e : k = i := by omega
            rw [e, hji] at v; cases v
  · have hak : a ≤ 6 := by
      rcases Nat.lt_or_ge 6 a with q | q
      · have h1 := (hb k hk).1
        have : ((zbelO o i j).2 k).testBit (a - 1) = false := Nat.testBit_lt_two_pow (Nat.lt_of_lt_of_le h1 (Nat.pow_le_pow_right (by decide) (by show o.1 ≤ a - 1; omega)))
        have h2 : ((zbelO o i j).2 k).testBit (a - 1) = true := hab
        rw [this] at h2; cases h2
      · exact q
    rw [new]
    rcases (new k (a - 1)).mp hab with q | ⟨⟨u, v⟩, w⟩
    · rcases (new a m).mp hm with p | ⟨⟨u1, v1⟩, w1⟩
      · exact Or.inl (tra a k ha hak hk q m p)
      · refine Or.inr ⟨⟨?_, ?_⟩, w1⟩
        · have hk1 := (ho.2 k hk).2.1
          rcases Nat.eq_zero_or_pos k with e | e
          · rw [hk1 (Or.inl e), Nat.zero_testBit] at q; cases q
          · rcases Nat.lt_or_ge o.1 k with e2 | e2
            · rw [hk1 (Or.inr e2), Nat.zero_testBit] at q; cases q
            · exact ⟨e, e2⟩
        · rcases v1 with rfl | v1
          · exact Or.inr q
          · exact Or.inr (tra a k ha hak hk q _ v1)
    · -- a is i, or below i
      have out : ¬ (a = j ∨ (o.2 a).testBit (j - 1) = true) := by
        rintro (p | p)
        · subst p
          rcases w with w | w
          · rw [hji] at w; cases w
          · omega
        · rcases w with w | w
          · have := tra a i ha hak (by omega) w _ p
            rw [hji] at this; cases this
          · have e : a = i := by omega
            rw [e, hji] at p; cases p
      rcases (new a m).mp hm with p | ⟨⟨u1, v1⟩, w1⟩
      · refine Or.inr ⟨⟨u, v⟩, ?_⟩
        rcases w with w | w
        · exact Or.inl (tra a i ha hak (by omega) w m p)
        · have e : a = i := by omega
          rw [e] at p
          exact Or.inl p
      · exact absurd v1 out
theorem k_below {z : zS} (h : zG z) (x y : Int32) : zG (zbelow z x y).2 := by
  unfold zbelow
  split
  · rename_i c
    split
    · exact h
    · rename_i c2
      exact zG_O h (zbelO_ok h.1.2.2.1 ⟨by unfold tn; omega, by unfold tn; omega⟩ ⟨by unfold tn; omega, by unfold tn; omega⟩ c2)
  · exact h
