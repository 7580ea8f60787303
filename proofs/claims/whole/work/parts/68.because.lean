/-! because() of the reference; a term's leading figures -/
theorem c_X12_because {h : List jC} (hh : 53 ≤ h.length) (s : Nat → Int32) (I : jIs) (L : jLss) (F : jFs) (x y : Int32) : jCt jy_X12_because [.ref 20, .int x, .int y] (jR h s I L F) (fun r h' => r = none ∧ h' = jR h (upd s 1 (nI 2)) (va_up (va_up I 1 (upd (upd (I 1) 0 (nI 2)) 1 x)) 2 (upd (upd (I 2) 0 (s 8)) 1 y)) L F) := by
  refine jrun2 (js_X12_because _) rfl rfl rfl (fun G hG hW hB => ?_)
  refine hG [] 300 _ _ _ _ _ _ ?_
  conv => whnf
  refine ⟨_, m_0 hh, ?_⟩
  conv => whnf
  refine ⟨_, _, _, m_1 hh, rfl, (show 0 < 3 by decide), ?_⟩
  conv => whnf
  erw [ms_1 (upd (I 1) 0 (nI 2))]
  refine ⟨_, m_0 hh, ?_⟩
  conv => whnf
  refine ⟨_, m_0 hh, ?_⟩
  conv => whnf
  refine ⟨_, _, _, m_2 hh, rfl, (show 0 < 3 by decide), ?_⟩
  conv => whnf
  erw [ms_2 (upd (I 2) 0 (s 8))]
  refine ⟨_, m_0 hh, ?_⟩
  conv => whnf
  refine ⟨_, _, _, m_1 hh, rfl, (show 1 < 3 by decide), ?_⟩
  conv => whnf
  erw [ms_1 (upd (upd (I 1) 0 (nI 2)) 1 x)]
  rw [va_up_comm _ (show 2 ≠ 1 by decide), va_up_up]
  refine ⟨_, m_0 hh, ?_⟩
  conv => whnf
  refine ⟨_, _, _, m_2 hh, rfl, (show 1 < 3 by decide), ?_⟩
  conv => whnf
  erw [ms_2 (upd (upd (I 2) 0 (s 8)) 1 y)]
  rw [va_up_up]
  refine ⟨trivial, _, m_0 hh, ?_⟩
  conv => whnf
  erw [ms_0 (upd s 1 (nI 2))]
  exact ⟨rfl, rfl⟩
/-- the figures from a place on, four at most: the number that they tell, how many there are -/
def jdig (t : zTap) (a : Nat) : Nat → Nat × Nat
  | 0 => (0, 0)
  | u + 1 => if (jdig t a u).2 = u ∧ 48 ≤ (jhere t (a + u)).toInt ∧ (jhere t (a + u)).toInt ≤ 57 then (10 * (jdig t a u).1 + (tn (jhere t (a + u)) - 48), u + 1) else jdig t a u
theorem jdig_le (t : zTap) (a : Nat) : ∀ u, (jdig t a u).2 ≤ u ∧ (jdig t a u).1 < 10 ^ u
  | 0 => ⟨Nat.le_refl _, Nat.one_pos⟩
  | u + 1 => by
    obtain ⟨h1, h2⟩ := jdig_le t a u
    rw [jdig]
    split
    · rename_i h
      have h3 : tn (jhere t (a + u)) ≤ 57 := by unfold tn; omega
      refine ⟨Nat.le_refl _, ?_⟩
      dsimp only
      rw [Nat.pow_succ]
      omega
    · refine ⟨by omega, ?_⟩
      rw [Nat.pow_succ]
      omega
theorem jdig_stop (t : zTap) (a : Nat) {u : Nat} (h : ¬ (48 ≤ (jhere t (a + u)).toInt ∧ (jhere t (a + u)).toInt ≤ 57)) (h2 : (jdig t a u).2 = u) : ∀ k, jdig t a (u + k) = jdig t a u
  | 0 => rfl
  | k + 1 => by
    have ih := jdig_stop t a h h2 k
    rw [show u + (k + 1) = (u + k) + 1 from rfl, jdig, ih]
    refine if_neg (fun w => ?_)
    by_cases hk : k = 0
    · subst hk
      exact h w.2
    · omega
