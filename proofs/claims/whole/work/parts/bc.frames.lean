/-! BOTH SIDES TOGETHER: what the one changes, the other does not look at -/
/-- the class holds z, the reference holds w -/
def jB (h : List jC) (z w : zS) : Prop := (∃ τ, EncX τ h z) ∧ ∃ s I L F, h = jR h s I L F ∧ EncR s I L F w
theorem EncX.put {τ : jTg} {h : List jC} {z : zS} (E : EncX τ h z) (M : Nat → jC) : EncX τ (jput h M) z := by
  have B := E.B
  obtain ⟨ρ, ω, κ, π, n, t, k, e1, e2, e3, e4, e5, e6, e7, e8, e9, e10, e11⟩ := E
  have K : KT (fun t => t != 9) τ h τ (jput h M) := by
    intro k c hk hs
    refine ⟨?_, rfl⟩
    rw [jput_out (fun q => ?_)]
    · exact hk
    · have hs : (τ k != 9) = true := hs
      rw [B.2.2.1 k q.1 q.2] at hs
      exact absurd hs (by decide)
  have K0 := K.kp rfl
  exact ⟨ρ, ω, κ, π, n, t, k, (jput_out (by decide)).trans e1, e2.kt K rfl rfl, e3.kt K rfl rfl, e4.kt K rfl, e5.kt K rfl rfl, e6.kt K rfl rfl (t3_ok (S := fun t => t != 9) rfl rfl rfl), e7.kt K rfl, e8.kp K0, e9.kt K rfl rfl rfl, e10.kt K rfl rfl, ⟨by rw [jput_len]; exact e11.1, e11.2.1, e11.2.2.1, fun k hk => e11.2.2.2 k (by rwa [jput_len] at hk)⟩⟩
theorem jB.len {h : List jC} {z w : zS} (b : jB h z w) : 53 ≤ h.length := by
  obtain ⟨⟨τ, E⟩, -⟩ := b
  exact E.B.1
/-- an order of the class -/
theorem jB_class {h h' : List jC} {z w z' : zS} {res : Value} {r : Option Value} (b : jB h z w) (p : xPost h res z' r h') : r = some res ∧ jB h' z' w := by
  have hh := b.len
  obtain ⟨-, s, I, L, F, e, E⟩ := b
  obtain ⟨p1, p2, p3⟩ := p
  refine ⟨p1, p2, s, I, L, F, ?_, E⟩
  refine (jput_self (fun i hi => ?_)).symm
  rw [p3 (20 + i) (by omega) (by omega), e]
  exact jput_get hh (mc s I L F) hi
/-- an order of the reference -/
theorem jB_ref {h h' : List jC} {z w w' : zS} {res : Value} {r : Option Value} (b : jB h z w) (p : zPost h res w' r h') : r = some res ∧ jB h' z w' := by
  obtain ⟨⟨τ, X⟩, -⟩ := b
  obtain ⟨p1, s, I, L, F, e, E⟩ := p
  subst e
  exact ⟨p1, ⟨τ, X.put _⟩, s, I, L, F, (jput_put h _ _).symm, E⟩
