/-! where a term ends -/
theorem jhere_out {t : zTap} {a : Nat} (h : 0 ≤ (jhere t a).toInt) : a < t.1 := by
  refine Decidable.byContradiction (fun w => ?_)
  rw [jhere, if_neg w, jm1] at h
  omega
theorem jdig_in (t : zTap) {a : Nat} (ha : a ≤ t.1) : ∀ u, a + (jdig t a u).2 ≤ t.1
  | 0 => ha
  | u + 1 => by
    rw [jdig]
    split
    · rename_i h
      have := jhere_out (t := t) (a := a + u) (by omega)
      dsimp only
      omega
    · exact jdig_in t ha u
theorem jmust_ok (t : zTap) (x : Int32) (q : Nat × Bool) (h : q.2 = true) : jmust t x q = q := if_pos h
theorem jtrm_in (t : zTap) {a : Nat} (ha : a ≤ t.1) : (jtrm t a).1.1.1 ≤ t.1 ∧ a ≤ (jtrm t a).1.1.1 := by
  have hb := jdig_in t ha 4
  unfold jtrm
  dsimp only
  generalize jdig t a 4 = d at *
  split
  · exact ⟨hb, Nat.le_add_right _ _⟩
  · rename_i c
    have hbt : a + d.2 < t.1 := by
      by_cases c7 : jhere t (a + d.2) = nI 77
      · exact jhere_in c7 (by decide)
      · exact jhere_in (Decidable.not_not.mp (fun w => c ⟨c7, w⟩)) (by decide)
    have q1 := jmust_in t 40 (by decide) (a + d.2 + 1, false) hbt
    have q2 := jmust_ge t (nI 40) (a + d.2 + 1, false)
    dsimp only at q2
    generalize jmust t (nI 40) (a + d.2 + 1, false) = q at *
    refine ⟨jmust_in t 41 (by decide) _ ?_, ?_⟩
    · split
      · exact jfgs_in t 81 _ _ (jfig_in t _ _ q1)
      · exact q1
    · refine Nat.le_trans ?_ (jmust_ge t (nI 41) _)
      split
      · have g1 := (jfig_le t q (0, 0)).2.2
        have g2 : ∀ (n : Nat) (p : Nat × Bool) (u : Nat × Int64), p.1 ≤ (jfgs t n p u).1.1 := by
          intro n
          induction n with
          | zero => intro p u; exact Nat.le_refl _
          | succ n ih =>
            intro p u
            rw [jfgs]
            split
            · have h1 := ih (jfig t (p.1 + 1, false) u).1 (jfig t (p.1 + 1, false) u).2
              have h2 := (jfig_le t (p.1 + 1, false) u).2.2
              dsimp only at h2
              omega
            · exact Nat.le_refl _
        have g3 := g2 81 (jfig t q (0, 0)).1 (jfig t q (0, 0)).2
        omega
      · dsimp only
        omega
