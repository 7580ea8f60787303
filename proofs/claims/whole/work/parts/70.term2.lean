/-! term(): its leading figures -/
theorem w_digs {h : List jC} (hh : 53 ≤ h.length) {G : jKt} {Φ : jPost} (hG : ∀ (C : List Nat) (n pc : Nat) lv st h a b, jw (jp_X12_term Φ) G C n pc lv st h a b → G pc lv st h a b) (s : Nat → Int32) (I : jIs) (L : jLss) (F : jFs) {t : zTap} (ht : eTap (s 5) (I 21) t) (ht80 : t.1 ≤ 80) (x : Int32) {a : Nat} (ha : a ≤ 81)
    (g52 : G 52 [some (.ref 20), some (.int x), some (.int (nI (jdig t a 4).1)), some (.int (nI (jdig t a 4).2))] [] (jR h (jsR s (a + (jdig t a 4).2, false)) I L F) 0 0) :
    ∀ k u, 4 = u + k → (jdig t a u).2 = u → G 4 [some (.ref 20), some (.int x), some (.int (nI (jdig t a u).1)), some (.int (nI u))] [] (jR h (jsR s (a + u, false)) I L F) 0 0 := by
  intro k
  induction k with
  | zero =>
    intro u hu hd
    have hu4 : u = 4 := by omega
    subst hu4
    rw [hd] at g52
    refine hG [4, 52] 300 _ _ _ _ _ _ ?_
    conv => whnf
    refine ⟨fun qb => ?_, fun qb => ?_⟩ <;> rw [nI_leI (by omega) (by omega)] at qb
    case refine_2 => omega
    exact g52
  | succ k ih =>
    intro u hu hd
    have i1 := ih (u + 1) (by omega)
    rw [jdig] at i1
    have h6 : jsR s (a + u, false) 6 = nI (a + u) := rfl
    have hbd := (jdig_le t a u).2
    have hp : 10 ^ u ≤ 10 ^ 4 := Nat.pow_le_pow_right (by decide) (by omega)
    refine hG [4, 52] 300 _ _ _ _ _ _ ?_
    conv => whnf
    refine ⟨fun qb => ?_, fun qb => ?_⟩ <;> rw [nI_leI (by omega) (by omega)] at qb
    · omega
    conv => whnf
    refine ⟨⟨_, m_0 hh⟩, jcall (c_X12_here hh _ I L F (show eTap (jsR s (a + u, false) 5) (I 21) t from ht) ht80 h6 (by omega)) ?_⟩
    rintro r h' ⟨rfl, rfl⟩
    conv => whnf
    refine jcall (c_X12_in _ _ _ _) ?_
    rintro r h' ⟨rfl, rfl⟩
    conv => whnf
    refine ⟨fun c => ?_, fun c => ?_⟩ <;> rw [jbi_0, j48, j57] at c
    · have hst := jdig_stop t a c hd (k + 1)
      rw [show u + (k + 1) = 4 by omega] at hst
      rw [hst, hd] at g52
      exact g52
    have c := Decidable.not_not.mp c
    rw [if_pos ⟨hd, c⟩] at i1
    have hhn := tn_eq (show 0 ≤ (jhere t (a + u)).toInt by omega)
    have hh48 : 48 ≤ tn (jhere t (a + u)) := by unfold tn; omega
    have hh57 : tn (jhere t (a + u)) ≤ 57 := by unfold tn; omega
    conv => whnf
    refine ⟨⟨_, m_0 hh⟩, jcall (c_X12_here hh _ I L F (show eTap (jsR s (a + u, false) 5) (I 21) t from ht) ht80 h6 (by omega)) ?_⟩
    rintro r h' ⟨rfl, rfl⟩
    conv => whnf
    rw [show nI 10 * nI (jdig t a u).1 + jhere t (a + u) - nI 48 = nI (10 * (jdig t a u).1 + (tn (jhere t (a + u)) - 48)) by
      rw [hhn, pk_mul, nI_add, pk_sub (by omega), tn_nI (by omega)]
      congr 1
      omega]
    refine ⟨_, m_0 hh, ?_⟩
    conv => whnf
    refine ⟨trivial, _, m_0 hh, ?_⟩
    conv => whnf
    erw [ms_0 (upd (jsR s (a + u, false)) 6 ((jsR s (a + u, false) 6 + nI 1)))]
    rw [show upd (jsR s (a + u, false)) 6 (jsR s (a + u, false) 6 + nI 1) = jsR s (a + (u + 1), false) by rw [h6, nI_add, jsR_6, Nat.add_assoc], nI_add]
    exact i1 rfl
