/-! term() of the reference -/
theorem j48 : (nI 48).toInt = 48 := by decide
theorem j57 : (nI 57).toInt = 57 := by decide
/-- the figures of a term, one behind the other -/
def jfgs (t : zTap) : Nat → Nat × Bool → Nat × Int64 → (Nat × Bool) × (Nat × Int64)
  | 0, q, u => (q, u)
  | n + 1, q, u => if q.2 = false ∧ jhere t q.1 = nI 44 then jfgs t n (jfig t (q.1 + 1, false) u).1 (jfig t (q.1 + 1, false) u).2 else (q, u)
def jtrm (t : zTap) (a : Nat) : ((Nat × Bool) × (Nat × Int64)) × (Nat × Bool) :=
  (let d := jdig t a 4
   let f := decide (jhere t (a + d.2) = nI 70)
   if ¬ jhere t (a + d.2) = nI 77 ∧ ¬ jhere t (a + d.2) = nI 70 then (((a + d.2, true), (0, 0)), (if d.2 = 0 then 1 else d.1, f))
   else
     (let q := jmust t (nI 40) (a + d.2 + 1, false)
      let r := if q.2 = false ∧ ¬ jhere t q.1 = nI 41 then jfgs t 81 (jfig t q (0, 0)).1 (jfig t q (0, 0)).2 else (q, (0, 0))
      ((jmust t (nI 41) r.1, r.2), (if d.2 = 0 then 1 else d.1, f))))
theorem vpL_two (f : Nat → Int64) (k : Nat) (x y : Int64) : vp_updL (vp_updL f k x) k y = vp_updL f k y := by
  funext j
  unfold vp_updL
  split
  · rfl
  · rfl
theorem jsR_6 (s : Nat → Int32) (q : Nat × Bool) (y : Int32) : upd (jsR s q) 6 y = upd (upd s 7 (jbi (q.2 = true))) 6 y := jupd2 _ _ _ _
theorem jfig_le (t : zTap) (q : Nat × Bool) (u : Nat × Int64) : (jfig t q u).1.1 ≤ q.1 + 1 ∧ (jfig t q u).2.1 ≤ u.1 + 6 ∧ q.1 ≤ (jfig t q u).1.1 := by
  unfold jfig
  split
  · refine ⟨by dsimp only; omega, by dsimp only; omega, Nat.le_refl _⟩
  · rename_i h
    have h2 : (jhere t q.1).toInt ≤ 54 := by
      refine Decidable.byContradiction (fun w => h (Or.inr (fun z => w z.2)))
    refine ⟨Nat.le_refl _, ?_, by dsimp only; omega⟩
    dsimp only
    have : tn (jhere t q.1) ≤ 54 := by unfold tn; omega
    omega
theorem jfig_in (t : zTap) (q : Nat × Bool) (u : Nat × Int64) (hq : q.1 ≤ t.1) : (jfig t q u).1.1 ≤ t.1 := by
  unfold jfig
  split
  · exact hq
  · rename_i h
    dsimp only
    refine Decidable.byContradiction (fun w => h (Or.inr (fun z => ?_)))
    have : jhere t q.1 = -1 := if_neg (by omega)
    rw [this, jm1] at z
    omega
theorem jhere_in {t : zTap} {a : Nat} {x : Nat} (h : jhere t a = nI x) (hx : x < 1000) : a < t.1 := by
  refine Decidable.byContradiction (fun w => ?_)
  rw [jhere, if_neg w, jeq, jm1, nI_toInt (by omega)] at h
  omega
/-- the loop over the figures behind the first -/
theorem w_figs {h : List jC} (hh : 53 ≤ h.length) {G : jKt} {Φ : jPost} (hG : ∀ (C : List Nat) (n pc : Nat) lv st h a b, jw (jp_X12_term Φ) G C n pc lv st h a b → G pc lv st h a b) (s : Nat → Int32) (F : jFs) {t : zTap} (ht80 : t.1 ≤ 80) {T : Nat} (hT : s 8 = nI T) (hT80 : T < 80) (x : Int32) (x2 x3 : Option Value) (ta : zTap → Prop) :
    ∀ (n : Nat) (q : Nat × Bool) (u : Nat × Int64) (I : jIs) (L : jLss), eTap (s 5) (I 21) t → t.1 + 1 ≤ q.1 + n → q.1 ≤ t.1 → u.1 ≤ 6 * q.1 → I 24 T = nI u.1 → L 25 T = u.2 →
      (G 219 [some (.ref 20), some (.int x), x2, x3] [] (jR h (jsR s (jfgs t n q u).1) (va_up I 24 (upd (I 24) T (nI (jfgs t n q u).2.1))) (va_up L 25 (vp_updL (L 25) T (jfgs t n q u).2.2)) F) 0 0) →
      G 186 [some (.ref 20), some (.int x), x2, x3] [] (jR h (jsR s q) I L F) 0 0 := by
  intro n
  induction n with
  | zero =>
    intro q u I L ht hn hq hu hI hL hend
    omega
  | succ n ih =>
    intro q u I L ht hn hq hu hI hL hend
    have h7 : jsR s q 7 = jbi (q.2 = true) := rfl
    have h6 : jsR s q 6 = nI q.1 := rfl
    have stop : ¬ (q.2 = false ∧ jhere t q.1 = nI 44) → G 219 [some (.ref 20), some (.int x), x2, x3] [] (jR h (jsR s q) I L F) 0 0 := by
      intro c
      rw [jfgs, if_neg c] at hend
      dsimp only at hend
      rw [← hI, upd_same, va_up_same, ← hL, vpL_same, va_up_same] at hend
      exact hend
    refine hG [186, 219] 300 _ _ _ _ _ _ ?_
    conv => whnf
    refine ⟨_, m_0 hh, ?_⟩
    conv => whnf
    rw [h7]
    refine ⟨fun c => ?_, fun c => ?_⟩ <;> rw [jbi_0] at c
    · exact stop (fun w => by rw [Decidable.not_not.mp c] at w; cases w.1)
    have hq2 : q.2 = false := Bool.not_eq_true _ |>.mp c
    conv => whnf
    refine ⟨⟨_, m_0 hh⟩, jcall (c_X12_here hh _ I L F (show eTap (jsR s q 5) (I 21) t from ht) ht80 h6 (by omega)) ?_⟩
    rintro r h' ⟨rfl, rfl⟩
    conv => whnf
    refine ⟨fun c2 => ?_, fun c2 => ?_⟩
    · exact stop (fun w => c2 w.2)
    rw [jfgs, if_pos ⟨hq2, c2⟩] at hend
    have hlt := jhere_in c2 (by decide)
    conv => whnf
    refine ⟨_, m_0 hh, ?_⟩
    conv => whnf
    refine ⟨trivial, _, m_0 hh, ?_⟩
    conv => whnf
    erw [ms_0 (upd (jsR s q) 6 ((jsR s q 6 + nI 1)))]
    rw [show upd (jsR s q) 6 (jsR s q 6 + nI 1) = jsR s (q.1 + 1, false) by rw [h6, nI_add, jsR_6, hq2]]
    obtain ⟨b1, b2, b3⟩ := jfig_le t (q.1 + 1, false) u
    have b4 := jfig_in t (q.1 + 1, false) u (by dsimp only; omega)
    dsimp only at b1 b2 b3
    refine ⟨⟨_, m_0 hh⟩, jcall (c_X12_figure hh s I L F ht ht80 (q.1 + 1, false) (by dsimp only; omega) hT hT80 u (by omega) hI hL) ?_⟩
    rintro r h' ⟨rfl, rfl⟩
    conv => whnf
    generalize hr : jfig t (q.1 + 1, false) u = r at *
    obtain ⟨r1, r2⟩ := r
    dsimp only at b1 b2 b3 b4 hend ⊢
    refine ih r1 r2 (va_up I 24 (upd (I 24) T (nI r2.1))) (va_up L 25 (vp_updL (L 25) T r2.2)) ht (by omega) b4 (by omega) ?_ ?_ ?_
    · rw [va_up_self]
      unfold upd
      rw [if_pos rfl]
    · rw [va_up_self]
      unfold vp_updL
      rw [if_pos rfl]
    · rw [va_up_up, va_up_up, va_up_self, va_up_self, jupd2, vpL_two]
      exact hend
