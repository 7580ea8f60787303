/-! term() -/
theorem jmust_in (t : zTap) (x : Nat) (hx : x < 1000) (q : Nat × Bool) (hq : q.1 ≤ t.1) : (jmust t (nI x) q).1 ≤ t.1 := by
  unfold jmust
  split
  · exact hq
  · split
    · rename_i h
      exact jhere_in h hx
    · exact hq
theorem jmust_ge (t : zTap) (x : Int32) (q : Nat × Bool) : q.1 ≤ (jmust t x q).1 := by
  unfold jmust
  split
  · exact Nat.le_refl _
  · split
    · exact Nat.le_succ _
    · exact Nat.le_refl _
theorem jfgs_in (t : zTap) : ∀ (n : Nat) (q : Nat × Bool) (u : Nat × Int64), q.1 ≤ t.1 → (jfgs t n q u).1.1 ≤ t.1
  | 0, q, u, h => h
  | n + 1, q, u, h => by
    rw [jfgs]
    split
    · rename_i w
      exact jfgs_in t n _ _ (jfig_in t _ _ (jhere_in w.2 (by decide)))
    · exact h
theorem c_X12_term {h : List jC} (hh : 53 ≤ h.length) (s : Nat → Int32) (I : jIs) (L : jLss) (F : jFs) {t : zTap} (ht : eTap (s 5) (I 21) t) (ht80 : t.1 ≤ 80) {a : Nat} (ha : a ≤ t.1) {T : Nat} (hT : s 8 = nI T) (hT80 : T < 80) (x : Int32) : jCt jy_X12_term [.ref 20, .int x] (jR h (jsR s (a, false)) I L F) (fun r h' => r = none ∧ h' = jR h (jsR s (jtrm t a).1.1) (va_up (va_up (va_up I 22 (upd (I 22) T (x * nI (jtrm t a).2.1))) 23 (upd (I 23) T (jbi ((jtrm t a).2.2 = true)))) 24 (upd (I 24) T (nI (jtrm t a).1.2.1))) (va_up L 25 (vp_updL (L 25) T (jtrm t a).1.2.2)) F) := by
  generalize hΦ : (fun (r : Option Value) (h' : List jC) => r = none ∧ h' = jR h (jsR s (jtrm t a).1.1) (va_up (va_up (va_up I 22 (upd (I 22) T (x * nI (jtrm t a).2.1))) 23 (upd (I 23) T (jbi ((jtrm t a).2.2 = true)))) 24 (upd (I 24) T (nI (jtrm t a).1.2.1))) (va_up L 25 (vp_updL (L 25) T (jtrm t a).1.2.2)) F) = Φ
  have hdl := jdig_le t a 4
  obtain ⟨d, hd⟩ : ∃ d, d = jdig t a 4 := ⟨_, rfl⟩
  obtain ⟨b, hb⟩ : ∃ b, b = a + d.2 := ⟨_, rfl⟩
  have htr : jtrm t a = (if ¬ jhere t b = nI 77 ∧ ¬ jhere t b = nI 70 then (((b, true), (0, 0)), (if d.2 = 0 then 1 else d.1, decide (jhere t b = nI 70)))
    else ((jmust t (nI 41) (if (jmust t (nI 40) (b + 1, false)).2 = false ∧ ¬ jhere t (jmust t (nI 40) (b + 1, false)).1 = nI 41 then jfgs t 81 (jfig t (jmust t (nI 40) (b + 1, false)) (0, 0)).1 (jfig t (jmust t (nI 40) (b + 1, false)) (0, 0)).2 else (jmust t (nI 40) (b + 1, false), (0, 0))).1, (if (jmust t (nI 40) (b + 1, false)).2 = false ∧ ¬ jhere t (jmust t (nI 40) (b + 1, false)).1 = nI 41 then jfgs t 81 (jfig t (jmust t (nI 40) (b + 1, false)) (0, 0)).1 (jfig t (jmust t (nI 40) (b + 1, false)) (0, 0)).2 else (jmust t (nI 40) (b + 1, false), (0, 0))).2), (if d.2 = 0 then 1 else d.1, decide (jhere t b = nI 70)))) := by
    rw [hb, hd]
    rfl
  rw [← hd] at hdl
  have hb85 : b ≤ 84 := by omega
  have h6 : jsR s (b, false) 6 = nI b := rfl
  have h8 : jsR s (b, false) 8 = nI T := hT
  refine jrun2 (js_X12_term _) rfl rfl rfl (fun G hG hW hB => ?_)
  obtain ⟨y, hy⟩ : ∃ y, y = if d.2 = 0 then 1 else d.1 := ⟨_, rfl⟩
  rw [← hy] at htr
  have g115 : ∀ (I3 : jIs) (L3 : jLss), I3 = va_up (va_up (va_up I 22 (upd (I 22) T (x * nI y))) 23 (upd (I 23) T (jbi (jhere t b = nI 70)))) 24 (upd (I 24) T (nI 0)) → L3 = va_up L 25 (vp_updL (L 25) T 0) → G 115 [some (.ref 20), some (.int x), some (.int (nI d.1)), some (.int (nI d.2))] [] (jR h (jsR s (b, false)) I3 L3 F) 0 0 := by
    intro I3 L3 hI3 hL3
    have hq : jbi (decide (jhere t b = nI 70) = true) = jbi (jhere t b = nI 70) := jbi_c (by simp)
    have ht3 : eTap (jsR s (b, false) 5) (I3 21) t := by rw [hI3]; exact ht
    have ht4 : eTap (s 5) (I3 21) t := by rw [hI3]; exact ht
    have h138 : (¬ (¬ jhere t b = nI 77 ∧ ¬ jhere t b = nI 70)) → G 138 [some (.ref 20), some (.int x), some (.int (nI d.1)), some (.int (nI d.2))] [.ref 20] (jR h (jsR s (b, false)) I3 L3 F) 0 0 := by
      intro c
      rw [if_neg c] at htr
      have hbt : b < t.1 := by
        by_cases c7 : jhere t b = nI 77
        · exact jhere_in c7 (by decide)
        · exact jhere_in (Decidable.not_not.mp (fun w => c ⟨c7, w⟩)) (by decide)
      have q1 := jmust_in t 40 (by decide) (b + 1, false) hbt
      have q2 := jmust_ge t (nI 40) (b + 1, false)
      dsimp only at q2
      generalize hqm : jmust t (nI 40) (b + 1, false) = q at *
      have g219 : ∀ r : (Nat × Bool) × (Nat × Int64), r = (if q.2 = false ∧ ¬ jhere t q.1 = nI 41 then jfgs t 81 (jfig t q (0, 0)).1 (jfig t q (0, 0)).2 else (q, (0, 0))) → r.1.1 ≤ t.1 → G 219 [some (.ref 20), some (.int x), some (.int (nI d.1)), some (.int (nI d.2))] [] (jR h (jsR s r.1) (va_up I3 24 (upd (I3 24) T (nI r.2.1))) (va_up L3 25 (vp_updL (L3 25) T r.2.2)) F) 0 0 := by
        intro r hr hrt
        rw [← hr] at htr
        refine hG [219] 300 _ _ _ _ _ _ ?_
        conv => whnf
        refine ⟨⟨_, m_0 hh⟩, jcall (c_X12_must hh s (va_up I3 24 (upd (I3 24) T (nI r.2.1))) (va_up L3 25 (vp_updL (L3 25) T r.2.2)) F (show eTap (s 5) (I3 21) t from ht4) ht80 r.1 (by omega) (nI 41)) ?_⟩
        rintro r h' ⟨rfl, rfl⟩
        conv => whnf
        rw [← hΦ, htr]
        refine ⟨rfl, ?_⟩
        dsimp only
        rw [hq, hI3, hL3, va_up_up, va_up_up, va_up_self, va_up_self, jupd2, vpL_two]
      have e24 : I3 24 T = nI 0 := by
        rw [hI3, va_up_self]
        unfold upd
        rw [if_pos rfl]
      have e25 : L3 25 T = 0 := by
        rw [hL3, va_up_self]
        unfold vp_updL
        rw [if_pos rfl]
      have g219b : ¬ (q.2 = false ∧ ¬ jhere t q.1 = nI 41) → G 219 [some (.ref 20), some (.int x), some (.int (nI d.1)), some (.int (nI d.2))] [] (jR h (jsR s q) I3 L3 F) 0 0 := by
        intro c2
        have l1 := g219 (q, (0, 0)) (by rw [if_neg c2]) q1
        dsimp only at l1
        rw [← e24, upd_same, va_up_same, ← e25, vpL_same, va_up_same] at l1
        exact l1
      refine hG [138, 186, 219] 300 _ _ _ _ _ _ ?_
      conv => whnf
      refine ⟨Or.inl rfl, _, m_0 hh, ?_⟩
      conv => whnf
      erw [ms_0 (upd (jsR s (b, false)) 7 (nI 0))]
      refine ⟨_, m_0 hh, ?_⟩
      conv => whnf
      refine ⟨fun _ => ?_, fun w => absurd rfl w⟩
      conv => whnf
      refine ⟨_, m_0 hh, ?_⟩
      conv => whnf
      refine ⟨trivial, _, m_0 hh, ?_⟩
      conv => whnf
      erw [ms_0 (upd (upd (jsR s (b, false)) 7 (nI 0)) 6 ((upd (jsR s (b, false)) 7 (nI 0) 6 + nI 1)))]
      rw [show upd (upd (jsR s (b, false)) 7 (nI 0)) 6 (upd (jsR s (b, false)) 7 (nI 0) 6 + nI 1) = jsR s (b + 1, false) by
        rw [show upd (jsR s (b, false)) 7 (nI 0) 6 = nI b from rfl, nI_add, jsR_two]
        rfl]
      refine ⟨⟨_, m_0 hh⟩, jcall (c_X12_must hh s I3 L3 F ht4 ht80 (b + 1, false) (by dsimp only; omega) (nI 40)) ?_⟩
      rintro r h' ⟨rfl, rfl⟩
      conv => whnf
      rw [hqm]
      refine ⟨_, m_0 hh, ?_⟩
      conv => whnf
      rw [show jsR s q 7 = jbi (q.2 = true) from rfl]
      refine ⟨fun c2 => ?_, fun c2 => ?_⟩ <;> rw [jbi_0] at c2
      · exact g219b (fun w => by rw [Decidable.not_not.mp c2] at w; cases w.1)
      conv => whnf
      refine ⟨⟨_, m_0 hh⟩, jcall (c_X12_here hh (jsR s q) I3 L3 F (show eTap (jsR s q 5) (I3 21) t from ht4) ht80 (show jsR s q 6 = nI q.1 from rfl) (by omega)) ?_⟩
      rintro r h' ⟨rfl, rfl⟩
      conv => whnf
      refine ⟨fun c3 => ?_, fun c3 => ?_⟩
      · exact g219b (fun w => w.2 c3)
      have cc : q.2 = false ∧ ¬ jhere t q.1 = nI 41 := ⟨Bool.not_eq_true _ |>.mp c2, c3⟩
      rw [if_pos cc] at g219
      obtain ⟨b1, b2, b3⟩ := jfig_le t q (0, 0)
      have b4 := jfig_in t q (0, 0) q1
      have fin := g219 _ rfl (jfgs_in t 81 _ _ b4)
      conv => whnf
      refine ⟨⟨_, m_0 hh⟩, jcall (c_X12_figure hh s I3 L3 F ht4 ht80 q (by omega) hT hT80 (0, 0) (by decide) e24 e25) ?_⟩
      rintro r h' ⟨rfl, rfl⟩
      conv => whnf
      dsimp only at b2
      generalize jfig t q (0, 0) = r at *
      refine w_figs hh hG s F ht80 hT hT80 x _ _ (fun _ => True) 81 r.1 r.2 (va_up I3 24 (upd (I3 24) T (nI r.2.1))) (va_up L3 25 (vp_updL (L3 25) T r.2.2)) ht4 (by omega) b4 (by omega) ?_ ?_ ?_
      · rw [va_up_self]
        unfold upd
        rw [if_pos rfl]
      · rw [va_up_self]
        unfold vp_updL
        rw [if_pos rfl]
      · rw [va_up_up, va_up_up, va_up_self, va_up_self, jupd2, vpL_two]
        exact fin
    refine hG [115, 138] 300 _ _ _ _ _ _ ?_
    conv => whnf
    refine ⟨⟨_, m_0 hh⟩, jcall (c_X12_here hh (jsR s (b, false)) I3 L3 F ht3 ht80 h6 (by omega)) ?_⟩
    rintro r h' ⟨rfl, rfl⟩
    conv => whnf
    refine ⟨fun c => ?_, fun c => ?_⟩
    · exact h138 (fun w => w.1 c)
    conv => whnf
    refine ⟨⟨_, m_0 hh⟩, jcall (c_X12_here hh (jsR s (b, false)) I3 L3 F ht3 ht80 h6 (by omega)) ?_⟩
    rintro r h' ⟨rfl, rfl⟩
    conv => whnf
    refine ⟨fun c2 => ?_, fun c2 => ?_⟩
    · exact h138 (fun w => w.2 c2)
    conv => whnf
    refine ⟨Or.inr rfl, _, m_0 hh, ?_⟩
    conv => whnf
    erw [ms_0 (upd (jsR s (b, false)) 7 (nI 1))]
    refine ⟨_, m_0 hh, ?_⟩
    conv => whnf
    refine ⟨fun w => absurd (show nI 1 = nI 0 from w) (by decide), fun _ => ?_⟩
    conv => whnf
    rw [if_pos ⟨c, c2⟩] at htr
    rw [← hΦ, htr]
    refine ⟨rfl, ?_⟩
    dsimp only
    rw [hq, hI3, hL3, jsR_w]
    rfl
  have g94 : G 94 [some (.ref 20), some (.int x), some (.int (nI d.1)), some (.int (nI d.2))] [.int (jbi (jhere t b = nI 70)), .int (nI T), .ref 43] (jR h (jsR s (b, false)) (va_up I 22 (upd (I 22) T (x * nI y))) L F) 0 0 := by
    refine hG [94, 115] 300 _ _ _ _ _ _ ?_
    conv => whnf
    refine ⟨_, _, _, m_23 hh, rfl, hT80, jbi_01 _, ?_⟩
    conv => whnf
    erw [ms_23 (upd (I 23) T (jbi (jhere t b = nI 70)))]
    refine ⟨_, m_0 hh, ?_⟩
    conv => whnf
    refine ⟨_, m_0 hh, ?_⟩
    conv => whnf
    rw [h8]
    refine ⟨_, _, _, m_24 hh, rfl, hT80, ?_⟩
    conv => whnf
    erw [ms_24 (upd (I 24) T (nI 0))]
    refine ⟨_, m_0 hh, ?_⟩
    conv => whnf
    refine ⟨_, m_0 hh, ?_⟩
    conv => whnf
    rw [h8]
    refine ⟨_, _, _, m_25 hh, rfl, hT80, ?_⟩
    conv => whnf
    erw [ms_25 (vp_updL (L 25) T 0)]
    exact g115 _ _ rfl rfl
  have g70 : ∀ v, v = nI y → G 70 [some (.ref 20), some (.int x), some (.int (nI d.1)), some (.int (nI d.2))] [.int v, .int x, .int (nI T), .ref 42] (jR h (jsR s (b, false)) I L F) 0 0 := by
    intro v hv
    refine hG [70, 94] 300 _ _ _ _ _ _ ?_
    conv => whnf
    refine ⟨_, _, _, m_22 hh, rfl, hT80, ?_⟩
    conv => whnf
    rw [hv]
    erw [ms_22 (upd (I 22) T (x * nI y))]
    refine ⟨_, m_0 hh, ?_⟩
    conv => whnf
    refine ⟨_, m_0 hh, ?_⟩
    conv => whnf
    rw [h8]
    refine ⟨⟨_, m_0 hh⟩, jcall (c_X12_here hh (jsR s (b, false)) (va_up I 22 (upd (I 22) T (x * nI y))) L F (show eTap (jsR s (b, false) 5) (I 21) t from ht) ht80 h6 (by omega)) ?_⟩
    rintro r h' ⟨rfl, rfl⟩
    conv => whnf
    refine ⟨fun c => ?_, fun c => ?_⟩
    · rw [jbi_f c] at g94
      exact g94
    · rw [jbi_t c] at g94
      exact g94
  have g52 : G 52 [some (.ref 20), some (.int x), some (.int (nI d.1)), some (.int (nI d.2))] [] (jR h (jsR s (b, false)) I L F) 0 0 := by
    refine hG [52, 70] 300 _ _ _ _ _ _ ?_
    conv => whnf
    refine ⟨_, m_0 hh, ?_⟩
    conv => whnf
    refine ⟨_, m_0 hh, ?_⟩
    conv => whnf
    rw [h8]
    refine ⟨fun c => ?_, fun c => ?_⟩ <;> rw [nI_eq (by omega) (by omega)] at c
    · exact g70 _ (by rw [hy, if_neg c])
    · exact g70 _ (by rw [hy, if_pos c])
  refine hG [4] 300 _ _ _ _ _ _ ?_
  conv => whnf
  rw [hb, hd] at g52
  have l0 := w_digs hh hG s I L F ht ht80 x (by omega) g52 4 0 (by omega) rfl
  exact l0
