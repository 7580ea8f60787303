/-! the class's reader: the whole text -/
theorem jcond {b : Bool} {P : Prop} (h : b = true) (p : P) : cond b P False := by subst h; exact p
theorem jw1 {P : Nat → jI} {K : jKt} {C : List Nat} {n pc : Nat} {lv : List (Option Value)} {st : List Value} {h : List jC} {a b : Nat} : jw P K C (n + 1) pc lv st h a b = P pc (fun pc lv st h a b => cond (jcut C pc) (K pc lv st h a b) (jw P K C n pc lv st h a b)) lv st h a b := rfl
/-- a call where the room is not a written number -/
theorem jvS {Z : jY} {n ci MC MS nx : Nat} {k : jKt} {lv : List (Option Value)} {st rest : List Value} {h : List jC} {a b r : Nat} (ha : a + Z.2.2.2.2.2.1 ≤ MC) (hb : b + Z.2.2.2.2.2.2 ≤ MS) (hs : (Nat.ble (jcs (st.drop n)) 8 && Nat.ble n st.length) = true) (hd : st.drop n = .ref r :: rest) (hr : ∃ vs, h[r]? = some (.inr (ci, vs))) (hc : ∃ Ψ, jCt Z (.ref r :: (st.take n).reverse) h Ψ ∧ ∀ r h', Ψ r h' → k nx lv (r.toList ++ rest) h' (a + Z.2.2.2.2.2.1) (b + Z.2.2.2.2.2.2)) : ji_vcall Z n ci MC MS nx k lv st h a b := by
  unfold ji_vcall
  refine jcond ?_ ?_
  · unfold jchk
    rw [Nat.ble_eq_true_of_le ha, Nat.ble_eq_true_of_le hb]
    exact hs
  · rw [hd]
    exact ⟨hr, hc⟩
theorem jtrm_go3 (t : zTap) (a : Nat) (h : (jtrm t a).1.1.2 = false) : a + 3 ≤ (jtrm t a).1.1.1 := by
  revert h
  unfold jtrm
  dsimp only
  generalize jdig t a 4 = d
  split
  · intro h
    cases h
  · have q2 : (jmust t (nI 40) (a + d.2 + 1, false)).2 = false → a + d.2 + 2 ≤ (jmust t (nI 40) (a + d.2 + 1, false)).1 := by
      unfold jmust
      rw [if_neg Bool.false_ne_true]
      split
      · intro _
        exact Nat.le_refl _
      · intro h
        cases h
    have q3 : ∀ r : Nat × Bool, (jmust t (nI 41) r).2 = false → r.1 + 1 ≤ (jmust t (nI 41) r).1 := by
      intro r hr
      unfold jmust at hr ⊢
      by_cases c : r.2 = true
      · rw [if_pos c] at hr
        rw [hr] at c
        cases c
      · rw [if_neg c] at hr ⊢
        by_cases c2 : jhere t r.1 = nI 41
        · rw [if_pos c2]
          exact Nat.le_refl _
        · rw [if_neg c2] at hr
          cases hr
    generalize jmust t (nI 40) (a + d.2 + 1, false) = q at *
    have g2 : ∀ (n : Nat) (p : Nat × Bool) (u : Nat × Int64), p.1 ≤ (jfgs t n p u).1.1 := by
      intro n
      induction n with
      | zero => intro p u; exact Nat.le_refl _
      | succ n ih =>
        intro p u
        rw [jfgs]
        split
        · have h1 := ih (jfig t (p.1 + 1, false) u).1 (jfig t (p.1 + 1, false) u).2
          have h2 := (jfig_le t (p.1 + 1, false) u).2.2
          dsimp only at h2
          omega
        · exact Nat.le_refl _
    intro h
    by_cases hq : q.2 = false
    · have h1 := q2 hq
      refine Nat.le_trans ?_ (q3 _ h)
      split
      · have g1 := (jfig_le t q (0, 0)).2.2
        have g3 := g2 81 (jfig t q (0, 0)).1 (jfig t q (0, 0)).2
        omega
      · dsimp only
        omega
    · rw [if_neg (fun w => hq w.1)] at h
      rw [jmust_ok t _ _ (by simpa using hq)] at h
      exact absurd h hq
theorem rSt.set {b0 : Nat} {h : List jC} {ρ : Nat} {t : zTap} {l a T : Nat} {ts : List zTm} (H : rSt b0 h ρ t l a T ts) (a2 T2 : Nat) : rSt b0 (h.set ρ (oRd t.1 l a2 T2)) ρ t l a2 T2 ts := by
  obtain ⟨h1, h2, h3, h4, h5, h6⟩ := H
  exact ⟨h1, h2, h3, jget_set h4, h5.set (oRd_10 h4 h5) _, h6.keep h4 (fun k c hk hc => jget_ne (Ne.symm hk) hc)⟩
theorem c_X5_readText {b0 : Nat} {h : List jC} {ρ l : Nat} {t : zTap} (H : rSt b0 h ρ t l 0 0 []) : jCt jy_X5_readText [.ref ρ] h (fun r h' => r = some (.int (jbi (¬ ((jtx t 82 0 (nI 1)).2.2 = true ∨ (jtx t 82 0 (nI 1)).2.1 < t.1)))) ∧ rFr b0 h h' ∧ h'[ρ]? = some (oRd t.1 l (jtx t 82 0 (nI 1)).2.1 ((jtx t 82 0 (nI 1)).1.length - 1)) ∧ (¬ ((jtx t 82 0 (nI 1)).2.2 = true ∨ (jtx t 82 0 (nI 1)).2.1 < t.1) → rLs b0 h' l (jtx t 82 0 (nI 1)).1)) := by
  generalize hres : jtx t 82 0 (nI 1) = res
  have ht80 := H.2.2.2.2.1.1
  generalize hΦ : (fun (r : Option Value) (h' : List jC) => r = some (.int (jbi (¬ (res.2.2 = true ∨ res.2.1 < t.1)))) ∧ rFr b0 h h' ∧ h'[ρ]? = some (oRd t.1 l res.2.1 (res.1.length - 1)) ∧ (¬ (res.2.2 = true ∨ res.2.1 < t.1) → rLs b0 h' l res.1)) = Φ
  refine jrun2 (js_X5_readText _) rfl rfl rfl (fun G hG hWW hB => ?_)
  have p19 : jp_X5_readText Φ 19 = ji_vcall jy_X5_readTerm 1 4 164 3608 22 := rfl
  have p43 : jp_X5_readText Φ 43 = ji_vcall jy_X5_sees 1 4 164 3608 46 := rfl
  have p54 : jp_X5_readText Φ 54 = ji_vcall jy_X5_sees 1 4 164 3608 57 := rfl
  have loop : ∀ (k i a T0 : Nat) (m : Bool) (pre : List zTm) (hh : List jC), rSt b0 hh ρ t l a T0 pre → rFr b0 h hh → pre.length = i → 4 * i ≤ a → a ≤ t.1 → t.1 + 1 ≤ a + k → res = (pre ++ (jtx t k a (if m = true then -1 else nI 1)).1, (jtx t k a (if m = true then -1 else nI 1)).2) → G 4 [some (.ref ρ), some (.int (jbi (m = true))), some (.int (nI i))] [] hh (2 * i) (44 * i) := by
    intro k
    induction k with
    | zero =>
      intro i a T0 m pre hh S hfr hp h4 ha hk hr
      omega
    | succ k ih =>
      intro i a T0 m pre hh S hfr hp h4 ha hk hr
      have hi20 : i ≤ 20 := by omega
      have hR := S.2.2.2.1
      have S1 := S.set a i
      have hti := jtrm_in t ha
      have htg := jtrm_go3 t a
      have hct := c_X5_readTerm S1 ha (by omega) m
      generalize hx : (if m = true then (-1 : Int32) else nI 1) = x at *
      have hl1 : (pre ++ [jtm t a x]).length - 1 = i := by rw [List.length_append, hp]; rfl
      refine hG [19] 300 _ _ _ _ _ _ ?_
      conv => whnf
      refine ⟨_, hR, ?_⟩
      conv => whnf
      refine ⟨fun qb => ?_, fun qb => ?_⟩ <;> rw [nI_ltI (by omega) (by omega)] at qb
      · omega
      · conv => whnf
        refine ⟨trivial, _, hR, ?_⟩
        conv => whnf
        refine hG [22] 1 19 _ _ _ _ _ ?_
        rw [jw1, p19]
        refine jvS (r := ρ) (rest := []) (by show 2 * i + 2 ≤ 164; omega) (by show 44 * i + 44 ≤ 3608; omega) rfl rfl ⟨_, S1.2.2.2.1⟩ (jcall hct ?_)
        rintro r h' ⟨rfl, k1, k2, k3⟩
        show G 22 _ _ h' _ _
        refine hB (2 * (i + 1)) (44 * (i + 1)) (by show 2 * i + 2 ≤ _; omega) (by show 44 * i + 44 ≤ _; omega) ?_
        have hfr2 : rFr b0 h h' := hfr.trans ((rFr_set hh S.2.1 _).trans k1)
        rw [jtx] at hr
        generalize hq : (jtrm t a).1.1 = q at *
        have fin : ∀ v, ¬ jpm t q → v = jbi (¬ (q.2 = true ∨ q.1 < t.1)) → Φ (some (.int v)) h' := by
          intro v hno hv
          rw [if_neg hno] at hr
          rw [← hΦ, hr, hv]
          refine ⟨rfl, hfr2, ?_, fun w => ?_⟩
          · show h'[ρ]? = some (oRd t.1 l q.1 ((pre ++ [jtm t a x]).length - 1))
            rw [hl1]
            exact k2
          · have hq2 : q.2 = false := by
              cases e : q.2
              · rfl
              · exact absurd (Or.inl e) w
            exact (k3 hq2).2.2.2.2.2
        have g25 : q.2 = true → G 25 [some (.ref ρ), some (.int (jbi (m = true))), some (.int (nI i))] [] h' (2 * (i + 1)) (44 * (i + 1)) := by
          intro e
          refine hB 164 3608 (by omega) (by omega) ?_
          have f1 := fin (nI 0) (fun w => by have w1 := w.1; rw [e] at w1; cases w1) (by rw [jbi_f (fun w => w (Or.inl e))])
          refine hG [] 300 _ _ _ _ _ _ ?_
          conv => whnf
          exact ⟨Or.inl rfl, f1⟩
        have g38 : q.2 = false → ¬ q.1 < t.1 → G 38 [some (.ref ρ), some (.int (jbi (m = true))), some (.int (nI i))] [] h' (2 * (i + 1)) (44 * (i + 1)) := by
          intro e e2
          refine hB 164 3608 (by omega) (by omega) ?_
          have hno : ¬ jpm t q := by
            intro w
            rcases w.2 with e3 | e3
            · exact e2 (jhere_in e3 (by decide))
            · exact e2 (jhere_in e3 (by decide))
          have f1 := fin (nI 1) hno (by rw [jbi_t (show ¬ (q.2 = true ∨ q.1 < t.1) from fun w => w.elim (fun w => by rw [e] at w; cases w) e2)])
          refine hG [] 300 _ _ _ _ _ _ ?_
          conv => whnf
          exact ⟨Or.inr rfl, f1⟩
        have g60 : q.2 = false → q.1 < t.1 → ¬ jpm t q → ∀ x1, G 60 [some (.ref ρ), x1, some (.int (nI i))] [] h' (2 * (i + 1)) (44 * (i + 1)) := by
          intro e e2 hno x1
          refine hB 164 3608 (by omega) (by omega) ?_
          have f1 := fin (nI 0) hno (by rw [jbi_f (fun w => w (Or.inr e2))])
          refine hG [] 300 _ _ _ _ _ _ ?_
          conv => whnf
          exact ⟨Or.inl rfl, f1⟩
        have g62 : q.2 = false → q.1 < t.1 → jpm t q → ∀ m2 : Bool, (if m2 = true then (-1 : Int32) else nI 1) = jsgn t q.1 → G 62 [some (.ref ρ), some (.int (jbi (m2 = true))), some (.int (nI i))] [] h' (2 * (i + 1)) (44 * (i + 1)) := by
          intro e e2 hyes m2 hm2
          rw [if_pos hyes, ← hm2] at hr
          have S2 := (k3 e).set (q.1 + 1) i
          have hfr3 : rFr b0 h (h'.set ρ (oRd t.1 l (q.1 + 1) i)) := hfr2.trans (rFr_set h' S.2.1 _)
          have hgo := htg e
          refine hG [4] 300 _ _ _ _ _ _ ?_
          conv => whnf
          refine ⟨_, k2, ?_⟩
          conv => whnf
          rw [nI_add]
          refine ⟨trivial, _, k2, ?_⟩
          conv => whnf
          rw [nI_add]
          refine ih (i + 1) (q.1 + 1) i m2 (pre ++ [jtm t a x]) _ S2 hfr3 (by rw [List.length_append, hp]; rfl) (by omega) (by omega) (by omega) ?_
          rw [hr, List.append_assoc]
          rfl
        have g40 : q.2 = false → q.1 < t.1 → G 40 [some (.ref ρ), some (.int (jbi (m = true))), some (.int (nI i))] [] h' (2 * (i + 1)) (44 * (i + 1)) := by
          intro e e2
          obtain ⟨-, -, -, s4, s5, -⟩ := k3 e
          have hse1 := c_X5_sees s4 s5 (by omega) 45 (by decide)
          have hse2 := c_X5_sees s4 s5 (by omega) 43 (by decide)
          refine hG [43] 300 _ _ _ _ _ _ ?_
          conv => whnf
          refine hG [46] 1 43 _ _ _ _ _ ?_
          rw [jw1, p43]
          refine jvS (r := ρ) (rest := []) (by show 2 * (i + 1) + 0 ≤ 164; omega) (by show 44 * (i + 1) + 0 ≤ 3608; omega) rfl rfl ⟨_, s4⟩ (jcall hse1 ?_)
          rintro r h2 ⟨rfl, he⟩
          obtain rfl := he.symm
          clear he
          show G 46 _ _ _ _ _
          by_cases c : jhere t q.1 = nI 45
          · have hyes : jpm t q := ⟨e, Or.inr c⟩
            have g := g62 e e2 hyes true (by rw [if_pos rfl, jsgn, if_neg (by rw [c]; decide)])
            rw [jbi_t rfl] at g
            rw [jbi_t c]
            refine hG [62, 51] 300 _ _ _ _ _ _ ?_
            conv => whnf
            refine ⟨fun _ => g, fun w => absurd w nI_10⟩
          · rw [jbi_f c]
            refine hG [62, 51] 300 _ _ _ _ _ _ ?_
            conv => whnf
            refine ⟨fun w => absurd rfl w, fun _ => ?_⟩
            refine hG [54] 300 _ _ _ _ _ _ ?_
            conv => whnf
            refine hG [57] 1 54 _ _ _ _ _ ?_
            rw [jw1, p54]
            refine jvS (r := ρ) (rest := []) (by show 2 * (i + 1) + 0 + 0 ≤ 164; omega) (by show 44 * (i + 1) + 0 + 0 ≤ 3608; omega) rfl rfl ⟨_, s4⟩ (jcall hse2 ?_)
            rintro r h2 ⟨rfl, he⟩
            obtain rfl := he.symm
            clear he
            show G 57 _ _ _ _ _
            by_cases c2 : jhere t q.1 = nI 43
            · have hyes : jpm t q := ⟨e, Or.inl c2⟩
              have g := g62 e e2 hyes false (by rw [if_neg Bool.false_ne_true, jsgn, if_pos c2])
              rw [jbi_f Bool.false_ne_true] at g
              rw [jbi_t c2]
              refine hG [62, 60] 300 _ _ _ _ _ _ ?_
              conv => whnf
              refine ⟨fun _ => g, fun w => absurd w nI_10⟩
            · have g := g60 e e2 (fun w => w.2.elim c2 c) (some (.int (nI 0)))
              rw [jbi_f c2]
              refine hG [62, 60] 300 _ _ _ _ _ _ ?_
              conv => whnf
              refine ⟨fun w => absurd rfl w, fun _ => g⟩
        refine hG [25, 38, 40] 300 _ _ _ _ _ _ ?_
        conv => whnf
        refine ⟨fun c => ?_, fun c => ?_⟩ <;> rw [jbi_0] at c
        · have c := Decidable.not_not.mp c
          conv => whnf
          refine ⟨_, k2, ?_⟩
          conv => whnf
          refine ⟨_, k2, ?_⟩
          conv => whnf
          refine ⟨fun qb => ?_, fun qb => ?_⟩ <;> rw [nI_ltI (by omega) (by omega)] at qb
          · exact g40 c qb
          · exact g38 c qb
        · exact g25 (by simpa using c)
  have l0 := loop 82 0 0 0 false [] h H ⟨Nat.le_refl _, fun _ _ => rfl⟩ rfl (Nat.zero_le _) (Nat.zero_le _) (by omega) (by rw [← hres]; rfl)
  rw [jbi_f Bool.false_ne_true] at l0
  refine hG [4] 300 _ _ _ _ _ _ ?_
  conv => whnf
  exact l0
