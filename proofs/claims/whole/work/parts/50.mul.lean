/-! multiply of the reference against the state -/
def jmulE (a : Int64) (w : Nat → Int32) (q : (Nat → Int64) × jLs) : Nat → (Nat → Int64) × jLs
  | 0 => q
  | e + 1 => if w e ≤ nI 0 then jmulE a w q e else jcm ((jmulE a w q e).1, jbad1 (jmulE a w q e).2 (jotm a (w e).toInt64) (nI e)) e (a * (w e).toInt64)
def jmulD (n m : Nat) (a : Int64) (c : Nat) (g : Nat → Int64) (q : (Nat → Int64) × jLs) : Nat → (Nat → Int64) × jLs
  | 0 => q
  | d + 1 => if (jmulD n m a c g q d).2.1 = true then jmulD n m a c g q d
    else if jotm a (g d) = true then ((jmulD n m a c g q d).1, (true, nI (100 + c)))
    else jmulE (a * g d) (jgsh 13 (jparts n c) (jparts m d) 0 0 (fun _ => 0)) (jmulD n m a c g q d) (jmany (n + m))
def jmulC (n m : Nat) (f g : Nat → Int64) (f0 : Nat → Int64) : Nat → (Nat → Int64) × jLs
  | 0 => (f0, (false, nI 0))
  | c + 1 => jmulD n m (f c) c g (jmulC n m f g f0 c) (jmany m)
theorem jmulD_stop (n m : Nat) (a : Int64) (c : Nat) (g : Nat → Int64) (q : (Nat → Int64) × jLs) {d : Nat} (h : (jmulD n m a c g q d).2.1 = true) : ∀ k, jmulD n m a c g q (d + k) = jmulD n m a c g q d
  | 0 => rfl
  | k + 1 => by
    have ih := jmulD_stop n m a c g q h k
    rw [show d + (k + 1) = (d + k) + 1 from rfl, jmulD, ih, if_pos h]
theorem jgsh_c : ∀ (D : Nat) (A B : List Nat) (e t : Nat) {w v : Nat → Int32}, (∀ c, c < 32 → w c = v c) → ∀ c, c < 32 → jgsh D A B e t w c = jgsh D A B e t v c
  | 0, A, B, e, t, w, v, h => by
    intro c hc
    simp only [jgsh, upd]
    split
    · rename_i q; subst q; rw [h _ hc]
    · exact h c hc
  | D + 1, [], [], e, t, w, v, h => by
    intro c hc
    simp only [jgsh, upd]
    split
    · rename_i q; subst q; rw [h _ hc]
    · exact h c hc
  | D + 1, a :: A, [], e, t, w, v, h => by
    simp only [jgsh]
    exact jgsh_c D _ _ _ _ h
  | D + 1, [], b :: B, e, t, w, v, h => by
    simp only [jgsh]
    exact jgsh_c D _ _ _ _ h
  | D + 1, a :: A, b :: B, e, t, w, v, h => by
    simp only [jgsh]
    exact jgsh_c D _ _ _ _ (jgsh_c D _ _ _ _ (jgsh_c D _ _ _ _ h))
theorem zeq_mulE {q p : (Nat → Int64) × jLs} (h : zeq q p) (a : Int64) {w v : Nat → Int32} (hw : ∀ c, c < 32 → w c = v c) : ∀ e, e ≤ 32 → zeq (jmulE a w q e) (jmulE a v p e)
  | 0, _ => h
  | e + 1, he => by
    have ih := zeq_mulE h a hw e (by omega)
    simp only [jmulE]
    rw [hw e (by omega)]
    split
    · exact ih
    · refine zeq_jcm (q := ((jmulE a w q e).1, jbad1 (jmulE a w q e).2 (jotm a (v e).toInt64) (nI e))) (p := ((jmulE a v p e).1, jbad1 (jmulE a v p e).2 (jotm a (v e).toInt64) (nI e))) (c := e) ⟨?_, ih.2⟩ (by omega) _
      dsimp only
      rw [ih.1]
theorem jmulE_w (a : Int64) {w v : Nat → Int32} (hw : ∀ c, c < 32 → w c = v c) (q : (Nat → Int64) × jLs) : ∀ e, e ≤ 32 → jmulE a w q e = jmulE a v q e
  | 0, _ => rfl
  | e + 1, he => by simp only [jmulE]; rw [hw e (by omega), jmulE_w a hw q e (by omega)]
theorem zeq_mulD {n m : Nat} (hnm : n + m ≤ 6) {q p : (Nat → Int64) × jLs} (h : zeq q p) (a : Int64) (c : Nat) {g g2 : Nat → Int64} : ∀ d, (∀ c, c < d → g c = g2 c) → zeq (jmulD n m a c g q d) (jmulD n m a c g2 p d)
  | 0, _ => h
  | d + 1, hg => by
    have ih := zeq_mulD hnm h a c d (fun c hc => hg c (by omega))
    simp only [jmulD]
    rw [hg d (by omega), ih.1]
    split
    · exact ih
    · split
      · exact ⟨rfl, ih.2⟩
      · exact zeq_mulE ih _ (fun _ _ => rfl) _ (jmany_le hnm).2
theorem zeq_mulC {n m : Nat} (hnm : n + m ≤ 6) {f f2 g g2 f0 f3 : Nat → Int64} (h0 : ∀ c, c < 32 → f0 c = f3 c) (hg : ∀ c, c < jmany m → g c = g2 c) : ∀ c, (∀ e, e < c → f e = f2 e) → zeq (jmulC n m f g f0 c) (jmulC n m f2 g2 f3 c)
  | 0, _ => ⟨rfl, h0⟩
  | c + 1, hf => by
    have ih := zeq_mulC hnm h0 hg c (fun c hc => hf c (by omega))
    simp only [jmulC]
    rw [hf c (by omega)]
    exact zeq_mulD hnm ih _ c _ hg
theorem rI_up (I : jIs) (q : jLs) {k : Nat} (h1 : k ≠ 1) (h2 : k ≠ 2) (w : Nat → Int32) : va_up (rI I q) k w = rI (va_up I k w) q := by
  unfold rI
  split
  · funext j
    by_cases hj : j = k
    · subst hj; simp [va_up, h1, h2]
    · by_cases hj1 : j = 1
      · subst hj1; simp [va_up, Ne.symm h1]
      · by_cases hj2 : j = 2
        · subst hj2; simp [va_up, Ne.symm h2]
        · simp [va_up, hj, hj1, hj2]
  · rfl
abbrev zS9 (h : List jC) (s : Nat → Int32) (I : jIs) (L : jLss) (F : jFs) (w : Nat → Int32) (q : (Nat → Int64) × jLs) : List jC := jR h (rS (upd s 0 (nI 0)) q.2) (rI (va_up I 9 w) q.2) (va_up L 5 q.1) F
def zmul (z : zS) (x y w : Int32) : Value × zS := if isReg x ∧ isReg y ∧ isReg w then
    (if (zR z (tn y)).1 + (zR z (tn w)).1 ≤ 6 then
      (let q := jmulC (zR z (tn y)).1 (zR z (tn w)).1 (zR z (tn y)).2 (zR z (tn w)).2 (fun _ => 0) (jmany (zR z (tn y)).1)
       zstl z (tn x) ((zR z (tn y)).1 + (zR z (tn w)).1, q.1) q.2 (nI ((zR z (tn y)).1 + (zR z (tn w)).1))) else (.int (-5), z))
  else (.int (-1), z)
theorem jparts_sum : ∀ n, n < 7 → ∀ c, c < 32 → (Nat.blt c (jmany n) && !(Nat.beq (jparts n c).sum n && Nat.ble (jparts n c).length n)) = false := by decide +kernel
theorem jparts_ok {n c : Nat} (hn : n ≤ 6) (hc : c < jmany n) : (jparts n c).sum = n ∧ (jparts n c).length ≤ n := by
  have hm := jmany_le hn
  have h := jparts_sum n (by omega) c (by omega)
  rw [show Nat.blt c (jmany n) = true from Nat.ble_eq.mpr hc] at h
  simp only [Bool.true_and, Bool.not_eq_false', Bool.and_eq_true] at h
  exact ⟨Nat.eq_of_beq_eq_true h.1, Nat.le_of_ble_eq_true h.2⟩
theorem r_multiply {h : List jC} (hh : 53 ≤ h.length) {s : Nat → Int32} {I : jIs} {L : jLss} {F : jFs} {z : zS} (hE : EncR s I L F z) (hz : zWF z) (x y w : Int32) : jCt jy_X12_multiply [.ref 20, .int x, .int y, .int w] (jR h s I L F) (zPost h (zmul z x y w).1 (zmul z x y w).2) := by
  by_cases c : ¬ (isReg x ∧ isReg y ∧ isReg w)
  · rw [zmul, if_neg c]
    refine jrun2 (js_X12_multiply _) rfl rfl rfl (fun G hG hW hB => ?_)
    refine hG [] 300 _ _ _ _ _ _ ?_
    conv => whnf
    refine jcall (c_X12_isRegister x _) ?_
    rintro r h' ⟨rfl, rfl⟩
    conv => whnf
    refine ⟨fun c1 => ?_, fun c1 => ?_⟩ <;> rw [jbi_0] at c1
    · conv => whnf
      exact ⟨rfl, s, I, L, F, rfl, hE⟩
    conv => whnf
    refine jcall (c_X12_isRegister y _) ?_
    rintro r h' ⟨rfl, rfl⟩
    conv => whnf
    refine ⟨fun c2 => ?_, fun c2 => ?_⟩ <;> rw [jbi_0] at c2
    · conv => whnf
      exact ⟨rfl, s, I, L, F, rfl, hE⟩
    conv => whnf
    refine jcall (c_X12_isRegister w _) ?_
    rintro r h' ⟨rfl, rfl⟩
    conv => whnf
    refine ⟨fun c3 => ?_, fun c3 => ?_⟩ <;> rw [jbi_0] at c3
    · exact absurd ⟨Decidable.not_not.mp c1, Decidable.not_not.mp c2, Decidable.not_not.mp c3⟩ c
    · conv => whnf
      exact ⟨rfl, s, I, L, F, rfl, hE⟩
  have c := Decidable.not_not.mp c
  rw [zmul, if_pos c]
  obtain ⟨cx, cy, cw⟩ := c
  obtain ⟨hx, hx4⟩ := isReg_nI cx
  obtain ⟨hy, hy4⟩ := isReg_nI cy
  obtain ⟨hw, hw4⟩ := isReg_nI cw
  generalize tn x = r at *
  generalize tn y = a at *
  generalize tn w = b at *
  have ha := (hE.2.1 a hy4).1
  have ha6 := (hz.1 a hy4).1
  have hb := (hE.2.1 b hw4).1
  have hb6 := (hz.1 b hw4).1
  have hae := (hE.2.1 a hy4).2
  have hbe := (hE.2.1 b hw4).2
  generalize hn : (zR z a).1 = n at *
  generalize hm : (zR z b).1 = m at *
  have hjn := jmany_le ha6
  have hjm := jmany_le hb6
  obtain ⟨xn, en⟩ : ∃ xn, xn = nI n := ⟨_, rfl⟩
  obtain ⟨xm, em⟩ : ∃ xm, xm = nI m := ⟨_, rfl⟩
  have cmn := c_X12_many n ha6
  have cmm := c_X12_many m hb6
  rw [← en] at ha cmn
  rw [← em] at hb cmm
  generalize hΦ : zPost h _ _ = Φ
  by_cases hnm : ¬ n + m ≤ 6
  · rw [if_neg hnm] at hΦ
    refine jrun2 (js_X12_multiply _) rfl rfl rfl (fun G hG hW hB => ?_)
    refine hG [] 300 _ _ _ _ _ _ ?_
    conv => whnf
    refine jcall (c_X12_isRegister _ _) ?_
    rintro r h' ⟨rfl, rfl⟩
    conv => whnf
    refine ⟨fun c3 => absurd cx (jbi_0.mp c3), fun _ => ?_⟩
    conv => whnf
    refine jcall (c_X12_isRegister _ _) ?_
    rintro r h' ⟨rfl, rfl⟩
    conv => whnf
    refine ⟨fun c3 => absurd cy (jbi_0.mp c3), fun _ => ?_⟩
    conv => whnf
    refine jcall (c_X12_isRegister _ _) ?_
    rintro r h' ⟨rfl, rfl⟩
    conv => whnf
    refine ⟨fun _ => ?_, fun c3 => absurd cw (jbi_0.mp c3)⟩
    conv => whnf
    refine ⟨_, m_0 hh, ?_⟩
    conv => whnf
    refine ⟨_, _, _, m_3 hh, hy, hy4, ?_⟩
    conv => whnf
    rw [ha]
    refine ⟨_, m_0 hh, ?_⟩
    conv => whnf
    refine ⟨_, _, _, m_3 hh, hw, hw4, ?_⟩
    conv => whnf
    rw [hb]
    refine ⟨fun qb => ?_, fun qb => ?_⟩
    · rw [en, em, nI_add, nI_leI (by omega) (by omega)] at qb
      exact absurd qb hnm
    · conv => whnf
      rw [← hΦ]
      exact ⟨rfl, s, I, L, F, rfl, hE⟩
  have hnm := Decidable.not_not.mp hnm
  rw [if_pos hnm] at hΦ
  have hjnm := jmany_le hnm
  have cmnm := c_X12_many (n + m) hnm
  rw [show nI (n + m) = xn + xm by rw [en, em, nI_add]] at cmnm
  obtain ⟨g0, hg0⟩ : ∃ g, g = jzer (L 5) 32 := ⟨_, rfl⟩
  obtain ⟨f, hf⟩ : ∃ f : Nat → Int64, f = fun c => L 4 (32 * a + c) := ⟨_, rfl⟩
  obtain ⟨g, hg⟩ : ∃ g : Nat → Int64, g = fun c => L 4 (32 * b + c) := ⟨_, rfl⟩
  refine jrun2 (js_X12_multiply _) rfl rfl rfl (fun G hG hW hB => ?_)
  have hs0 : upd s 0 (nI 0) 0 = nI 0 := rfl
  have eloop : ∀ (xc xd : Int32) (v : Int64) (w9 : Nat → Int32) (q : (Nat → Int64) × jLs), (∀ x10 : Option Value, G 247 [some (.ref 20), some (.int x), some (.int y), some (.int w), some (.int xn), some (.int xm), some (.int xc), some (.int xd), some (.long v), none, x10] [] (zS9 h s I L F w9 (jmulE v w9 q (jmany (n + m)))) 0 0) → ∀ k e, jmany (n + m) = e + k → G 182 [some (.ref 20), some (.int x), some (.int y), some (.int w), some (.int xn), some (.int xm), some (.int xc), some (.int xd), some (.long v), none, some (.int (nI e))] [] (zS9 h s I L F w9 (jmulE v w9 q e)) 0 0 := by
    intro xc xd v w9 q hend k
    induction k with
    | zero =>
      intro e he
      refine hG [182, 247] 300 _ _ _ _ _ _ ?_
      conv => whnf
      refine jcall (cmnm _) ?_
      rintro r h' ⟨rfl, rfl⟩
      conv => whnf
      refine ⟨fun qb => ?_, fun qb => ?_⟩ <;> rw [nI_leI (by omega) (by omega)] at qb
      case refine_2 => omega
      rw [Nat.add_zero] at he
      rw [← he]
      exact hend _
    | succ k ih =>
      intro e he
      have i1 := ih (e + 1) (by omega)
      simp only [jmulE] at i1
      have h9 : ∀ q2 : jLs, rI (va_up I 9 w9) q2 9 = w9 := fun q2 => (rI_ne (va_up I 9 w9) q2 (k := 9) (by decide) (by decide)).trans (va_up_self _ _ _)
      refine hG [182, 247] 300 _ _ _ _ _ _ ?_
      conv => whnf
      refine jcall (cmnm _) ?_
      rintro r h' ⟨rfl, rfl⟩
      conv => whnf
      refine ⟨fun qb => ?_, fun qb => ?_⟩ <;> rw [nI_leI (by omega) (by omega)] at qb
      · omega
      conv => whnf
      refine ⟨_, m_0 hh, ?_⟩
      conv => whnf
      refine ⟨_, _, _, m_9 hh, rfl, (show e < 32 by omega), ?_⟩
      conv => whnf
      rw [h9]
      refine ⟨fun qe => ?_, fun qe => ?_⟩
      · rw [if_pos qe] at i1
        conv => whnf
        rw [nI_add]
        exact i1
      · rw [if_neg qe] at i1
        conv => whnf
        refine ⟨_, m_0 hh, ?_⟩
        conv => whnf
        refine ⟨_, m_0 hh, ?_⟩
        conv => whnf
        refine ⟨_, _, _, m_5 hh, rfl, (show e < 32 by omega), ?_⟩
        conv => whnf
        refine ⟨_, m_0 hh, ?_⟩
        conv => whnf
        refine ⟨_, _, _, m_9 hh, rfl, (show e < 32 by omega), ?_⟩
        conv => whnf
        rw [h9]
        refine ⟨⟨_, m_0 hh⟩, jcall (c_X12_times hh hs0 (va_up I 9 w9) _ F _ _ _ _) ?_⟩
        rintro r h' ⟨rfl, rfl⟩
        conv => whnf
        refine ⟨⟨_, m_0 hh⟩, jcall (c_X12_plus hh hs0 (va_up I 9 w9) _ F _ _ _ _) ?_⟩
        rintro r h' ⟨rfl, rfl⟩
        conv => whnf
        refine ⟨_, _, _, m_5 hh, rfl, (show e < 32 by omega), ?_⟩
        conv => whnf
        rw [nI_add]
        erw [ms_5 (vp_updL (jmulE v w9 q e).1 e ((jmulE v w9 q e).1 e + v * (w9 e).toInt64))]
        rw [va_up_up]
        exact i1
  have h9 : ∀ (w9 : Nat → Int32) (q2 : jLs), rI (va_up I 9 w9) q2 9 = w9 := fun w9 q2 => (rI_ne (va_up I 9 w9) q2 (k := 9) (by decide) (by decide)).trans (va_up_self _ _ _)
  have zloop : ∀ (xc xd : Int32) (v : Int64) (w9 : Nat → Int32) (q : (Nat → Int64) × jLs), (G 163 [some (.ref 20), some (.int x), some (.int y), some (.int w), some (.int xn), some (.int xm), some (.int xc), some (.int xd), some (.long v), none, some (.int (nI 32))] [] (zS9 h s I L F (jzeI w9 32) q) 0 0) → ∀ k e, 32 = e + k → G 142 [some (.ref 20), some (.int x), some (.int y), some (.int w), some (.int xn), some (.int xm), some (.int xc), some (.int xd), some (.long v), none, some (.int (nI e))] [] (zS9 h s I L F (jzeI w9 e) q) 0 0 := by
    intro xc xd v w9 q hend k
    induction k with
    | zero =>
      intro e he
      refine hG [142, 163] 300 _ _ _ _ _ _ ?_
      conv => whnf
      refine ⟨fun qb => ?_, fun qb => ?_⟩ <;> rw [nI_leI (by omega) (by omega)] at qb
      case refine_2 => omega
      rw [Nat.add_zero] at he
      rw [← he]
      exact hend
    | succ k ih =>
      intro e he
      refine hG [142, 163] 300 _ _ _ _ _ _ ?_
      conv => whnf
      refine ⟨fun qb => ?_, fun qb => ?_⟩ <;> rw [nI_leI (by omega) (by omega)] at qb
      · omega
      conv => whnf
      refine ⟨_, m_0 hh, ?_⟩
      conv => whnf
      refine ⟨_, _, _, m_9 hh, rfl, (show e < 32 by omega), ?_⟩
      conv => whnf
      rw [h9, nI_add]
      erw [ms_9 (upd (jzeI w9 e) e (nI 0))]
      rw [rI_up _ _ (by decide) (by decide), va_up_up, jzeI_s]
      exact ih (e + 1) (by omega)
  have dloop : ∀ c, c < jmany n → ∀ q0 : (Nat → Int64) × jLs, (∀ (w9 : Nat → Int32) (x7 x8 x10 : Option Value), G 253 [some (.ref 20), some (.int x), some (.int y), some (.int w), some (.int xn), some (.int xm), some (.int (nI c)), x7, x8, none, x10] [] (zS9 h s I L F w9 (jmulD n m (f c) c g q0 (jmany m))) 0 0) → ∀ k d, jmany m = d + k → ∀ (w9 : Nat → Int32) (x8 x10 : Option Value), G 77 [some (.ref 20), some (.int x), some (.int y), some (.int w), some (.int xn), some (.int xm), some (.int (nI c)), some (.int (nI d)), x8, none, x10] [] (zS9 h s I L F w9 (jmulD n m (f c) c g q0 d)) 0 0 := by
    intro c hc q0 hend k
    induction k with
    | zero =>
      intro d hd w9 x8 x10
      refine hG [77, 253] 300 _ _ _ _ _ _ ?_
      conv => whnf
      refine jcall (cmm _) ?_
      rintro r h' ⟨rfl, rfl⟩
      conv => whnf
      refine ⟨fun qb => ?_, fun qb => ?_⟩ <;> rw [nI_leI (by omega) (by omega)] at qb
      case refine_2 => omega
      rw [Nat.add_zero] at hd
      rw [← hd]
      exact hend _ _ _ _
    | succ k ih =>
      intro d hd w9 x8 x10
      have i1 := ih (d + 1) (by omega)
      simp only [jmulD] at i1
      have hst := jmulD_stop n m (f c) c g q0 (d := d)
      generalize hq1 : jmulD n m (f c) c g q0 d = q1 at *
      have hfc : L 4 (32 * a + c) = f c := by rw [hf]
      have hgd : L 4 (32 * b + d) = g d := by rw [hg]
      refine hG [77, 142, 163, 182, 247, 253] 300 _ _ _ _ _ _ ?_
      conv => whnf
      refine jcall (cmm _) ?_
      rintro r h' ⟨rfl, rfl⟩
      conv => whnf
      refine ⟨fun qb => ?_, fun qb => ?_⟩ <;> rw [nI_leI (by omega) (by omega)] at qb
      · omega
      conv => whnf
      refine ⟨_, m_0 hh, ?_⟩
      conv => whnf
      rw [rS0 hs0]
      refine ⟨fun c3 => ?_, fun c3 => ?_⟩ <;> rw [jbi_0] at c3
      · have c3 := Decidable.not_not.mp c3
        have h5 := hst c3 (k + 1)
        rw [← hd] at h5
        have h6 := hend w9 (some (.int (nI d))) x8 x10
        rw [h5] at h6
        exact h6
      rw [if_neg c3] at i1
      conv => whnf
      refine ⟨_, m_0 hh, ?_⟩
      conv => whnf
      refine ⟨_, _, _, m_4 hh, (by rw [hy, pk_mul, nI_add]), (show 32 * a + c < 128 from by omega), ?_⟩
      conv => whnf
      rw [show va_up L 5 q1.1 4 (32 * a + c) = f c from hfc]
      refine ⟨_, m_0 hh, ?_⟩
      conv => whnf
      refine ⟨_, _, _, m_4 hh, (by rw [hw, pk_mul, nI_add]), (show 32 * b + d < 128 from by omega), ?_⟩
      conv => whnf
      rw [show va_up L 5 q1.1 4 (32 * b + d) = g d from hgd]
      refine ⟨⟨_, m_0 hh⟩, jcall (c_X12_times hh hs0 (va_up I 9 w9) _ F _ _ _ _) ?_⟩
      rintro r h' ⟨rfl, rfl⟩
      conv => whnf
      rw [nI_add]
      refine ⟨_, m_0 hh, ?_⟩
      conv => whnf
      rw [rS0 hs0]
      by_cases hj : jotm (f c) (g d) = true
      · rw [if_pos hj] at i1
        have hb1 : jbad1 q1.2 (jotm (f c) (g d)) (nI (100 + c)) = (true, nI (100 + c)) := by
          unfold jbad1
          rw [if_neg c3, if_pos hj]
        rw [hb1]
        refine ⟨fun c4 => absurd (jbi_0.mp c4) (fun q => q rfl), fun _ => ?_⟩
        refine hG [77] 300 _ _ _ _ _ _ ?_
        conv => whnf
        rw [nI_add]
        exact i1 w9 _ x10
      · rw [if_neg hj] at i1
        have hb1 : jbad1 q1.2 (jotm (f c) (g d)) (nI (100 + c)) = q1.2 := by
          unfold jbad1
          rw [if_neg c3, if_neg hj]
        rw [hb1]
        refine ⟨fun _ => ?_, fun c4 => absurd (jbi_f c3) c4⟩
        conv => whnf
        have z0 := zloop (nI c) (nI d) (f c * g d) w9 q1 ?_ 32 0 (by omega)
        · rw [jzeI_0] at z0
          exact z0
        · obtain ⟨p1, p2⟩ := jparts_ok ha6 hc
          obtain ⟨p3, p4⟩ := jparts_ok hb6 (show d < jmany m by omega)
          refine hG [182, 247] 300 _ _ _ _ _ _ ?_
          conv => whnf
          have hgo := c_X12_goes hh (rS (upd s 0 (nI 0)) q1.2) (va_up L 5 q1.1) F ha6 hc hb6 (show d < jmany m by omega) en (show nI c = nI c from rfl) em (show nI d = nI d from rfl) 13 0 0 0 0 (jparts n c) (jparts m d) (rI (va_up I 9 (jzeI w9 32)) q1.2) (nI 0) (nI 0) (nI 0) (nI 0) rfl rfl rfl rfl rfl rfl (by omega) (by omega) (jmany_le (show 0 ≤ 6 by decide)).1 (by decide) (by decide)
          rw [rI_up _ _ (by decide) (by decide), va_up_up, h9] at hgo
          refine ⟨⟨_, m_0 hh⟩, jcall (hgo) ?_⟩
          rintro r h' ⟨rfl, rfl⟩
          conv => whnf
          have hwc := jgsh_c 13 (jparts n c) (jparts m d) 0 0 (w := jzeI w9 32) (v := fun _ => 0) (fun e he => by unfold jzeI; rw [if_pos he]; rfl)
          rw [← jmulE_w (f c * g d) hwc q1 (jmany (n + m)) hjnm.2] at i1
          refine eloop (nI c) (nI d) (f c * g d) _ q1 (fun x10 => ?_) (jmany (n + m)) 0 (by omega)
          refine hG [77] 300 _ _ _ _ _ _ ?_
          conv => whnf
          rw [nI_add]
          exact i1 _ _ x10
  have cloop : ∀ k c, jmany n = c + k → ∀ (w9 : Nat → Int32) (x7 x8 x10 : Option Value), G 64 [some (.ref 20), some (.int x), some (.int y), some (.int w), some (.int xn), some (.int xm), some (.int (nI c)), x7, x8, none, x10] [] (zS9 h s I L F w9 (jmulC n m f g g0 c)) 0 0 := by
    intro k
    induction k with
    | zero =>
      intro c he w9 x7 x8 x10
      refine hG [64, 77] 300 _ _ _ _ _ _ ?_
      conv => whnf
      refine jcall (cmn _) ?_
      rintro r h' ⟨rfl, rfl⟩
      conv => whnf
      refine ⟨fun qb => ?_, fun qb => ?_⟩ <;> rw [nI_leI (by omega) (by omega)] at qb
      case refine_2 => omega
      conv => whnf
      rw [Nat.add_zero] at he
      rw [← he]
      have gg := zeq_mulC hnm (f := f) (f2 := (zR z a).2) (g := g) (g2 := (zR z b).2) (f0 := g0) (f3 := fun _ => 0) (fun c hc => by rw [hg0, jzer_at, if_pos hc]) (fun c hc => by rw [hg]; exact hbe c (by omega)) (jmany n) (fun c hc => by rw [hf]; exact hae c (by omega))
      generalize hq : jmulC n m (zR z a).2 (zR z b).2 (fun _ => 0) (jmany n) = q at *
      generalize hp : jmulC n m f g g0 (jmany n) = p at *
      obtain ⟨p1, p2⟩ := p
      obtain ⟨g1, g2⟩ := gg
      replace g1 : p2 = q.2 := g1
      subst g1
      refine ⟨_, m_0 hh, ?_⟩
      conv => whnf
      rw [rS0 hs0]
      refine ⟨fun c3 => ?_, fun c3 => ?_⟩ <;> rw [jbi_0] at c3
      · conv => whnf
        have hEn := e_no (I := va_up I 9 w9) (L := va_up L 5 p1) hE c3
        have hc := c_becomes_z hh hEn hz hx4 (x := (n + m, q.1)) hnm (fun c hc => by
          show p1 c = q.1 c
          exact g2 c hc)
        rw [← hx, show nI (n + m, q.1).1 = xn + xm by rw [en, em, nI_add]] at hc
        refine ⟨⟨_, m_0 hh⟩, jcall hc ?_⟩
        rintro r' h' ⟨rfl, s', I', L', rfl, hE3⟩
        conv => whnf
        rw [← hΦ]
        dsimp only
        rw [zstl, if_neg c3]
        exact ⟨by rw [en, em, nI_add], s', I', L', F, rfl, hE3⟩
      · have c3 := Decidable.not_not.mp c3
        conv => whnf
        rw [← hΦ]
        dsimp only
        rw [zstl, if_pos c3]
        exact ⟨rfl, _, _, _, F, rfl, e_over (I := va_up I 9 w9) (L := va_up L 5 p1) hE c3⟩
    | succ k ih =>
      intro c he w9 x7 x8 x10
      have i1 := ih (c + 1) (by omega)
      simp only [jmulC] at i1
      refine hG [64, 77] 300 _ _ _ _ _ _ ?_
      conv => whnf
      refine jcall (cmn _) ?_
      rintro r h' ⟨rfl, rfl⟩
      conv => whnf
      refine ⟨fun qb => ?_, fun qb => ?_⟩ <;> rw [nI_leI (by omega) (by omega)] at qb
      · omega
      conv => whnf
      refine dloop c (by omega) _ (fun w9 x7 x8 x10 => ?_) (jmany m) 0 (by omega) w9 x8 x10
      refine hG [64] 300 _ _ _ _ _ _ ?_
      conv => whnf
      rw [nI_add]
      exact i1 w9 x7 x8 x10
  refine hG [64] 300 _ _ _ _ _ _ ?_
  conv => whnf
  refine jcall (c_X12_isRegister _ _) ?_
  rintro r h' ⟨rfl, rfl⟩
  conv => whnf
  refine ⟨fun c3 => absurd cx (jbi_0.mp c3), fun _ => ?_⟩
  conv => whnf
  refine jcall (c_X12_isRegister _ _) ?_
  rintro r h' ⟨rfl, rfl⟩
  conv => whnf
  refine ⟨fun c3 => absurd cy (jbi_0.mp c3), fun _ => ?_⟩
  conv => whnf
  refine jcall (c_X12_isRegister _ _) ?_
  rintro r h' ⟨rfl, rfl⟩
  conv => whnf
  refine ⟨fun _ => ?_, fun c3 => absurd cw (jbi_0.mp c3)⟩
  conv => whnf
  refine ⟨_, m_0 hh, ?_⟩
  conv => whnf
  refine ⟨_, _, _, m_3 hh, hy, hy4, ?_⟩
  conv => whnf
  rw [ha]
  refine ⟨_, m_0 hh, ?_⟩
  conv => whnf
  refine ⟨_, _, _, m_3 hh, hw, hw4, ?_⟩
  conv => whnf
  rw [hb]
  refine ⟨fun qb => ?_, fun qb => ?_⟩
  case refine_2 =>
    rw [en, em, nI_add, nI_leI (by omega) (by omega)] at qb
    exact absurd hnm qb
  conv => whnf
  refine ⟨Or.inl rfl, _, m_0 hh, ?_⟩
  conv => whnf
  erw [ms_0 (upd s 0 (nI 0))]
  refine ⟨⟨_, m_0 hh⟩, jcall (c_X12_empties hh _ I L F) ?_⟩
  rintro r h' ⟨rfl, rfl⟩
  conv => whnf
  rw [← hg0]
  have l0 := cloop (jmany n) 0 (by omega) (I 9) none none none
  rw [show jmulC n m f g g0 0 = (g0, (false, nI 0)) from rfl] at l0
  unfold zS9 at l0
  rw [rSf, rIf, va_up_same] at l0
  exact l0
