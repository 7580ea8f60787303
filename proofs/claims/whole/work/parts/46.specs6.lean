/-! sum, composition, count of the reference against the state -/
def jsm (f g f0 : Nat → Int64) : Nat → (Nat → Int64) × jLs
  | 0 => (f0, (false, nI 0))
  | e + 1 => (vp_updL (jsm f g f0 e).1 e (f e + g e), jbad1 (jsm f g f0 e).2 (jov (f e) (g e)) (nI e))
theorem jsm_c {f g f2 g2 f0 f3 : Nat → Int64} (h0 : ∀ c, c < 32 → f0 c = f3 c) : ∀ e, (∀ c, c < e → f c = f2 c) → (∀ c, c < e → g c = g2 c) → (jsm f g f0 e).2 = (jsm f2 g2 f3 e).2 ∧ ∀ c, c < 32 → (jsm f g f0 e).1 c = (jsm f2 g2 f3 e).1 c
  | 0, _, _ => ⟨rfl, h0⟩
  | e + 1, h1, h2 => by
    obtain ⟨a1, a2⟩ := jsm_c h0 e (fun c hc => h1 c (by omega)) (fun c hc => h2 c (by omega))
    simp only [jsm]
    rw [h1 e (by omega), h2 e (by omega), a1]
    refine ⟨rfl, fun c hc => ?_⟩
    unfold vp_updL
    split
    · rfl
    · exact a2 c hc
/-- a sum made comes to a register, or is too great -/
def zstl (z : zS) (r : Nat) (x : zReg) (q : jLs) (a : Int32) : Value × zS := if q.1 = true then (.int (-9), zset z [(nI 4, q.2)]) else (.int a, zbecS z r x)
def zsum (z : zS) (x y w : Int32) : Value × zS := if isReg x ∧ isReg y ∧ isReg w then
    (if (zR z (tn y)).1 = (zR z (tn w)).1 then
      (let q := jsm (zR z (tn y)).2 (zR z (tn w)).2 (fun _ => 0) (jmany (zR z (tn y)).1)
       zstl z (tn x) ((zR z (tn y)).1, q.1) q.2 (nI (zR z (tn y)).1)) else (.int (-5), z))
  else (.int (-1), z)
theorem r_sum {h : List jC} (hh : 53 ≤ h.length) {s : Nat → Int32} {I : jIs} {L : jLss} {F : jFs} {z : zS} (hE : EncR s I L F z) (hz : zWF z) (x y w : Int32) : jCt jy_X12_sum [.ref 20, .int x, .int y, .int w] (jR h s I L F) (zPost h (zsum z x y w).1 (zsum z x y w).2) := by
  have hbad : ¬ (isReg x ∧ isReg y ∧ isReg w) → zPost h (zsum z x y w).1 (zsum z x y w).2 (some (.int (-1))) (jR h s I L F) := by
    intro hn
    rw [zsum, if_neg hn]
    exact ⟨rfl, s, I, L, F, rfl, hE⟩
  by_cases c : ¬ (isReg x ∧ isReg y ∧ isReg w)
  · have hb := hbad c
    refine jrun2 (js_X12_sum _) rfl rfl rfl (fun G hG hW hB => ?_)
    refine hG [] 300 _ _ _ _ _ _ ?_
    conv => whnf
    refine jcall (c_X12_isRegister x _) ?_
    rintro r h' ⟨rfl, rfl⟩
    conv => whnf
    refine ⟨fun c1 => ?_, fun c1 => ?_⟩ <;> rw [jbi_0] at c1
    · conv => whnf
      exact hb
    conv => whnf
    refine jcall (c_X12_isRegister y _) ?_
    rintro r h' ⟨rfl, rfl⟩
    conv => whnf
    refine ⟨fun c2 => ?_, fun c2 => ?_⟩ <;> rw [jbi_0] at c2
    · conv => whnf
      exact hb
    conv => whnf
    refine jcall (c_X12_isRegister w _) ?_
    rintro r h' ⟨rfl, rfl⟩
    conv => whnf
    refine ⟨fun c3 => ?_, fun c3 => ?_⟩ <;> rw [jbi_0] at c3
    · exact absurd ⟨Decidable.not_not.mp c1, Decidable.not_not.mp c2, Decidable.not_not.mp c3⟩ c
    · conv => whnf
      exact hb
  have c := Decidable.not_not.mp c
  obtain ⟨cx, cy, cw⟩ := id c
  obtain ⟨hx, hx4⟩ := isReg_nI c.1
  obtain ⟨hy, hy4⟩ := isReg_nI c.2.1
  obtain ⟨hw, hw4⟩ := isReg_nI c.2.2
  rw [zsum, if_pos c]
  clear hbad c
  generalize tn x = r at *
  generalize tn y = a at *
  generalize tn w = b at *
  have ha := (hE.2.1 a hy4).1
  have ha6 := (hz.1 a hy4).1
  have hb := (hE.2.1 b hw4).1
  have hb6 := (hz.1 b hw4).1
  have hm := jmany_le ha6
  obtain ⟨g0, hg0⟩ : ∃ g, g = jzer (L 5) 32 := ⟨_, rfl⟩
  generalize hΦ : zPost h _ _ = Φ
  refine jrun2 (js_X12_sum _) rfl rfl rfl (fun G hG hW hB => ?_)
  have hs0 : upd s 0 (nI 0) 0 = nI 0 := rfl
  have loop : (zR z a).1 = (zR z b).1 → ∀ k e, jmany (zR z a).1 = e + k → G 53 [some (.ref 20), some (.int x), some (.int y), some (.int w), some (.int (nI e))] [] (jR h (rS (upd s 0 (nI 0)) (jsm (fun c => L 4 (32 * a + c)) (fun c => L 4 (32 * b + c)) g0 e).2) (rI I (jsm (fun c => L 4 (32 * a + c)) (fun c => L 4 (32 * b + c)) g0 e).2) (va_up L 5 (jsm (fun c => L 4 (32 * a + c)) (fun c => L 4 (32 * b + c)) g0 e).1) F) 0 0 := by
    intro hab k
    rw [if_pos hab] at hΦ
    induction k with
    | zero =>
      intro e he
      refine hG [53] 300 _ _ _ _ _ _ ?_
      conv => whnf
      refine ⟨_, m_0 hh, ?_⟩
      conv => whnf
      refine ⟨_, _, _, m_3 hh, hy, hy4, ?_⟩
      conv => whnf
      rw [rI_ne I _ (k := 3) (by decide) (by decide), ha]
      refine jcall (c_X12_many _ ha6 _) ?_
      rintro r h' ⟨rfl, rfl⟩
      conv => whnf
      refine ⟨fun qb => ?_, fun qb => ?_⟩ <;> rw [nI_leI (by omega) (by omega)] at qb
      case refine_2 => omega
      conv => whnf
      obtain ⟨g1, g2⟩ := jsm_c (f := fun c => L 4 (32 * a + c)) (g := fun c => L 4 (32 * b + c)) (f2 := (zR z a).2) (g2 := (zR z b).2) (f0 := g0) (f3 := fun _ => 0) (fun c hc => by rw [hg0, jzer_at, if_pos hc]) (jmany (zR z a).1) (fun c hc => (hE.2.1 a hy4).2 c (by omega)) (fun c hc => (hE.2.1 b hw4).2 c (by omega))
      rw [Nat.add_zero] at he
      rw [← he, g1]
      generalize hq : jsm (zR z a).2 (zR z b).2 (fun _ => 0) (jmany (zR z a).1) = q at *
      generalize hf : (jsm (fun c => L 4 (32 * a + c)) (fun c => L 4 (32 * b + c)) g0 (jmany (zR z a).1)).1 = f at *
      refine ⟨_, m_0 hh, ?_⟩
      conv => whnf
      rw [rS0 hs0]
      refine ⟨fun c3 => ?_, fun c3 => ?_⟩ <;> rw [jbi_0] at c3
      · conv => whnf
        have hEn := e_no (L := va_up L 5 f) hE c3
        refine ⟨_, m_0 hh, ?_⟩
        conv => whnf
        refine ⟨_, _, _, m_3 hh, hy, hy4, ?_⟩
        conv => whnf
        rw [rI_ne I q.2 (k := 3) (by decide) (by decide), ha]
        have hc := c_becomes_z hh hEn hz hx4 (x := ((zR z a).1, q.1)) ha6 (fun c hc => by
          show f c = q.1 c
          exact g2 c hc)
        rw [← hx] at hc
        refine ⟨⟨_, m_0 hh⟩, jcall hc ?_⟩
        rintro r' h' ⟨rfl, s', I', L', rfl, hE3⟩
        conv => whnf
        refine ⟨_, m_0 hh, ?_⟩
        conv => whnf
        refine ⟨_, _, _, m_3 hh, hx, hx4, ?_⟩
        conv => whnf
        rw [← hΦ]
        dsimp only
        rw [zstl, if_neg c3]
        refine ⟨?_, s', I', L', F, rfl, hE3⟩
        rw [(hE3.2.1 r hx4).1]
        show some (Value.int (nI ((zbec (zR z) (zT z) r ((zR z a).1, q.1)).1 r).1)) = _
        rw [zbec_w]
      · have c3 := Decidable.not_not.mp c3
        conv => whnf
        rw [← hΦ]
        dsimp only
        rw [zstl, if_pos c3]
        exact ⟨rfl, _, _, _, F, rfl, e_over (L := va_up L 5 f) hE c3⟩
    | succ k ih =>
      intro e he
      have i1 := ih (e + 1) (by omega)
      simp only [jsm] at i1
      refine hG [53] 300 _ _ _ _ _ _ ?_
      conv => whnf
      refine ⟨_, m_0 hh, ?_⟩
      conv => whnf
      refine ⟨_, _, _, m_3 hh, hy, hy4, ?_⟩
      conv => whnf
      rw [rI_ne I _ (k := 3) (by decide) (by decide), ha]
      refine jcall (c_X12_many _ ha6 _) ?_
      rintro r h' ⟨rfl, rfl⟩
      conv => whnf
      refine ⟨fun qb => ?_, fun qb => ?_⟩ <;> rw [nI_leI (by omega) (by omega)] at qb
      · omega
      conv => whnf
      refine ⟨_, m_0 hh, ?_⟩
      conv => whnf
      refine ⟨_, m_0 hh, ?_⟩
      conv => whnf
      refine ⟨_, _, _, m_4 hh, (by rw [hy, pk_mul, nI_add]), (show 32 * a + e < 128 from by omega), ?_⟩
      conv => whnf
      refine ⟨_, m_0 hh, ?_⟩
      conv => whnf
      refine ⟨_, _, _, m_4 hh, (by rw [hw, pk_mul, nI_add]), (show 32 * b + e < 128 from by omega), ?_⟩
      conv => whnf
      refine ⟨⟨_, m_0 hh⟩, jcall (c_X12_plus hh hs0 I _ F _ _ _ _) ?_⟩
      rintro r h' ⟨rfl, rfl⟩
      conv => whnf
      refine ⟨_, _, _, m_5 hh, rfl, (show e < 32 by omega), ?_⟩
      conv => whnf
      rw [nI_add]
      erw [ms_5 (vp_updL (jsm (fun c => L 4 (32 * a + c)) (fun c => L 4 (32 * b + c)) g0 e).1 e (L 4 (32 * a + e) + L 4 (32 * b + e)))]
      rw [va_up_up]
      exact i1
  refine hG [53] 300 _ _ _ _ _ _ ?_
  conv => whnf
  refine jcall (c_X12_isRegister _ _) ?_
  rintro r h' ⟨rfl, rfl⟩
  conv => whnf
  refine ⟨fun c3 => absurd cx (jbi_0.mp c3), fun _ => ?_⟩
  conv => whnf
  refine jcall (c_X12_isRegister _ _) ?_
  rintro r h' ⟨rfl, rfl⟩
  conv => whnf
  refine ⟨fun c3 => absurd cy (jbi_0.mp c3), fun _ => ?_⟩
  conv => whnf
  refine jcall (c_X12_isRegister _ _) ?_
  rintro r h' ⟨rfl, rfl⟩
  conv => whnf
  refine ⟨fun _ => ?_, fun c3 => absurd cw (jbi_0.mp c3)⟩
  conv => whnf
  refine ⟨_, m_0 hh, ?_⟩
  conv => whnf
  refine ⟨_, _, _, m_3 hh, hy, hy4, ?_⟩
  conv => whnf
  rw [ha]
  refine ⟨_, m_0 hh, ?_⟩
  conv => whnf
  refine ⟨_, _, _, m_3 hh, hw, hw4, ?_⟩
  conv => whnf
  rw [hb]
  refine ⟨fun qb => ?_, fun qb => ?_⟩ <;> rw [nI_eq (by omega) (by omega)] at qb
  · conv => whnf
    refine ⟨Or.inl rfl, _, m_0 hh, ?_⟩
    conv => whnf
    erw [ms_0 (upd s 0 (nI 0))]
    refine ⟨⟨_, m_0 hh⟩, jcall (c_X12_empties hh _ I L F) ?_⟩
    rintro r h' ⟨rfl, rfl⟩
    conv => whnf
    rw [← hg0]
    exact loop qb (jmany (zR z a).1) 0 (by omega)
  · conv => whnf
    rw [← hΦ, if_neg qb]
    exact ⟨rfl, s, I, L, F, rfl, hE⟩
