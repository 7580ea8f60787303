/-! antipode, counts of the reference against the state -/
def zeq (q p : (Nat → Int64) × jLs) : Prop := q.2 = p.2 ∧ ∀ c, c < 32 → q.1 c = p.1 c
theorem zeq_jcm {q p : (Nat → Int64) × jLs} (h : zeq q p) {c : Nat} (hc : c < 32) (v : Int64) : zeq (jcm q c v) (jcm p c v) := by
  obtain ⟨h1, h2⟩ := h
  refine ⟨?_, fun e he => ?_⟩
  · simp only [jcm]; rw [h1, h2 c hc]
  · simp only [jcm, vp_updL]; split
    · rw [h2 c hc]
    · exact h2 e he
def jco (t : Nat) (v : Int64) (q : (Nat → Int64) × jLs) : Nat → (Nat → Int64) × jLs
  | 0 => q
  | e + 1 => if nI (t &&& e) = nI e then jcm (jco t v q e) e v else jco t v q e
theorem zeq_jco {q p : (Nat → Int64) × jLs} (h : zeq q p) (t : Nat) (v : Int64) : ∀ e, e ≤ 32 → zeq (jco t v q e) (jco t v p e)
  | 0, _ => h
  | e + 1, he => by
    have ih := zeq_jco h t v e (by omega)
    simp only [jco]
    split
    · exact zeq_jcm ih (by omega) v
    · exact ih
def jan (f : Nat → Int64) (n m : Nat) (f0 : Nat → Int64) : Nat → (Nat → Int64) × jLs
  | 0 => (f0, (false, nI 0))
  | c + 1 => if jlen n c % 2 = 1 then jco (jtu n c) (-(f c)) ((jan f n m f0 c).1, jbad1 (jan f n m f0 c).2 (decide (f c = -9223372036854775808)) (nI c)) m else jco (jtu n c) (f c) (jan f n m f0 c) m
theorem jan_c {f g f0 g0 : Nat → Int64} (n m : Nat) (hm : m ≤ 32) (h0 : ∀ c, c < 32 → f0 c = g0 c) : ∀ e, (∀ c, c < e → f c = g c) → zeq (jan f n m f0 e) (jan g n m g0 e)
  | 0, _ => ⟨rfl, h0⟩
  | e + 1, h => by
    have ih := jan_c n m hm h0 e (fun c hc => h c (by omega))
    simp only [jan]
    rw [h e (by omega)]
    split
    · refine zeq_jco (q := ((jan f n m f0 e).1, jbad1 (jan f n m f0 e).2 (decide (g e = -9223372036854775808)) (nI e))) (p := ((jan g n m g0 e).1, jbad1 (jan g n m g0 e).2 (decide (g e = -9223372036854775808)) (nI e))) ⟨?_, ih.2⟩ _ _ m hm
      dsimp only
      rw [ih.1]
    · exact zeq_jco ih _ _ m hm
theorem jodd1 : ∀ a, a < 8 → ((nI a - nI a / nI 2 * nI 2 = nI 1) ↔ a % 2 = 1) := by decide +kernel
abbrev zSt (h : List jC) (s : Nat → Int32) (I : jIs) (L : jLss) (F : jFs) (q : (Nat → Int64) × jLs) : List jC := jR h (rS (upd s 0 (nI 0)) q.2) (rI I q.2) (va_up L 5 q.1) F
def zanti (z : zS) (x y : Int32) : Value × zS := if isReg x ∧ isReg y then
    (let q := jan (zR z (tn y)).2 (zR z (tn y)).1 (jmany (zR z (tn y)).1) (fun _ => 0) (jmany (zR z (tn y)).1)
     zstl z (tn x) ((zR z (tn y)).1, q.1) q.2 (nI (zR z (tn y)).1))
  else (.int (-1), z)
theorem r_antipode {h : List jC} (hh : 53 ≤ h.length) {s : Nat → Int32} {I : jIs} {L : jLss} {F : jFs} {z : zS} (hE : EncR s I L F z) (hz : zWF z) (x y : Int32) : jCt jy_X12_antipode [.ref 20, .int x, .int y] (jR h s I L F) (zPost h (zanti z x y).1 (zanti z x y).2) := by
  by_cases c : ¬ (isReg x ∧ isReg y)
  · rw [zanti, if_neg c]
    refine jrun2 (js_X12_antipode _) rfl rfl rfl (fun G hG hW hB => ?_)
    refine hG [] 300 _ _ _ _ _ _ ?_
    conv => whnf
    refine jcall (c_X12_isRegister x _) ?_
    rintro r h' ⟨rfl, rfl⟩
    conv => whnf
    refine ⟨fun c1 => ?_, fun c1 => ?_⟩ <;> rw [jbi_0] at c1
    · conv => whnf
      exact ⟨rfl, s, I, L, F, rfl, hE⟩
    conv => whnf
    refine jcall (c_X12_isRegister y _) ?_
    rintro r h' ⟨rfl, rfl⟩
    conv => whnf
    refine ⟨fun c2 => ?_, fun c2 => ?_⟩ <;> rw [jbi_0] at c2
    · exact absurd ⟨Decidable.not_not.mp c1, Decidable.not_not.mp c2⟩ c
    · conv => whnf
      exact ⟨rfl, s, I, L, F, rfl, hE⟩
  have c := Decidable.not_not.mp c
  rw [zanti, if_pos c]
  obtain ⟨cx, cy⟩ := c
  obtain ⟨hx, hx4⟩ := isReg_nI cx
  obtain ⟨hy, hy4⟩ := isReg_nI cy
  generalize tn x = r at *
  generalize tn y = a at *
  have ha := (hE.2.1 a hy4).1
  have ha6 := (hz.1 a hy4).1
  have hm := jmany_le ha6
  have hae := (hE.2.1 a hy4).2
  generalize hn : (zR z a).1 = n at *
  generalize hΦ : zPost h _ _ = Φ
  obtain ⟨g0, hg0⟩ : ∃ g, g = jzer (L 5) 32 := ⟨_, rfl⟩
  obtain ⟨f, hf⟩ : ∃ f : Nat → Int64, f = fun c => L 4 (32 * a + c) := ⟨_, rfl⟩
  refine jrun2 (js_X12_antipode _) rfl rfl rfl (fun G hG hW hB => ?_)
  have hs0 : upd s 0 (nI 0) 0 = nI 0 := rfl
  have inner : ∀ c, c < 32 → ∀ (v : Int64) (q : (Nat → Int64) × jLs), G 134 [some (.ref 20), some (.int x), some (.int y), some (.int (nI n)), some (.int (nI c)), some (.long v), none, some (.int (nI (jmany n)))] [] (zSt h s I L F (jco (jtu n c) v q (jmany n))) 0 0 → ∀ k e, jmany n = e + k → G 83 [some (.ref 20), some (.int x), some (.int y), some (.int (nI n)), some (.int (nI c)), some (.long v), none, some (.int (nI e))] [] (zSt h s I L F (jco (jtu n c) v q e)) 0 0 := by
    intro c hc v q hend k
    induction k with
    | zero =>
      intro e he
      refine hG [83, 134] 300 _ _ _ _ _ _ ?_
      conv => whnf
      refine jcall (c_X12_many _ ha6 _) ?_
      rintro r h' ⟨rfl, rfl⟩
      conv => whnf
      refine ⟨fun qb => ?_, fun qb => ?_⟩ <;> rw [nI_leI (by omega) (by omega)] at qb
      case refine_2 => omega
      conv => whnf
      rw [Nat.add_zero] at he
      rw [← he]
      exact hend
    | succ k ih =>
      intro e he
      have i1 := ih (e + 1) (by omega)
      simp only [jco] at i1
      refine hG [83, 134] 300 _ _ _ _ _ _ ?_
      conv => whnf
      refine jcall (c_X12_many _ ha6 _) ?_
      rintro r h' ⟨rfl, rfl⟩
      conv => whnf
      refine ⟨fun qb => ?_, fun qb => ?_⟩ <;> rw [nI_leI (by omega) (by omega)] at qb
      · omega
      conv => whnf
      refine jcall (c_X12_turned n c ha6 (by omega) _) ?_
      rintro r h' ⟨rfl, rfl⟩
      conv => whnf
      refine jcall (c_X12_isFiner _ e _) ?_
      rintro r h' ⟨rfl, rfl⟩
      conv => whnf
      refine ⟨fun d => ?_, fun d => ?_⟩ <;> rw [jbi_0] at d
      · rw [if_neg d] at i1
        conv => whnf
        rw [nI_add]
        exact i1
      · rw [if_pos (Decidable.not_not.mp d)] at i1
        conv => whnf
        refine ⟨_, m_0 hh, ?_⟩
        conv => whnf
        refine ⟨_, m_0 hh, ?_⟩
        conv => whnf
        refine ⟨_, _, _, m_5 hh, rfl, (show e < 32 by omega), ?_⟩
        conv => whnf
        refine ⟨⟨_, m_0 hh⟩, jcall (c_X12_plus hh hs0 I _ F _ _ _ _) ?_⟩
        rintro r h' ⟨rfl, rfl⟩
        conv => whnf
        refine ⟨_, _, _, m_5 hh, rfl, (show e < 32 by omega), ?_⟩
        conv => whnf
        rw [nI_add]
        erw [ms_5 (vp_updL (jco (jtu n c) v q e).1 e ((jco (jtu n c) v q e).1 e + v))]
        rw [va_up_up]
        exact i1
  have loop : ∀ k c, jmany n = c + k → ∀ x5 x7 : Option Value, G 35 [some (.ref 20), some (.int x), some (.int y), some (.int (nI n)), some (.int (nI c)), x5, none, x7] [] (zSt h s I L F (jan f n (jmany n) g0 c)) 0 0 := by
    intro k
    induction k with
    | zero =>
      intro c he x5 x7
      refine hG [35, 83] 300 _ _ _ _ _ _ ?_
      conv => whnf
      refine jcall (c_X12_many _ ha6 _) ?_
      rintro r h' ⟨rfl, rfl⟩
      conv => whnf
      refine ⟨fun qb => ?_, fun qb => ?_⟩ <;> rw [nI_leI (by omega) (by omega)] at qb
      case refine_2 => omega
      conv => whnf
      rw [Nat.add_zero] at he
      rw [← he]
      have gg := jan_c (f := f) (g := (zR z a).2) (f0 := g0) (g0 := fun _ => 0) n (jmany n) hm.2 (fun c hc => by rw [hg0, jzer_at, if_pos hc]) (jmany n) (fun c hc => by rw [hf]; exact hae c (by omega))
      generalize hq : jan (zR z a).2 n (jmany n) (fun _ => 0) (jmany n) = q at *
      generalize hp : jan f n (jmany n) g0 (jmany n) = p at *
      obtain ⟨p1, p2⟩ := p
      obtain ⟨g1, g2⟩ := gg
      replace g1 : p2 = q.2 := g1
      subst g1
      refine ⟨_, m_0 hh, ?_⟩
      conv => whnf
      rw [rS0 hs0]
      refine ⟨fun c3 => ?_, fun c3 => ?_⟩ <;> rw [jbi_0] at c3
      · conv => whnf
        have hEn := e_no (L := va_up L 5 p1) hE c3
        have hc := c_becomes_z hh hEn hz hx4 (x := (n, q.1)) ha6 (fun c hc => by
          show p1 c = q.1 c
          exact g2 c hc)
        rw [← hx] at hc
        refine ⟨⟨_, m_0 hh⟩, jcall hc ?_⟩
        rintro r' h' ⟨rfl, s', I', L', rfl, hE3⟩
        conv => whnf
        rw [← hΦ]
        dsimp only
        rw [zstl, if_neg c3]
        exact ⟨rfl, s', I', L', F, rfl, hE3⟩
      · have c3 := Decidable.not_not.mp c3
        conv => whnf
        rw [← hΦ]
        dsimp only
        rw [zstl, if_pos c3]
        exact ⟨rfl, _, _, _, F, rfl, e_over (L := va_up L 5 p1) hE c3⟩
    | succ k ih =>
      intro c he x5 x7
      have i1 := ih (c + 1) (by omega)
      simp only [jan] at i1
      have hfc : L 4 (32 * a + c) = f c := by rw [hf]
      refine hG [35, 83] 300 _ _ _ _ _ _ ?_
      conv => whnf
      refine jcall (c_X12_many _ ha6 _) ?_
      rintro r h' ⟨rfl, rfl⟩
      conv => whnf
      refine ⟨fun qb => ?_, fun qb => ?_⟩ <;> rw [nI_leI (by omega) (by omega)] at qb
      · omega
      conv => whnf
      refine ⟨_, m_0 hh, ?_⟩
      conv => whnf
      refine ⟨_, _, _, m_4 hh, (by rw [hy, pk_mul, nI_add]), (show 32 * a + c < 128 from by omega), ?_⟩
      conv => whnf
      rw [show va_up L 5 (jan f n (jmany n) g0 c).1 4 (32 * a + c) = f c from hfc]
      refine jcall (c_X12_length _ c ha6 (by omega) _) ?_
      rintro r h' ⟨rfl, rfl⟩
      conv => whnf
      have hlc := jlen_le n c
      refine ⟨jnz2, ?_⟩
      conv => whnf
      refine ⟨fun p => ?_, fun p => ?_⟩ <;> rw [jodd1 _ (by omega)] at p
      · rw [if_neg p] at i1
        conv => whnf
        refine inner c (by omega) (f c) _ ?_ (jmany n) 0 (by omega)
        refine hG [35] 300 _ _ _ _ _ _ ?_
        conv => whnf
        rw [nI_add]
        exact i1 _ _
      · rw [if_pos p] at i1
        conv => whnf
        refine ⟨⟨_, m_0 hh⟩, jcall (c_X12_less hh hs0 I _ F _ _ _) ?_⟩
        rintro r h' ⟨rfl, rfl⟩
        conv => whnf
        refine inner c (by omega) (-(f c)) ((jan f n (jmany n) g0 c).1, jbad1 (jan f n (jmany n) g0 c).2 (decide (f c = -9223372036854775808)) (nI c)) ?_ (jmany n) 0 (by omega)
        refine hG [35] 300 _ _ _ _ _ _ ?_
        conv => whnf
        rw [nI_add]
        exact i1 _ _
  refine hG [35] 300 _ _ _ _ _ _ ?_
  conv => whnf
  refine jcall (c_X12_isRegister _ _) ?_
  rintro r h' ⟨rfl, rfl⟩
  conv => whnf
  refine ⟨fun c3 => absurd cx (jbi_0.mp c3), fun _ => ?_⟩
  conv => whnf
  refine jcall (c_X12_isRegister _ _) ?_
  rintro r h' ⟨rfl, rfl⟩
  conv => whnf
  refine ⟨fun _ => ?_, fun c3 => absurd cy (jbi_0.mp c3)⟩
  conv => whnf
  refine ⟨_, m_0 hh, ?_⟩
  conv => whnf
  refine ⟨_, _, _, m_3 hh, hy, hy4, ?_⟩
  conv => whnf
  rw [ha]
  refine ⟨Or.inl rfl, _, m_0 hh, ?_⟩
  conv => whnf
  erw [ms_0 (upd s 0 (nI 0))]
  refine ⟨⟨_, m_0 hh⟩, jcall (c_X12_empties hh _ I L F) ?_⟩
  rintro r h' ⟨rfl, rfl⟩
  conv => whnf
  rw [← hg0]
  exact loop (jmany n) 0 (by omega) none none
