/-! counts, cut of the reference against the state -/
def jchF (k l : Nat) : Nat → Int64
  | 0 => 1
  | i + 1 => jchF k l i * (nI k - nI l + nI (i + 1)).toInt64 / (nI (i + 1)).toInt64
def jchs (k l : Nat) : Int64 := if l ≤ k then jchF k l l else 0
theorem jdn0 : ∀ i, i < 9 → 0 < i → ¬ (nI i).toInt64 = 0 := by decide +kernel
theorem c_X12_choices {k l : Nat} (hk : k < 100) (hl : l < 8) {xk xl : Int32} (ek : xk = nI k) (el : xl = nI l) (h : List jC) : jCt jy_X12_choices [.int xk, .int xl] h (fun r h' => r = some (.long (jchs k l)) ∧ h' = h) := by
  refine jrun2 (js_X12_choices _) rfl rfl rfl (fun G hG hW hB => ?_)
  have loop : l ≤ k → ∀ u i, l = i + u → G 12 [some (.int xk), some (.int xl), some (.long (jchF k l i)), none, some (.int (nI (i + 1)))] [] h 0 0 := by
    intro hlk u
    induction u with
    | zero =>
      intro i hi
      refine hG [12] 300 _ _ _ _ _ _ ?_
      conv => whnf
      rw [el]
      refine ⟨fun qb => ?_, fun qb => ?_⟩ <;> rw [nI_ltI (by omega) (by omega)] at qb
      · conv => whnf
        rw [jchs, if_pos hlk, show i = l by omega]
        exact ⟨rfl, rfl⟩
      · omega
    | succ u ih =>
      intro i hi
      have i1 := ih (i + 1) (by omega)
      rw [jchF, ← ek, ← el] at i1
      refine hG [12] 300 _ _ _ _ _ _ ?_
      conv => whnf
      refine ⟨fun qb => ?_, fun qb => ?_⟩ <;> rw [el, nI_ltI (by omega) (by omega)] at qb
      · omega
      conv => whnf
      refine ⟨jdn0 (i + 1) (by omega) (by omega), ?_⟩
      conv => whnf
      rw [nI_add]
      exact i1
  refine hG [12] 300 _ _ _ _ _ _ ?_
  conv => whnf
  refine ⟨fun qb => ?_, fun qb => ?_⟩ <;> rw [ek, el, nI_leI (by omega) (by omega)] at qb
  · conv => whnf
    exact loop qb l 0 (by omega)
  · conv => whnf
    rw [jchs, if_neg qb]
    exact ⟨rfl, rfl⟩
def jcn (f : Nat → Int64) (n k : Nat) : Nat → Int64 × jLs
  | 0 => (0, (false, nI 0))
  | c + 1 => ((jcn f n k c).1 + f c * jchs k (jlen n c), jbad1 (jbad1 (jcn f n k c).2 (jotm (f c) (jchs k (jlen n c))) (nI c)) (jov (jcn f n k c).1 (f c * jchs k (jlen n c))) (nI c))
theorem jcn_c {f g : Nat → Int64} (n k : Nat) : ∀ e, (∀ c, c < e → f c = g c) → jcn f n k e = jcn g n k e
  | 0, _ => rfl
  | e + 1, h => by rw [jcn, jcn, jcn_c n k e (fun c hc => h c (by omega)), h e (by omega)]
def zcounts (z : zS) (x y : Int32) : Value × zS := if isReg x ∧ 0 ≤ y.toInt ∧ y.toInt ≤ 20 then
    (let q := jcn (zR z (tn x)).2 (zR z (tn x)).1 (tn y) (jmany (zR z (tn x)).1)
     if q.2.1 = true then (.long (-9223372036854775808), zset z [(nI 4, q.2.2)]) else (.long q.1, z))
  else (.long (-9223372036854775808), z)
theorem j20 : (nI 20).toInt = 20 := by decide
theorem r_counts {h : List jC} (hh : 53 ≤ h.length) {s : Nat → Int32} {I : jIs} {L : jLss} {F : jFs} {z : zS} (hE : EncR s I L F z) (hz : zWF z) (x y : Int32) : jCt jy_X12_counts [.ref 20, .int x, .int y] (jR h s I L F) (zPost h (zcounts z x y).1 (zcounts z x y).2) := by
  by_cases c : ¬ (isReg x ∧ 0 ≤ y.toInt ∧ y.toInt ≤ 20)
  · rw [zcounts, if_neg c]
    refine jrun2 (js_X12_counts _) rfl rfl rfl (fun G hG hW hB => ?_)
    refine hG [] 300 _ _ _ _ _ _ ?_
    conv => whnf
    refine jcall (c_X12_isRegister x _) ?_
    rintro r h' ⟨rfl, rfl⟩
    conv => whnf
    refine ⟨fun c1 => ?_, fun c1 => ?_⟩ <;> rw [jbi_0] at c1
    · conv => whnf
      exact ⟨rfl, s, I, L, F, rfl, hE⟩
    conv => whnf
    refine jcall (c_X12_in y _ _ _) ?_
    rintro r h' ⟨rfl, rfl⟩
    conv => whnf
    refine ⟨fun c2 => ?_, fun c2 => ?_⟩ <;> rw [jbi_0, j0, j20] at c2
    · exact absurd ⟨Decidable.not_not.mp c1, Decidable.not_not.mp c2⟩ c
    · conv => whnf
      exact ⟨rfl, s, I, L, F, rfl, hE⟩
  have c := Decidable.not_not.mp c
  rw [zcounts, if_pos c]
  obtain ⟨cx, cy⟩ := c
  obtain ⟨hx, hx4⟩ := isReg_nI cx
  have hy := tn_eq cy.1
  have hy21 : tn y < 21 := tn_lt cy.1 (by have := cy.2; omega)
  generalize tn x = a at *
  generalize tn y = k at *
  have ha := (hE.2.1 a hx4).1
  have ha6 := (hz.1 a hx4).1
  have hae := (hE.2.1 a hx4).2
  generalize hn : (zR z a).1 = n at *
  have hm := jmany_le ha6
  obtain ⟨f, hf⟩ : ∃ f : Nat → Int64, f = fun c => L 4 (32 * a + c) := ⟨_, rfl⟩
  generalize hΦ : zPost h _ _ = Φ
  refine jrun2 (js_X12_counts _) rfl rfl rfl (fun G hG hW hB => ?_)
  have hs0 : upd s 0 (nI 0) 0 = nI 0 := rfl
  have loop : ∀ u e, jmany n = e + u → G 31 [some (.ref 20), some (.int x), some (.int y), some (.long (jcn f n k e).1), none, some (.int (nI e))] [] (jR h (rS (upd s 0 (nI 0)) (jcn f n k e).2) (rI I (jcn f n k e).2) L F) 0 0 := by
    intro u
    induction u with
    | zero =>
      intro e he
      refine hG [31] 300 _ _ _ _ _ _ ?_
      conv => whnf
      refine ⟨_, m_0 hh, ?_⟩
      conv => whnf
      refine ⟨_, _, _, m_3 hh, hx, hx4, ?_⟩
      conv => whnf
      rw [rI_ne I _ (k := 3) (by decide) (by decide), ha]
      refine jcall (c_X12_many _ ha6 _) ?_
      rintro r h' ⟨rfl, rfl⟩
      conv => whnf
      refine ⟨fun qb => ?_, fun qb => ?_⟩ <;> rw [nI_leI (by omega) (by omega)] at qb
      case refine_2 => omega
      conv => whnf
      rw [Nat.add_zero] at he
      rw [jcn_c (f := (zR z a).2) (g := f) n k (jmany n) (fun c hc => by rw [hf]; exact (hae c (by omega)).symm)] at hΦ
      rw [← he]
      generalize jcn f n k (jmany n) = q at *
      refine ⟨_, m_0 hh, ?_⟩
      conv => whnf
      rw [rS0 hs0]
      refine ⟨fun c3 => ?_, fun c3 => ?_⟩ <;> rw [jbi_0] at c3
      · conv => whnf
        rw [← hΦ]
        dsimp only
        rw [if_neg c3]
        exact ⟨rfl, _, _, _, F, rfl, e_no hE c3⟩
      · have c3 := Decidable.not_not.mp c3
        conv => whnf
        rw [← hΦ]
        dsimp only
        rw [if_pos c3]
        exact ⟨rfl, _, _, _, F, rfl, e_over hE c3⟩
    | succ u ih =>
      intro e he
      have i1 := ih (e + 1) (by omega)
      simp only [jcn] at i1
      have hfe : L 4 (32 * a + e) = f e := by rw [hf]
      have hle := jlen_le n e
      refine hG [31] 300 _ _ _ _ _ _ ?_
      conv => whnf
      refine ⟨_, m_0 hh, ?_⟩
      conv => whnf
      refine ⟨_, _, _, m_3 hh, hx, hx4, ?_⟩
      conv => whnf
      rw [rI_ne I _ (k := 3) (by decide) (by decide), ha]
      refine jcall (c_X12_many _ ha6 _) ?_
      rintro r h' ⟨rfl, rfl⟩
      conv => whnf
      refine ⟨fun qb => ?_, fun qb => ?_⟩ <;> rw [nI_leI (by omega) (by omega)] at qb
      · omega
      conv => whnf
      refine ⟨_, m_0 hh, ?_⟩
      conv => whnf
      refine ⟨_, _, _, m_4 hh, (by rw [hx, pk_mul, nI_add]), (show 32 * a + e < 128 from by omega), ?_⟩
      conv => whnf
      rw [hfe]
      refine ⟨_, m_0 hh, ?_⟩
      conv => whnf
      refine ⟨_, _, _, m_3 hh, hx, hx4, ?_⟩
      conv => whnf
      rw [rI_ne I _ (k := 3) (by decide) (by decide), ha]
      refine jcall (c_X12_length n e ha6 (by omega) _) ?_
      rintro r h' ⟨rfl, rfl⟩
      conv => whnf
      refine jcall (c_X12_choices (k := k) (l := jlen n e) (by omega) (by omega) hy rfl _) ?_
      rintro r h' ⟨rfl, rfl⟩
      conv => whnf
      refine ⟨⟨_, m_0 hh⟩, jcall (c_X12_times hh hs0 I L F _ _ _ _) ?_⟩
      rintro r h' ⟨rfl, rfl⟩
      conv => whnf
      refine ⟨⟨_, m_0 hh⟩, jcall (c_X12_plus hh hs0 I L F _ _ _ _) ?_⟩
      rintro r h' ⟨rfl, rfl⟩
      conv => whnf
      rw [nI_add]
      exact i1
  refine hG [31] 300 _ _ _ _ _ _ ?_
  conv => whnf
  refine jcall (c_X12_isRegister _ _) ?_
  rintro r h' ⟨rfl, rfl⟩
  conv => whnf
  refine ⟨fun c3 => absurd cx (jbi_0.mp c3), fun _ => ?_⟩
  conv => whnf
  refine jcall (c_X12_in _ _ _ _) ?_
  rintro r h' ⟨rfl, rfl⟩
  conv => whnf
  refine ⟨fun _ => ?_, fun c3 => absurd cy (by rw [jbi_0, j0, j20] at c3; exact c3)⟩
  conv => whnf
  refine ⟨Or.inl rfl, _, m_0 hh, ?_⟩
  conv => whnf
  erw [ms_0 (upd s 0 (nI 0))]
  exact loop (jmany n) 0 (by omega)
theorem jjoin_lt {a b c d : Nat} (hab : a + b ≤ 6) (hc : c < jmany a) (hd : d < jmany b) : jjoin a c b d < 32 := by
  have h32 := jmany_le (show a ≤ 6 by omega)
  have h33 := jmany_le (show b ≤ 6 by omega)
  unfold jjoin
  split
  · omega
  · split
    · omega
    · rename_i h1 h2
      unfold jmany at hc hd
      rw [if_neg h1] at hc
      rw [if_neg h2] at hd
      have e1 : 2 ^ (a - 1) < 2 ^ 5 := Nat.pow_lt_pow_right (by decide) (by omega)
      have e2 : d * 2 ^ a < 2 ^ (b - 1) * 2 ^ a := Nat.mul_lt_mul_of_pos_right hd (Nat.pow_pos (by decide))
      rw [← Nat.pow_add] at e2
      have e3 : 2 ^ (b - 1 + a) ≤ 2 ^ 5 := Nat.pow_le_pow_right (by decide) (by omega)
      exact Nat.or_lt_two_pow (Nat.or_lt_two_pow (n := 5) (by omega) e1) (by omega)
def zcut (z : zS) (x a c d : Int32) : Value := if isReg x ∧ (0 ≤ a.toInt ∧ a.toInt ≤ (zR z (tn x)).1) ∧ (0 ≤ c.toInt ∧ c.toInt < jmany (tn a)) ∧ (0 ≤ d.toInt ∧ d.toInt < jmany ((zR z (tn x)).1 - tn a)) then .long ((zR z (tn x)).2 (jjoin (tn a) (tn c) ((zR z (tn x)).1 - tn a) (tn d))) else .long (-9223372036854775808)
theorem r_cut {h : List jC} (hh : 53 ≤ h.length) {s : Nat → Int32} {I : jIs} {L : jLss} {F : jFs} {z : zS} (hE : EncR s I L F z) (hz : zWF z) (x a c d : Int32) : jCt jy_X12_cut [.ref 20, .int x, .int a, .int c, .int d] (jR h s I L F) (zPost h (zcut z x a c d) z) := by
  have hbad : ¬ (isReg x ∧ (0 ≤ a.toInt ∧ a.toInt ≤ (zR z (tn x)).1) ∧ (0 ≤ c.toInt ∧ c.toInt < jmany (tn a)) ∧ (0 ≤ d.toInt ∧ d.toInt < jmany ((zR z (tn x)).1 - tn a))) → zPost h (zcut z x a c d) z (some (.long (-9223372036854775808))) (jR h s I L F) := by
    intro hn
    rw [zcut, if_neg hn]
    exact ⟨rfl, s, I, L, F, rfl, hE⟩
  have hgood : ∀ v, (isReg x ∧ (0 ≤ a.toInt ∧ a.toInt ≤ (zR z (tn x)).1) ∧ (0 ≤ c.toInt ∧ c.toInt < jmany (tn a)) ∧ (0 ≤ d.toInt ∧ d.toInt < jmany ((zR z (tn x)).1 - tn a))) → v = (zR z (tn x)).2 (jjoin (tn a) (tn c) ((zR z (tn x)).1 - tn a) (tn d)) → zPost h (zcut z x a c d) z (some (.long v)) (jR h s I L F) := by
    intro v hn hv
    rw [zcut, if_pos hn, hv]
    exact ⟨rfl, s, I, L, F, rfl, hE⟩
  generalize hΦ : zPost h (zcut z x a c d) z = Φ at *
  refine jrun2 (js_X12_cut _) rfl rfl rfl (fun G hG hW hB => ?_)
  refine hG [99] 300 _ _ _ _ _ _ ?_
  conv => whnf
  refine jcall (c_X12_isRegister x _) ?_
  rintro r h' ⟨rfl, rfl⟩
  conv => whnf
  refine ⟨fun c1 => ?_, fun c1 => ?_⟩ <;> rw [jbi_0] at c1
  · conv => whnf
    exact hbad (fun q => c1 q.1)
  have c1 := Decidable.not_not.mp c1
  obtain ⟨hx, hx4⟩ := isReg_nI c1
  have hw := (hE.2.1 (tn x) hx4).1
  have hwe := (hE.2.1 (tn x) hx4).2
  have hw6 := (hz.1 (tn x) hx4).1
  obtain ⟨n, hn⟩ : ∃ n, n = (zR z (tn x)).1 := ⟨_, rfl⟩
  obtain ⟨xw, ew⟩ : ∃ xw, xw = nI n := ⟨_, rfl⟩
  rw [← hn] at hw hw6 hbad hgood
  rw [← ew] at hw
  have hwt : xw.toInt = n := by rw [ew, nI_toInt (by omega)]
  conv => whnf
  refine ⟨_, m_0 hh, ?_⟩
  conv => whnf
  refine ⟨_, _, _, m_3 hh, hx, hx4, ?_⟩
  conv => whnf
  rw [hw]
  refine jcall (c_X12_in a _ _ _) ?_
  rintro r h' ⟨rfl, rfl⟩
  conv => whnf
  refine ⟨fun c2 => ?_, fun c2 => ?_⟩ <;> rw [jbi_0, j0, hwt] at c2
  case refine_2 =>
    conv => whnf
    exact hbad (fun q => c2 q.2.1)
  have c2 := Decidable.not_not.mp c2
  have ha := tn_eq c2.1
  have han : tn a ≤ n := by have := tn_lt (n := n + 1) c2.1 (by have := c2.2; omega); omega
  have hb : xw - a = nI (n - tn a) := by
    rw [ew, ha, pk_sub han, tn_nI (by omega)]
  have ema := c_X12_many (tn a) (by omega)
  have emb := c_X12_many (n - tn a) (by omega)
  have hma := jmany_le (show tn a ≤ 6 by omega)
  have hmb := jmany_le (show n - tn a ≤ 6 by omega)
  rw [← ha] at ema
  rw [← hb] at emb
  conv => whnf
  refine ⟨_, m_0 hh, ?_⟩
  conv => whnf
  refine ⟨_, _, _, m_3 hh, hx, hx4, ?_⟩
  conv => whnf
  rw [hw]
  refine jcall (ema _) ?_
  rintro r h' ⟨rfl, rfl⟩
  conv => whnf
  refine jcall (c_X12_in c _ _ _) ?_
  rintro r h' ⟨rfl, rfl⟩
  conv => whnf
  refine ⟨fun c3 => ?_, fun c3 => ?_⟩ <;> rw [jbi_0, j0, jle1 (by omega)] at c3
  · conv => whnf
    exact hbad (fun q => c3 q.2.2.1)
  have c3 := Decidable.not_not.mp c3
  have hc := tn_eq c3.1
  have hcl : tn c < jmany (tn a) := tn_lt c3.1 c3.2
  conv => whnf
  refine jcall (emb _) ?_
  rintro r h' ⟨rfl, rfl⟩
  conv => whnf
  refine jcall (c_X12_in d _ _ _) ?_
  rintro r h' ⟨rfl, rfl⟩
  conv => whnf
  refine ⟨fun c4 => ?_, fun c4 => ?_⟩ <;> rw [jbi_0, j0, jle1 (by omega)] at c4
  case refine_2 =>
    conv => whnf
    exact hbad (fun q => c4 q.2.2.2)
  have c4 := Decidable.not_not.mp c4
  have hd := tn_eq c4.1
  have hdl : tn d < jmany (n - tn a) := tn_lt c4.1 c4.2
  have hj := jjoin_lt (show tn a + (n - tn a) ≤ 6 by omega) hcl hdl
  have tail : ∀ xe, xe = nI (jjoin (tn a) (tn c) (n - tn a) (tn d)) → ∀ x6 : Option Value, G 99 [some (.ref 20), some (.int x), some (.int a), some (.int c), some (.int d), some (.int (xw - a)), x6] [.int xe] (jR h s I L F) 0 0 := by
    intro xe he x6
    refine hG [99] 300 _ _ _ _ _ _ ?_
    conv => whnf
    refine ⟨_, m_0 hh, ?_⟩
    conv => whnf
    refine ⟨_, _, _, m_4 hh, (by rw [hx, he, pk_mul, nI_add, tn_nI (by omega)]), (show 32 * tn x + jjoin (tn a) (tn c) (n - tn a) (tn d) < 128 from by omega), ?_⟩
    conv => whnf
    exact hgood _ ⟨c1, c2, c3, c4⟩ (hwe _ hj)
  conv => whnf
  refine ⟨fun d1 => ?_, fun d1 => ?_⟩
  · have ha0 : ¬ tn a = 0 := fun q => d1 (by rw [ha, q])
    conv => whnf
    refine ⟨fun d2 => ?_, fun d2 => ?_⟩
    · have hb0 : ¬ n - tn a = 0 := fun q => d2 (by rw [hb, q])
      conv => whnf
      refine tail _ ?_ _
      have e1 : a - nI 1 = nI (tn a - 1) := by rw [ha, pk_sub (by omega), tn_nI (by omega)]
      have h5 : (n - tn a) - 1 + tn a ≤ 5 := by omega
      rw [e1, jI_one (by omega), hc, hd]
      rw [show nI (tn d) <<< (a &&& 31) = nI (tn d * 2 ^ tn a) from by
        have := jI_shl (c := tn d) (i := tn a) (by omega) (by
          have e2 : 2 ^ tn a ≤ 2 ^ 6 := Nat.pow_le_pow_right (by decide) (by omega)
          have e3 : tn d * 2 ^ tn a ≤ 31 * 2 ^ 6 := Nat.mul_le_mul (by omega) e2
          omega)
        rw [← ha] at this
        exact this]
      rw [jI_or, jI_or, jjoin, if_neg ha0, if_neg hb0, tn_nI (by omega), tn_nI (by omega)]
    · have hb0 : n - tn a = 0 := by
        have : nI (n - tn a) = nI 0 := hb.symm.trans d2
        rwa [nI_eq (by omega) (by omega)] at this
      refine tail _ ?_ _
      rw [jjoin, if_neg ha0, if_pos hb0]
      exact hc
  · have ha0 : tn a = 0 := by rw [d1]; rfl
    refine tail _ ?_ _
    rw [jjoin, if_pos ha0]
    exact hd
