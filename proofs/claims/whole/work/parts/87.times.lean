/-! the class: cut, composition, products -/
theorem jjoin_okb : ∀ a, a < 7 → ∀ b, b < 7 → ∀ c, c < 32 → ∀ d, d < 32 → (Nat.blt c (jmany a) && Nat.blt d (jmany b) && Nat.ble (a + b) 6 && !(Nat.blt (jjoin a c b d) (jmany (a + b)))) = false := by decide +kernel
theorem jjoin_ltm (a : Nat) (ha : a < 7) (b : Nat) (hb : b < 7) (c : Nat) (hc : c < 32) (d : Nat) (hd : d < 32) (h1 : c < jmany a) (h2 : d < jmany b) (h3 : a + b ≤ 6) : jjoin a c b d < jmany (a + b) := by
  have := jjoin_okb a ha b hb c hc d hd
  rw [show Nat.blt c (jmany a) = true from (Nat.blt_eq).mpr h1, show Nat.blt d (jmany b) = true from (Nat.blt_eq).mpr h2, show Nat.ble (a + b) 6 = true from Nat.ble_eq.mpr h3, Bool.true_and, Bool.true_and, Bool.true_and, Bool.not_eq_eq_eq_not, Bool.not_false] at this
  exact Nat.blt_eq.mp this
theorem q_cut {τ : jTg} {h : List jC} {z : zS} (E : EncX τ h z) (hz : zWF z) (x a c d : Int32) : jCt jy_X11_cut [.ref 2, .int x, .int a, .int c, .int d] h (xPost h (zcut z x a c d) z) := by
  obtain ⟨ρ, ω, κ, π, n, t, k, H⟩ := id E
  have e1 := H.1
  generalize hΦ : xPost h (zcut z x a c d) z = Φ
  have hno : ¬ (isReg x ∧ (0 ≤ a.toInt ∧ a.toInt ≤ (zR z (tn x)).1) ∧ (0 ≤ c.toInt ∧ c.toInt < jmany (tn a)) ∧ (0 ≤ d.toInt ∧ d.toInt < jmany ((zR z (tn x)).1 - tn a))) → Φ (some (.long (-9223372036854775808))) h := by
    intro hn
    rw [← hΦ, zcut, if_neg hn]
    exact xsame E _
  refine jrun2 (js_X11_cut _) rfl rfl rfl (fun G hG hW hB => ?_)
  refine hG [] 300 _ _ _ _ _ _ ?_
  conv => whnf
  refine jcall (c_wi x 4 (by decide) h) ?_
  rintro r' h' ⟨rfl, he⟩
  obtain rfl := he.symm
  clear he
  conv => whnf
  refine ⟨fun c1 => ?_, fun c1 => ?_⟩ <;> rw [jbi_0, ← isReg_iff] at c1
  · conv => whnf
    exact hno (fun q => c1 q.1)
  have c1 := Decidable.not_not.mp c1
  obtain ⟨hx, hx4⟩ := isReg_nI c1
  obtain ⟨fR, kr, ar, gr, h1, h2, h3, h4, h5, h6, h7⟩ := H.reg hx4
  have hcan := hz.1 _ hx4
  have hm := jmany_le hcan.1
  have hw6 := hcan.1
  conv => whnf
  refine ⟨_, e1, ?_⟩
  conv => whnf
  refine ⟨_, _, _, _, _, h1, hx, hx4, h2, ?_⟩
  conv => whnf
  refine ⟨_, h5, ?_⟩
  conv => whnf
  rw [nI_add]
  refine jcall (c_wi a _ (by omega) h) ?_
  rintro r' h' ⟨rfl, he⟩
  obtain rfl := he.symm
  clear he
  conv => whnf
  refine ⟨fun c2 => ?_, fun c2 => ?_⟩ <;> rw [jbi_0] at c2
  case refine_2 =>
    conv => whnf
    exact hno (fun q => c2 (by have := q.2.1; omega))
  have c2 := Decidable.not_not.mp c2
  have ha := tn_eq c2.1
  have ha6 : tn a ≤ (zR z (tn x)).1 := by
    have e : (tn a : Int) = a.toInt := by unfold tn; omega
    omega
  conv => whnf
  refine ⟨_, e1, ?_⟩
  conv => whnf
  refine ⟨_, _, _, _, _, h1, hx, hx4, h2, ?_⟩
  conv => whnf
  refine ⟨_, h5, ?_⟩
  conv => whnf
  rw [show nI (zR z (tn x)).1 - a = nI ((zR z (tn x)).1 - tn a) by rw [ha, pk_sub ha6, tn_nI (by omega)]]
  have hma := c_X0_howMany (tn a) (by omega) h
  have hmb := c_X0_howMany ((zR z (tn x)).1 - tn a) (by omega) h
  rw [← ha] at hma
  have hq1 := jmany_le (w := tn a) (by omega)
  have hq2 := jmany_le (w := (zR z (tn x)).1 - tn a) (by omega)
  refine jcall (hma) ?_
  rintro r' h' ⟨rfl, he⟩
  obtain rfl := he.symm
  clear he
  conv => whnf
  rw [show (if tn a = 0 then 1 else 2 ^ (tn a - 1)) = jmany (tn a) from rfl]
  refine jcall (c_wi c _ (by omega) h) ?_
  rintro r' h' ⟨rfl, he⟩
  obtain rfl := he.symm
  clear he
  conv => whnf
  refine ⟨fun c3 => ?_, fun c3 => ?_⟩ <;> rw [jbi_0] at c3
  · conv => whnf
    exact hno (fun q => c3 q.2.2.1)
  have c3 := Decidable.not_not.mp c3
  conv => whnf
  refine jcall (hmb) ?_
  rintro r' h' ⟨rfl, he⟩
  obtain rfl := he.symm
  clear he
  conv => whnf
  rw [show (if (zR z (tn x)).1 - tn a = 0 then 1 else 2 ^ ((zR z (tn x)).1 - tn a - 1)) = jmany ((zR z (tn x)).1 - tn a) from rfl]
  refine jcall (c_wi d _ (by omega) h) ?_
  rintro r' h' ⟨rfl, he⟩
  obtain rfl := he.symm
  clear he
  conv => whnf
  refine ⟨fun c4 => ?_, fun c4 => ?_⟩ <;> rw [jbi_0] at c4
  case refine_2 =>
    conv => whnf
    exact hno (fun q => c4 q.2.2.2)
  have c4 := Decidable.not_not.mp c4
  have hc := tn_eq c3.1
  have hd := tn_eq c4.1
  have hcl : tn c < jmany (tn a) := tn_lt c3.1 c3.2
  have hdl : tn d < jmany ((zR z (tn x)).1 - tn a) := tn_lt c4.1 c4.2
  have hj := c_X0_joined (tn a) (tn c) ((zR z (tn x)).1 - tn a) (tn d) (by omega) (by omega) (by omega) h
  rw [← ha, ← hc, ← hd] at hj
  have hjl : jjoin (tn a) (tn c) ((zR z (tn x)).1 - tn a) (tn d) < jmany (zR z (tn x)).1 := by
    have := jjoin_ltm (tn a) (by omega) ((zR z (tn x)).1 - tn a) (by omega) (tn c) (by omega) (tn d) (by omega) hcl hdl (by omega)
    rw [show tn a + ((zR z (tn x)).1 - tn a) = (zR z (tn x)).1 by omega] at this
    exact this
  have hat := c_X8_at h5 h6 hjl hm.2
  rw [h7 _ hjl] at hat
  conv => whnf
  refine ⟨_, e1, ?_⟩
  conv => whnf
  refine ⟨_, _, _, _, _, h1, hx, hx4, h2, ?_⟩
  conv => whnf
  refine jcall (hj) ?_
  rintro r' h' ⟨rfl, he⟩
  obtain rfl := he.symm
  clear he
  conv => whnf
  refine ⟨⟨_, h5⟩, jcall (hat) ?_⟩
  rintro r' h' ⟨rfl, he⟩
  obtain rfl := he.symm
  clear he
  conv => whnf
  rw [← hΦ, zcut, if_pos ⟨c1, ⟨c2.1, by omega⟩, c3, c4⟩]
  exact xsame E _
theorem jrst : ∀ n, n < 7 → ∀ c, c < 32 → (Nat.blt c (jmany n) && !(decide (2 ^ jpop (jmany n - 1 - c) = if n = 0 then 1 else 2 ^ (n - 1 - jpop c)) && Nat.ble (jmany n - 1 - c) 31)) = false := by decide +kernel
theorem c_X0_rest (n c : Nat) (hn : n ≤ 6) (hc : c < jmany n) (h : List jC) : jCt jy_X0_rest [.int (nI n), .int (nI c)] h (fun r h' => r = some (.int (nI (jmany n - 1 - c))) ∧ h' = h) := by
  have hm := jmany_le hn
  refine jrun2 (js_X0_rest _) rfl rfl rfl (fun G hG hW hB => ?_)
  refine hG [] 300 _ _ _ _ _ _ ?_
  conv => whnf
  refine jcall (c_X0_howMany n hn h) ?_
  rintro r h' ⟨rfl, rfl⟩
  conv => whnf
  rw [show (if n = 0 then 1 else 2 ^ (n - 1)) = jmany n from rfl, jI_m1 (by omega), pk_sub (by omega)]
  exact ⟨rfl, rfl⟩
theorem c_X0_howManyFiner (n c : Nat) (hn : n ≤ 6) (hc : c < jmany n) (h : List jC) : jCt jy_X0_howManyFiner [.int (nI n), .int (nI c)] h (fun r h' => r = some (.int (if n = 0 then nI 1 else nI (2 ^ (n - 1 - jpop c)))) ∧ h' = h) := by
  have hm := jmany_le hn
  have hr := jrst n (by omega) c (by omega)
  rw [show Nat.blt c (jmany n) = true from (Nat.blt_eq).mpr hc, Bool.true_and, Bool.not_eq_eq_eq_not, Bool.not_false, Bool.and_eq_true, decide_eq_true_eq] at hr
  have hp : jpop (jmany n - 1 - c) ≤ 6 := by unfold jpop; omega
  refine jrun2 (js_X0_howManyFiner _) rfl rfl rfl (fun G hG hW hB => ?_)
  refine hG [] 300 _ _ _ _ _ _ ?_
  conv => whnf
  refine jcall (c_X0_rest n c hn hc h) ?_
  rintro r' h' ⟨rfl, he⟩
  obtain rfl := he.symm
  clear he
  conv => whnf
  refine jcall (c_J6_bitCount (jmany n - 1 - c) (by omega) h) ?_
  rintro r' h' ⟨rfl, he⟩
  obtain rfl := he.symm
  clear he
  conv => whnf
  rw [jI_one (by omega), hr.1]
  refine ⟨?_, rfl⟩
  split <;> rfl
theorem c_X0_numberAt (n c i : Nat) (hn : n ≤ 6) (hc : c < 32) (hi : i < 7) (h : List jC) : jCt jy_X0_numberAt [.int (nI n), .int (nI c), .int (nI i)] h (fun r h' => r = some (.int (nI (jnumF n c i))) ∧ h' = h) := by
  refine jrun2 (js_X0_numberAt _) rfl rfl rfl (fun G hG hW hB => ?_)
  have loop : ∀ u k m b, i = k + u → m ≤ 6 → b < 32 → jnumF n c i = jnumF m b u → ∀ x6, G 8 [some (.int (nI n)), some (.int (nI c)), some (.int (nI i)), some (.int (nI m)), some (.int (nI b)), some (.int (nI k)), x6] [] h 0 0 := by
    intro u
    induction u with
    | zero =>
      intro k m b hk hm hb he x6
      refine hG [8] 300 _ _ _ _ _ _ ?_
      conv => whnf
      refine ⟨fun qb => ?_, fun qb => ?_⟩ <;> rw [nI_leI (by omega) (by omega)] at qb
      case refine_2 => omega
      conv => whnf
      refine jcall (c_X0_firstNumber m b hm (by omega) h) ?_
      rintro r h' ⟨rfl, rfl⟩
      conv => whnf
      exact ⟨by rw [he]; rfl, rfl⟩
    | succ u ih =>
      intro k m b hk hm hb he x6
      have hf := (jfstF_le m b 6 1 (Nat.le_refl _)).2
      refine hG [8] 300 _ _ _ _ _ _ ?_
      conv => whnf
      refine ⟨fun qb => ?_, fun qb => ?_⟩ <;> rw [nI_leI (by omega) (by omega)] at qb
      · omega
      conv => whnf
      refine jcall (c_X0_firstNumber m b hm (by omega) h) ?_
      rintro r h' ⟨rfl, rfl⟩
      conv => whnf
      rw [pk_sub (show jfst m b ≤ m from hf), jI_shr (by omega) (by have : jfst m b ≤ m := hf; omega), nI_add]
      exact ih (k + 1) (m - jfst m b) (b / 2 ^ jfst m b) (by omega) (by omega) (Nat.lt_of_le_of_lt (Nat.div_le_self _ _) hb) he _
  refine hG [8] 300 _ _ _ _ _ _ ?_
  conv => whnf
  exact loop i 0 n c (by omega) hn hc rfl none
theorem jno_num : ∀ n, n < 7 → ∀ c, c < 32 → ∀ i, i < 7 → (Nat.blt c (jmany n) && !(decide (jno n c i = if i < jlen n c then some (jnumF n c i) else none))) = false := by decide +kernel
theorem jnoF_none (n c i : Nat) : ∀ u k g a, a + u ≤ i → jnoF n c i u k g a = none
  | 0, _, _, _, _ => rfl
  | u + 1, k, g, a, h => by
    rw [jnoF]
    split
    · exact jnoF_none n c i u _ _ _ (by omega)
    · rw [if_neg (by omega)]
      exact jnoF_none n c i u _ _ _ (by omega)
theorem jno_all {n c : Nat} (hn : n ≤ 6) (hc : c < jmany n) (i : Nat) : jno n c i = if i < jlen n c then some (jnumF n c i) else none := by
  have hm := jmany_le hn
  have hl := jlen_le n c
  by_cases h7 : i < 7
  · have := jno_num n (by omega) c (by omega) i h7
    rw [show Nat.blt c (jmany n) = true from (Nat.blt_eq).mpr hc, Bool.true_and, Bool.not_eq_eq_eq_not, Bool.not_false, decide_eq_true_eq] at this
    exact this
  · rw [if_neg (by omega)]
    exact jnoF_none n c i n 1 0 0 (by omega)
theorem q_composition {τ : jTg} {h : List jC} {z : zS} (E : EncX τ h z) (hz : zWF z) (x y w : Int32) : jCt jy_X11_composition [.ref 2, .int x, .int y, .int w] h (xPost h (zcomp x y w) z) := by
  generalize hΦ : xPost h (zcomp x y w) z = Φ
  have hno : ¬ isCmp x y w → Φ (some (.int (-1))) h := by
    intro hn
    rw [← hΦ, zcomp, if_neg hn]
    exact xsame E _
  refine jrun2 (js_X11_composition _) rfl rfl rfl (fun G hG hW hB => ?_)
  refine hG [] 300 _ _ _ _ _ _ ?_
  conv => whnf
  refine jcall (c_wi x 7 (by decide) h) ?_
  rintro r' h' ⟨rfl, he⟩
  obtain rfl := he.symm
  clear he
  conv => whnf
  refine ⟨fun c1 => ?_, fun c1 => ?_⟩ <;> rw [jbi_0] at c1
  · conv => whnf
    exact hno (fun q => c1 (by have := q.1; omega))
  have c1 := Decidable.not_not.mp c1
  have hx := tn_eq c1.1
  have hx6 : tn x ≤ 6 := by unfold tn; omega
  have hm := jmany_le hx6
  have hma := c_X0_howMany (tn x) hx6 h
  rw [← hx] at hma
  conv => whnf
  refine jcall (hma) ?_
  rintro r' h' ⟨rfl, he⟩
  obtain rfl := he.symm
  clear he
  conv => whnf
  rw [show (if tn x = 0 then 1 else 2 ^ (tn x - 1)) = jmany (tn x) from rfl]
  refine jcall (c_wi y _ (by omega) h) ?_
  rintro r' h' ⟨rfl, he⟩
  obtain rfl := he.symm
  clear he
  conv => whnf
  refine ⟨fun c2 => ?_, fun c2 => ?_⟩ <;> rw [jbi_0] at c2
  case refine_2 =>
    conv => whnf
    exact hno (fun q => c2 q.2.1)
  have c2 := Decidable.not_not.mp c2
  have hy := tn_eq c2.1
  have hyl : tn y < jmany (tn x) := tn_lt c2.1 c2.2
  have hlen := c_X0_lengthOf (tn x) (tn y) hx6 (by omega) h
  have htur := c_X0_turned (tn x) (tn y) hx6 (by omega) h
  have hres := c_X0_rest (tn x) (tn y) hx6 hyl h
  have hfin := c_X0_howManyFiner (tn x) (tn y) hx6 hyl h
  rw [← hx, ← hy] at hlen htur hres hfin
  have hl7 := jlen_le (tn x) (tn y)
  have ok : 0 ≤ w.toInt ∧ ¬ (4 ≤ w.toInt ∧ w.toInt ≤ 9) → isCmp x y w := fun q => ⟨⟨c1.1, by omega⟩, c2, q⟩
  have j10 : (nI 10).toInt = 10 := by decide
  have j3 : (nI 3).toInt = 3 := by decide
  conv => whnf
  refine ⟨fun c3 => ?_, fun c3 => ?_⟩ <;> rw [jlt, j10] at c3
  · conv => whnf
    refine ⟨fun c4 => ?_, fun c4 => ?_, fun c4 => ?_, fun c4 => ?_, fun c4 => ?_⟩
    · conv => whnf
      refine jcall (hlen) ?_
      rintro r' h' ⟨rfl, he⟩
      obtain rfl := he.symm
      clear he
      conv => whnf
      rw [← hΦ, zcomp, if_pos (ok (by rw [c4, j0]; omega)), if_pos c4]
      exact xsame E _
    · conv => whnf
      refine jcall (htur) ?_
      rintro r' h' ⟨rfl, he⟩
      obtain rfl := he.symm
      clear he
      conv => whnf
      rw [← hΦ, zcomp, if_pos (ok (by rw [c4, j1]; omega)), if_neg (by rw [c4]; decide), if_pos c4]
      exact xsame E _
    · conv => whnf
      refine jcall (hres) ?_
      rintro r' h' ⟨rfl, he⟩
      obtain rfl := he.symm
      clear he
      conv => whnf
      rw [← hΦ, zcomp, if_pos (ok (by rw [c4, j2]; omega)), if_neg (by rw [c4]; decide), if_neg (by rw [c4]; decide), if_pos c4]
      exact xsame E _
    · conv => whnf
      refine jcall (hfin) ?_
      rintro r' h' ⟨rfl, he⟩
      obtain rfl := he.symm
      clear he
      conv => whnf
      rw [← hΦ, zcomp, if_pos (ok (by rw [c4, j3]; omega)), if_neg (by rw [c4]; decide), if_neg (by rw [c4]; decide), if_neg (by rw [c4]; decide), if_pos c4]
      exact xsame E _
    · conv => whnf
      exact hno (fun q => by have := q.2.2; omega)
  · have hw := tn_eq (x := w) (by omega)
    have hw10 : 10 ≤ tn w := by unfold tn; omega
    have hwlt : tn w < 2147483648 := by have := Int32.toInt_lt w; unfold tn; omega
    have hsub : w - nI 10 = nI (tn w - 10) := by
      have e : nI (tn w) - nI 10 = nI (tn w - 10) := pk_sub hw10
      rw [← hw] at e
      exact e
    have hz4 : zcomp x y w = .int (jnoI (jno (tn x) (tn y) (tn w - 10))) := by
      rw [zcomp, if_pos (ok (by omega)), if_neg (fun e => by rw [e, j0] at c3; omega), if_neg (fun e => by rw [e, j1] at c3; omega), if_neg (fun e => by rw [e, j2] at c3; omega), if_neg (fun e => by rw [e, j3] at c3; omega)]
    rw [hz4, jno_all hx6 hyl] at hΦ
    conv => whnf
    refine jcall (hlen) ?_
    rintro r' h' ⟨rfl, he⟩
    obtain rfl := he.symm
    clear he
    conv => whnf
    rw [hsub]
    refine ⟨fun c4 => ?_, fun c4 => ?_⟩ <;> rw [nI_leI (by omega) (by omega)] at c4
    · rw [if_neg (by omega)] at hΦ
      conv => whnf
      rw [← hΦ]
      exact xsame E _
    · rw [if_pos (by omega)] at hΦ
      have hnum := c_X0_numberAt (tn x) (tn y) (tn w - 10) hx6 (by omega) (by omega) h
      rw [← hx, ← hy] at hnum
      conv => whnf
      refine jcall (hnum) ?_
      rintro r' h' ⟨rfl, he⟩
      obtain rfl := he.symm
      clear he
      conv => whnf
      rw [← hΦ]
      exact xsame E _
