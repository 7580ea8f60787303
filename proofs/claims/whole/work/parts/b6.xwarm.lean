theorem q_share {τ : jTg} {h : List jC} {z : zS} (E : EncX τ h z) (hz : zWF z) (x y : Int32) : jCt jy_X11_share [.ref 2, .int x, .int y] h (xPost h (zshare z x y) z) := by
  obtain ⟨ρ, ω, κ, π, n, t, k, H⟩ := id E
  have e1 := H.1
  by_cases c : ¬ isNum z x y
  · rw [zshare, if_neg c]
    refine jrun2 (js_X11_share _) rfl rfl rfl (fun G hG hW hB => ?_)
    refine hG [] 300 _ _ _ _ _ _ ?_
    conv => whnf
    refine ⟨⟨_, e1⟩, jcall (c_X11_isNumber H hz x y) ?_⟩
    rintro r' h' ⟨rfl, he⟩
    obtain rfl := he.symm
    clear he
    conv => whnf
    refine ⟨fun _ => ?_, fun c1 => absurd (jbi_f c) c1⟩
    conv => whnf
    exact xsame E _
  have c := Decidable.not_not.mp c
  rw [zshare, if_pos c]
  obtain ⟨hx, hx4⟩ := isReg_nI c.1
  have hy := tn_eq c.2.1
  have hyl : tn y < jmany (zR z (tn x)).1 := tn_lt c.2.1 c.2.2
  have hN := c_X11_isNumber H hz x y
  rw [jbi_t c] at hN
  clear c
  generalize tn x = r at *
  generalize tn y = e at *
  obtain ⟨fR, kr, ar, gr, h1, h2, h3, h4, h5, h6, h7⟩ := H.reg hx4
  have hw6 := (hz.1 r hx4).1
  have hm := jmany_le hw6
  have hat := c_X8_shareOf h5 h6 hw6 hyl
  rw [jshrF_ext h7 hyl] at hat
  have sh := shr_ok (zR z r).2 (n := jmany (zR z r).1) (by omega) hyl
  generalize jshrF (jmany (zR z r).1) (zR z r).2 e = v at *
  refine jrun2 (js_X11_share _) rfl rfl rfl (fun G hG hW hB => ?_)
  refine hG [] 300 _ _ _ _ _ _ ?_
  conv => whnf
  refine ⟨⟨_, e1⟩, jcall (hN) ?_⟩
  rintro r' h' ⟨rfl, he⟩
  obtain rfl := he.symm
  clear he
  conv => whnf
  refine ⟨fun c1 => absurd c1 nI_10, fun _ => ?_⟩
  conv => whnf
  refine ⟨_, e1, ?_⟩
  conv => whnf
  refine ⟨_, _, _, _, _, h1, hx, hx4, h2, ?_⟩
  conv => whnf
  rw [hy]
  refine ⟨⟨_, h5⟩, jcall (hat) ?_⟩
  rintro r' h' ⟨rfl, he⟩
  obtain rfl := he.symm
  clear he
  conv => whnf
  refine jcall (c_X11_floatBits (fmg_fin sh.1.1 (by decide)) sh.1.2 h) ?_
  rintro r' h' ⟨rfl, he⟩
  obtain rfl := he.symm
  clear he
  conv => whnf
  exact xsame E _
theorem q_warm {τ : jTg} {h : List jC} {z : zS} (E : EncX τ h z) (hz : zWF z) (hf : zFF z) (k x y : Int32) : jCt jy_X11_warm [.ref 2, .int k, .int x, .int y] h (xPost h (zwarm z k x y).1 (zwarm z k x y).2) := by
  obtain ⟨ρ, ω, κ, π, n, t, kk, H⟩ := id E
  obtain ⟨e1, e2, e3, e4, e5, e6, e7, e8, e9, e10, e11⟩ := id H
  obtain ⟨t3, g, hg, hc⟩ := id e4
  generalize hΦ : xPost h _ _ = Φ
  refine jrun2 (js_X11_warm _) rfl rfl rfl (fun G hG hW hB => ?_)
  refine hG [] 300 _ _ _ _ _ _ ?_
  conv => whnf
  refine jcall (c_wi k 6 (by decide) h) ?_
  rintro r' h' ⟨rfl, he⟩
  obtain rfl := he.symm
  clear he
  conv => whnf
  refine ⟨fun c => ?_, fun c => ?_⟩ <;> rw [jbi_0] at c
  · rw [zwarm, if_neg (fun q => c ⟨q.1.1, by have := q.1.2; omega⟩)] at hΦ
    conv => whnf
    rw [← hΦ]
    exact xsame E _
  have c := Decidable.not_not.mp c
  have ck : isCell k := ⟨c.1, by have := c.2; omega⟩
  conv => whnf
  by_cases c2 : ¬ isNum z x y
  · rw [zwarm, if_neg (fun q => c2 q.2)] at hΦ
    refine ⟨⟨_, e1⟩, jcall (c_X11_isNumber H hz x y) ?_⟩
    rintro r' h' ⟨rfl, he⟩
    obtain rfl := he.symm
    clear he
    conv => whnf
    refine ⟨fun c1 => absurd (jbi_f c2) c1, fun _ => ?_⟩
    conv => whnf
    rw [← hΦ]
    exact xsame E _
  have c2 := Decidable.not_not.mp c2
  rw [zwarm, if_pos ⟨ck, c2⟩] at hΦ
  obtain ⟨hx, hx4⟩ := isReg_nI c2.1
  have hy := tn_eq c2.2.1
  have hyl : tn y < jmany (zR z (tn x)).1 := tn_lt c2.2.1 c2.2.2
  have hN := c_X11_isNumber H hz x y
  rw [jbi_t c2] at hN
  have hk := tn_eq ck.1
  have hk6 : tn k < 6 := tn_lt ck.1 (by have := ck.2; omega)
  clear c2 ck c
  generalize tn x = r at *
  generalize tn y = e at *
  generalize tn k = q at *
  obtain ⟨fR, kr, ar, gr, h1, h2, h3, h4, h5, h6, h7⟩ := H.reg hx4
  have hw6 := (hz.1 r hx4).1
  have hm := jmany_le hw6
  have hat := c_X8_shareOf h5 h6 hw6 hyl
  rw [jshrF_ext h7 hyl] at hat
  have sh := shr_ok (zR z r).2 (n := jmany (zR z r).1) (by omega) hyl
  generalize jshrF (jmany (zR z r).1) (zR z r).2 e = v at *
  obtain ⟨w1, w2, w3⟩ := wm_ok (hf.1 q hk6) sh.1
  have cell := hc q hk6
  refine ⟨⟨_, e1⟩, jcall (hN) ?_⟩
  rintro r' h' ⟨rfl, he⟩
  obtain rfl := he.symm
  clear he
  conv => whnf
  refine ⟨fun _ => ?_, fun c1 => absurd c1 nI_10⟩
  conv => whnf
  refine ⟨_, e1, ?_⟩
  conv => whnf
  refine ⟨_, e1, ?_⟩
  conv => whnf
  refine ⟨_, _, _, hg, hk, hk6, ?_⟩
  conv => whnf
  rw [cell]
  refine ⟨w2, ?_⟩
  conv => whnf
  refine ⟨_, e1, ?_⟩
  conv => whnf
  refine ⟨_, _, _, _, _, h1, hx, hx4, h2, ?_⟩
  conv => whnf
  rw [hy]
  refine ⟨⟨_, h5⟩, jcall (hat) ?_⟩
  rintro r' h' ⟨rfl, he⟩
  obtain rfl := he.symm
  clear he
  conv => whnf
  refine ⟨w3, ?_⟩
  conv => whnf
  refine ⟨_, _, _, hg, hk, hk6, ?_⟩
  conv => whnf
  have ne : κ ≠ 2 := by
    intro c
    rw [c, e11.2.1] at t3
    exact absurd t3 (by decide)
  refine ⟨_, jget_ne ne e1, ?_⟩
  conv => whnf
  refine ⟨_, _, _, jget_set hg, hk, hk6, ?_⟩
  conv => whnf
  have vv : va_up g q (FP.fadd (FP.fmul (zC z q) 1056964608) v) q = jwmF (zC z q) v := by simp [va_up, jwmF]
  rw [vv]
  refine jcall (c_X11_floatBits (fmg_fin w1.1 (by decide)) w1.2 _) ?_
  rintro r' h' ⟨rfl, he⟩
  obtain rfl := he.symm
  clear he
  conv => whnf
  rw [← hΦ]
  have K1 : KT (fun t => t != 3) τ h τ (h.set κ (aF 6 (va_up g q (FP.fadd (FP.fmul (zC z q) 1056964608) v)))) := (KT.refl).set _ (Or.inr (by rw [t3]; rfl))
  have K0 := K1.kp rfl
  refine xput (z' := zsC z (va_up (zC z) q (jwmF (zC z q) v))) E K1 rfl ⟨ρ, ω, κ, π, n, t, kk, ?_⟩ _
  refine ⟨jget_ne ne e1, e2.kt K1 rfl rfl, e3.kt K1 rfl rfl, ⟨t3, _, jget_set hg, fun j hj => ?_⟩, e5.kt K1 rfl rfl, e6.kt K1 rfl rfl (t3_ok (S := fun t => t != 3) rfl rfl rfl), e7.kt K1 rfl, e8.kp K0, e9.kt K1 rfl rfl rfl, e10.kt K1 rfl rfl, e11.set _ _⟩
  show va_up g q _ j = va_up (zC z) q _ j
  unfold va_up
  split
  · rfl
  · exact hc j hj
