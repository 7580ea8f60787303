/-! the class: antipode, inF, counts, told, cut -/
theorem q_antipode {τ : jTg} {h : List jC} {z : zS} (E : EncX τ h z) (hz : zWF z) (x y : Int32) : jCt jy_X11_antipode [.ref 2, .int x, .int y] h (xPost h (zanti z x y).1 (zanti z x y).2) := by
  obtain ⟨ρ, ω, κ, π, n, t, k, H⟩ := id E
  have e1 := H.1
  by_cases c : ¬ (isReg x ∧ isReg y)
  · rw [zanti, if_neg c]
    refine jrun2 (js_X11_antipode _) rfl rfl rfl (fun G hG hW hB => ?_)
    refine hG [] 300 _ _ _ _ _ _ ?_
    conv => whnf
    refine jcall (c_wi x 4 (by decide) h) ?_
    rintro r' h' ⟨rfl, he⟩
    obtain rfl := he.symm
    clear he
    conv => whnf
    refine ⟨fun c1 => ?_, fun c1 => ?_⟩ <;> rw [jbi_0, ← isReg_iff] at c1
    · conv => whnf
      exact xsame E _
    conv => whnf
    refine jcall (c_wi y 4 (by decide) h) ?_
    rintro r' h' ⟨rfl, he⟩
    obtain rfl := he.symm
    clear he
    conv => whnf
    refine ⟨fun c2 => ?_, fun c2 => ?_⟩ <;> rw [jbi_0, ← isReg_iff] at c2
    · exact absurd ⟨Decidable.not_not.mp c1, Decidable.not_not.mp c2⟩ c
    · conv => whnf
      exact xsame E _
  have c := Decidable.not_not.mp c
  rw [zanti, if_pos c]
  obtain ⟨cx, cy⟩ := c
  obtain ⟨hx, hx4⟩ := isReg_nI cx
  obtain ⟨hy, hy4⟩ := isReg_nI cy
  generalize tn x = r at *
  generalize tn y = a at *
  obtain ⟨fR, kr, ar, gr, h1, h2, h3, h4, h5, h6, h7⟩ := H.reg hy4
  have hca := hz.1 a hy4
  have hm := jmany_le hca.1
  have h2l : h.length ≠ 2 := by have := E.B.1; omega
  obtain ⟨j1, j2⟩ := jan_c (f0 := fun _ => 0) (g0 := fun _ => 0) (zR z a).1 (jmany (zR z a).1) hm.2 (fun c _ => rfl) (jmany (zR z a).1) h7
  have hcq : zcan ((zR z a).1, (jan (zR z a).2 (zR z a).1 (jmany (zR z a).1) (fun _ => 0) (jmany (zR z a).1)).1) := zcan_mk hca.1 (fun k k1 k2 => jan_hi _ _ _ _ _ k k2)
  have hset := c_settleN E hz hx4 hcq (fun c hc => j2 c (by omega)) j1
  rw [← hx] at hset
  clear j1 j2
  generalize hp : jan gr (zR z a).1 (jmany (zR z a).1) (fun _ => 0) (jmany (zR z a).1) = p at hset
  dsimp only
  generalize jan (zR z a).2 (zR z a).1 (jmany (zR z a).1) (fun _ => 0) (jmany (zR z a).1) = q at *
  generalize hΦ : xPost h _ _ = Φ
  refine jrun2 (js_X11_antipode _) rfl rfl rfl (fun G hG hW hB => ?_)
  refine hG [] 300 _ _ _ _ _ _ ?_
  conv => whnf
  refine jcall (c_wi x 4 (by decide) h) ?_
  rintro r' h' ⟨rfl, he⟩
  obtain rfl := he.symm
  clear he
  conv => whnf
  refine ⟨fun c1 => absurd ((isReg_iff x).mp cx) (jbi_0.mp c1), fun _ => ?_⟩
  conv => whnf
  refine jcall (c_wi y 4 (by decide) h) ?_
  rintro r' h' ⟨rfl, he⟩
  obtain rfl := he.symm
  clear he
  conv => whnf
  refine ⟨fun _ => ?_, fun c1 => absurd ((isReg_iff y).mp cy) (jbi_0.mp c1)⟩
  conv => whnf
  refine jcall (c_X3_init (jget_new h _)) ?_
  rintro r h' ⟨rfl, rfl⟩
  conv => whnf
  rw [← oL0]
  refine ⟨_, jget_app e1, ?_⟩
  conv => whnf
  refine ⟨_, _, _, _, _, jget_app h1, hy, hy4, h2, ?_⟩
  conv => whnf
  refine ⟨⟨_, jget_app h5⟩, jcall (c_X8_antipodal (jget_app h5) (jget_app h6) (jget_new h _) hca.1) ?_⟩
  rintro r' h' ⟨rfl, rfl⟩
  rw [hp]
  conv => whnf
  refine ⟨⟨_, jNw_o h2l (jget_app e1)⟩, jcall hset ?_⟩
  rintro r' h' ⟨rfl, hE, hF⟩
  conv => whnf
  rw [← hΦ]
  exact ⟨by rw [zstl_1], hE, hF⟩
theorem jset_2 {h : List jC} {l : Nat} (x y : jC) : (h.set l x).set l y = h.set l y := List.set_set ..
theorem c_X8_fundamentalNumber {h : List jC} {s w a l : Nat} {f : Nat → Int64} (hs : h[s]? = some (oS w a)) (ha : h[a]? = some (aL (jmany w) f)) (hl : h[l]? = some (oL (false, nI 0))) (hw : w ≤ 6) {b : Nat} (hb : b < 32) : jCt jy_X8_fundamentalNumber [.ref s, .int (nI b), .ref l] h (fun r h' => r = some (.long (jinF f w b (jmany w)).1) ∧ h' = h.set l (oL (jinF f w b (jmany w)).2)) := by
  have hm := jmany_le hw
  have n1 : l ≠ s := jne hl hs (fun z => by cases z)
  have n2 : l ≠ a := jne hl ha (fun z => by cases z)
  have hlb := jlen_le w b
  refine jrun2 (js_X8_fundamentalNumber _) rfl rfl rfl (fun G hG hW hB => ?_)
  have loop : ∀ k e, jmany w = e + k → ∀ x7 x8 : Option Value, G 15 [some (.ref s), some (.int (nI b)), some (.ref l), some (.int (nI (jlen w b))), some (.long (jinF f w b e).1), none, some (.int (nI e)), x7, x8, none] [] (h.set l (oL (jinF f w b e).2)) 0 0 := by
    intro k
    induction k with
    | zero =>
      intro e he x7 x8
      refine hG [15] 300 _ _ _ _ _ _ ?_
      conv => whnf
      refine ⟨_, jget_ne n1 hs, ?_⟩
      conv => whnf
      refine ⟨_, _, _, jget_ne n2 ha, ?_⟩
      conv => whnf
      refine ⟨fun qb => ?_, fun qb => ?_⟩ <;> rw [nI_leI (by omega) (by omega)] at qb
      · conv => whnf
        rw [he, Nat.add_zero]
        exact ⟨rfl, rfl⟩
      · omega
    | succ k ih =>
      intro e he x7 x8
      have i1 := ih (e + 1) (by omega)
      simp only [jinF] at i1
      have hle := jlen_le w e
      refine hG [15] 300 _ _ _ _ _ _ ?_
      conv => whnf
      refine ⟨_, jget_ne n1 hs, ?_⟩
      conv => whnf
      refine ⟨_, _, _, jget_ne n2 ha, ?_⟩
      conv => whnf
      refine ⟨fun qb => ?_, fun qb => ?_⟩ <;> rw [nI_leI (by omega) (by omega)] at qb
      · omega
      conv => whnf
      refine jcall (c_X0_isFiner b e _) ?_
      rintro r h' ⟨rfl, rfl⟩
      conv => whnf
      refine ⟨fun d => ?_, fun d => ?_⟩ <;> rw [jbi_0] at d
      · rw [if_neg d] at i1
        conv => whnf
        rw [nI_add]
        exact i1 _ _
      rw [if_pos (Decidable.not_not.mp d)] at i1
      conv => whnf
      refine ⟨_, jget_ne n1 hs, ?_⟩
      conv => whnf
      refine jcall (c_X0_lengthOf w e hw (by omega) _) ?_
      rintro r h' ⟨rfl, rfl⟩
      conv => whnf
      refine ⟨jnz2, ?_⟩
      conv => whnf
      refine ⟨fun p => ?_, fun p => ?_⟩ <;> rw [jodd _ (by omega) _ (by omega)] at p
      · rw [if_neg p] at i1
        conv => whnf
        refine ⟨fun _ => ?_, fun c2 => absurd rfl c2⟩
        conv => whnf
        refine ⟨_, jget_ne n1 hs, ?_⟩
        conv => whnf
        refine ⟨_, _, _, jget_ne n2 ha, rfl, (show e < jmany w by omega), ?_⟩
        conv => whnf
        refine ⟨⟨_, jget_set hl⟩, jcall (c_X3_plus (jget_set hl) (jinF f w b e).1 (f e) (nI b)) ?_⟩
        rintro r h' ⟨rfl, rfl⟩
        rw [jset_2]
        conv => whnf
        rw [nI_add]
        exact i1 _ _
      · rw [if_pos (Decidable.not_not.mp p)] at i1
        conv => whnf
        refine ⟨fun c2 => absurd c2 nI_10, fun _ => ?_⟩
        conv => whnf
        refine ⟨_, jget_ne n1 hs, ?_⟩
        conv => whnf
        refine ⟨_, _, _, jget_ne n2 ha, rfl, (show e < jmany w by omega), ?_⟩
        conv => whnf
        refine ⟨⟨_, jget_set hl⟩, jcall (c_X3_otherSign (jget_set hl) (f e) (nI b)) ?_⟩
        rintro r h' ⟨rfl, rfl⟩
        rw [jset_2]
        conv => whnf
        refine ⟨⟨_, jget_set hl⟩, jcall (c_X3_plus (jget_set hl) (jinF f w b e).1 (-(f e)) (nI b)) ?_⟩
        rintro r h' ⟨rfl, rfl⟩
        rw [jset_2]
        conv => whnf
        rw [nI_add]
        exact i1 _ _
  refine hG [15] 300 _ _ _ _ _ _ ?_
  conv => whnf
  refine ⟨_, hs, ?_⟩
  conv => whnf
  refine jcall (c_X0_lengthOf w b hw (by omega) _) ?_
  rintro r h' ⟨rfl, rfl⟩
  conv => whnf
  have l0 := loop (jmany w) 0 (by omega) none none
  rw [show jinF f w b 0 = (0, (false, nI 0)) from rfl, jset_same hl] at l0
  exact l0
theorem q_inF {τ : jTg} {h : List jC} {z : zS} (E : EncX τ h z) (hz : zWF z) (x y : Int32) : jCt jy_X11_inF [.ref 2, .int x, .int y] h (xPost h (zinF z x y).1 (zinF z x y).2) := by
  obtain ⟨ρ, ω, κ, π, n, t, k, H⟩ := id E
  have e1 := H.1
  by_cases c : ¬ isNum z x y
  · rw [zinF, if_neg c]
    refine jrun2 (js_X11_inF _) rfl rfl rfl (fun G hG hW hB => ?_)
    refine hG [] 300 _ _ _ _ _ _ ?_
    conv => whnf
    refine ⟨⟨_, e1⟩, jcall (c_X11_isNumber H hz x y) ?_⟩
    rintro r' h' ⟨rfl, he⟩
    obtain rfl := he.symm
    clear he
    conv => whnf
    refine ⟨fun c1 => absurd (jbi_f c) c1, fun _ => ?_⟩
    conv => whnf
    exact xsame E _
  have c := Decidable.not_not.mp c
  rw [zinF, if_pos c]
  obtain ⟨hx, hx4⟩ := isReg_nI c.1
  have hy := tn_eq c.2.1
  have hyl : tn y < jmany (zR z (tn x)).1 := tn_lt c.2.1 c.2.2
  have hN := c_X11_isNumber H hz x y
  rw [jbi_t c] at hN
  clear c
  generalize tn x = r at *
  generalize tn y = e at *
  obtain ⟨fR, kr, ar, gr, h1, h2, h3, h4, h5, h6, h7⟩ := H.reg hx4
  have hcan := hz.1 r hx4
  have hm := jmany_le hcan.1
  have h2l : h.length ≠ 2 := by have := E.B.1; omega
  have hj := jinF_c (zR z r).1 e (jmany (zR z r).1) h7
  have hfn := c_X8_fundamentalNumber (h := h ++ [oL (false, nI 0)]) (jget_app h5) (jget_app h6) (jget_new h _) hcan.1 (b := e) (by omega)
  rw [hj] at hfn
  dsimp only
  generalize jinF (zR z r).2 (zR z r).1 e (jmany (zR z r).1) = q at *
  have hst : (h ++ [oL (false, nI 0)]).set h.length (oL q.2) = h ++ [oL q.2] := by
    rw [List.set_append_right _ _ (Nat.le_refl _), Nat.sub_self]
    rfl
  have hzz : (if q.2.1 = true then ((.long (-9223372036854775808), zset z [(nI 4, q.2.2)]) : Value × zS) else (.long q.1, z)) = zans z q.1 q.2 := rfl
  rw [hzz]
  generalize hΦ : xPost h _ _ = Φ
  refine jrun2 (js_X11_inF _) rfl rfl rfl (fun G hG hW hB => ?_)
  refine hG [] 300 _ _ _ _ _ _ ?_
  conv => whnf
  refine ⟨⟨_, e1⟩, jcall (hN) ?_⟩
  rintro r' h' ⟨rfl, he⟩
  obtain rfl := he.symm
  clear he
  conv => whnf
  refine ⟨fun _ => ?_, fun c1 => absurd c1 nI_10⟩
  conv => whnf
  refine jcall (c_X3_init (jget_new h _)) ?_
  rintro r h' ⟨rfl, rfl⟩
  conv => whnf
  rw [← oL0]
  refine ⟨_, jget_app e1, ?_⟩
  conv => whnf
  refine ⟨_, _, _, _, _, jget_app h1, hx, hx4, h2, ?_⟩
  conv => whnf
  rw [hy]
  refine ⟨⟨_, jget_app h5⟩, jcall hfn ?_⟩
  rintro r' h' ⟨rfl, rfl⟩
  rw [hst]
  conv => whnf
  refine ⟨⟨_, jget_app e1⟩, jcall (c_answerN E q.1) ?_⟩
  rintro r' h' ⟨rfl, hE, hF⟩
  conv => whnf
  rw [← hΦ]
  exact ⟨by rw [zans_1], hE, hF⟩
def jwp (k : Nat) : Nat → Int64
  | 0 => 1
  | i + 1 => jwp k i * (nI k - nI i).toInt64 / (nI (i + 1)).toInt64
theorem jwp_eq : ∀ k, k < 21 → ∀ l, l < 8 → jwp k l = jchs k l := by decide +kernel
theorem jdz : ∀ i, i < 8 → ¬ (nI (i + 1)).toInt64 = 0 := by decide +kernel
theorem c_X0_waysToPick (l k : Nat) (hl : l < 8) (hk : k < 21) (h : List jC) : jCt jy_X0_waysToPick [.int (nI l), .int (nI k)] h (fun r h' => r = some (.long (jchs k l)) ∧ h' = h) := by
  rw [← jwp_eq k hk l hl]
  refine jrun2 (js_X0_waysToPick _) rfl rfl rfl (fun G hG hW hB => ?_)
  have loop : ∀ u i, l = i + u → G 5 [some (.int (nI l)), some (.int (nI k)), some (.long (jwp k i)), none, some (.int (nI i))] [] h 0 0 := by
    intro u
    induction u with
    | zero =>
      intro i hi
      refine hG [5] 300 _ _ _ _ _ _ ?_
      conv => whnf
      refine ⟨fun qb => ?_, fun qb => ?_⟩ <;> rw [nI_leI (by omega) (by omega)] at qb
      · conv => whnf
        rw [hi, Nat.add_zero]
        exact ⟨rfl, rfl⟩
      · omega
    | succ u ih =>
      intro i hi
      have i1 := ih (i + 1) (by omega)
      rw [jwp] at i1
      refine hG [5] 300 _ _ _ _ _ _ ?_
      conv => whnf
      refine ⟨fun qb => ?_, fun qb => ?_⟩ <;> rw [nI_leI (by omega) (by omega)] at qb
      · omega
      conv => whnf
      rw [nI_add]
      refine ⟨jdz i (by omega), ?_⟩
      conv => whnf
      rw [nI_add]
      exact i1
  refine hG [5] 300 _ _ _ _ _ _ ?_
  conv => whnf
  exact loop l 0 (by omega)
theorem c_X8_countsWith {h : List jC} {s w a l : Nat} {f : Nat → Int64} (hs : h[s]? = some (oS w a)) (ha : h[a]? = some (aL (jmany w) f)) (hl : h[l]? = some (oL (false, nI 0))) (hw : w ≤ 6) {k : Nat} (hk : k < 21) : jCt jy_X8_countsWith [.ref s, .int (nI k), .ref l] h (fun r h' => r = some (.long (jcn f w k (jmany w)).1) ∧ h' = h.set l (oL (jcn f w k (jmany w)).2)) := by
  have hm := jmany_le hw
  have n1 : l ≠ s := jne hl hs (fun z => by cases z)
  have n2 : l ≠ a := jne hl ha (fun z => by cases z)
  refine jrun2 (js_X8_countsWith _) rfl rfl rfl (fun G hG hW hB => ?_)
  have loop : ∀ u e, jmany w = e + u → ∀ x6 : Option Value, G 5 [some (.ref s), some (.int (nI k)), some (.ref l), some (.long (jcn f w k e).1), none, some (.int (nI e)), x6, none] [] (h.set l (oL (jcn f w k e).2)) 0 0 := by
    intro u
    induction u with
    | zero =>
      intro e he x6
      refine hG [5] 300 _ _ _ _ _ _ ?_
      conv => whnf
      refine ⟨_, jget_ne n1 hs, ?_⟩
      conv => whnf
      refine ⟨_, _, _, jget_ne n2 ha, ?_⟩
      conv => whnf
      refine ⟨fun qb => ?_, fun qb => ?_⟩ <;> rw [nI_leI (by omega) (by omega)] at qb
      · conv => whnf
        rw [he, Nat.add_zero]
        exact ⟨rfl, rfl⟩
      · omega
    | succ u ih =>
      intro e he x6
      have i1 := ih (e + 1) (by omega)
      simp only [jcn] at i1
      have hle := jlen_le w e
      refine hG [5] 300 _ _ _ _ _ _ ?_
      conv => whnf
      refine ⟨_, jget_ne n1 hs, ?_⟩
      conv => whnf
      refine ⟨_, _, _, jget_ne n2 ha, ?_⟩
      conv => whnf
      refine ⟨fun qb => ?_, fun qb => ?_⟩ <;> rw [nI_leI (by omega) (by omega)] at qb
      · omega
      conv => whnf
      refine ⟨_, jget_ne n1 hs, ?_⟩
      conv => whnf
      refine jcall (c_X0_lengthOf w e hw (by omega) _) ?_
      rintro r h' ⟨rfl, rfl⟩
      conv => whnf
      refine jcall (c_X0_waysToPick (jlen w e) k (by omega) hk _) ?_
      rintro r h' ⟨rfl, rfl⟩
      conv => whnf
      refine ⟨_, jget_ne n1 hs, ?_⟩
      conv => whnf
      refine ⟨_, _, _, jget_ne n2 ha, rfl, (show e < jmany w by omega), ?_⟩
      conv => whnf
      refine ⟨⟨_, jget_set hl⟩, jcall (c_X3_times (jget_set hl) (f e) (jchs k (jlen w e)) (nI e)) ?_⟩
      rintro r h' ⟨rfl, rfl⟩
      rw [jset_2]
      conv => whnf
      refine ⟨⟨_, jget_set hl⟩, jcall (c_X3_plus (jget_set hl) (jcn f w k e).1 (f e * jchs k (jlen w e)) (nI e)) ?_⟩
      rintro r h' ⟨rfl, rfl⟩
      rw [jset_2]
      conv => whnf
      rw [nI_add]
      exact i1 _
  refine hG [5] 300 _ _ _ _ _ _ ?_
  conv => whnf
  have l0 := loop (jmany w) 0 (by omega) none
  rw [show jcn f w k 0 = (0, (false, nI 0)) from rfl, jset_same hl] at l0
  exact l0
theorem q_counts {τ : jTg} {h : List jC} {z : zS} (E : EncX τ h z) (hz : zWF z) (x y : Int32) : jCt jy_X11_counts [.ref 2, .int x, .int y] h (xPost h (zcounts z x y).1 (zcounts z x y).2) := by
  obtain ⟨ρ, ω, κ, π, n, t, k, H⟩ := id E
  have e1 := H.1
  by_cases c : ¬ (isReg x ∧ 0 ≤ y.toInt ∧ y.toInt ≤ 20)
  · rw [zcounts, if_neg c]
    refine jrun2 (js_X11_counts _) rfl rfl rfl (fun G hG hW hB => ?_)
    refine hG [] 300 _ _ _ _ _ _ ?_
    conv => whnf
    refine jcall (c_wi x 4 (by decide) h) ?_
    rintro r' h' ⟨rfl, he⟩
    obtain rfl := he.symm
    clear he
    conv => whnf
    refine ⟨fun c1 => ?_, fun c1 => ?_⟩ <;> rw [jbi_0, ← isReg_iff] at c1
    · conv => whnf
      exact xsame E _
    conv => whnf
    refine jcall (c_wi y 21 (by decide) h) ?_
    rintro r' h' ⟨rfl, he⟩
    obtain rfl := he.symm
    clear he
    conv => whnf
    refine ⟨fun c2 => ?_, fun c2 => ?_⟩ <;> rw [jbi_0] at c2
    · exact absurd ⟨Decidable.not_not.mp c1, by omega⟩ c
    · conv => whnf
      exact xsame E _
  have c := Decidable.not_not.mp c
  rw [zcounts, if_pos c]
  obtain ⟨cx, cy⟩ := c
  obtain ⟨hx, hx4⟩ := isReg_nI cx
  have hy := tn_eq cy.1
  have hy20 : tn y < 21 := by unfold tn; omega
  generalize tn x = r at *
  generalize tn y = e at *
  obtain ⟨fR, kr, ar, gr, h1, h2, h3, h4, h5, h6, h7⟩ := H.reg hx4
  have hcan := hz.1 r hx4
  have hm := jmany_le hcan.1
  have h2l : h.length ≠ 2 := by have := E.B.1; omega
  have hj := jcn_c (zR z r).1 e (jmany (zR z r).1) h7
  have hfn := c_X8_countsWith (h := h ++ [oL (false, nI 0)]) (jget_app h5) (jget_app h6) (jget_new h _) hcan.1 hy20
  rw [hj] at hfn
  dsimp only
  generalize jcn (zR z r).2 (zR z r).1 e (jmany (zR z r).1) = q at *
  have hst : (h ++ [oL (false, nI 0)]).set h.length (oL q.2) = h ++ [oL q.2] := by
    rw [List.set_append_right _ _ (Nat.le_refl _), Nat.sub_self]
    rfl
  have hzz : (if q.2.1 = true then ((.long (-9223372036854775808), zset z [(nI 4, q.2.2)]) : Value × zS) else (.long q.1, z)) = zans z q.1 q.2 := rfl
  rw [hzz]
  generalize hΦ : xPost h _ _ = Φ
  refine jrun2 (js_X11_counts _) rfl rfl rfl (fun G hG hW hB => ?_)
  refine hG [] 300 _ _ _ _ _ _ ?_
  conv => whnf
  refine jcall (c_wi x 4 (by decide) h) ?_
  rintro r' h' ⟨rfl, he⟩
  obtain rfl := he.symm
  clear he
  conv => whnf
  refine ⟨fun c1 => absurd ((isReg_iff x).mp cx) (jbi_0.mp c1), fun _ => ?_⟩
  conv => whnf
  refine jcall (c_wi y 21 (by decide) h) ?_
  rintro r' h' ⟨rfl, he⟩
  obtain rfl := he.symm
  clear he
  conv => whnf
  refine ⟨fun _ => ?_, fun c1 => absurd (show 0 ≤ y.toInt ∧ y.toInt < (21 : Nat) by omega) (jbi_0.mp c1)⟩
  conv => whnf
  refine jcall (c_X3_init (jget_new h _)) ?_
  rintro r h' ⟨rfl, rfl⟩
  conv => whnf
  rw [← oL0]
  refine ⟨_, jget_app e1, ?_⟩
  conv => whnf
  refine ⟨_, _, _, _, _, jget_app h1, hx, hx4, h2, ?_⟩
  conv => whnf
  rw [hy]
  refine ⟨⟨_, jget_app h5⟩, jcall hfn ?_⟩
  rintro r' h' ⟨rfl, rfl⟩
  rw [hst]
  conv => whnf
  refine ⟨⟨_, jget_app e1⟩, jcall (c_answerN E q.1) ?_⟩
  rintro r' h' ⟨rfl, hE, hF⟩
  conv => whnf
  rw [← hΦ]
  exact ⟨by rw [zans_1], hE, hF⟩
theorem jnz_can {x : zReg} (hx : zcan x) : jnz x.2 (jmany x.1) = jnz x.2 32 := by
  have hm := jmany_le hx.1
  have : ∀ d, jmany x.1 + d ≤ 32 → jnz x.2 (jmany x.1 + d) = jnz x.2 (jmany x.1) := by
    intro d
    induction d with
    | zero => intro _; rfl
    | succ d ih =>
      intro hd
      rw [← Nat.add_assoc, jnz, ih (by omega), if_pos (hx.2 _ (by omega) (by omega)), Nat.add_zero]
  have h1 := this (32 - jmany x.1) (by omega)
  rw [show jmany x.1 + (32 - jmany x.1) = 32 by omega] at h1
  exact h1.symm
theorem q_told {τ : jTg} {h : List jC} {z : zS} (E : EncX τ h z) (hz : zWF z) (x y : Int32) : jCt jy_X11_told [.ref 2, .int x, .int y] h (xPost h (ztold z x y) z) := by
  obtain ⟨ρ, ω, κ, π, n, t, k, H⟩ := id E
  have e1 := H.1
  by_cases c : ¬ (isReg x ∧ 0 ≤ y.toInt ∧ y.toInt ≤ 2)
  · rw [ztold, if_neg c]
    refine jrun2 (js_X11_told _) rfl rfl rfl (fun G hG hW hB => ?_)
    refine hG [] 300 _ _ _ _ _ _ ?_
    conv => whnf
    refine jcall (c_wi x 4 (by decide) h) ?_
    rintro r' h' ⟨rfl, he⟩
    obtain rfl := he.symm
    clear he
    conv => whnf
    refine ⟨fun c1 => ?_, fun c1 => ?_⟩ <;> rw [jbi_0, ← isReg_iff] at c1
    · conv => whnf
      exact xsame E _
    conv => whnf
    refine jcall (c_wi y 3 (by decide) h) ?_
    rintro r' h' ⟨rfl, he⟩
    obtain rfl := he.symm
    clear he
    conv => whnf
    refine ⟨fun c2 => ?_, fun c2 => ?_⟩ <;> rw [jbi_0] at c2
    · exact absurd ⟨Decidable.not_not.mp c1, by omega⟩ c
    · conv => whnf
      exact xsame E _
  have c := Decidable.not_not.mp c
  rw [ztold, if_pos c]
  obtain ⟨cx, cy⟩ := c
  obtain ⟨hx, hx4⟩ := isReg_nI cx
  have hy := tn_eq cy.1
  have hy2 : tn y < 3 := by unfold tn; omega
  generalize tn x = r at *
  generalize tn y = e at *
  obtain ⟨fR, kr, ar, gr, h1, h2, h3, h4, h5, h6, h7⟩ := H.reg hx4
  have hcan := hz.1 r hx4
  have hm := jmany_le hcan.1
  have hnz := c_X8_notZero h5 h6 hcan.1
  rw [jnz_c h7, jnz_can hcan] at hnz
  generalize hΦ : xPost h _ _ = Φ
  refine jrun2 (js_X11_told _) rfl rfl rfl (fun G hG hW hB => ?_)
  refine hG [] 300 _ _ _ _ _ _ ?_
  conv => whnf
  refine jcall (c_wi x 4 (by decide) h) ?_
  rintro r' h' ⟨rfl, he⟩
  obtain rfl := he.symm
  clear he
  conv => whnf
  refine ⟨fun c1 => absurd ((isReg_iff x).mp cx) (jbi_0.mp c1), fun _ => ?_⟩
  conv => whnf
  refine jcall (c_wi y 3 (by decide) h) ?_
  rintro r' h' ⟨rfl, he⟩
  obtain rfl := he.symm
  clear he
  conv => whnf
  refine ⟨fun _ => ?_, fun c1 => absurd (show 0 ≤ y.toInt ∧ y.toInt < (3 : Nat) by omega) (jbi_0.mp c1)⟩
  conv => whnf
  refine ⟨_, e1, ?_⟩
  conv => whnf
  refine ⟨_, _, _, _, _, h1, hx, hx4, h2, ?_⟩
  conv => whnf
  rw [hy]
  refine ⟨fun c1 => ?_, fun c1 => ?_⟩ <;> rw [nI_eq (by omega) (by omega)] at c1
  · rw [if_neg c1] at hΦ
    conv => whnf
    refine ⟨fun c2 => ?_, fun c2 => ?_⟩ <;> rw [nI_eq (by omega) (by omega)] at c2
    · rw [if_neg c2] at hΦ
      conv => whnf
      refine ⟨⟨_, h5⟩, jcall (hnz) ?_⟩
      rintro r' h' ⟨rfl, he⟩
      obtain rfl := he.symm
      clear he
      conv => whnf
      rw [← hΦ]
      exact xsame E _
    · rw [if_pos c2] at hΦ
      conv => whnf
      refine ⟨_, h5, ?_⟩
      conv => whnf
      refine ⟨_, _, _, h6, ?_⟩
      conv => whnf
      rw [← hΦ]
      exact xsame E _
  · rw [if_pos c1] at hΦ
    conv => whnf
    refine ⟨_, h5, ?_⟩
    conv => whnf
    rw [← hΦ]
    exact xsame E _
theorem c_X0_joined (a c b d : Nat) (ha : a ≤ 6) (hb : b ≤ 6) (hd : d < 64) (h : List jC) : jCt jy_X0_joined [.int (nI a), .int (nI c), .int (nI b), .int (nI d)] h (fun r h' => r = some (.int (nI (jjoin a c b d))) ∧ h' = h) := by
  refine jrun2 (js_X0_joined _) rfl rfl rfl (fun G hG hW hB => ?_)
  refine hG [] 300 _ _ _ _ _ _ ?_
  conv => whnf
  refine ⟨fun qa => ?_, fun qa => ?_⟩ <;> rw [nI_eq (by omega) (by omega)] at qa
  · conv => whnf
    refine ⟨fun qb => ?_, fun qb => ?_⟩ <;> rw [nI_eq (by omega) (by omega)] at qb
    · conv => whnf
      have hlt : d * 2 ^ a < 2 ^ 32 := by
        calc d * 2 ^ a ≤ 64 * 2 ^ 6 := Nat.mul_le_mul (by omega) (Nat.pow_le_pow_right (by decide) ha)
          _ < 2 ^ 32 := by decide
      rw [jI_m1 (by omega), jI_one (by omega), jI_or, jI_shl (by omega) hlt, jI_or, jjoin, if_neg qa, if_neg qb]
      exact ⟨rfl, rfl⟩
    · conv => whnf
      rw [jjoin, if_neg qa, if_pos qb]
      exact ⟨rfl, rfl⟩
  · conv => whnf
    rw [jjoin, if_pos qa]
    exact ⟨rfl, rfl⟩
