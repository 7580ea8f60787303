/-! the class: store, fetch, copy -/
theorem q_store {τ : jTg} {h : List jC} {z : zS} (E : EncX τ h z) (hz : zWF z) (x y kd k : Int32) : jCt jy_X11_store [.ref 2, .int x, .int y, .int kd, .int k] h (xPost h (zstore z x y kd k).1 (zstore z x y kd k).2) := by
  obtain ⟨ρ, ω, κ, π, n, t, kk, H⟩ := id E
  have e1 := H.1
  have e11 := E.B
  have hlen := e11.1
  obtain ⟨t9, f, hf, hw⟩ := H.2.2.2.2.2.1
  obtain ⟨tπ, fK, hπ, hK⟩ := H.2.2.2.2.1
  generalize hΦ : xPost h _ _ = Φ
  have hno : ¬ stOk x kd k → Φ (some (.int (-1))) h := by
    intro hn
    rw [zstore, if_neg hn] at hΦ
    rw [← hΦ]
    exact xsame E _
  have jm2 : (nI 2).toInt = 2 := by decide
  refine jrun2 (js_X11_store _) rfl rfl rfl (fun G hG hW hB => ?_)
  -- behind the tests
  have g77 : stOk x kd k → (kd = nI 1 → ∃ q, zW z (tn k) = some q) → (0 ≤ y.toInt ∧ y.toInt ≤ 3) → ¬ (x.toInt < 2 ∧ ¬ x = kd) → G 77 [some (.ref 2), some (.int x), some (.int y), some (.int kd), some (.int k)] [] h 0 0 := by
    intro hok hsome hy hfit
    have hx := tn_eq hok.1.1
    have hx3 : tn x < 3 := by have := hok.1.2; unfold tn; omega
    have hy0 := tn_eq hy.1
    have hy4 : tn y < 4 := by unfold tn; omega
    have hidx : x * nI 4 + y = nI (4 * tn x + tn y) := by
      have e : nI (tn x) * nI 4 + nI (tn y) = nI (4 * tn x + tn y) := by rw [pk_mul, nI_add, Nat.mul_comm]
      rw [← hx, ← hy0] at e
      exact e
    have hp12 : 4 * tn x + tn y < 12 := by omega
    rw [zstore, if_pos hok] at hΦ
    generalize 4 * tn x + tn y = p at *
    have π2 : π ≠ 2 := jne hπ e1 (fun z => by cases z)
    rcases hok.2 with ⟨hkd, hreg⟩ | ⟨hkd, hrow⟩
    · rw [if_neg (by rw [hkd]; intro q; exact absurd q.1 (by decide)), if_pos hy, if_neg hfit, if_pos hkd] at hΦ
      obtain ⟨hk, hk4⟩ := isReg_nI hreg
      generalize tn k = r at *
      obtain ⟨fR, kr, ar, gr, h1, h2, h3, h4, h5, h6, h7⟩ := H.reg hk4
      refine hG [] 300 _ _ _ _ _ _ ?_
      conv => whnf
      refine ⟨fun c => absurd hkd c, fun _ => ?_⟩
      conv => whnf
      refine ⟨_, e1, ?_⟩
      conv => whnf
      refine ⟨_, e1, ?_⟩
      conv => whnf
      refine ⟨_, _, _, _, _, h1, hk, hk4, h2, ?_⟩
      conv => whnf
      refine ⟨_, _, _, _, 7, _, hπ, hidx, hp12, h5, rfl, ?_⟩
      conv => whnf
      rw [← hΦ]
      refine xput (z' := zsK z p (some (.inl (zR z r)))) E (S := fun t => t != 4) ((KT.refl).set _ (Or.inr (by rw [tπ]; rfl))) rfl ⟨ρ, ω, κ, π, n, t, kk, H.rckset hπ (s := some kr) (x := some (.inl (zR z r))) ⟨kr, rfl, h3, ar, gr, h4, h5, h6, h7⟩ hK⟩ _
    · obtain ⟨q, hq⟩ := hsome hkd
      have hk := tn_eq hrow.1
      have hk3 : tn k < 3 := by have := hrow.2; unfold tn; omega
      have hwk := hw _ hk3
      have hq40 := hz.2.2.2.2.1 _ hk3
      rw [if_neg (by rw [hq]; rintro ⟨-, q2⟩; cases q2), if_pos hy, if_neg hfit, if_neg (by rw [hkd]; decide), hq] at hΦ
      generalize tn k = r at *
      rw [hq] at hwk
      obtain ⟨k2, a, g, hk0, tk, ta, hk1, ha, hg⟩ := hwk
      have hq4 := hq40 q hq
      refine hG [127] 300 _ _ _ _ _ _ ?_
      conv => whnf
      refine ⟨fun _ => ?_, fun c => absurd (hkd.symm.trans c) (by decide)⟩
      conv => whnf
      refine ⟨_, e1, ?_⟩
      conv => whnf
      refine ⟨_, jget_app e1, ?_⟩
      conv => whnf
      refine ⟨_, _, _, _, _, jget_app hf, hk, hk3, hk0, ?_⟩
      conv => whnf
      refine ⟨_, jget_app hk1, ?_⟩
      conv => whnf
      refine ⟨_, _, jget_app ha, (show 0 + 1 + q.1 ≤ 41 by omega), ?_⟩
      have hl1 : (h ++ [(.inr (5, [.null]) : jC)]).length = h.length + 1 := by rw [List.length_append]; rfl
      rw [hl1]
      conv => whnf
      refine hB 2 41 (by decide) (show 0 + 1 + q.1 ≤ 41 by omega) ?_
      refine hG [] 300 _ _ _ _ _ _ ?_
      conv => whnf
      have hnw : ((h ++ [(.inr (5, [.null]) : jC)]) ++ [aI q.1 g])[h.length + 1]? = some (aI q.1 g) := by
        have := jget_new (h ++ [(.inr (5, [.null]) : jC)]) (aI q.1 g)
        rw [hl1] at this
        exact this
      refine ⟨_, _, (show 2 ≤ h.length + 1 by omega), hnw, ?_⟩
      conv => whnf
      refine jcall (c_X6_init (jrow_0 h _ _) (h.length + 1)) ?_
      rintro r h' ⟨rfl, rfl⟩
      rw [jrow2]
      conv => whnf
      refine ⟨_, _, _, _, 5, _, jget_apl hπ, hidx, hp12, jtwo_s h _ _, rfl, ?_⟩
      conv => whnf
      rw [← hΦ]
      have Ha := H.app [(.inr (5, [.ref (h.length + 1)]) : jC), aI q.1 g]
      refine xput (z' := zsK z p (some (.inr q))) E (S := fun t => t != 4) (((KT.refl).app _).set _ (Or.inr (by rw [tπ]; rfl))) rfl ⟨ρ, ω, κ, π, n, t, kk, Ha.rckset (jget_apl hπ) (s := some h.length) (x := some (.inr q)) ⟨h.length, rfl, e11.2.2.2 _ (Nat.le_refl _), h.length + 1, g, e11.2.2.2 _ (by omega), jtwo_s h _ _, jtwo_a h _ _, hg⟩ (fun q2 hq2 => (hK q2 hq2).kp ((KT_app τ h _).kp rfl))⟩ _
  have g53 : stOk x kd k → (kd = nI 1 → ∃ q, zW z (tn k) = some q) → G 53 [some (.ref 2), some (.int x), some (.int y), some (.int kd), some (.int k)] [] h 0 0 := by
    intro hok hsome
    have hnn : ¬ (kd = nI 1 ∧ (zW z (tn k)).isNone = true) := by
      rintro ⟨a, b⟩
      obtain ⟨q, hq⟩ := hsome a
      rw [hq] at b
      cases b
    refine hG [77] 300 _ _ _ _ _ _ ?_
    conv => whnf
    refine jcall (c_wi y 4 (by decide) h) ?_
    rintro r' h' ⟨rfl, he⟩
    obtain rfl := he.symm
    clear he
    conv => whnf
    refine ⟨fun c1 => ?_, fun c1 => ?_⟩ <;> rw [jbi_0, ← isPl_iff] at c1
    case refine_2 =>
      rw [zstore, if_pos hok, if_neg hnn, if_neg c1] at hΦ
      conv => whnf
      rw [← hΦ]
      exact xsame E _
    have c1 := Decidable.not_not.mp c1
    have hx2 : x = nI 2 ↔ x.toInt = 2 := by rw [jeq, jm2]
    have hxr := hok.1
    conv => whnf
    refine ⟨fun c2 => ?_, fun c2 => ?_⟩ <;> rw [hx2] at c2
    · exact g77 hok hsome c1 (fun q => by have := q.1; omega)
    conv => whnf
    refine ⟨fun c3 => ?_, fun c3 => ?_⟩
    · exact g77 hok hsome c1 (fun q => q.2 c3)
    · rw [zstore, if_pos hok, if_neg hnn, if_pos c1, if_pos ⟨by omega, c3⟩] at hΦ
      conv => whnf
      rw [← hΦ]
      exact xsame E _
  have g35 : stOk x kd k → G 35 [some (.ref 2), some (.int x), some (.int y), some (.int kd), some (.int k)] [] h 0 0 := by
    intro hok
    refine hG [53] 300 _ _ _ _ _ _ ?_
    conv => whnf
    refine ⟨fun c => ?_, fun c => ?_⟩
    · exact g53 hok (fun e => absurd e c)
    rcases hok.2 with ⟨hkd, -⟩ | ⟨hkd, hrow⟩
    · exact absurd (hkd.symm.trans c) (by decide)
    have hk := tn_eq hrow.1
    have hk3 : tn k < 3 := by have := hrow.2; unfold tn; omega
    have hwk := hw _ hk3
    conv => whnf
    refine ⟨_, e1, ?_⟩
    conv => whnf
    refine ⟨_, _, _, _, _, hf, hk, hk3, rfl, ?_⟩
    conv => whnf
    match hW : zW z (tn k), hwk with
    | none, hwk =>
      rw [show f (tn k) = none from hwk]
      rw [zstore, if_pos hok, if_pos ⟨c, by rw [hW]; rfl⟩] at hΦ
      conv => whnf
      rw [← hΦ]
      exact xsame E _
    | some q, ⟨k2, a, g, hk0, _⟩ =>
      rw [hk0]
      conv => whnf
      exact g53 hok (fun _ => ⟨q, hW⟩)
  refine hG [35] 300 _ _ _ _ _ _ ?_
  conv => whnf
  refine jcall (c_wi x 3 (by decide) h) ?_
  rintro r' h' ⟨rfl, he⟩
  obtain rfl := he.symm
  clear he
  conv => whnf
  refine ⟨fun c1 => ?_, fun c1 => ?_⟩ <;> rw [jbi_0, ← isRow_iff] at c1
  · conv => whnf
    exact hno (fun q => c1 q.1)
  have c1 := Decidable.not_not.mp c1
  have jn1 : (nI 1).toInt = 1 := by decide
  conv => whnf
  refine jcall (c_wi kd 2 (by decide) h) ?_
  rintro r' h' ⟨rfl, he⟩
  obtain rfl := he.symm
  clear he
  conv => whnf
  refine ⟨fun c2 => ?_, fun c2 => ?_⟩ <;> rw [jbi_0] at c2
  · conv => whnf
    refine hno (fun q => c2 ?_)
    rcases q.2 with ⟨e, -⟩ | ⟨e, -⟩
    · rw [e, j0]; omega
    · rw [e, jn1]; omega
  have c2 := Decidable.not_not.mp c2
  conv => whnf
  refine ⟨fun c3 => ?_, fun c3 => ?_⟩
  · have hkd : kd = nI 1 := by
      rw [jeq, j0] at c3
      rw [jeq, jn1]
      omega
    conv => whnf
    refine jcall (c_wi k 3 (by decide) h) ?_
    rintro r' h' ⟨rfl, he⟩
    obtain rfl := he.symm
    clear he
    conv => whnf
    refine ⟨fun c4 => ?_, fun c4 => ?_⟩ <;> rw [jbi_0, ← isRow_iff] at c4
    · exact g35 ⟨c1, Or.inr ⟨hkd, Decidable.not_not.mp c4⟩⟩
    · conv => whnf
      refine hno (fun q => ?_)
      rcases q.2 with ⟨e, -⟩ | ⟨-, e⟩
      · exact c3 e
      · exact c4 e
  · conv => whnf
    refine jcall (c_wi k 4 (by decide) h) ?_
    rintro r' h' ⟨rfl, he⟩
    obtain rfl := he.symm
    clear he
    conv => whnf
    refine ⟨fun c4 => ?_, fun c4 => ?_⟩ <;> rw [jbi_0, ← isReg_iff] at c4
    · exact g35 ⟨c1, Or.inl ⟨c3, Decidable.not_not.mp c4⟩⟩
    · conv => whnf
      refine hno (fun q => ?_)
      rcases q.2 with ⟨-, e⟩ | ⟨e, -⟩
      · exact c4 e
      · exact absurd (c3.symm.trans e) (by decide)
theorem c_X11_fetchSum {τ : jTg} {h : List jC} {z : zS} (E : EncX τ h z) (hz : zWF z) {b : Nat} {q : zReg} (hb : xS (fz0 τ) h b q) (hq : zcan q) (k : Int32) : jCt jy_X11_fetchSum [.ref 2, .ref b, .int k] h (yPost τ h (some (if isReg k then .int (nI 0) else .int (-1))) (if isReg k then zbecS z (tn k) q else z)) := by
  obtain ⟨ρ, ω, κ, π, n, t, kk, H⟩ := id E
  have e1 := H.1
  obtain ⟨hb0, ab, gb, hb1, hbs, hba, hbg⟩ := id hb
  generalize hΦ : yPost τ h _ _ = Φ
  refine jrun2 (js_X11_fetchSum _) rfl rfl rfl (fun G hG hW hB => ?_)
  refine hG [] 300 _ _ _ _ _ _ ?_
  conv => whnf
  refine jcall (c_wi k 4 (by decide) h) ?_
  rintro r' h' ⟨rfl, he⟩
  obtain rfl := he.symm
  clear he
  conv => whnf
  refine ⟨fun c1 => ?_, fun c1 => ?_⟩ <;> rw [jbi_0, ← isReg_iff] at c1
  case refine_2 =>
    rw [if_neg c1, if_neg c1] at hΦ
    conv => whnf
    rw [← hΦ]
    exact ⟨rfl, τ, E, KT.refl⟩
  have c1 := Decidable.not_not.mp c1
  rw [if_pos c1, if_pos c1] at hΦ
  obtain ⟨hk, hk4⟩ := isReg_nI c1
  have hc := c_X11_become E hz hk4 hb hq
  rw [← hk] at hc
  conv => whnf
  refine ⟨7, _, hbs, ?_⟩
  conv => whnf
  refine ⟨fun c => absurd c nI_10, fun _ => ?_⟩
  conv => whnf
  refine ⟨7, _, hbs, rfl, ?_⟩
  conv => whnf
  refine ⟨⟨_, e1⟩, jcall hc ?_⟩
  rintro r' h' ⟨rfl, τ', E', K'⟩
  conv => whnf
  rw [← hΦ]
  exact ⟨rfl, τ', E', K'⟩
theorem c_X11_fetchRow {τ : jTg} {h : List jC} {z : zS} (E : EncX τ h z) {b : Nat} {q : zRow} (hb : xQ (fz0 τ) h b q) (hq : q.1 ≤ 40) (k : Int32) : jCt jy_X11_fetchRow [.ref 2, .ref b, .int k] h (xPost h (if isRow k then .int (nI 1) else .int (-1)) (if isRow k then zsW z (tn k) (some q) else z)) := by
  obtain ⟨ρ, ω, κ, π, n, t, kk, H⟩ := id E
  have e1 := H.1
  have e11 := E.B
  have hlen := e11.1
  obtain ⟨t9, f, hf, hw⟩ := H.2.2.2.2.2.1
  obtain ⟨hb0, ab, gb, hb1, hbs, hba, hbg⟩ := id hb
  generalize hΦ : xPost h _ _ = Φ
  refine jrun2 (js_X11_fetchRow _) rfl rfl rfl (fun G hG hW hB => ?_)
  refine hG [36] 300 _ _ _ _ _ _ ?_
  conv => whnf
  refine jcall (c_wi k 3 (by decide) h) ?_
  rintro r' h' ⟨rfl, he⟩
  obtain rfl := he.symm
  clear he
  conv => whnf
  refine ⟨fun c1 => ?_, fun c1 => ?_⟩ <;> rw [jbi_0, ← isRow_iff] at c1
  case refine_2 =>
    rw [if_neg c1, if_neg c1] at hΦ
    conv => whnf
    rw [← hΦ]
    exact xsame E _
  have c1 := Decidable.not_not.mp c1
  rw [if_pos c1, if_pos c1] at hΦ
  have hk := tn_eq c1.1
  have hk3 : tn k < 3 := by have := c1.2; unfold tn; omega
  generalize tn k = r at *
  conv => whnf
  refine ⟨5, _, hbs, ?_⟩
  conv => whnf
  refine ⟨fun c => absurd c nI_10, fun _ => ?_⟩
  conv => whnf
  refine ⟨_, e1, ?_⟩
  conv => whnf
  refine ⟨5, _, jget_app hbs, rfl, ?_⟩
  conv => whnf
  refine ⟨_, jget_app hbs, ?_⟩
  conv => whnf
  refine ⟨_, _, jget_app hba, (show 0 + 1 + q.1 ≤ 41 by omega), ?_⟩
  have hl1 : (h ++ [(.inr (5, [.null]) : jC)]).length = h.length + 1 := by rw [List.length_append]; rfl
  rw [hl1]
  conv => whnf
  refine hB 2 41 (by decide) (show 0 + 1 + q.1 ≤ 41 by omega) ?_
  refine hG [] 300 _ _ _ _ _ _ ?_
  conv => whnf
  have hnw : ((h ++ [(.inr (5, [.null]) : jC)]) ++ [aI q.1 gb])[h.length + 1]? = some (aI q.1 gb) := by
    have := jget_new (h ++ [(.inr (5, [.null]) : jC)]) (aI q.1 gb)
    rw [hl1] at this
    exact this
  refine ⟨_, _, (show 2 ≤ h.length + 1 by omega), hnw, ?_⟩
  conv => whnf
  refine jcall (c_X6_init (jrow_0 h _ _) (h.length + 1)) ?_
  rintro r h' ⟨rfl, rfl⟩
  rw [jrow2]
  conv => whnf
  refine ⟨_, _, _, _, 5, _, jget_apl hf, hk, hk3, jtwo_s h _ _, rfl, ?_⟩
  conv => whnf
  have K : KT (fun t => t != 5 && t != 10 + r) τ h (va_up τ (h.length + 1) (10 + r)) ((h ++ [(.inr (5, [.ref (h.length + 1)]) : jC), aI q.1 gb]).set 9 (aO "QuasiSums$Row" 3 (va_up f r (some h.length)))) := (((KT.refl).app _).set _ (Or.inr (by rw [t9]; rfl))).tag (by omega)
  have hl2 : ((h ++ [(.inr (5, [.ref (h.length + 1)]) : jC), aI q.1 gb]).set 9 (aO "QuasiSums$Row" 3 (va_up f r (some h.length)))).length = h.length + 2 := by rw [List.length_set, List.length_append]; rfl
  rw [← hΦ]
  refine xput E K (by simp; omega) ⟨ρ, ω, κ, π, n, t, kk, H.rowset K hk3 (((e11.app _).set _ _).tag (by omega) (by omega)) (by unfold va_up; rw [if_neg (by omega)]; exact t9) hf (jget_set (jget_apl hf)) (fun r2 h2 => by unfold va_up; rw [if_neg h2]) (x := some q) ⟨h.length, h.length + 1, gb, by simp [va_up], ?_, by simp [va_up], jget_ne (by omega) (jtwo_s h _ _), jget_ne (by omega) (jtwo_a h _ _), hbg⟩⟩ _
  unfold va_up
  rw [if_neg (by omega)]
  exact e11.2.2.2 _ (Nat.le_refl _)
theorem q_fetch {τ : jTg} {h : List jC} {z : zS} (E : EncX τ h z) (hz : zWF z) (x y k : Int32) : jCt jy_X11_fetch [.ref 2, .int x, .int y, .int k] h (xPost h (zfetch z x y k).1 (zfetch z x y k).2) := by
  obtain ⟨ρ, ω, κ, π, n, t, kk, H⟩ := id E
  have e1 := H.1
  have e11 := E.B
  obtain ⟨tπ, fK, hπ, hK⟩ := H.2.2.2.2.1
  have hh := c_X11_holds H x y
  generalize hΦ : xPost h _ _ = Φ
  -- the refusals
  have ref : ∀ v : Int32, zholds z x y = .int v → zfetch z x y k = (.int v, z) → ¬ v = nI 0 → ¬ v = nI 1 → jCt jy_X11_fetch [.ref 2, .int x, .int y, .int k] h Φ := by
    intro v h1 h2 n0 n1
    rw [h1] at hh
    rw [h2] at hΦ
    refine jrun2 (js_X11_fetch _) rfl rfl rfl (fun G hG hW hB => ?_)
    refine hG [] 300 _ _ _ _ _ _ ?_
    conv => whnf
    refine ⟨⟨_, e1⟩, jcall (hh) ?_⟩
    rintro r' h' ⟨rfl, he⟩
    obtain rfl := he.symm
    clear he
    conv => whnf
    refine ⟨fun _ => ?_, fun c => absurd c n0⟩
    conv => whnf
    refine ⟨fun _ => ?_, fun c => absurd c n1⟩
    conv => whnf
    rw [← hΦ]
    exact xsame E _
  by_cases c1 : isRow x
  case neg =>
    refine ref (-1) ?_ ?_ (by decide) (by decide)
    · rw [zholds, if_neg c1]
    · rw [zfetch, if_neg c1]
  by_cases c2 : 0 ≤ y.toInt ∧ y.toInt ≤ 3
  case neg =>
    refine ref (-13) ?_ ?_ (by decide) (by decide)
    · rw [zholds, if_pos c1, if_neg c2]
    · rw [zfetch, if_pos c1, if_neg c2]
  have hx := tn_eq c1.1
  have hx3 : tn x < 3 := by have := c1.2; unfold tn; omega
  have hy0 := tn_eq c2.1
  have hy4 : tn y < 4 := by unfold tn; omega
  have hidx : x * nI 4 + y = nI (4 * tn x + tn y) := by
    have e : nI (tn x) * nI 4 + nI (tn y) = nI (4 * tn x + tn y) := by rw [pk_mul, nI_add, Nat.mul_comm]
    rw [← hx, ← hy0] at e
    exact e
  have hp12 : 4 * tn x + tn y < 12 := by omega
  have hit := hK _ hp12
  have hio := hz.2.2.2.1 _ hp12
  have hh1 : zholds z x y = match zK z (4 * tn x + tn y) with
      | none => .int (-2)
      | some (.inl _) => .int (nI 0)
      | some (.inr _) => .int (nI 1) := by
    rw [zholds, if_pos c1, if_pos c2]
    rfl
  have hf1 : zfetch z x y k = match zK z (4 * tn x + tn y) with
      | none => (.int (-2), z)
      | some (.inl q) => if isReg k then (.int (nI 0), zbecS z (tn k) q) else (.int (-1), z)
      | some (.inr q) => if isRow k then (.int (nI 1), zsW z (tn k) (some q)) else (.int (-1), z) := by
    rw [zfetch, if_pos c1, if_pos c2]
    rfl
  generalize 4 * tn x + tn y = p at *
  match hKp : zK z p, hit with
  | none, hit =>
    rw [hKp] at hh1 hf1
    exact ref (-2) hh1 hf1 (by decide) (by decide)
  | some (.inl q), hit =>
    rw [hKp] at hh1 hf1 hio
    dsimp only at hh1 hf1
    obtain ⟨k2, hk2, hs⟩ := hit
    rw [hh1] at hh
    rw [hf1] at hΦ
    have hc := c_X11_fetchSum E hz hs hio k
    refine jrun2 (js_X11_fetch _) rfl rfl rfl (fun G hG hW hB => ?_)
    refine hG [] 300 _ _ _ _ _ _ ?_
    conv => whnf
    refine ⟨⟨_, e1⟩, jcall (hh) ?_⟩
    rintro r' h' ⟨rfl, he⟩
    obtain rfl := he.symm
    clear he
    conv => whnf
    refine ⟨fun c => absurd rfl c, fun _ => ?_⟩
    conv => whnf
    refine ⟨_, e1, ?_⟩
    conv => whnf
    refine ⟨_, _, _, _, _, hπ, hidx, hp12, hk2, ?_⟩
    conv => whnf
    refine ⟨⟨_, e1⟩, jcall hc ?_⟩
    by_cases ck : isReg k
    · rw [if_pos ck] at hΦ
      rw [if_pos ck, if_pos ck]
      rintro r' h' ⟨rfl, τ', E', K'⟩
      conv => whnf
      rw [← hΦ]
      exact xPost.of e11 E' K'
    · rw [if_neg ck] at hΦ
      rw [if_neg ck, if_neg ck]
      rintro r' h' ⟨rfl, τ', E', K'⟩
      conv => whnf
      rw [← hΦ]
      exact xPost.of e11 E' K'
  | some (.inr q), hit =>
    rw [hKp] at hh1 hf1 hio
    dsimp only at hh1 hf1
    obtain ⟨k2, hk2, hs⟩ := hit
    rw [hh1] at hh
    rw [hf1] at hΦ
    have hc := c_X11_fetchRow E hs hio k
    refine jrun2 (js_X11_fetch _) rfl rfl rfl (fun G hG hW hB => ?_)
    refine hG [] 300 _ _ _ _ _ _ ?_
    conv => whnf
    refine ⟨⟨_, e1⟩, jcall (hh) ?_⟩
    rintro r' h' ⟨rfl, he⟩
    obtain rfl := he.symm
    clear he
    conv => whnf
    refine ⟨fun _ => ?_, fun c => absurd c nI_10⟩
    conv => whnf
    refine ⟨fun c => absurd rfl c, fun _ => ?_⟩
    conv => whnf
    refine ⟨_, e1, ?_⟩
    conv => whnf
    refine ⟨_, _, _, _, _, hπ, hidx, hp12, hk2, ?_⟩
    conv => whnf
    refine ⟨⟨_, e1⟩, jcall hc ?_⟩
    by_cases ck : isRow k
    · rw [if_pos ck] at hΦ
      rw [if_pos ck, if_pos ck]
      rintro r' h' ⟨rfl, hE, hF⟩
      conv => whnf
      rw [← hΦ]
      exact ⟨rfl, hE, hF⟩
    · rw [if_neg ck] at hΦ
      rw [if_neg ck, if_neg ck]
      rintro r' h' ⟨rfl, hE, hF⟩
      conv => whnf
      rw [← hΦ]
      exact ⟨rfl, hE, hF⟩
