/-! fetch of the reference against the state -/
def zfetch (z : zS) (x y k : Int32) : Value × zS := if isRow x then (if 0 ≤ y.toInt ∧ y.toInt ≤ 3 then (match zK z (4 * tn x + tn y) with
    | none => (.int (-2), z)
    | some (.inl q) => if isReg k then (.int (nI 0), zbecS z (tn k) q) else (.int (-1), z)
    | some (.inr q) => if isRow k then (.int (nI 1), zsW z (tn k) (some q)) else (.int (-1), z)) else (.int (-13), z)) else (.int (-1), z)
theorem jl2i (x : Int32) : x.toInt64.toInt32 = x := by simp
theorem r_fetch {h : List jC} (hh : 53 ≤ h.length) {s : Nat → Int32} {I : jIs} {L : jLss} {F : jFs} {z : zS} (hE : EncR s I L F z) (hz : zWF z) (x y k : Int32) : jCt jy_X12_fetch [.ref 20, .int x, .int y, .int k] (jR h s I L F) (zPost h (zfetch z x y k).1 (zfetch z x y k).2) := by
  obtain ⟨e1, e2, e3, e4, e5, e6, e7, e8, e9, e10⟩ := id hE
  generalize hΦ : zPost h (zfetch z x y k).1 (zfetch z x y k).2 = Φ
  have hsame : ∀ v, zfetch z x y k = (.int v, z) → Φ (some (.int v)) (jR h s I L F) := by
    intro v hv
    rw [← hΦ, hv]
    exact ⟨rfl, s, I, L, F, rfl, hE⟩
  refine jrun2 (js_X12_fetch _) rfl rfl rfl (fun G hG hW hB => ?_)
  have main : isRow x → 0 ≤ y.toInt ∧ y.toInt ≤ 3 → G 21 [some (.ref 20), some (.int x), some (.int y), some (.int k), none, none] [] (jR h s I L F) 0 0 := by
    intro c cy
    rw [zfetch, if_pos c, if_pos cy] at hΦ
    rw [zfetch, if_pos c, if_pos cy] at hsame
    have hx := tn_eq c.1
    have hy := tn_eq cy.1
    have hx3 : tn x < 3 := tn_lt c.1 (by have := c.2; omega)
    have hy4 : tn y < 4 := tn_lt cy.1 (by have := cy.2; omega)
    have hxp : nI 4 * x + y = nI (4 * tn x + tn y) := by rw [hx, hy, pk_mul, nI_add, tn_nI (by omega), tn_nI (by omega)]
    have hp12 : 4 * tn x + tn y < 12 := by omega
    generalize 4 * tn x + tn y = p at *
    obtain ⟨xp, exp⟩ : ∃ xp, xp = nI 4 * x + y := ⟨_, rfl⟩
    rw [← exp] at hxp
    have hk := eRck_at e6 hp12
    have hko := hz.2.2.2.1 p hp12
    match hzk : zK z p, hk, hko with
    | none, hk, hko =>
      rw [hzk] at hsame
      refine hG [21] 300 _ _ _ _ _ _ ?_
      conv => whnf
      rw [← exp]
      refine ⟨_, m_0 hh, ?_⟩
      conv => whnf
      refine ⟨_, _, _, m_18 hh, hxp, hp12, ?_⟩
      conv => whnf
      refine ⟨fun q => absurd hk q, fun _ => ?_⟩
      conv => whnf
      exact hsame _ rfl
    | some (.inl q), hk, hko =>
      rw [hzk] at hsame hΦ
      obtain ⟨k1, k2, k3⟩ := hk
      have hq6 : q.1 ≤ 6 := hko.1
      refine hG [21, 71] 300 _ _ _ _ _ _ ?_
      conv => whnf
      rw [← exp]
      refine ⟨_, m_0 hh, ?_⟩
      conv => whnf
      refine ⟨_, _, _, m_18 hh, hxp, hp12, ?_⟩
      conv => whnf
      refine ⟨fun _ => ?_, fun q => absurd (k1.symm.trans q) (by decide)⟩
      conv => whnf
      refine ⟨_, m_0 hh, ?_⟩
      conv => whnf
      refine ⟨_, _, _, m_18 hh, hxp, hp12, ?_⟩
      conv => whnf
      refine ⟨fun q => absurd k1 q, fun _ => ?_⟩
      conv => whnf
      refine jcall (c_X12_isRegister k _) ?_
      rintro r h' ⟨rfl, rfl⟩
      conv => whnf
      refine ⟨fun c4 => ?_, fun c4 => ?_⟩ <;> rw [jbi_0] at c4
      · conv => whnf
        exact hsame _ (if_neg c4)
      have c4 := Decidable.not_not.mp c4
      obtain ⟨hkr, hkr4⟩ := isReg_nI c4
      dsimp only at hΦ
      rw [if_pos c4] at hΦ
      have loop : ∀ u e, 32 = e + u → G 85 [some (.ref 20), some (.int x), some (.int y), some (.int k), some (.int xp), some (.int (nI e))] [] (jR h s I (va_up L 5 (jcpL (L 5) (fun c => L 20 (40 * p + c)) e)) F) 0 0 := by
        intro u
        induction u with
        | zero =>
          intro e he
          refine hG [85] 300 _ _ _ _ _ _ ?_
          conv => whnf
          refine ⟨fun qb => ?_, fun qb => ?_⟩ <;> rw [nI_leI (by omega) (by omega)] at qb
          case refine_2 => omega
          conv => whnf
          refine ⟨_, m_0 hh, ?_⟩
          conv => whnf
          refine ⟨_, _, _, m_19 hh, hxp, hp12, ?_⟩
          conv => whnf
          rw [show I 19 p = nI q.1 from k2]
          have hE2 : EncR s I (va_up L 5 (jcpL (L 5) (fun c => L 20 (40 * p + c)) e)) F z := hE
          have hc := c_becomes_z hh hE2 hz hkr4 (x := q) hq6 (fun c hc => by
            show jcpL (L 5) (fun c => L 20 (40 * p + c)) e c = q.2 c
            rw [jcpL_at, if_pos (by omega)]
            exact k3 c hc)
          rw [← hkr] at hc
          refine ⟨⟨_, m_0 hh⟩, jcall hc ?_⟩
          rintro r' h' ⟨rfl, s', I', L', rfl, hE3⟩
          conv => whnf
          rw [← hΦ]
          exact ⟨rfl, s', I', L', F, rfl, hE3⟩
        | succ u ih =>
          intro e he
          refine hG [85] 300 _ _ _ _ _ _ ?_
          conv => whnf
          refine ⟨fun qb => ?_, fun qb => ?_⟩ <;> rw [nI_leI (by omega) (by omega)] at qb
          · omega
          conv => whnf
          refine ⟨_, m_0 hh, ?_⟩
          conv => whnf
          refine ⟨_, m_0 hh, ?_⟩
          conv => whnf
          refine ⟨_, _, _, m_20 hh, (by rw [hxp, pk_mul, nI_add]), (show 40 * p + e < 480 by omega), ?_⟩
          conv => whnf
          refine ⟨_, _, _, m_5 hh, rfl, (show e < 32 by omega), ?_⟩
          conv => whnf
          rw [nI_add]
          erw [ms_5 (vp_updL (jcpL (L 5) (fun c => L 20 (40 * p + c)) e) e (L 20 (40 * p + e)))]
          rw [va_up_up]
          exact ih (e + 1) (by omega)
      refine hG [85] 300 _ _ _ _ _ _ ?_
      conv => whnf
      refine ⟨_, m_0 hh, ?_⟩
      conv => whnf
      refine ⟨_, _, _, m_18 hh, hxp, hp12, ?_⟩
      conv => whnf
      refine ⟨fun q => absurd k1 q, fun _ => ?_⟩
      conv => whnf
      have l0 := loop 32 0 (by omega)
      rw [show jcpL (L 5) (fun c => L 20 (40 * p + c)) 0 = L 5 from rfl, va_up_same] at l0
      exact l0
    | some (.inr q), hk, hko =>
      rw [hzk] at hsame hΦ
      obtain ⟨k1, k2, k3⟩ := hk
      have hq40 : q.1 ≤ 40 := hko
      have k1n : ¬ I 18 p = nI 1 := fun w => absurd (k1.symm.trans w) (by decide)
      refine hG [21, 71] 300 _ _ _ _ _ _ ?_
      conv => whnf
      rw [← exp]
      refine ⟨_, m_0 hh, ?_⟩
      conv => whnf
      refine ⟨_, _, _, m_18 hh, hxp, hp12, ?_⟩
      conv => whnf
      refine ⟨fun _ => ?_, fun q => absurd (k1.symm.trans q) (by decide)⟩
      conv => whnf
      refine ⟨_, m_0 hh, ?_⟩
      conv => whnf
      refine ⟨_, _, _, m_18 hh, hxp, hp12, ?_⟩
      conv => whnf
      refine ⟨fun _ => ?_, fun q => absurd q k1n⟩
      conv => whnf
      refine jcall (c_X12_isRow k _) ?_
      rintro r h' ⟨rfl, rfl⟩
      conv => whnf
      refine ⟨fun c4 => ?_, fun c4 => ?_⟩ <;> rw [jbi_0] at c4
      case refine_2 =>
        conv => whnf
        exact hsame _ (if_neg c4)
      have c4 := Decidable.not_not.mp c4
      have hkr := tn_eq c4.1
      have hkr3 : tn k < 3 := tn_lt c4.1 (by have := c4.2; omega)
      dsimp only at hΦ
      rw [if_pos c4] at hΦ
      generalize tn k = r at *
      have loop : ∀ t n : Nat → Int32, (∀ k, k < 3 → k ≠ r → t k = I 14 k ∧ n k = I 15 k) → eRow1 (t r) (n r) (fun c => (L 20 (40 * p + c)).toInt32) (some q) → ∀ u e, 40 = e + u → G 155 [some (.ref 20), some (.int x), some (.int y), some (.int k), some (.int xp), some (.int (nI e))] [] (jR h s (va_up (va_up (va_up I 14 t) 15 n) 16 (jpsI (I 16) (40 * r) (fun c => (L 20 (40 * p + c)).toInt32) e)) L F) 0 0 := by
        intro t n htn hv u
        induction u with
        | zero =>
          intro e he
          refine hG [155] 300 _ _ _ _ _ _ ?_
          conv => whnf
          refine ⟨fun qb => ?_, fun qb => ?_⟩ <;> rw [nI_leI (by omega) (by omega)] at qb
          case refine_2 => omega
          conv => whnf
          rw [← hΦ]
          refine ⟨rfl, s, _, L, F, rfl, ⟨e1, e2, e3, e4, e5, e6, ?_, e8, e9, e10⟩⟩
          refine e_rowup (t' := t) (n' := n) (a' := jpsI (I 16) (40 * r) (fun c => (L 20 (40 * p + c)).toInt32) e) e7 hz.2.2.2.2.1 hkr3 htn (fun j hj => ?_) (eRow1_c hv rfl rfl (fun v hv => by cases hv; exact hq40) (fun j hj => ?_))
          · unfold jpsI
            rw [if_neg (by omega)]
          · unfold jpsI
            rw [if_pos (by omega), show 40 * r + j - 40 * r = j by omega]
        | succ u ih =>
          intro e he
          refine hG [155] 300 _ _ _ _ _ _ ?_
          conv => whnf
          refine ⟨fun qb => ?_, fun qb => ?_⟩ <;> rw [nI_leI (by omega) (by omega)] at qb
          · omega
          conv => whnf
          refine ⟨_, m_0 hh, ?_⟩
          conv => whnf
          refine ⟨_, m_0 hh, ?_⟩
          conv => whnf
          refine ⟨_, _, _, m_20 hh, (by rw [hxp, pk_mul, nI_add]), (show 40 * p + e < 480 by omega), ?_⟩
          conv => whnf
          refine ⟨_, _, _, m_16 hh, (by rw [hkr, pk_mul, nI_add]), (show 40 * r + e < 120 by omega), ?_⟩
          conv => whnf
          rw [nI_add]
          erw [ms_16 (upd (jpsI (I 16) (40 * r) (fun c => (L 20 (40 * p + c)).toInt32) e) (40 * r + e) ((fun c => (L 20 (40 * p + c)).toInt32) e))]
          rw [va_up_up, jpsI_s]
          exact ih (e + 1) (by omega)
      refine hG [155] 300 _ _ _ _ _ _ ?_
      conv => whnf
      refine ⟨_, m_0 hh, ?_⟩
      conv => whnf
      refine ⟨_, _, _, m_18 hh, hxp, hp12, ?_⟩
      conv => whnf
      refine ⟨fun _ => ?_, fun q => absurd q k1n⟩
      conv => whnf
      refine ⟨_, m_0 hh, ?_⟩
      conv => whnf
      refine ⟨_, _, _, m_14 hh, hkr, hkr3, Or.inr rfl, ?_⟩
      conv => whnf
      erw [ms_14 (upd (I 14) r (nI 1))]
      refine ⟨_, m_0 hh, ?_⟩
      conv => whnf
      refine ⟨_, m_0 hh, ?_⟩
      conv => whnf
      refine ⟨_, _, _, m_19 hh, hxp, hp12, ?_⟩
      conv => whnf
      refine ⟨_, _, _, m_15 hh, hkr, hkr3, ?_⟩
      conv => whnf
      erw [ms_15 (upd (I 15) r (I 19 p))]
      have l0 := loop (upd (I 14) r (nI 1)) (upd (I 15) r (I 19 p)) (fun k _ hk => ⟨by unfold upd; rw [if_neg hk], by unfold upd; rw [if_neg hk]⟩) ⟨by unfold upd; rw [if_pos rfl], by unfold upd; rw [if_pos rfl]; exact k2, fun j hj => by
        show (L 20 (40 * p + j)).toInt32 = q.2 j
        exact (congrArg Int64.toInt32 (k3 j hj)).trans (jl2i _)⟩ 40 0 (by omega)
      rw [jpsI_0] at l0
      rw [show va_up (va_up (va_up I 14 (upd (I 14) r (nI 1))) 15 (upd (I 15) r (I 19 p))) 16 (I 16) = va_up (va_up I 14 (upd (I 14) r (nI 1))) 15 (upd (I 15) r (I 19 p)) from va_up_same (va_up (va_up I 14 (upd (I 14) r (nI 1))) 15 (upd (I 15) r (I 19 p))) 16] at l0
      exact l0
  refine hG [21] 300 _ _ _ _ _ _ ?_
  conv => whnf
  refine jcall (c_X12_isRack x _) ?_
  rintro r h' ⟨rfl, rfl⟩
  conv => whnf
  refine ⟨fun c1 => ?_, fun c1 => ?_⟩ <;> rw [jbi_0] at c1
  case refine_2 =>
    conv => whnf
    exact hsame _ (if_neg c1)
  have c1 := Decidable.not_not.mp c1
  conv => whnf
  refine jcall (c_X12_in y _ _ _) ?_
  rintro r h' ⟨rfl, rfl⟩
  conv => whnf
  refine ⟨fun c2 => ?_, fun c2 => ?_⟩ <;> rw [jbi_0, j0, j3] at c2
  case refine_2 =>
    conv => whnf
    exact hsame _ (by rw [zfetch, if_pos c1, if_neg c2])
  exact main c1 (Decidable.not_not.mp c2)
