/-! store, fetch of the reference against the state -/
theorem eRck_at {a n : Nat → Int32} {b : Nat → Int64} {K : Nat → Option zItm} (h : eRck a n b K) {p : Nat} (hp : p < 12) : eItm (a p) (n p) (fun c => b (40 * p + c)) (K p) := h p hp
theorem eItm_c {k n k2 n2 : Int32} {b b2 : Nat → Int64} {x : Option zItm} (h : eItm k n b x) (h1 : k2 = k) (h2 : n2 = n) (hx : zitmOk x) (h3 : ∀ c, c < 40 → b2 c = b c) : eItm k2 n2 b2 x := by
  match x, h, hx with
  | none, h, _ => exact h1.trans h
  | some (.inl q), h, _ => exact ⟨h1.trans h.1, h2.trans h.2.1, fun c hc => (h3 c (by omega)).trans (h.2.2 c hc)⟩
  | some (.inr q), h, hx =>
    have hq : q.1 ≤ 40 := hx
    exact ⟨h1.trans h.1, h2.trans h.2.1, fun c hc => (h3 c (by omega)).trans (h.2.2 c hc)⟩
theorem e_rckup {a n a' n' : Nat → Int32} {b b' : Nat → Int64} {K : Nat → Option zItm} (h : eRck a n b K) (hz : ∀ p, p < 12 → zitmOk (K p)) {p : Nat} (hp : p < 12) {v : Option zItm} (h1 : ∀ k, k < 12 → k ≠ p → a' k = a k ∧ n' k = n k) (h2 : ∀ j, (j < 40 * p ∨ 40 * p + 40 ≤ j) → b' j = b j) (h3 : eItm (a' p) (n' p) (fun c => b' (40 * p + c)) v) : eRck a' n' b' (va_up K p v) := by
  intro k hk
  by_cases hkp : k = p
  · subst hkp
    rw [va_up, if_pos rfl]
    exact h3
  · rw [va_up, if_neg hkp]
    exact eItm_c (eRck_at h hk) (h1 k hk hkp).1 (h1 k hk hkp).2 (hz k hk) (fun j hj => h2 _ (by omega))
abbrev zsK (z : zS) (p : Nat) (v : Option zItm) : zS := (zR z, zT z, zO z, zC z, va_up (zK z) p v, zW z, zP z, zX z, zI z)
abbrev stOk (x kd k : Int32) : Prop := isRow x ∧ ((kd = nI 0 ∧ isReg k) ∨ (kd = nI 1 ∧ isRow k))
def zstore (z : zS) (x y kd k : Int32) : Value × zS := if stOk x kd k then
    (if kd = nI 1 ∧ (zW z (tn k)).isNone = true then (.int (-11), z) else if 0 ≤ y.toInt ∧ y.toInt ≤ 3 then
      (if x.toInt < 2 ∧ ¬ x = kd then (.int (-16), z) else (.int (nI 1), zsK z (4 * tn x + tn y) (if kd = nI 0 then some (.inl (zR z (tn k))) else (zW z (tn k)).map .inr)))
     else (.int (-13), z))
  else (.int (-1), z)
theorem r_store {h : List jC} (hh : 53 ≤ h.length) {s : Nat → Int32} {I : jIs} {L : jLss} {F : jFs} {z : zS} (hE : EncR s I L F z) (hz : zWF z) (x y kd k : Int32) : jCt jy_X12_store [.ref 20, .int x, .int y, .int kd, .int k] (jR h s I L F) (zPost h (zstore z x y kd k).1 (zstore z x y kd k).2) := by
  obtain ⟨e1, e2, e3, e4, e5, e6, e7, e8, e9, e10⟩ := id hE
  generalize hΦ : zPost h (zstore z x y kd k).1 (zstore z x y kd k).2 = Φ
  have hsame : ∀ v, zstore z x y kd k = (.int v, z) → Φ (some (.int v)) (jR h s I L F) := by
    intro v hv
    rw [← hΦ, hv]
    exact ⟨rfl, s, I, L, F, rfl, hE⟩
  have hbad : ¬ stOk x kd k → Φ (some (.int (-1))) (jR h s I L F) := fun q => hsame _ (if_neg q)
  refine jrun2 (js_X12_store _) rfl rfl rfl (fun G hG hW hB => ?_)
  have fin : stOk x kd k → 0 ≤ y.toInt ∧ y.toInt ≤ 3 → ¬ (x.toInt < 2 ∧ ¬ x = kd) → ¬ (kd = nI 1 ∧ (zW z (tn k)).isNone = true) → G 84 [some (.ref 20), some (.int x), some (.int y), some (.int kd), some (.int k), none, none] [] (jR h s I L F) 0 0 := by
    intro c cy cx cn
    have hsp : zstore z x y kd k = (.int (nI 1), zsK z (4 * tn x + tn y) (if kd = nI 0 then some (.inl (zR z (tn k))) else (zW z (tn k)).map .inr)) := by
      rw [zstore, if_pos c, if_neg cn, if_pos cy, if_neg cx]
    rw [hsp] at hΦ
    have hx := tn_eq c.1.1
    have hy := tn_eq cy.1
    have hx3 : tn x < 3 := tn_lt c.1.1 (by have := c.1.2; omega)
    have hy4 : tn y < 4 := tn_lt cy.1 (by have := cy.2; omega)
    have hxp : nI 4 * x + y = nI (4 * tn x + tn y) := by rw [hx, hy, pk_mul, nI_add, tn_nI (by omega), tn_nI (by omega)]
    have hp12 : 4 * tn x + tn y < 12 := by omega
    generalize 4 * tn x + tn y = p at *
    obtain ⟨xp, exp⟩ : ∃ xp, xp = nI 4 * x + y := ⟨_, rfl⟩
    rw [← exp] at hxp
    have post : ∀ (a n : Nat → Int32) (g : Nat → Int64), (∀ k, k < 12 → k ≠ p → a k = I 18 k ∧ n k = I 19 k) → eItm (a p) (n p) g (if kd = nI 0 then some (.inl (zR z (tn k))) else (zW z (tn k)).map .inr) → Φ (some (.int (nI 1))) (jR h s (va_up (va_up I 18 a) 19 n) (va_up L 20 (jpst (L 20) (40 * p) g 40)) F) := by
      intro a n g han hv
      rw [← hΦ]
      refine ⟨rfl, s, _, _, F, rfl, ⟨e1, e2, e3, e4, e5, ?_, e7, e8, e9, e10⟩⟩
      refine e_rckup (a' := a) (n' := n) (b' := jpst (L 20) (40 * p) g 40) e6 hz.2.2.2.1 hp12 han (fun j hj => ?_) (eItm_c hv rfl rfl ?_ (fun j hj => ?_))
      · unfold jpst
        rw [if_neg (by omega)]
      · split
        · rcases c.2 with q | q
          · exact hz.1 (tn k) (isReg_nI q.2).2
          · exact absurd (q.1.symm.trans (by assumption)) (by decide)
        · have hkr : isRow k := by
            rcases c.2 with q | q
            · exact absurd q.1 (by assumption)
            · exact q.2
          have := hz.2.2.2.2.1 (tn k) (tn_lt hkr.1 (by have := hkr.2; omega))
          cases hzw : zW z (tn k) with
          | none => exact trivial
          | some v => exact this v hzw
      · unfold jpst
        rw [if_pos (by omega)]
        congr 1
        omega
    rcases c.2 with ⟨ck, cr⟩ | ⟨ck, cr⟩
    · subst ck
      obtain ⟨hk, hk4⟩ := isReg_nI cr
      rw [if_pos rfl] at post
      generalize tn k = r at *
      have hR := e2 r hk4
      have loop : ∀ (a n : Nat → Int32) (g : Nat → Int64), (∀ c, c < 32 → g c = L 4 (32 * r + c)) → (∀ c, 32 ≤ c → g c = 0) → (∀ k, k < 12 → k ≠ p → a k = I 18 k ∧ n k = I 19 k) → eItm (a p) (n p) g (some (.inl (zR z r))) → ∀ u e, 40 = e + u → G 132 [some (.ref 20), some (.int x), some (.int y), some (.int (nI 0)), some (.int k), some (.int xp), some (.int (nI e))] [] (jR h s (va_up (va_up I 18 a) 19 n) (va_up L 20 (jpst (L 20) (40 * p) g e)) F) 0 0 := by
        intro a n g hg1 hg2 han hv u
        induction u with
        | zero =>
          intro e he
          refine hG [132] 300 _ _ _ _ _ _ ?_
          conv => whnf
          refine ⟨fun qb => ?_, fun qb => ?_⟩ <;> rw [nI_leI (by omega) (by omega)] at qb
          case refine_2 => omega
          conv => whnf
          rw [show e = 40 by omega]
          exact post a n g han hv
        | succ u ih =>
          intro e he
          have i1 := ih (e + 1) (by omega)
          refine hG [132] 300 _ _ _ _ _ _ ?_
          conv => whnf
          refine ⟨fun qb => ?_, fun qb => ?_⟩ <;> rw [nI_leI (by omega) (by omega)] at qb
          · omega
          conv => whnf
          refine ⟨_, m_0 hh, ?_⟩
          conv => whnf
          refine ⟨fun _ => ?_, fun q => absurd q (by decide)⟩
          conv => whnf
          refine ⟨fun qb => ?_, fun qb => ?_⟩ <;> rw [nI_leI (by omega) (by omega)] at qb
          · conv => whnf
            refine ⟨_, _, _, m_20 hh, (by rw [hxp, pk_mul, nI_add]), (show 40 * p + e < 480 by omega), ?_⟩
            conv => whnf
            rw [nI_add]
            erw [ms_20 (vp_updL (jpst (L 20) (40 * p) g e) (40 * p + e) 0)]
            rw [va_up_up, ← hg2 e qb, jpst_s]
            exact i1
          · conv => whnf
            refine ⟨_, m_0 hh, ?_⟩
            conv => whnf
            refine ⟨_, _, _, m_4 hh, (by rw [hk, pk_mul, nI_add]), (show 32 * r + e < 128 by omega), ?_⟩
            conv => whnf
            refine ⟨_, _, _, m_20 hh, (by rw [hxp, pk_mul, nI_add]), (show 40 * p + e < 480 by omega), ?_⟩
            conv => whnf
            rw [nI_add]
            erw [ms_20 (vp_updL (jpst (L 20) (40 * p) g e) (40 * p + e) (L 4 (32 * r + e)))]
            rw [va_up_up, ← hg1 e (by omega), jpst_s]
            exact i1
      refine hG [132] 300 _ _ _ _ _ _ ?_
      conv => whnf
      rw [← exp]
      refine ⟨_, m_0 hh, ?_⟩
      conv => whnf
      refine ⟨_, _, _, m_18 hh, hxp, hp12, ?_⟩
      conv => whnf
      erw [ms_18 (upd (I 18) p (nI 0 + nI 1))]
      refine ⟨_, m_0 hh, ?_⟩
      conv => whnf
      refine ⟨fun q => absurd rfl q, fun _ => ?_⟩
      conv => whnf
      refine ⟨_, m_0 hh, ?_⟩
      conv => whnf
      refine ⟨_, _, _, m_3 hh, hk, hk4, ?_⟩
      conv => whnf
      refine ⟨_, _, _, m_19 hh, hxp, hp12, ?_⟩
      conv => whnf
      erw [ms_19 (upd (I 19) p (I 3 r))]
      have l0 := loop (upd (I 18) p (nI 0 + nI 1)) (upd (I 19) p (I 3 r)) (fun c => if c < 32 then L 4 (32 * r + c) else 0) (fun c hc => by rw [if_pos hc]) (fun c hc => by rw [if_neg (by omega)]) (fun k _ hk => ⟨by unfold upd; rw [if_neg hk], by unfold upd; rw [if_neg hk]⟩) ⟨by unfold upd; rw [if_pos rfl]; rfl, by unfold upd; rw [if_pos rfl]; exact hR.1, fun c hc => by dsimp only; rw [if_pos hc]; exact hR.2 c hc⟩ 40 0 (by omega)
      rw [jpst_0, va_up_same] at l0
      exact l0
    · subst ck
      have hk := tn_eq cr.1
      have hk3 : tn k < 3 := tn_lt cr.1 (by have := cr.2; omega)
      rw [if_neg (by decide)] at post
      generalize tn k = r at *
      have hR := eRow_at e7 hk3
      obtain ⟨q, hq⟩ : ∃ q, zW z r = some q := by
        cases hzw : zW z r with
        | none => exact absurd ⟨rfl, by rw [hzw]; rfl⟩ cn
        | some q => exact ⟨q, rfl⟩
      have hq40 := hz.2.2.2.2.1 r hk3 q hq
      rw [hq] at hR post
      have loop : ∀ (a n : Nat → Int32), (∀ k, k < 12 → k ≠ p → a k = I 18 k ∧ n k = I 19 k) → eItm (a p) (n p) (fun c => (I 16 (40 * r + c)).toInt64) (some (.inr q)) → ∀ u e, 40 = e + u → G 132 [some (.ref 20), some (.int x), some (.int y), some (.int (nI 1)), some (.int k), some (.int xp), some (.int (nI e))] [] (jR h s (va_up (va_up I 18 a) 19 n) (va_up L 20 (jpst (L 20) (40 * p) (fun c => (I 16 (40 * r + c)).toInt64) e)) F) 0 0 := by
        intro a n han hv u
        induction u with
        | zero =>
          intro e he
          refine hG [132] 300 _ _ _ _ _ _ ?_
          conv => whnf
          refine ⟨fun qb => ?_, fun qb => ?_⟩ <;> rw [nI_leI (by omega) (by omega)] at qb
          case refine_2 => omega
          conv => whnf
          rw [show e = 40 by omega]
          exact post a n _ han hv
        | succ u ih =>
          intro e he
          have i1 := ih (e + 1) (by omega)
          refine hG [132] 300 _ _ _ _ _ _ ?_
          conv => whnf
          refine ⟨fun qb => ?_, fun qb => ?_⟩ <;> rw [nI_leI (by omega) (by omega)] at qb
          · omega
          conv => whnf
          refine ⟨_, m_0 hh, ?_⟩
          conv => whnf
          refine ⟨fun q => absurd rfl q, fun _ => ?_⟩
          conv => whnf
          refine ⟨_, m_0 hh, ?_⟩
          conv => whnf
          refine ⟨_, _, _, m_16 hh, (by rw [hk, pk_mul, nI_add]), (show 40 * r + e < 120 by omega), ?_⟩
          conv => whnf
          refine ⟨_, _, _, m_20 hh, (by rw [hxp, pk_mul, nI_add]), (show 40 * p + e < 480 by omega), ?_⟩
          conv => whnf
          rw [nI_add]
          erw [ms_20 (vp_updL (jpst (L 20) (40 * p) (fun c => (I 16 (40 * r + c)).toInt64) e) (40 * p + e) ((fun c => (I 16 (40 * r + c)).toInt64) e))]
          rw [va_up_up, jpst_s]
          exact i1
      refine hG [132] 300 _ _ _ _ _ _ ?_
      conv => whnf
      rw [← exp]
      refine ⟨_, m_0 hh, ?_⟩
      conv => whnf
      refine ⟨_, _, _, m_18 hh, hxp, hp12, ?_⟩
      conv => whnf
      erw [ms_18 (upd (I 18) p (nI 1 + nI 1))]
      refine ⟨_, m_0 hh, ?_⟩
      conv => whnf
      refine ⟨fun _ => ?_, fun q => absurd q (by decide)⟩
      conv => whnf
      refine ⟨_, m_0 hh, ?_⟩
      conv => whnf
      refine ⟨_, _, _, m_15 hh, hk, hk3, ?_⟩
      conv => whnf
      refine ⟨_, _, _, m_19 hh, hxp, hp12, ?_⟩
      conv => whnf
      erw [ms_19 (upd (I 19) p (I 15 r))]
      have l0 := loop (upd (I 18) p (nI 1 + nI 1)) (upd (I 19) p (I 15 r)) (fun k _ hk => ⟨by unfold upd; rw [if_neg hk], by unfold upd; rw [if_neg hk]⟩) ⟨by unfold upd; rw [if_pos rfl]; rfl, by unfold upd; rw [if_pos rfl]; exact hR.2.1, fun c hc => congrArg Int32.toInt64 (hR.2.2 c hc)⟩ 40 0 (by omega)
      rw [jpst_0, va_up_same] at l0
      exact l0
  have mid : stOk x kd k → G 41 [some (.ref 20), some (.int x), some (.int y), some (.int kd), some (.int k), none, none] [] (jR h s I L F) 0 0 := by
    intro c
    have after : ¬ (kd = nI 1 ∧ (zW z (tn k)).isNone = true) → G 59 [some (.ref 20), some (.int x), some (.int y), some (.int kd), some (.int k), none, none] [] (jR h s I L F) 0 0 := by
      intro cn
      refine hG [59, 84] 300 _ _ _ _ _ _ ?_
      conv => whnf
      refine jcall (c_X12_in y _ _ _) ?_
      rintro r h' ⟨rfl, rfl⟩
      conv => whnf
      refine ⟨fun c2 => ?_, fun c2 => ?_⟩ <;> rw [jbi_0, j0, j3] at c2
      case refine_2 =>
        conv => whnf
        exact hsame _ (by rw [zstore, if_pos c, if_neg cn, if_neg c2])
      have c2 := Decidable.not_not.mp c2
      conv => whnf
      refine ⟨fun c3 => ?_, fun c3 => ?_⟩ <;> rw [jleI, j2] at c3
      · exact fin c c2 (fun q => by omega) cn
      conv => whnf
      refine ⟨fun c4 => ?_, fun c4 => ?_⟩
      · exact fin c c2 (fun q => q.2 c4) cn
      · conv => whnf
        exact hsame _ (by rw [zstore, if_pos c, if_neg cn, if_pos c2, if_pos ⟨by omega, c4⟩])
    refine hG [41, 59] 300 _ _ _ _ _ _ ?_
    conv => whnf
    rcases c.2 with ⟨ck, cr⟩ | ⟨ck, cr⟩
    · refine ⟨fun _ => after (fun q => absurd (ck.symm.trans q.1) (by decide)), fun q => absurd (ck.symm.trans q) (by decide)⟩
    · refine ⟨fun q => absurd ck q, fun _ => ?_⟩
      have hk := tn_eq cr.1
      have hk3 : tn k < 3 := tn_lt cr.1 (by have := cr.2; omega)
      have hR := eRow_at e7 hk3
      conv => whnf
      refine ⟨_, m_0 hh, ?_⟩
      conv => whnf
      refine ⟨_, _, _, m_14 hh, hk, hk3, ?_⟩
      conv => whnf
      cases hzw : zW z (tn k) with
      | none =>
        rw [hzw] at hR
        refine ⟨fun q => absurd hR q, fun _ => ?_⟩
        conv => whnf
        exact hsame _ (by rw [zstore, if_pos c, if_pos ⟨ck, by rw [hzw]; rfl⟩])
      | some v =>
        rw [hzw] at hR
        refine ⟨fun _ => after (fun q => by rw [hzw] at q; cases q.2), fun q => absurd (hR.1.symm.trans q) (by decide)⟩
  refine hG [41] 300 _ _ _ _ _ _ ?_
  conv => whnf
  refine jcall (c_X12_isRack x _) ?_
  rintro r h' ⟨rfl, rfl⟩
  conv => whnf
  refine ⟨fun c1 => ?_, fun c1 => ?_⟩ <;> rw [jbi_0] at c1
  · conv => whnf
    exact hbad (fun q => c1 q.1)
  have c1 := Decidable.not_not.mp c1
  conv => whnf
  refine jcall (c_X12_in kd _ _ _) ?_
  rintro r h' ⟨rfl, rfl⟩
  conv => whnf
  refine ⟨fun c2 => ?_, fun c2 => ?_⟩ <;> rw [jbi_0, j0, j1] at c2
  · conv => whnf
    refine hbad (fun q => c2 ?_)
    rcases q.2 with q | q
    · rw [q.1, j0]; omega
    · rw [q.1, j1]; omega
  have c2 := Decidable.not_not.mp c2
  conv => whnf
  refine ⟨fun c3 => ?_, fun c3 => ?_⟩
  · have ck : kd = nI 1 := by
      have h0 : ¬ kd.toInt = 0 := fun q => c3 ((jeq _ _).mpr (by rw [q, j0]))
      exact (jeq _ _).mpr (by rw [j1]; omega)
    conv => whnf
    refine jcall (c_X12_isRow k _) ?_
    rintro r h' ⟨rfl, rfl⟩
    conv => whnf
    refine ⟨fun c4 => ?_, fun c4 => ?_⟩ <;> rw [jbi_0] at c4
    · exact mid ⟨c1, Or.inr ⟨ck, Decidable.not_not.mp c4⟩⟩
    · conv => whnf
      refine hbad (fun q => ?_)
      rcases q.2 with q | q
      · exact c3 q.1
      · exact c4 q.2
  · conv => whnf
    refine jcall (c_X12_isRegister k _) ?_
    rintro r h' ⟨rfl, rfl⟩
    conv => whnf
    refine ⟨fun c4 => ?_, fun c4 => ?_⟩ <;> rw [jbi_0] at c4
    · conv => whnf
      refine hbad (fun q => ?_)
      rcases q.2 with q | q
      · exact c4 q.2
      · exact absurd (c3.symm.trans q.1) (by decide)
    · exact mid ⟨c1, Or.inl ⟨c3, Decidable.not_not.mp c4⟩⟩
