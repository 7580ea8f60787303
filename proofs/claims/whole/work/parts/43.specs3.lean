/-! more orders of the reference: fundamental, inF, feed, wipe, why, holds, lay, get, order, isBelow -/
theorem e_over {s : Nat → Int32} {I : jIs} {L : jLss} {F : jFs} {z : zS} (hE : EncR s I L F z) {q : jLs} (hq : q.1 = true) : EncR (rS (upd s 0 (nI 0)) q) (rI I q) L F (zset z [(nI 4, q.2)]) := by
  obtain ⟨e1, e2, e3, e4, e5, e6, e7, e8, e9, e10⟩ := hE
  have h1 : rS (upd s 0 (nI 0)) q = upd (upd (upd s 0 (nI 0)) 0 (nI 1)) 1 (nI 1) := if_pos hq
  have h2 : rI I q = va_up (va_up I 1 (upd (I 1) 0 (nI 4))) 2 (upd (I 2) 0 q.2) := if_pos hq
  rw [h1, h2]
  refine ⟨⟨Or.inr rfl, e1.2⟩, e2, e3, e4, e5, e6, e7, e8, ⟨rfl, fun i p hi => ?_⟩, e10⟩
  match i, hi with
  | 0, hi => cases hi; exact ⟨rfl, rfl⟩
  | i + 1, hi => simp [zset, zX] at hi
theorem e_no {s : Nat → Int32} {I : jIs} {L : jLss} {F : jFs} {z : zS} (hE : EncR s I L F z) {q : jLs} (hq : ¬ q.1 = true) : EncR (rS (upd s 0 (nI 0)) q) (rI I q) L F z := by
  obtain ⟨e1, e2, e3, e4, e5, e6, e7, e8, e9, e10⟩ := hE
  have h1 : rS (upd s 0 (nI 0)) q = upd s 0 (nI 0) := if_neg hq
  have h2 : rI I q = I := if_neg hq
  rw [h1, h2]
  exact ⟨⟨Or.inl rfl, e1.2⟩, e2, e3, e4, e5, e6, e7, e8, e9, e10⟩
theorem jfin_c {f g : Nat → Int64} (q : jLs) (c : Nat) (v : Int64) (hfg : ∀ c, c < 32 → f c = g c) : ∀ e, e ≤ 32 → (jfin c v (f, q) e).2 = (jfin c v (g, q) e).2 ∧ ∀ c2, c2 < 32 → (jfin c v (f, q) e).1 c2 = (jfin c v (g, q) e).1 c2
  | 0, _ => ⟨rfl, hfg⟩
  | e + 1, h => by
    obtain ⟨h1, h2⟩ := jfin_c q c v hfg e (by omega)
    simp only [jfin]
    split
    · refine ⟨?_, fun c2 hc2 => ?_⟩
      · simp only [jcm]; rw [h1, h2 e (by omega)]
      · simp only [jcm, vp_updL]
        split
        · rw [h2 e (by omega)]
        · exact h2 c2 hc2
    · exact ⟨h1, h2⟩
theorem rSf (s : Nat → Int32) (i : Int32) : rS s (false, i) = s := if_neg (by simp)
theorem rIf (I : jIs) (i : Int32) : rI I (false, i) = I := if_neg (by simp)
theorem r_fundamental {h : List jC} (hh : 53 ≤ h.length) {s : Nat → Int32} {I : jIs} {L : jLss} {F : jFs} {z : zS} (hE : EncR s I L F z) (hz : zWF z) (x y : Int32) (v : Int64) : jCt jy_X12_fundamental [.ref 20, .int x, .int y, .long v] (jR h s I L F) (zPost h (zfund z x y v).1 (zfund z x y v).2) := by
  have hbad : ¬ isNum z x y → zPost h (zfund z x y v).1 (zfund z x y v).2 (some (.int (-1))) (jR h s I L F) := by
    intro hn
    rw [zfund, if_neg hn]
    exact ⟨rfl, s, I, L, F, rfl, hE⟩
  refine jrun2 (js_X12_fundamental _) rfl rfl rfl (fun G hG hW hB => ?_)
  refine hG [] 300 _ _ _ _ _ _ ?_
  conv => whnf
  refine jcall (c_X12_isRegister x _) ?_
  rintro r h' ⟨rfl, rfl⟩
  conv => whnf
  refine ⟨fun c => ?_, fun c => ?_⟩ <;> rw [jbi_0] at c
  · conv => whnf
    exact hbad (fun q => c q.1)
  have c := Decidable.not_not.mp c
  obtain ⟨hx, hx4⟩ := isReg_nI c
  have hw := (hE.2.1 (tn x) hx4).1
  have hw6 := (hz.1 (tn x) hx4).1
  have hm := jmany_le hw6
  conv => whnf
  rw [hx]
  refine ⟨⟨_, m_0 hh⟩, jcall (c_X12_isOf hh s I L F hx4 hw6 hw y) ?_⟩
  rintro r h' ⟨rfl, rfl⟩
  conv => whnf
  refine ⟨fun c2 => ?_, fun c2 => ?_⟩ <;> rw [jbi_0] at c2
  · have c2 := Decidable.not_not.mp c2
    have hy := tn_eq c2.1
    have hyl : tn y < jmany (zR z (tn x)).1 := tn_lt c2.1 c2.2
    have hsp := show zfund z x y v = _ from if_pos ⟨c, c2⟩
    have hx' := hx
    rw [← hx', hsp]
    clear hbad hx' hsp
    generalize tn x = r at *
    generalize tn y = n at *
    subst hx
    subst hy
    conv => whnf
    refine ⟨⟨_, m_0 hh⟩, jcall (c_X12_takes hh s I L F hx4) ?_⟩
    rintro r h' ⟨rfl, rfl⟩
    conv => whnf
    refine ⟨Or.inl rfl, _, m_0 hh, ?_⟩
    conv => whnf
    erw [ms_0 (upd s 0 (nI 0))]
    refine ⟨_, m_0 hh, ?_⟩
    conv => whnf
    refine ⟨_, _, _, m_3 hh, rfl, hx4, ?_⟩
    conv => whnf
    rw [hw]
    have hs0 : upd s 0 (nI 0) 0 = nI 0 := rfl
    have ha := c_X12_addsF hh hs0 I (va_up L 5 (jcpL (L 5) (fun c => L 4 (32 * r + c)) 32)) F (false, nI 0) hw6 n v
    rw [rSf, rIf] at ha
    have e5 : va_up L 5 (jcpL (L 5) (fun c => L 4 (32 * r + c)) 32) 5 = jcpL (L 5) (fun c => L 4 (32 * r + c)) 32 := va_up_self _ _ _
    obtain ⟨g1, g2⟩ := jfin_c (false, nI 0) n v (fun c hc => zmade hE.2.1 hx4 c hc) (jmany (zR z r).1) (by omega)
    rw [e5, g1] at ha
    generalize hq : jfin n v ((zR z r).2, false, nI 0) (jmany (zR z r).1) = q at *
    generalize hf : (jfin n v (jcpL (L 5) (fun c => L 4 (32 * r + c)) 32, false, nI 0) (jmany (zR z r).1)).1 = f at *
    rw [va_up_up] at ha
    refine ⟨⟨_, m_0 hh⟩, jcall (ha) ?_⟩
    rintro r h' ⟨rfl, rfl⟩
    conv => whnf
    refine ⟨_, m_0 hh, ?_⟩
    conv => whnf
    rw [rS0 hs0]
    refine ⟨fun c3 => ?_, fun c3 => ?_⟩ <;> rw [jbi_0] at c3
    · conv => whnf
      have hEn := e_no (L := va_up L 5 f) hE c3
      refine ⟨_, m_0 hh, ?_⟩
      conv => whnf
      refine ⟨_, _, _, m_3 hh, rfl, hx4, ?_⟩
      conv => whnf
      rw [rI_ne I q.2 (k := 3) (by decide) (by decide), hw]
      have hc := c_becomes_z hh hEn hz hx4 (x := ((zR z r).1, q.1)) hw6 (fun c hc => by
        show f c = q.1 c
        exact g2 c hc)
      refine ⟨⟨_, m_0 hh⟩, jcall hc ?_⟩
      rintro r' h' ⟨rfl, s', I', L', rfl, hE3⟩
      conv => whnf
      dsimp only
      rw [if_neg c3]
      exact ⟨rfl, s', I', L', F, rfl, hE3⟩
    · have c3 := Decidable.not_not.mp c3
      conv => whnf
      dsimp only
      rw [if_pos c3]
      exact ⟨rfl, _, _, _, F, rfl, e_over (L := va_up L 5 f) hE c3⟩
  · rw [← hx]
    conv => whnf
    exact hbad (fun q => c2 q.2)
def zfeed (z : zS) (x : Int32) : Value × zS := if 32 ≤ x.toInt ∧ x.toInt ≤ 126 then (if (zP z).1 = 80 then (.int (-3), z) else (.int (nI ((zP z).1 + 1)), (zR z, zT z, zO z, zC z, zK z, zW z, ((zP z).1 + 1, fun j => if j = (zP z).1 then tn x else (zP z).2 j), zX z, zI z))) else (.int (-1), z)
theorem r_feed {h : List jC} (hh : 53 ≤ h.length) {s : Nat → Int32} {I : jIs} {L : jLss} {F : jFs} {z : zS} (hE : EncR s I L F z) (hz : zWF z) (x : Int32) : jCt jy_X12_feed [.ref 20, .int x] (jR h s I L F) (zPost h (zfeed z x).1 (zfeed z x).2) := by
  obtain ⟨e1, e2, e3, e4, e5, e6, e7, e8, e9, e10⟩ := id hE
  have hl := hz.2.2.2.2.2.1.1
  refine jrun2 (js_X12_feed _) rfl rfl rfl (fun G hG hW hB => ?_)
  refine hG [] 300 _ _ _ _ _ _ ?_
  conv => whnf
  refine jcall (c_X12_in x _ _ _) ?_
  rintro r h' ⟨rfl, rfl⟩
  conv => whnf
  rw [show (nI 32).toInt = 32 by decide, show (nI 126).toInt = 126 by decide]
  refine ⟨fun c => ?_, fun c => ?_⟩ <;> rw [jbi_0] at c
  · have c := Decidable.not_not.mp c
    have hx := tn_eq (show 0 ≤ x.toInt by omega)
    rw [zfeed, if_pos c] at hG ⊢
    generalize tn x = n at *
    subst hx
    conv => whnf
    refine ⟨_, m_0 hh, ?_⟩
    conv => whnf
    rw [e8.1]
    refine ⟨fun qb => ?_, fun qb => ?_⟩ <;> rw [nI_eq (by omega) (by omega)] at qb
    · conv => whnf
      rw [if_neg qb]
      refine ⟨_, m_0 hh, ?_⟩
      conv => whnf
      refine ⟨_, m_0 hh, ?_⟩
      conv => whnf
      refine ⟨_, _, _, m_21 hh, e8.1, (show (zP z).1 < 80 by omega), ?_⟩
      conv => whnf
      erw [ms_21 (upd (I 21) (zP z).1 (nI n))]
      refine ⟨_, m_0 hh, ?_⟩
      conv => whnf
      refine ⟨trivial, _, m_0 hh, ?_⟩
      conv => whnf
      erw [ms_0 (upd s 5 (s 5 + nI 1))]
      refine ⟨_, m_0 hh, ?_⟩
      conv => whnf
      have hs5 : s 5 + nI 1 = nI ((zP z).1 + 1) := by rw [e8.1, nI_add]
      refine ⟨?_, _, _, _, F, rfl, ⟨e1, e2, e3, e4, e5, e6, e7, ⟨hs5, fun j hj => ?_⟩, e9, e10⟩⟩
      · show some (Value.int (s 5 + nI 1)) = _
        rw [hs5]
      · show upd (I 21) (zP z).1 (nI n) j = nI (if j = (zP z).1 then n else (zP z).2 j)
        unfold upd
        by_cases hjz : j = (zP z).1
        · rw [if_pos hjz, if_pos hjz]
        · rw [if_neg hjz, if_neg hjz]
          exact e8.2 j (by have : j < (zP z).1 + 1 := hj; omega)
    · conv => whnf
      rw [if_pos qb]
      exact ⟨rfl, s, I, L, F, rfl, hE⟩
  · conv => whnf
    rw [zfeed, if_neg c]
    exact ⟨rfl, s, I, L, F, rfl, hE⟩
def zwipe (z : zS) : Value × zS := (.int (nI (zP z).1), (zR z, zT z, zO z, zC z, zK z, zW z, (0, (zP z).2), zX z, zI z))
theorem r_wipe {h : List jC} (hh : 53 ≤ h.length) {s : Nat → Int32} {I : jIs} {L : jLss} {F : jFs} {z : zS} (hE : EncR s I L F z) : jCt jy_X12_wipe [.ref 20] (jR h s I L F) (zPost h (zwipe z).1 (zwipe z).2) := by
  obtain ⟨e1, e2, e3, e4, e5, e6, e7, e8, e9, e10⟩ := id hE
  refine jrun2 (js_X12_wipe _) rfl rfl rfl (fun G hG hW hB => ?_)
  refine hG [] 300 _ _ _ _ _ _ ?_
  conv => whnf
  refine ⟨_, m_0 hh, ?_⟩
  conv => whnf
  refine ⟨trivial, _, m_0 hh, ?_⟩
  conv => whnf
  erw [ms_0 (upd s 5 (nI 0))]
  refine ⟨?_, _, _, _, F, rfl, ⟨e1, e2, e3, e4, e5, e6, e7, ⟨rfl, fun j hj => absurd hj (Nat.not_lt_zero j)⟩, e9, e10⟩⟩
  rw [e8.1]
  rfl
def zwhy (z : zS) (x y : Int32) : Value := if 0 ≤ x.toInt ∧ 0 ≤ y.toInt ∧ y.toInt ≤ 1 then (match (zX z)[tn x]? with
    | none => .int (-2)
    | some q => if tn y = 0 then .int q.1 else .int q.2) else .int (-1)
theorem r_why {h : List jC} (hh : 53 ≤ h.length) {s : Nat → Int32} {I : jIs} {L : jLss} {F : jFs} {z : zS} (hE : EncR s I L F z) (hz : zWF z) (x y : Int32) : jCt jy_X12_why [.ref 20, .int x, .int y] (jR h s I L F) (zPost h (zwhy z x y) z) := by
  obtain ⟨e1, e2, e3, e4, e5, e6, e7, e8, e9, e10⟩ := id hE
  have hl := hz.2.2.2.2.2.2.1
  have hbad : ¬ (0 ≤ x.toInt ∧ 0 ≤ y.toInt ∧ y.toInt ≤ 1) → zPost h (zwhy z x y) z (some (.int (-1))) (jR h s I L F) := by
    intro hn
    rw [zwhy, if_neg hn]
    exact ⟨rfl, s, I, L, F, rfl, hE⟩
  refine jrun2 (js_X12_why _) rfl rfl rfl (fun G hG hW hB => ?_)
  refine hG [] 300 _ _ _ _ _ _ ?_
  conv => whnf
  refine ⟨fun c => ?_, fun c => ?_⟩ <;> rw [jlt, j0] at c
  · conv => whnf
    exact hbad (fun q => by omega)
  conv => whnf
  refine jcall (c_X12_in y _ _ _) ?_
  rintro r h' ⟨rfl, rfl⟩
  conv => whnf
  rw [j0, show (nI 1).toInt = 1 by decide]
  refine ⟨fun c2 => ?_, fun c2 => ?_⟩ <;> rw [jbi_0] at c2
  · have c2 := Decidable.not_not.mp c2
    have hx := tn_eq (show 0 ≤ x.toInt by omega)
    have hy := tn_eq c2.1
    have hy2 : tn y < 2 := tn_lt c2.1 (by have := c2.2; omega)
    rw [zwhy, if_pos ⟨by omega, c2⟩] at hG ⊢
    have hxl : tn x < 2147483648 := by have := Int32.toInt_lt x; unfold tn; omega
    generalize tn x = i at *
    generalize tn y = j at *
    subst hx
    subst hy
    conv => whnf
    refine ⟨_, m_0 hh, ?_⟩
    conv => whnf
    rw [e9.1]
    refine ⟨fun qb => ?_, fun qb => ?_⟩ <;> rw [nI_ltI (by omega) (by omega)] at qb
    · obtain ⟨t1, t2⟩ := e9.2 i _ (List.getElem?_eq_getElem qb)
      rw [List.getElem?_eq_getElem qb]
      conv => whnf
      refine ⟨fun qb => ?_, fun qb => ?_⟩ <;> rw [nI_eq (by omega) (by omega)] at qb
      · conv => whnf
        refine ⟨_, m_0 hh, ?_⟩
        conv => whnf
        refine ⟨_, _, _, m_2 hh, rfl, (show i < 3 by omega), ?_⟩
        conv => whnf
        dsimp only
        rw [if_neg qb, t2]
        exact ⟨rfl, s, I, L, F, rfl, hE⟩
      · conv => whnf
        refine ⟨_, m_0 hh, ?_⟩
        conv => whnf
        refine ⟨_, _, _, m_1 hh, rfl, (show i < 3 by omega), ?_⟩
        conv => whnf
        dsimp only
        rw [if_pos qb, t1]
        exact ⟨rfl, s, I, L, F, rfl, hE⟩
    · rw [List.getElem?_eq_none (by omega)]
      conv => whnf
      exact ⟨rfl, s, I, L, F, rfl, hE⟩
  · conv => whnf
    exact hbad (fun q => c2 q.2)
