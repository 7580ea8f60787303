/-! film, judge of the reference against the state -/
def zfilm (z : zS) (x y : Int32) : Value × zS := if isRow x ∧ 0 ≤ y.toInt then (match (zrows (zO z))[tn y]? with
    | none => (.int (-2), z)
    | some l => (.int (nI (zO z).1), zsW z (tn x) (some ((zO z).1, fun k => nI (l.getD k 0))))) else (.int (-1), z)
theorem r_film {h : List jC} (hh : 53 ≤ h.length) {s : Nat → Int32} {I : jIs} {L : jLss} {F : jFs} {z : zS} (hE : EncR s I L F z) (hz : zWF z) (x y : Int32) : jCt jy_X12_film [.ref 20, .int x, .int y] (jR h s I L F) (zPost h (zfilm z x y).1 (zfilm z x y).2) := by
  obtain ⟨e1, e2, e3, e4, e5, e6, e7, e8, e9, e10⟩ := id hE
  have hok := hz.2.2.1
  have ho6 := hok.1
  have hbad : ¬ (isRow x ∧ 0 ≤ y.toInt) → zPost h (zfilm z x y).1 (zfilm z x y).2 (some (.int (-1))) (jR h s I L F) := by
    intro c
    rw [zfilm, if_neg c]
    exact ⟨rfl, s, I, L, F, rfl, hE⟩
  generalize hΦ : zPost h (zfilm z x y).1 (zfilm z x y).2 = Φ at *
  refine jrun2 (js_X12_film _) rfl rfl rfl (fun G hG hW hB => ?_)
  have main : isRow x → 0 ≤ y.toInt → G 13 [some (.ref 20), some (.int x), some (.int y), none, none] [] (jR h s I L F) 0 0 := by
    intro cx cy
    rw [zfilm, if_pos ⟨cx, cy⟩] at hΦ
    refine hG [13, 37] 300 _ _ _ _ _ _ ?_
    conv => whnf
    refine ⟨⟨_, m_0 hh⟩, jcall (c_X12_takesRow hh s I L F e4 hok y) ?_⟩
    rintro r h' ⟨w, sn, rfl, hq⟩
    rcases hq with ⟨i, l, q1, q2, rfl, q5⟩ | ⟨q1, q2, rfl⟩
    · have hil := (List.getElem?_eq_some_iff.mp q1).1
      have hzl := zrows_len (o := zO z) (by omega)
      obtain ⟨hl1, hl2⟩ := rws_each (List.mem_of_getElem? q1)
      rw [show tn y = i by rw [q2, tn_nI (by omega)], q1] at hΦ
      dsimp only at hΦ
      have hE1 : EncR (upd s 4 (nI sn)) (va_up I 11 w) L F z := hE
      have hx := tn_eq cx.1
      have hx3 : tn x < 3 := tn_lt cx.1 (by have := cx.2; omega)
      have hrow := r_row3 hh hE1 hz x (nI (zO z).1)
      have hn0 : (nI (zO z).1).toInt = ((zO z).1 : Int) := nI_toInt (by omega)
      rw [show zrow z x (nI (zO z).1) = (.int (nI 1), zsW z (tn x) (some ((zO z).1, fun _ => nI 0))) by
        rw [zrow, if_pos ⟨cx, by omega⟩, if_neg (by omega), if_pos (by omega), tn_nI (by omega)]] at hrow
      conv => whnf
      refine ⟨fun _ => ?_, fun q => absurd q (by decide)⟩
      conv => whnf
      refine ⟨_, m_0 hh, ?_⟩
      conv => whnf
      rw [show upd s 4 (nI sn) 3 = nI (zO z).1 from e4.1]
      refine ⟨⟨_, m_0 hh⟩, jcall hrow ?_⟩
      rintro r h' ⟨rfl, I', rfl, hI', hE3⟩
      obtain ⟨d1, d2, d3, d4, d5, d6, d7, d8, d9, d10⟩ := id hE3
      have hw : ∀ m, m < (zO z).1 → I' 11 m = nI (l.getD m 0) := by
        intro m hm
        have hg := List.getElem?_eq_getElem (l := l) (i := m) (by omega)
        rw [hI', show va_up I 11 w 11 m = w m by rw [va_up_self], q5 _ _ hg, List.getD, hg]
        rfl
      generalize hn : (zO z).1 = n at *
      generalize tn x = t at *
      have hs3 : upd s 4 (nI sn) 3 = nI n := by rw [← hn]; exact e4.1
      have loop : ∀ u e, n = e + u → G 37 [some (.ref 20), some (.int x), some (.int y), some (.int (nI 1)), some (.int (nI e))] [] (jR h (upd s 4 (nI sn)) (va_up I' 16 (jpsI (I' 16) (40 * t) (I' 11) e)) L F) 0 0 := by
        intro u
        induction u with
        | zero =>
          intro e he
          refine hG [37] 300 _ _ _ _ _ _ ?_
          conv => whnf
          refine ⟨_, m_0 hh, ?_⟩
          conv => whnf
          rw [hs3]
          refine ⟨fun qb => ?_, fun qb => ?_⟩ <;> rw [nI_leI (by omega) (by omega)] at qb
          case refine_2 => omega
          conv => whnf
          refine ⟨_, m_0 hh, ?_⟩
          conv => whnf
          rw [hs3, ← hΦ]
          refine ⟨rfl, _, _, L, F, rfl, ⟨d1, d2, d3, d4, d5, d6, ?_, d8, d9, d10⟩⟩
          have hWz : ∀ r, r < 3 → ∀ q, zW (zsW z t (some (n, fun _ => nI 0))) r = some q → q.1 ≤ 40 := by
            intro r hr q hq
            by_cases hrt : r = t
            · subst hrt
              have : zW (zsW z r (some (n, fun _ => nI 0))) r = some (n, fun _ => nI 0) := va_up_self _ _ _
              rw [this] at hq
              cases hq
              dsimp only
              omega
            · have : zW (zsW z t (some (n, fun _ => nI 0))) r = zW z r := by
                show va_up (zW z) t _ r = _
                rw [va_up, if_neg hrt]
              rw [this] at hq
              exact hz.2.2.2.2.1 r hr q hq
          have hr1 := eRow_at d7 hx3
          rw [show zW (zsW z t (some (n, fun _ => nI 0))) t = some (n, fun _ => nI 0) from va_up_self _ _ _] at hr1
          have hup := e_rowup (t' := I' 14) (n' := I' 15) (a' := jpsI (I' 16) (40 * t) (I' 11) e) d7 hWz hx3 (v := some (n, fun k => nI (l.getD k 0))) (fun _ _ _ => ⟨rfl, rfl⟩) (fun k hk => by unfold jpsI; rw [if_neg (by omega)]) ⟨hr1.1, hr1.2.1, fun k hk => by
            dsimp only at hk
            show jpsI (I' 16) (40 * t) (I' 11) e (40 * t + k) = nI (l.getD k 0)
            unfold jpsI
            rw [if_pos (by omega), show 40 * t + k - 40 * t = k by omega]
            exact hw k hk⟩
          rw [show zW (zsW z t (some (n, fun _ => nI 0))) = va_up (zW z) t (some (n, fun _ => nI 0)) from rfl, va_up_up] at hup
          exact hup
        | succ u ih =>
          intro e he
          refine hG [37] 300 _ _ _ _ _ _ ?_
          conv => whnf
          refine ⟨_, m_0 hh, ?_⟩
          conv => whnf
          rw [hs3]
          refine ⟨fun qb => ?_, fun qb => ?_⟩ <;> rw [nI_leI (by omega) (by omega)] at qb
          · omega
          conv => whnf
          refine ⟨_, m_0 hh, ?_⟩
          conv => whnf
          refine ⟨_, m_0 hh, ?_⟩
          conv => whnf
          refine ⟨_, _, _, m_11 hh, rfl, (show e < 6 by omega), ?_⟩
          conv => whnf
          refine ⟨_, _, _, m_16 hh, (by rw [hx, pk_mul, nI_add]), (show 40 * t + e < 120 by omega), ?_⟩
          conv => whnf
          rw [nI_add]
          erw [ms_16 (upd (jpsI (I' 16) (40 * t) (I' 11) e) (40 * t + e) (I' 11 e))]
          rw [va_up_up, jpsI_s]
          exact ih (e + 1) (by omega)
      conv => whnf
      have l0 := loop n 0 (by omega)
      rw [jpsI_0, va_up_same] at l0
      exact l0
    · rw [List.getElem?_eq_none (Nat.le_of_not_lt (fun q => q1 _ q (tn_eq cy)))] at hΦ
      conv => whnf
      refine ⟨fun q => absurd rfl q, fun _ => ?_⟩
      conv => whnf
      rw [← hΦ]
      exact ⟨rfl, _, _, L, F, rfl, hE⟩
  refine hG [13] 300 _ _ _ _ _ _ ?_
  conv => whnf
  refine jcall (c_X12_isRow x _) ?_
  rintro r h' ⟨rfl, rfl⟩
  conv => whnf
  refine ⟨fun c1 => ?_, fun c1 => ?_⟩ <;> rw [jbi_0] at c1
  · conv => whnf
    exact hbad (fun q => c1 q.1)
  conv => whnf
  refine ⟨fun c2 => ?_, fun c2 => ?_⟩ <;> rw [jleI, j0] at c2
  · exact main (Decidable.not_not.mp c1) c2
  · conv => whnf
    exact hbad (fun q => c2 q.2)
