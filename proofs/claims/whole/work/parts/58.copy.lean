/-! copy of the reference against the state -/
def zcopy (z : zS) (x i o j n : Int32) : Value × zS := if isRow x ∧ isRow o then (match zW z (tn x), zW z (tn o) with
    | some p, some q => if 0 ≤ n.toInt ∧ 0 ≤ i.toInt ∧ 0 ≤ j.toInt ∧ i.toInt + n.toInt ≤ p.1 ∧ j.toInt + n.toInt ≤ q.1 then
        (.int n, zsW z (tn o) (some (q.1, fun k => if tn j ≤ k ∧ k < tn j + tn n then p.2 (tn i + (k - tn j)) else q.2 k))) else (.int (-13), z)
    | _, _ => (.int (-11), z)) else (.int (-1), z)
theorem jl3 {a b : Int32} {m : Nat} (ha : 0 ≤ a.toInt) (hb : 0 ≤ b.toInt) (hm : m ≤ 40) : (a.toInt64 + b.toInt64 ≤ (nI m).toInt64) ↔ a.toInt + b.toInt ≤ m := by
  have h1 := Int32.toInt_lt a
  have h2 := Int32.toInt_lt b
  rw [Int64.le_iff_toInt_le, Int64.toInt_add, Int32.toInt_toInt64, Int32.toInt_toInt64, Int32.toInt_toInt64, nI_toInt (by omega)]
  rw [Int.bmod_eq_of_le (by omega) (by omega)]
theorem jl3g {a b : Int32} {m : Nat} (ha : 0 ≤ a.toInt) (hb : 0 ≤ b.toInt) (hm : m ≤ 40) : (nI 0 < lg_cmp (a.toInt64 + b.toInt64) (nI m).toInt64) ↔ ¬ a.toInt + b.toInt ≤ m := by
  rw [← jl3 ha hb hm, nI_0, lg_cmp_gt, Int64.le_iff_toInt_le, Int64.lt_iff_toInt_lt]
  omega
theorem jl3l {a b : Int32} {m : Nat} (ha : 0 ≤ a.toInt) (hb : 0 ≤ b.toInt) (hm : m ≤ 40) : (lg_cmp (a.toInt64 + b.toInt64) (nI m).toInt64 ≤ nI 0) ↔ a.toInt + b.toInt ≤ m := by
  rw [← jl3 ha hb hm, nI_0, lg_cmp_le]
theorem r_copy {h : List jC} (hh : 53 ≤ h.length) {s : Nat → Int32} {I : jIs} {L : jLss} {F : jFs} {z : zS} (hE : EncR s I L F z) (hz : zWF z) (x i o j n : Int32) : jCt jy_X12_copy [.ref 20, .int x, .int i, .int o, .int j, .int n] (jR h s I L F) (zPost h (zcopy z x i o j n).1 (zcopy z x i o j n).2) := by
  obtain ⟨e1, e2, e3, e4, e5, e6, e7, e8, e9, e10⟩ := id hE
  generalize hΦ : zPost h (zcopy z x i o j n).1 (zcopy z x i o j n).2 = Φ
  have hsame : ∀ v, zcopy z x i o j n = (.int v, z) → Φ (some (.int v)) (jR h s I L F) := by
    intro v hv
    rw [← hΦ, hv]
    exact ⟨rfl, s, I, L, F, rfl, hE⟩
  refine jrun2 (js_X12_copy _) rfl rfl rfl (fun G hG hW hB => ?_)
  have main : isRow x → isRow o → G 16 [some (.ref 20), some (.int x), some (.int i), some (.int o), some (.int j), some (.int n), none] [] (jR h s I L F) 0 0 := by
    intro cx co
    rw [zcopy, if_pos ⟨cx, co⟩] at hΦ hsame
    have hx := tn_eq cx.1
    have ho := tn_eq co.1
    have hx3 : tn x < 3 := tn_lt cx.1 (by have := cx.2; omega)
    have ho3 : tn o < 3 := tn_lt co.1 (by have := co.2; omega)
    generalize tn x = r at *
    generalize tn o = t at *
    have hr := eRow_at e7 hx3
    have hq := eRow_at e7 ho3
    have hwr := hz.2.2.2.2.1 r hx3
    have hwq := hz.2.2.2.2.1 t ho3
    match hzr : zW z r, hr, hwr with
    | none, hr, _ =>
      rw [hzr] at hsame
      refine hG [16] 300 _ _ _ _ _ _ ?_
      conv => whnf
      refine ⟨_, m_0 hh, ?_⟩
      conv => whnf
      refine ⟨_, _, _, m_14 hh, hx, hx3, ?_⟩
      conv => whnf
      refine ⟨fun _ => ?_, fun q => absurd hr q⟩
      conv => whnf
      exact hsame _ rfl
    | some p, hr, hwr =>
    have hp40 := hwr p rfl
    obtain ⟨r1, r2, r3⟩ := hr
    match hzq : zW z t, hq, hwq with
    | none, hq, _ =>
      rw [hzr, hzq] at hsame
      refine hG [16] 300 _ _ _ _ _ _ ?_
      conv => whnf
      refine ⟨_, m_0 hh, ?_⟩
      conv => whnf
      refine ⟨_, _, _, m_14 hh, hx, hx3, ?_⟩
      conv => whnf
      refine ⟨fun q => absurd (r1.symm.trans q) (by decide), fun _ => ?_⟩
      conv => whnf
      refine ⟨_, m_0 hh, ?_⟩
      conv => whnf
      refine ⟨_, _, _, m_14 hh, ho, ho3, ?_⟩
      conv => whnf
      refine ⟨fun q => absurd hq q, fun _ => ?_⟩
      conv => whnf
      exact hsame _ rfl
    | some q, hq, hwq =>
    have hq40 := hwq q rfl
    obtain ⟨q1, q2, q3⟩ := hq
    rw [hzr, hzq] at hΦ hsame
    dsimp only at hΦ hsame
    have bad : ¬ (0 ≤ n.toInt ∧ 0 ≤ i.toInt ∧ 0 ≤ j.toInt ∧ i.toInt + n.toInt ≤ p.1 ∧ j.toInt + n.toInt ≤ q.1) → G 86 [some (.ref 20), some (.int x), some (.int i), some (.int o), some (.int j), some (.int n), none] [] (jR h s I L F) 0 0 := by
      intro c
      refine hG [86] 300 _ _ _ _ _ _ ?_
      conv => whnf
      exact hsame _ (if_neg c)
    have good : (0 ≤ n.toInt ∧ 0 ≤ i.toInt ∧ 0 ≤ j.toInt ∧ i.toInt + n.toInt ≤ p.1 ∧ j.toInt + n.toInt ≤ q.1) → G 89 [some (.ref 20), some (.int x), some (.int i), some (.int o), some (.int j), some (.int n), none] [] (jR h s I L F) 0 0 := by
      intro c
      rw [if_pos c] at hΦ
      obtain ⟨cn, ci, cj, c1, c2⟩ := c
      have hn := tn_eq cn
      have hi := tn_eq ci
      have hj := tn_eq cj
      have hin : tn i + tn n ≤ p.1 := by unfold tn; omega
      have hjn : tn j + tn n ≤ q.1 := by unfold tn; omega
      generalize tn n = nn at *
      generalize tn i = ii at *
      generalize tn j = jj at *
      obtain ⟨g, hg⟩ : ∃ g : Nat → Int32, g = jcpI (I 17) (fun k => I 16 (40 * r + ii + k)) nn := ⟨_, rfl⟩
      have loop2 : ∀ u e, nn = e + u → G 129 [some (.ref 20), some (.int x), some (.int i), some (.int o), some (.int j), some (.int n), some (.int (nI e))] [] (jR h s (va_up (va_up I 17 g) 16 (jpsI (I 16) (40 * t + jj) g e)) L F) 0 0 := by
        intro u
        induction u with
        | zero =>
          intro e he
          refine hG [129] 300 _ _ _ _ _ _ ?_
          conv => whnf
          refine ⟨fun qb => ?_, fun qb => ?_⟩ <;> rw [hn, nI_leI (by omega) (by omega)] at qb
          case refine_2 => omega
          conv => whnf
          rw [← hΦ]
          refine ⟨rfl, s, _, L, F, rfl, ⟨e1, e2, e3, e4, e5, e6, ?_, e8, e9, e10⟩⟩
          rw [Nat.add_zero] at he
          rw [← he]
          refine e_rowup (t' := I 14) (n' := I 15) (a' := jpsI (I 16) (40 * t + jj) g nn) e7 hz.2.2.2.2.1 ho3 (fun _ _ _ => ⟨rfl, rfl⟩) (fun k hk => ?_) ⟨q1, q2, fun k hk => ?_⟩
          · unfold jpsI
            rw [if_neg (by omega)]
          · dsimp only at hk
            dsimp only
            unfold jpsI
            by_cases hkj : jj ≤ k ∧ k < jj + nn
            · rw [if_pos (by omega), if_pos hkj, hg, show 40 * t + k - (40 * t + jj) = k - jj by omega, jcpI_at (by omega)]
              rw [show 40 * r + ii + (k - jj) = 40 * r + (ii + (k - jj)) by omega]
              exact r3 _ (by omega)
            · rw [if_neg (by omega), if_neg hkj]
              exact q3 k hk
        | succ u ih =>
          intro e he
          refine hG [129] 300 _ _ _ _ _ _ ?_
          conv => whnf
          refine ⟨fun qb => ?_, fun qb => ?_⟩ <;> rw [hn, nI_leI (by omega) (by omega)] at qb
          · omega
          conv => whnf
          refine ⟨_, m_0 hh, ?_⟩
          conv => whnf
          refine ⟨_, m_0 hh, ?_⟩
          conv => whnf
          refine ⟨_, _, _, m_17 hh, rfl, (show e < 40 by omega), ?_⟩
          conv => whnf
          refine ⟨_, _, _, m_16 hh, (by rw [ho, hj, pk_mul, nI_add, nI_add]), (show 40 * t + jj + e < 120 by omega), ?_⟩
          conv => whnf
          rw [nI_add]
          erw [ms_16 (upd (jpsI (I 16) (40 * t + jj) g e) (40 * t + jj + e) (g e))]
          rw [va_up_up, jpsI_s]
          exact ih (e + 1) (by omega)
      have loop1 : ∀ u e, nn = e + u → G 92 [some (.ref 20), some (.int x), some (.int i), some (.int o), some (.int j), some (.int n), some (.int (nI e))] [] (jR h s (va_up I 17 (jcpI (I 17) (fun k => I 16 (40 * r + ii + k)) e)) L F) 0 0 := by
        intro u
        induction u with
        | zero =>
          intro e he
          refine hG [92, 129] 300 _ _ _ _ _ _ ?_
          conv => whnf
          refine ⟨fun qb => ?_, fun qb => ?_⟩ <;> rw [hn, nI_leI (by omega) (by omega)] at qb
          case refine_2 => omega
          conv => whnf
          rw [Nat.add_zero] at he
          rw [← he, ← hg]
          have l0 := loop2 nn 0 (by omega)
          rw [jpsI_0] at l0
          rw [show va_up (va_up I 17 g) 16 (I 16) = va_up I 17 g from va_up_same (va_up I 17 g) 16] at l0
          exact l0
        | succ u ih =>
          intro e he
          refine hG [92, 129] 300 _ _ _ _ _ _ ?_
          conv => whnf
          refine ⟨fun qb => ?_, fun qb => ?_⟩ <;> rw [hn, nI_leI (by omega) (by omega)] at qb
          · omega
          conv => whnf
          refine ⟨_, m_0 hh, ?_⟩
          conv => whnf
          refine ⟨_, m_0 hh, ?_⟩
          conv => whnf
          refine ⟨_, _, _, m_16 hh, (by rw [hx, hi, pk_mul, nI_add, nI_add]), (show 40 * r + ii + e < 120 by omega), ?_⟩
          conv => whnf
          refine ⟨_, _, _, m_17 hh, rfl, (show e < 40 by omega), ?_⟩
          conv => whnf
          rw [nI_add]
          erw [ms_17 (upd (jcpI (I 17) (fun k => I 16 (40 * r + ii + k)) e) e ((fun k => I 16 (40 * r + ii + k)) e))]
          rw [va_up_up, jcpI_s]
          exact ih (e + 1) (by omega)
      refine hG [92] 300 _ _ _ _ _ _ ?_
      conv => whnf
      have l0 := loop1 nn 0 (by omega)
      rw [jcpI_0, va_up_same] at l0
      exact l0
    refine hG [16, 86, 89] 300 _ _ _ _ _ _ ?_
    conv => whnf
    refine ⟨_, m_0 hh, ?_⟩
    conv => whnf
    refine ⟨_, _, _, m_14 hh, hx, hx3, ?_⟩
    conv => whnf
    refine ⟨fun q => absurd (r1.symm.trans q) (by decide), fun _ => ?_⟩
    conv => whnf
    refine ⟨_, m_0 hh, ?_⟩
    conv => whnf
    refine ⟨_, _, _, m_14 hh, ho, ho3, ?_⟩
    conv => whnf
    refine ⟨fun _ => ?_, fun q => absurd (q1.symm.trans q) (by decide)⟩
    conv => whnf
    refine ⟨fun c => ?_, fun c => ?_⟩ <;> rw [jlt, j0] at c
    · exact bad (fun w => by omega)
    conv => whnf
    refine ⟨fun c2 => ?_, fun c2 => ?_⟩ <;> rw [jlt, j0] at c2
    · exact bad (fun w => by omega)
    conv => whnf
    refine ⟨fun c3 => ?_, fun c3 => ?_⟩ <;> rw [jlt, j0] at c3
    · exact bad (fun w => by omega)
    conv => whnf
    refine ⟨_, m_0 hh, ?_⟩
    conv => whnf
    refine ⟨_, _, _, m_15 hh, hx, hx3, ?_⟩
    conv => whnf
    rw [show I 15 r = nI p.1 from r2]
    refine ⟨fun c4 => ?_, fun c4 => ?_⟩ <;> rw [jl3g (by omega) (by omega) hp40] at c4
    · exact bad (fun w => c4 w.2.2.2.1)
    conv => whnf
    refine ⟨_, m_0 hh, ?_⟩
    conv => whnf
    refine ⟨_, _, _, m_15 hh, ho, ho3, ?_⟩
    conv => whnf
    rw [show I 15 t = nI q.1 from q2]
    refine ⟨fun c5 => ?_, fun c5 => ?_⟩ <;> rw [jl3l (by omega) (by omega) hq40] at c5
    · exact good ⟨by omega, by omega, by omega, by omega, c5⟩
    · exact bad (fun w => c5 w.2.2.2.2)
  refine hG [16] 300 _ _ _ _ _ _ ?_
  conv => whnf
  refine jcall (c_X12_isRow x _) ?_
  rintro r h' ⟨rfl, rfl⟩
  conv => whnf
  refine ⟨fun c1 => ?_, fun c1 => ?_⟩ <;> rw [jbi_0] at c1
  · conv => whnf
    exact hsame _ (if_neg (fun w => c1 w.1))
  have c1 := Decidable.not_not.mp c1
  conv => whnf
  refine jcall (c_X12_isRow o _) ?_
  rintro r h' ⟨rfl, rfl⟩
  conv => whnf
  refine ⟨fun c2 => ?_, fun c2 => ?_⟩ <;> rw [jbi_0] at c2
  · exact main c1 (Decidable.not_not.mp c2)
  · conv => whnf
    exact hsame _ (if_neg (fun w => c2 w.2))
