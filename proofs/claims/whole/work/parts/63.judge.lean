/-! judge of the reference against the state -/
def jjd (o : zOrd) (q : zRow) : Nat → Nat → Nat → Int32
  | 0, _, _ => -2
  | u + 1, k, told => if k = q.1 then nI (100 + k) else if isThg o (q.2 k) ∧ okI o told (tn (q.2 k)) then jjd o q u (k + 1) (told ||| 2 ^ tn (q.2 k)) else nI k
def zjudge (z : zS) (x : Int32) : Value := if isRow x then (match zW z (tn x) with
    | none => .int (-11)
    | some q => .int (jjd (zO z) q (zO z).1 0 0)) else .int (-1)
theorem r_judge {h : List jC} (hh : 53 ≤ h.length) {s : Nat → Int32} {I : jIs} {L : jLss} {F : jFs} {z : zS} (hE : EncR s I L F z) (hz : zWF z) (x : Int32) : jCt jy_X12_judge [.ref 20, .int x] (jR h s I L F) (zPost h (zjudge z x) z) := by
  obtain ⟨e1, e2, e3, e4, e5, e6, e7, e8, e9, e10⟩ := id hE
  have hok := hz.2.2.1
  have ho6 := hok.1
  have hgood : ∀ v, zjudge z x = v → zPost h (zjudge z x) z (some v) (jR h s I L F) := by
    intro v hv
    rw [hv]
    exact ⟨rfl, s, I, L, F, rfl, hE⟩
  generalize hΦ : zPost h (zjudge z x) z = Φ at *
  refine jrun2 (js_X12_judge _) rfl rfl rfl (fun G hG hW hB => ?_)
  have main : isRow x → G 9 [some (.ref 20), some (.int x), none, none, none] [] (jR h s I L F) 0 0 := by
    intro cx
    rw [zjudge, if_pos cx] at hgood
    have hx := tn_eq cx.1
    have hx3 : tn x < 3 := tn_lt cx.1 (by have := cx.2; omega)
    generalize tn x = t at *
    have hr := eRow_at e7 hx3
    have hwr := hz.2.2.2.2.1 t hx3
    match hzr : zW z t, hr, hwr with
    | none, hr, _ =>
      rw [hzr] at hgood
      refine hG [9] 300 _ _ _ _ _ _ ?_
      conv => whnf
      refine ⟨_, m_0 hh, ?_⟩
      conv => whnf
      refine ⟨_, _, _, m_14 hh, hx, hx3, ?_⟩
      conv => whnf
      refine ⟨fun q => absurd hr q, fun _ => ?_⟩
      conv => whnf
      exact hgood _ rfl
    | some q, hr, hwr =>
      have hq40 := hwr q rfl
      obtain ⟨r1, r2, r3⟩ := hr
      rw [hzr] at hgood
      dsimp only at hgood
      generalize hoz : zO z = o at *
      have hv64 : ∀ k, k < 7 → o.2 k < 64 := by
        intro k hk
        have h2 : 2 ^ o.1 ≤ 2 ^ 6 := Nat.pow_le_pow_right (by decide) ho6
        have := (hok.2 k hk).1
        omega
      have loop : ∀ u k told, o.1 = k + u → k ≤ q.1 → told < 128 → jjd o q o.1 0 0 = jjd o q u k told → ∀ x4 : Option Value, G 25 [some (.ref 20), some (.int x), some (.int (nI told)), some (.int (nI k)), x4] [] (jR h s I L F) 0 0 := by
        intro u
        induction u with
        | zero =>
          intro k told hk hkq ht hj x4
          rw [jjd] at hj
          refine hG [25] 300 _ _ _ _ _ _ ?_
          conv => whnf
          refine ⟨_, m_0 hh, ?_⟩
          conv => whnf
          rw [e4.1]
          refine ⟨fun qb => ?_, fun qb => ?_⟩ <;> rw [nI_leI (by omega) (by omega)] at qb
          case refine_2 => omega
          conv => whnf
          exact hgood _ (by rw [hj])
        | succ u ih =>
          intro k told hk hkq ht hj x4
          rw [jjd] at hj
          refine hG [25, 94] 300 _ _ _ _ _ _ ?_
          conv => whnf
          refine ⟨_, m_0 hh, ?_⟩
          conv => whnf
          rw [e4.1]
          refine ⟨fun qb => ?_, fun qb => ?_⟩ <;> rw [nI_leI (by omega) (by omega)] at qb
          · omega
          conv => whnf
          refine ⟨_, m_0 hh, ?_⟩
          conv => whnf
          refine ⟨_, _, _, m_15 hh, hx, hx3, ?_⟩
          conv => whnf
          rw [show I 15 t = nI q.1 from r2]
          refine ⟨fun c => ?_, fun c => ?_⟩ <;> rw [nI_eq (by omega) (by omega)] at c
          case refine_2 =>
            rw [if_pos c] at hj
            conv => whnf
            rw [nI_add]
            exact hgood _ (by rw [hj])
          rw [if_neg c] at hj
          have h94 : ¬ (isThg o (q.2 k) ∧ okI o told (tn (q.2 k))) → ∀ v, G 94 [some (.ref 20), some (.int x), some (.int (nI told)), some (.int (nI k)), some (.int v)] [] (jR h s I L F) 0 0 := by
            intro cn v
            rw [if_neg cn] at hj
            refine hG [94] 300 _ _ _ _ _ _ ?_
            conv => whnf
            exact hgood _ (by rw [hj])
          conv => whnf
          refine ⟨_, m_0 hh, ?_⟩
          conv => whnf
          refine ⟨_, _, _, m_16 hh, (by rw [hx, pk_mul, nI_add]), (show 40 * t + k < 120 by omega), ?_⟩
          conv => whnf
          rw [show I 16 (40 * t + k) = q.2 k from r3 k (by omega)]
          generalize hv : q.2 k = v at *
          refine ⟨⟨_, m_0 hh⟩, jcall (c_X12_isThing hh s I L F e4.1 ho6 v) ?_⟩
          rintro r h' ⟨rfl, rfl⟩
          conv => whnf
          refine ⟨fun c1 => ?_, fun c1 => ?_⟩ <;> rw [jbi_0] at c1
          · exact h94 (fun w => c1 w.1) v
          have c1 := Decidable.not_not.mp c1
          have hvi := tn_eq (show 0 ≤ v.toInt by omega)
          have hv7 : tn v < 7 := tn_lt (by omega) (by have := c1.2; omega)
          conv => whnf
          rw [show nI told >>> (v &&& 31) &&& nI 1 = nI (told / 2 ^ tn v % 2) by
            have := jI_bit (c := told) (i := tn v) (by omega) (by omega)
            rwa [← hvi] at this]
          refine ⟨fun c2 => ?_, fun c2 => ?_⟩ <;> rw [nI_eq (by omega) (by omega)] at c2
          · exact h94 (fun w => w.2.1 c2) v
          conv => whnf
          refine ⟨_, m_0 hh, ?_⟩
          conv => whnf
          refine ⟨_, _, _, m_10 hh, hvi, hv7, ?_⟩
          conv => whnf
          rw [e4.2 (tn v) hv7]
          refine ⟨fun c3 => ?_, fun c3 => ?_⟩
          case refine_2 => exact h94 (fun w => c3 w.2.2) v
          rw [if_pos ⟨c1, c2, c3⟩] at hj
          conv => whnf
          rw [show nI told ||| nI 1 <<< (v &&& 31) = nI (told ||| 2 ^ tn v) by
            have := jI_one (i := tn v) (by omega)
            rw [← hvi] at this
            rw [this, jI_or]]
          rw [nI_add]
          exact ih (k + 1) _ (by omega) (by omega) (jor128 ht hv7) hj _
      refine hG [9, 25] 300 _ _ _ _ _ _ ?_
      conv => whnf
      refine ⟨_, m_0 hh, ?_⟩
      conv => whnf
      refine ⟨_, _, _, m_14 hh, hx, hx3, ?_⟩
      conv => whnf
      refine ⟨fun _ => ?_, fun q2 => absurd (r1.symm.trans q2) (by decide)⟩
      conv => whnf
      exact loop o.1 0 0 (by omega) (by omega) (by decide) rfl none
  refine hG [9] 300 _ _ _ _ _ _ ?_
  conv => whnf
  refine jcall (c_X12_isRow x _) ?_
  rintro r h' ⟨rfl, rfl⟩
  conv => whnf
  refine ⟨fun c1 => ?_, fun c1 => ?_⟩ <;> rw [jbi_0] at c1
  · exact main (Decidable.not_not.mp c1)
  · conv => whnf
    exact hgood _ (if_neg c1)
