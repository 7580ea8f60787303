/-! inF, sum, composition of the reference against the state -/
def jinF (f : Nat → Int64) (n b : Nat) : Nat → Int64 × jLs
  | 0 => (0, (false, nI 0))
  | e + 1 => if nI (b &&& e) = nI e then
      (let p := jinF f n b e
       if (jlen n b + jlen n e) % 2 = 1 then (p.1 + -(f e), jbad1 (jbad1 p.2 (decide (f e = -9223372036854775808)) (nI b)) (jov p.1 (-(f e))) (nI b))
       else (p.1 + f e, jbad1 p.2 (jov p.1 (f e)) (nI b)))
    else jinF f n b e
theorem jinF_c {f g : Nat → Int64} (n b : Nat) : ∀ e, (∀ c, c < e → f c = g c) → jinF f n b e = jinF g n b e
  | 0, _ => rfl
  | e + 1, h => by
    rw [jinF, jinF, jinF_c n b e (fun c hc => h c (by omega)), h e (by omega)]
theorem jpop_le (c : Nat) : jpop c ≤ 6 := by
  unfold jpop
  have h := fun k => Nat.mod_lt k (show 0 < 2 by decide)
  have h1 := h c
  have h2 := h (c / 2)
  have h3 := h (c / 4)
  have h4 := h (c / 8)
  have h5 := h (c / 16)
  have h6 := h (c / 32)
  omega
theorem jlen_le (n c : Nat) : jlen n c ≤ 7 := by
  unfold jlen
  have := jpop_le c
  split <;> omega
theorem jodd : ∀ a, a < 8 → ∀ b, b < 8 → ((nI a - nI b - (nI a - nI b) / nI 2 * nI 2 = nI 0) ↔ ¬ (a + b) % 2 = 1) := by decide +kernel
theorem jnz2 : ¬ nI 2 = 0 := by decide
def zinF (z : zS) (x y : Int32) : Value × zS := if isNum z x y then
    (let q := jinF (zR z (tn x)).2 (zR z (tn x)).1 (tn y) (jmany (zR z (tn x)).1)
     if q.2.1 = true then (.long (-9223372036854775808), zset z [(nI 4, q.2.2)]) else (.long q.1, z))
  else (.long (-9223372036854775808), z)
theorem r_inF {h : List jC} (hh : 53 ≤ h.length) {s : Nat → Int32} {I : jIs} {L : jLss} {F : jFs} {z : zS} (hE : EncR s I L F z) (hz : zWF z) (x y : Int32) : jCt jy_X12_inF [.ref 20, .int x, .int y] (jR h s I L F) (zPost h (zinF z x y).1 (zinF z x y).2) := by
  have hbad : ¬ isNum z x y → zPost h (zinF z x y).1 (zinF z x y).2 (some (.long (-9223372036854775808))) (jR h s I L F) := by
    intro hn
    rw [zinF, if_neg hn]
    exact ⟨rfl, s, I, L, F, rfl, hE⟩
  by_cases c : ¬ isReg x
  · refine jrun2 (js_X12_inF _) rfl rfl rfl (fun G hG hW hB => ?_)
    refine hG [] 300 _ _ _ _ _ _ ?_
    conv => whnf
    refine jcall (c_X12_isRegister x _) ?_
    rintro r h' ⟨rfl, rfl⟩
    conv => whnf
    refine ⟨fun _ => ?_, fun c2 => absurd (jbi_f c) c2⟩
    conv => whnf
    exact hbad (fun q => c q.1)
  have c := Decidable.not_not.mp c
  obtain ⟨hx, hx4⟩ := isReg_nI c
  have hw := (hE.2.1 (tn x) hx4).1
  have hw6 := (hz.1 (tn x) hx4).1
  have hm := jmany_le hw6
  by_cases c2 : ¬ (0 ≤ y.toInt ∧ y.toInt < jmany (zR z (tn x)).1)
  · refine jrun2 (js_X12_inF _) rfl rfl rfl (fun G hG hW hB => ?_)
    refine hG [] 300 _ _ _ _ _ _ ?_
    conv => whnf
    refine jcall (c_X12_isRegister x _) ?_
    rintro r h' ⟨rfl, rfl⟩
    conv => whnf
    refine ⟨fun c3 => absurd c (jbi_0.mp c3), fun _ => ?_⟩
    conv => whnf
    rw [hx]
    refine ⟨⟨_, m_0 hh⟩, jcall (c_X12_isOf hh s I L F hx4 hw6 hw y) ?_⟩
    rintro r h' ⟨rfl, rfl⟩
    conv => whnf
    refine ⟨fun c3 => absurd (jbi_f c2) c3, fun _ => ?_⟩
    rw [← hx]
    conv => whnf
    exact hbad (fun q => c2 q.2)
  have c2 := Decidable.not_not.mp c2
  have hsp := show zinF z x y = _ from if_pos ⟨c, c2⟩
  rw [hsp]
  have hyl : tn y < jmany (zR z (tn x)).1 := tn_lt c2.1 c2.2
  have hy := tn_eq c2.1
  have hc1 := jbi_t c
  have hc2 := jbi_t c2
  have ec1 := c_X12_isRegister x
  rw [show (jbi (0 ≤ x.toInt ∧ x.toInt ≤ 3)) = nI 1 from hc1] at ec1
  have ec2 := c_X12_isOf hh s I L F hx4 hw6 hw y
  rw [hc2] at ec2
  clear hbad hsp hc1 hc2 c c2
  generalize tn x = r at *
  generalize tn y = b at *
  subst hx
  subst hy
  have hb : b < 32 := by omega
  refine jrun2 (js_X12_inF _) rfl rfl rfl (fun G hG hW hB => ?_)
  have hs0 : upd s 0 (nI 0) 0 = nI 0 := rfl
  have loop : ∀ k e, jmany (zR z r).1 = e + k → ∀ x7 : Option Value, G 38 [some (.ref 20), some (.int (nI r)), some (.int (nI b)), some (.int (nI (zR z r).1)), some (.long (jinF (fun c => L 4 (32 * r + c)) (zR z r).1 b e).1), none, some (.int (nI e)), x7, none] [] (jR h (rS (upd s 0 (nI 0)) (jinF (fun c => L 4 (32 * r + c)) (zR z r).1 b e).2) (rI I (jinF (fun c => L 4 (32 * r + c)) (zR z r).1 b e).2) L F) 0 0 := by
    intro k
    induction k with
    | zero =>
      intro e he x7
      refine hG [38] 300 _ _ _ _ _ _ ?_
      conv => whnf
      refine jcall (c_X12_many _ hw6 _) ?_
      rintro r h' ⟨rfl, rfl⟩
      conv => whnf
      refine ⟨fun qb => ?_, fun qb => ?_⟩ <;> rw [nI_leI (by omega) (by omega)] at qb
      case refine_2 => omega
      conv => whnf
      rw [he, Nat.add_zero]
      rw [← jinF_c (f := fun c => L 4 (32 * r + c)) _ b e (fun c hc => (hE.2.1 r hx4).2 c (by omega))]
      generalize jinF (fun c => L 4 (32 * r + c)) (zR z r).1 b e = q
      refine ⟨_, m_0 hh, ?_⟩
      conv => whnf
      rw [rS0 hs0]
      refine ⟨fun c3 => ?_, fun c3 => ?_⟩ <;> rw [jbi_0] at c3
      · conv => whnf
        dsimp only
        rw [if_neg c3]
        exact ⟨rfl, _, _, _, F, rfl, e_no hE c3⟩
      · have c3 := Decidable.not_not.mp c3
        conv => whnf
        dsimp only
        rw [if_pos c3]
        exact ⟨rfl, _, _, _, F, rfl, e_over hE c3⟩
    | succ k ih =>
      intro e he x7
      have i1 := ih (e + 1) (by omega)
      rw [jinF] at i1
      refine hG [38] 300 _ _ _ _ _ _ ?_
      conv => whnf
      refine jcall (c_X12_many _ hw6 _) ?_
      rintro r h' ⟨rfl, rfl⟩
      conv => whnf
      refine ⟨fun qb => ?_, fun qb => ?_⟩ <;> rw [nI_leI (by omega) (by omega)] at qb
      · omega
      conv => whnf
      refine jcall (c_X12_isFiner b e _) ?_
      rintro r h' ⟨rfl, rfl⟩
      conv => whnf
      refine ⟨fun d => ?_, fun d => ?_⟩ <;> rw [jbi_0] at d
      case refine_2 =>
        conv => whnf
        rw [nI_add]
        rw [if_neg d] at i1
        exact i1 x7
      have d := Decidable.not_not.mp d
      rw [if_pos d] at i1
      conv => whnf
      refine ⟨_, m_0 hh, ?_⟩
      conv => whnf
      rw [pk_mul, nI_add]
      refine ⟨_, _, _, m_4 hh, rfl, (show 32 * r + e < 128 from by omega), ?_⟩
      conv => whnf
      refine jcall (c_X12_length _ b hw6 (by omega) _) ?_
      rintro r h' ⟨rfl, rfl⟩
      conv => whnf
      refine jcall (c_X12_length _ e hw6 (by omega) _) ?_
      rintro r h' ⟨rfl, rfl⟩
      conv => whnf
      have hlb := jlen_le (zR z r).1 b
      have hle := jlen_le (zR z r).1 e
      refine ⟨jnz2, ?_⟩
      conv => whnf
      refine ⟨fun p => ?_, fun p => ?_⟩ <;> rw [jodd _ (by omega) _ (by omega)] at p
      · rw [if_neg p] at i1
        conv => whnf
        refine ⟨⟨_, m_0 hh⟩, jcall (c_X12_plus hh hs0 I L F _ _ _ _) ?_⟩
        rintro r h' ⟨rfl, rfl⟩
        conv => whnf
        rw [nI_add]
        exact i1 _
      · have p := Decidable.not_not.mp p
        rw [if_pos p] at i1
        conv => whnf
        refine ⟨⟨_, m_0 hh⟩, jcall (c_X12_less hh hs0 I L F _ _ _) ?_⟩
        rintro r h' ⟨rfl, rfl⟩
        conv => whnf
        refine ⟨⟨_, m_0 hh⟩, jcall (c_X12_plus hh hs0 I L F _ _ _ _) ?_⟩
        rintro r h' ⟨rfl, rfl⟩
        conv => whnf
        rw [nI_add]
        exact i1 _
  refine hG [38] 300 _ _ _ _ _ _ ?_
  conv => whnf
  refine jcall (ec1 _) ?_
  rintro r h' ⟨rfl, rfl⟩
  conv => whnf
  refine ⟨fun c3 => absurd c3 (by decide), fun _ => ?_⟩
  conv => whnf
  refine ⟨⟨_, m_0 hh⟩, jcall (ec2) ?_⟩
  rintro r h' ⟨rfl, rfl⟩
  conv => whnf
  refine ⟨fun _ => ?_, fun c3 => absurd c3 (by decide)⟩
  conv => whnf
  refine ⟨Or.inl rfl, _, m_0 hh, ?_⟩
  conv => whnf
  erw [ms_0 (upd s 0 (nI 0))]
  refine ⟨_, m_0 hh, ?_⟩
  conv => whnf
  refine ⟨_, _, _, m_3 hh, rfl, hx4, ?_⟩
  conv => whnf
  rw [hw]
  have l0 := loop (jmany (zR z r).1) 0 (by omega) none
  exact l0
