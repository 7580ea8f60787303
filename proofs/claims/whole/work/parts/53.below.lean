/-! below of the reference against the state -/
theorem c_X12_isUnderB {h : List jC} (hh : 53 ≤ h.length) (s : Nat → Int32) (I : jIs) (L : jLss) (F : jFs) {a b v : Nat} (ho : I 10 b = nI (2 * v)) (hv : v < 64) (ha : a < 7) (hb : b < 7) {xa xb : Int32} (ea : xa = nI a) (eb : xb = nI b) : jCt jy_X12_isUnder [.ref 20, .int xa, .int xb] (jR h s I L F) (fun r h' => r = some (.int (jbi (2 * v / 2 ^ a % 2 = 1))) ∧ h' = jR h s I L F) := by
  refine jrun2 (js_X12_isUnder _) rfl rfl rfl (fun G hG hW hB => ?_)
  refine hG [] 300 _ _ _ _ _ _ ?_
  conv => whnf
  refine ⟨_, m_0 hh, ?_⟩
  conv => whnf
  refine ⟨_, _, _, m_10 hh, eb, hb, ?_⟩
  conv => whnf
  rw [ho, ea, jI_bit (by omega) (by omega)]
  refine ⟨fun qb => ?_, fun qb => ?_⟩ <;> rw [nI_eq (by omega) (by omega)] at qb
  · conv => whnf
    refine ⟨Or.inl rfl, ?_, rfl⟩
    rw [jbi_f qb]
  · conv => whnf
    refine ⟨Or.inr rfl, ?_, rfl⟩
    rw [jbi_t qb]
def zbelO (o : zOrd) (i j : Nat) : zOrd := (o.1, fun k => if (0 < k ∧ k ≤ o.1) ∧ (k = j ∨ zund o j k) then o.2 k ||| (o.2 i ||| 2 ^ (i - 1)) else o.2 k)
def jprL (o : zOrd) (k : Nat) : Nat → Nat
  | 0 => 0
  | l + 1 => jprL o k l + (if zund o (l + 1) k then 1 else 0)
def jprK (o : zOrd) (n : Nat) : Nat → Nat
  | 0 => 0
  | k + 1 => jprK o n k + jprL o (k + 1) n
theorem jprL_le (o : zOrd) (k : Nat) : ∀ l, jprL o k l ≤ l
  | 0 => Nat.le_refl _
  | l + 1 => by have := jprL_le o k l; simp only [jprL]; split <;> omega
theorem jprK_le (o : zOrd) (n : Nat) : ∀ k, jprK o n k ≤ k * n
  | 0 => by simp [jprK]
  | k + 1 => by have := jprK_le o n k; have := jprL_le o (k + 1) n; simp only [jprK]; rw [Nat.add_mul]; omega
theorem jor2 : ∀ a, a < 64 → ∀ b, b < 64 → 2 * (a ||| b) = 2 * a ||| 2 * b := by decide +kernel
theorem jor64 : ∀ a, a < 64 → ∀ b, b < 64 → a ||| b < 64 := by decide +kernel
def zbelow (z : zS) (x y : Int32) : Value × zS := if isThg (zO z) x ∧ isThg (zO z) y then
    (if tn x = tn y ∨ zund (zO z) (tn y) (tn x) then (.int (-5), z)
     else (.int (nI (jprK (zbelO (zO z) (tn x) (tn y)) (zO z).1 (zO z).1)), (zR z, zT z, zbelO (zO z) (tn x) (tn y), zC z, zK z, zW z, zP z, zX z, zI z)))
  else (.int (-1), z)
theorem zbelO_lt {o : zOrd} (ho : zordOk o) {i j k : Nat} (hi : 0 < i) (hi6 : i ≤ o.1) (hk : k < 7) : (zbelO o i j).2 k < 64 := by
  have h2 : 2 ^ o.1 ≤ 2 ^ 6 := Nat.pow_le_pow_right (by decide) ho.1
  have h1 := (ho.2 k hk).1
  have h3 := (ho.2 i (by have := ho.1; omega)).1
  have h4 : 2 ^ (i - 1) < 2 ^ 6 := Nat.pow_lt_pow_right (by decide) (by have := ho.1; omega)
  show (if (0 < k ∧ k ≤ o.1) ∧ (k = j ∨ zund o j k) then o.2 k ||| (o.2 i ||| 2 ^ (i - 1)) else o.2 k) < 64
  split
  · exact jor64 _ (by omega) _ (jor64 _ (by omega) _ (by omega))
  · omega
theorem r_below {h : List jC} (hh : 53 ≤ h.length) {s : Nat → Int32} {I : jIs} {L : jLss} {F : jFs} {z : zS} (hE : EncR s I L F z) (hz : zWF z) (x y : Int32) : jCt jy_X12_below [.ref 20, .int x, .int y] (jR h s I L F) (zPost h (zbelow z x y).1 (zbelow z x y).2) := by
  obtain ⟨e1, e2, e3, e4, e5, e6, e7, e8, e9, e10⟩ := id hE
  have hok := hz.2.2.1
  have ho6 := hok.1
  generalize hΦ : zPost h (zbelow z x y).1 (zbelow z x y).2 = Φ
  refine jrun2 (js_X12_below _) rfl rfl rfl (fun G hG hW hB => ?_)
  have hbad : ¬ (isThg (zO z) x ∧ isThg (zO z) y) → Φ (some (.int (-1))) (jR h s I L F) := by
    intro hn
    rw [← hΦ, zbelow, if_neg hn]
    exact ⟨rfl, s, I, L, F, rfl, hE⟩
  refine hG [32, 49] 300 _ _ _ _ _ _ ?_
  conv => whnf
  refine ⟨⟨_, m_0 hh⟩, jcall (c_X12_isThing hh s I L F e4.1 ho6 x) ?_⟩
  rintro r h' ⟨rfl, rfl⟩
  conv => whnf
  refine ⟨fun c => ?_, fun c => ?_⟩ <;> rw [jbi_0] at c
  · conv => whnf
    exact hbad (fun q => c q.1)
  have c := Decidable.not_not.mp c
  conv => whnf
  refine ⟨⟨_, m_0 hh⟩, jcall (c_X12_isThing hh s I L F e4.1 ho6 y) ?_⟩
  rintro r h' ⟨rfl, rfl⟩
  conv => whnf
  refine ⟨fun c2 => ?_, fun c2 => ?_⟩ <;> rw [jbi_0] at c2
  case refine_2 =>
    conv => whnf
    exact hbad (fun q => c2 q.2)
  have c2 := Decidable.not_not.mp c2
  rw [zbelow, if_pos ⟨c, c2⟩] at hΦ
  have hx := tn_eq (show 0 ≤ x.toInt by omega)
  have hy := tn_eq (show 0 ≤ y.toInt by omega)
  have hx7 : tn x < (zO z).1 + 1 := tn_lt (by omega) (by have := c.2; omega)
  have hy7 : tn y < (zO z).1 + 1 := tn_lt (by omega) (by have := c2.2; omega)
  have hx0 : 0 < tn x := by unfold tn; omega
  have hy0 : 0 < tn y := by unfold tn; omega
  clear hbad
  generalize tn x = i at *
  generalize tn y = j at *
  generalize hoz : zO z = o at *
  have hv : ∀ k, k < 7 → o.2 k < 64 := by
    intro k hk
    have h2 : 2 ^ o.1 ≤ 2 ^ 6 := Nat.pow_le_pow_right (by decide) ho6
    have := (hok.2 k hk).1
    omega
  have no : (i = j ∨ zund o j i) → G 32 [some (.ref 20), some (.int x), some (.int y), none, none, none, none] [] (jR h s I L F) 0 0 := by
    intro q
    rw [if_pos q] at hΦ
    refine hG [32] 300 _ _ _ _ _ _ ?_
    conv => whnf
    rw [← hΦ]
    exact ⟨rfl, s, I, L, F, rfl, hE⟩
  conv => whnf
  refine ⟨fun qe => ?_, fun qe => ?_⟩
  · refine no (Or.inl ?_)
    rwa [hx, hy, nI_eq (by omega) (by omega)] at qe
  have qe : ¬ i = j := fun q => qe (by rw [hx, hy, q])
  conv => whnf
  refine ⟨⟨_, m_0 hh⟩, jcall (c_X12_isUnderB hh s I L F (a := j) (b := i) (e4.2 i (by omega)) (hv i (by omega)) (by omega) (by omega) hy hx) ?_⟩
  rintro r h' ⟨rfl, rfl⟩
  conv => whnf
  refine ⟨fun c3 => ?_, fun c3 => ?_⟩ <;> rw [jbi_0] at c3
  case refine_2 => exact no (Or.inr (Decidable.not_not.mp c3))
  clear no
  have hno : ¬ (i = j ∨ zund o j i) := fun q => q.elim qe c3
  rw [if_neg hno] at hΦ
  have hi64 : o.2 i ||| 2 ^ (i - 1) < 64 := jor64 _ (hv i (by omega)) _ (by have h4 : 2 ^ (i - 1) < 2 ^ 6 := Nat.pow_lt_pow_right (by decide) (by omega); omega)
  have hset : nI (2 * o.2 i) ||| nI 1 <<< (x &&& 31) = nI (2 * (o.2 i ||| 2 ^ (i - 1))) := by
    have h1 := jI_one (i := i) (by omega)
    rw [← hx] at h1
    rw [h1, jI_or, jor2 _ (hv i (by omega)) _ (by have h4 : 2 ^ (i - 1) < 2 ^ 6 := Nat.pow_lt_pow_right (by decide) (by omega); omega)]
    rw [show 2 * 2 ^ (i - 1) = 2 ^ i by rw [← Nat.pow_succ']; congr 1; omega]
  generalize hst : o.2 i ||| 2 ^ (i - 1) = st at *
  obtain ⟨xs, hxs⟩ : ∃ xs, xs = nI (2 * st) := ⟨_, rfl⟩
  have hbo : ∀ k, (zbelO o i j).2 k = if (0 < k ∧ k ≤ o.1) ∧ (k = j ∨ zund o j k) then o.2 k ||| st else o.2 k := by
    intro k
    rw [← hst]
    rfl
  have hbl : ∀ k, k < 7 → (zbelO o i j).2 k < 64 := fun k hk => zbelO_lt hok hx0 (by omega) hk
  have hb1 : (zbelO o i j).1 = o.1 := rfl
  generalize zbelO o i j = p at *
  have pairs : ∀ g : Nat → Int32, (∀ k, k < 7 → g k = nI (2 * p.2 k)) → ∀ u k, o.1 + 1 = k + u → 0 < k → ∀ x6 : Option Value, G 97 [some (.ref 20), some (.int x), some (.int y), some (.int xs), some (.int (nI (jprK p o.1 (k - 1)))), some (.int (nI k)), x6] [] (jR h s (va_up I 10 g) L F) 0 0 := by
    intro g hg u
    have e42 : ∀ k, k < 7 → va_up I 10 g 10 k = nI (2 * p.2 k) := hg
    induction u with
    | zero =>
      intro k hk hk0 x6
      refine hG [97] 300 _ _ _ _ _ _ ?_
      conv => whnf
      refine ⟨_, m_0 hh, ?_⟩
      conv => whnf
      rw [e4.1]
      refine ⟨fun qb => ?_, fun qb => ?_⟩ <;> rw [nI_ltI (by omega) (by omega)] at qb
      case refine_2 => omega
      conv => whnf
      rw [← hΦ, show k - 1 = o.1 by omega]
      refine ⟨rfl, s, va_up I 10 g, L, F, rfl, ⟨e1, e2, e3, ⟨?_, hg⟩, e5, e6, e7, e8, e9, e10⟩⟩
      show s 3 = nI p.1
      rw [hb1]
      exact e4.1
    | succ u ih =>
      intro k hk hk0 x6
      have i1 := ih (k + 1) (by omega) (by omega)
      have hkb := jprK_le p o.1 (k - 1)
      have hkb2 : (k - 1) * o.1 ≤ 6 * 6 := Nat.mul_le_mul (by omega) (by omega)
      rw [show k + 1 - 1 = (k - 1) + 1 by omega, jprK, show k - 1 + 1 = k by omega] at i1
      have inner : ∀ v l, o.1 + 1 = l + v → 0 < l → G 109 [some (.ref 20), some (.int x), some (.int y), some (.int xs), some (.int (nI (jprK p o.1 (k - 1) + jprL p k (l - 1)))), some (.int (nI k)), some (.int (nI l))] [] (jR h s (va_up I 10 g) L F) 0 0 := by
        intro v
        induction v with
        | zero =>
          intro l hl hl0
          refine hG [97, 109] 300 _ _ _ _ _ _ ?_
          conv => whnf
          refine ⟨_, m_0 hh, ?_⟩
          conv => whnf
          rw [e4.1]
          refine ⟨fun qb => ?_, fun qb => ?_⟩ <;> rw [nI_ltI (by omega) (by omega)] at qb
          case refine_2 => omega
          conv => whnf
          rw [nI_add]
          rw [show l - 1 = o.1 by omega]
          exact i1 _
        | succ v ihv =>
          intro l hl hl0
          have i2 := ihv (l + 1) (by omega) (by omega)
          rw [show l + 1 - 1 = (l - 1) + 1 by omega, jprL, show l - 1 + 1 = l by omega] at i2
          refine hG [97, 109] 300 _ _ _ _ _ _ ?_
          conv => whnf
          refine ⟨_, m_0 hh, ?_⟩
          conv => whnf
          rw [e4.1]
          refine ⟨fun qb => ?_, fun qb => ?_⟩ <;> rw [nI_ltI (by omega) (by omega)] at qb
          · omega
          conv => whnf
          refine ⟨⟨_, m_0 hh⟩, jcall (c_X12_isUnderB hh s (va_up I 10 g) L F (a := l) (b := k) (e42 k (by omega)) (hbl k (by omega)) (by omega) (by omega) rfl rfl) ?_⟩
          rintro r h' ⟨rfl, rfl⟩
          conv => whnf
          refine ⟨fun c5 => ?_, fun c5 => ?_⟩ <;> rw [jbi_0] at c5
          · conv => whnf
            rw [if_neg c5] at i2
            rw [nI_add, nI_add]
            exact i2
          · conv => whnf
            rw [if_pos (Decidable.not_not.mp c5)] at i2
            rw [nI_add, nI_add]
            exact i2
      refine hG [97, 109] 300 _ _ _ _ _ _ ?_
      conv => whnf
      refine ⟨_, m_0 hh, ?_⟩
      conv => whnf
      rw [e4.1]
      refine ⟨fun qb => ?_, fun qb => ?_⟩ <;> rw [nI_ltI (by omega) (by omega)] at qb
      · omega
      conv => whnf
      exact inner o.1 1 (by omega) (by omega)
  have loop : ∀ u k, o.1 + 1 = k + u → 0 < k → ∀ g : Nat → Int32, (∀ e, e < 7 → g e = if e < k then nI (2 * p.2 e) else nI (2 * o.2 e)) → G 49 [some (.ref 20), some (.int x), some (.int y), some (.int xs), some (.int (nI k)), none, none] [] (jR h s (va_up I 10 g) L F) 0 0 := by
    intro u
    induction u with
    | zero =>
      intro k hk hk0 g hg
      refine hG [49, 97] 300 _ _ _ _ _ _ ?_
      conv => whnf
      refine ⟨_, m_0 hh, ?_⟩
      conv => whnf
      rw [e4.1]
      refine ⟨fun qb => ?_, fun qb => ?_⟩ <;> rw [nI_ltI (by omega) (by omega)] at qb
      case refine_2 => omega
      conv => whnf
      refine pairs g (fun e he => ?_) o.1 1 (by omega) (by omega) none
      rw [hg e he]
      by_cases hek : e < k
      · rw [if_pos hek]
      · rw [if_neg hek, hbo e, if_neg (by omega)]
    | succ u ih =>
      intro k hk hk0 g hg
      have hgk : va_up I 10 g 10 k = nI (2 * o.2 k) := by
        show g k = _
        rw [hg k (by omega), if_neg (by omega)]
      have skip : ¬ (k = j ∨ zund o j k) → G 49 [some (.ref 20), some (.int x), some (.int y), some (.int xs), some (.int (nI (k + 1))), none, none] [] (jR h s (va_up I 10 g) L F) 0 0 := by
        intro q
        refine ih (k + 1) (by omega) (by omega) g (fun e he => ?_)
        rw [hg e he]
        by_cases hek : e < k
        · rw [if_pos hek, if_pos (by omega)]
        · rw [if_neg hek]
          by_cases hek2 : e < k + 1
          · have : e = k := by omega
            subst this
            rw [if_pos hek2, hbo e, if_neg (fun w => q w.2)]
          · rw [if_neg hek2]
      have take : (k = j ∨ zund o j k) → G 74 [some (.ref 20), some (.int x), some (.int y), some (.int xs), some (.int (nI k)), none, none] [] (jR h s (va_up I 10 g) L F) 0 0 := by
        intro q
        refine hG [49] 300 _ _ _ _ _ _ ?_
        conv => whnf
        refine ⟨_, m_0 hh, ?_⟩
        conv => whnf
        refine ⟨_, _, _, m_10 hh, rfl, (show k < 7 by omega), ?_⟩
        conv => whnf
        rw [show va_up I 10 g 10 k = nI (2 * o.2 k) from hgk]
        refine ⟨_, _, _, m_10 hh, rfl, (show k < 7 by omega), ?_⟩
        conv => whnf
        erw [ms_10 (upd g k (nI (2 * o.2 k) ||| xs))]
        rw [va_up_up, nI_add]
        refine ih (k + 1) (by omega) (by omega) _ (fun e he => ?_)
        unfold upd
        by_cases hek : e = k
        · subst hek
          rw [if_pos rfl, if_pos (by omega), hxs, jI_or, hbo e, if_pos ⟨by omega, q⟩, jor2 _ (hv e he) _ hi64]
        · rw [if_neg hek, hg e he]
          by_cases hek2 : e < k
          · rw [if_pos hek2, if_pos (by omega)]
          · rw [if_neg hek2, if_neg (by omega)]
      refine hG [49, 74] 300 _ _ _ _ _ _ ?_
      conv => whnf
      refine ⟨_, m_0 hh, ?_⟩
      conv => whnf
      rw [e4.1]
      refine ⟨fun qb => ?_, fun qb => ?_⟩ <;> rw [nI_ltI (by omega) (by omega)] at qb
      · omega
      conv => whnf
      refine ⟨fun qk => ?_, fun qk => ?_⟩ <;> rw [hy, nI_eq (by omega) (by omega)] at qk
      · exact take (Or.inl qk)
      conv => whnf
      refine ⟨⟨_, m_0 hh⟩, jcall (c_X12_isUnderB hh s (va_up I 10 g) L F (a := j) (b := k) hgk (hv k (by omega)) (by omega) (by omega) hy rfl) ?_⟩
      rintro r h' ⟨rfl, rfl⟩
      conv => whnf
      refine ⟨fun c5 => ?_, fun c5 => ?_⟩ <;> rw [jbi_0] at c5
      · conv => whnf
        rw [nI_add]
        exact skip (fun q => q.elim qk c5)
      · exact take (Or.inr (Decidable.not_not.mp c5))
  conv => whnf
  refine ⟨_, m_0 hh, ?_⟩
  conv => whnf
  refine ⟨_, _, _, m_10 hh, hx, (show i < 7 by omega), ?_⟩
  conv => whnf
  rw [e4.2 i (by omega), hset, ← hxs]
  have l0 := loop o.1 1 (by omega) (by decide) (I 10) (fun e he => by
    rw [e4.2 e he]
    by_cases he0 : e < 1
    · rw [if_pos he0, hbo e, if_neg (by omega)]
    · rw [if_neg he0])
  rw [va_up_same] at l0
  exact l0
