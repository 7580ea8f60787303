/-! holds, lay, get, isBelow, order, count of the reference against the state -/
abbrev zund (o : zOrd) (a b : Nat) : Prop := 2 * o.2 b / 2 ^ a % 2 = 1
theorem c_X12_isThing {h : List jC} (hh : 53 ≤ h.length) (s : Nat → Int32) (I : jIs) (L : jLss) (F : jFs) {n : Nat} (hn : s 3 = nI n) (hn6 : n ≤ 6) (x : Int32) : jCt jy_X12_isThing [.ref 20, .int x] (jR h s I L F) (fun r h' => r = some (.int (jbi (1 ≤ x.toInt ∧ x.toInt ≤ n))) ∧ h' = jR h s I L F) := by
  refine jrun2 (js_X12_isThing _) rfl rfl rfl (fun G hG hW hB => ?_)
  refine hG [] 300 _ _ _ _ _ _ ?_
  conv => whnf
  refine ⟨_, m_0 hh, ?_⟩
  conv => whnf
  rw [hn]
  refine jcall (c_X12_in x _ _ _) ?_
  rintro r h' ⟨rfl, rfl⟩
  conv => whnf
  refine ⟨jbi_01 _, ?_, rfl⟩
  rw [j1, nI_toInt (by omega)]
theorem c_X12_isUnder {h : List jC} (hh : 53 ≤ h.length) (s : Nat → Int32) (I : jIs) (L : jLss) (F : jFs) {o : zOrd} (ho : eOrd (s 3) (I 10) o) (hz : zordOk o) {a b : Nat} (ha : a < 7) (hb : b < 7) : jCt jy_X12_isUnder [.ref 20, .int (nI a), .int (nI b)] (jR h s I L F) (fun r h' => r = some (.int (jbi (zund o a b))) ∧ h' = jR h s I L F) := by
  have h1 := (hz.2 b hb).1
  have h2 : 2 ^ o.1 ≤ 2 ^ 6 := Nat.pow_le_pow_right (by decide) hz.1
  refine jrun2 (js_X12_isUnder _) rfl rfl rfl (fun G hG hW hB => ?_)
  refine hG [] 300 _ _ _ _ _ _ ?_
  conv => whnf
  refine ⟨_, m_0 hh, ?_⟩
  conv => whnf
  refine ⟨_, _, _, m_10 hh, rfl, hb, ?_⟩
  conv => whnf
  rw [ho.2 b hb, jI_bit (by omega) (by omega)]
  refine ⟨fun qb => ?_, fun qb => ?_⟩ <;> rw [nI_eq (by omega) (by omega)] at qb
  · conv => whnf
    refine ⟨Or.inl rfl, ?_, rfl⟩
    rw [jbi_f (show ¬ zund o a b from qb)]
  · conv => whnf
    refine ⟨Or.inr rfl, ?_, rfl⟩
    rw [jbi_t (show zund o a b from qb)]
theorem c_X12_isRow (x : Int32) (h : List jC) : jCt jy_X12_isRow [.int x] h (fun r h' => r = some (.int (jbi (0 ≤ x.toInt ∧ x.toInt ≤ 2))) ∧ h' = h) := by
  refine jrun2 (js_X12_isRow _) rfl rfl rfl (fun G hG hW hB => ?_)
  refine hG [] 300 _ _ _ _ _ _ ?_
  conv => whnf
  refine jcall (c_X12_in x _ _ _) ?_
  rintro r h' ⟨rfl, rfl⟩
  conv => whnf
  refine ⟨jbi_01 _, ?_, rfl⟩
  rw [j0, j2]
theorem c_X12_isRack (x : Int32) (h : List jC) : jCt jy_X12_isRack [.int x] h (fun r h' => r = some (.int (jbi (0 ≤ x.toInt ∧ x.toInt ≤ 2))) ∧ h' = h) := by
  refine jrun2 (js_X12_isRack _) rfl rfl rfl (fun G hG hW hB => ?_)
  refine hG [] 300 _ _ _ _ _ _ ?_
  conv => whnf
  refine jcall (c_X12_in x _ _ _) ?_
  rintro r h' ⟨rfl, rfl⟩
  conv => whnf
  refine ⟨jbi_01 _, ?_, rfl⟩
  rw [j0, j2]
def zholds (z : zS) (x y : Int32) : Value := if 0 ≤ x.toInt ∧ x.toInt ≤ 2 then (if 0 ≤ y.toInt ∧ y.toInt ≤ 3 then (match zK z (4 * tn x + tn y) with
    | none => .int (-2)
    | some (.inl _) => .int (nI 0)
    | some (.inr _) => .int (nI 1)) else .int (-13)) else .int (-1)
theorem j3 : (nI 3).toInt = 3 := by decide
theorem r_holds {h : List jC} (hh : 53 ≤ h.length) {s : Nat → Int32} {I : jIs} {L : jLss} {F : jFs} {z : zS} (hE : EncR s I L F z) (x y : Int32) : jCt jy_X12_holds [.ref 20, .int x, .int y] (jR h s I L F) (zPost h (zholds z x y) z) := by
  obtain ⟨e1, e2, e3, e4, e5, e6, e7, e8, e9, e10⟩ := id hE
  refine jrun2 (js_X12_holds _) rfl rfl rfl (fun G hG hW hB => ?_)
  refine hG [] 300 _ _ _ _ _ _ ?_
  conv => whnf
  refine jcall (c_X12_isRack x _) ?_
  rintro r h' ⟨rfl, rfl⟩
  conv => whnf
  refine ⟨fun c => ?_, fun c => ?_⟩ <;> rw [jbi_0] at c
  · have c := Decidable.not_not.mp c
    conv => whnf
    refine jcall (c_X12_in y _ _ _) ?_
    rintro r h' ⟨rfl, rfl⟩
    conv => whnf
    rw [j0, j3]
    refine ⟨fun c2 => ?_, fun c2 => ?_⟩ <;> rw [jbi_0] at c2
    · have c2 := Decidable.not_not.mp c2
      rw [zholds, if_pos c, if_pos c2] at hG ⊢
      have hx := tn_eq c.1
      have hy := tn_eq c2.1
      have hx3 : tn x < 3 := tn_lt c.1 (by have := c.2; omega)
      have hy4 : tn y < 4 := tn_lt c2.1 (by have := c2.2; omega)
      generalize tn x = i at *
      generalize tn y = j at *
      subst hx
      subst hy
      have hk := e6 (4 * i + j) (by omega)
      conv => whnf
      refine ⟨_, m_0 hh, ?_⟩
      conv => whnf
      rw [pk_mul, nI_add]
      refine ⟨_, _, _, m_18 hh, rfl, (show 4 * i + j < 12 by omega), ?_⟩
      conv => whnf
      match hzk : zK z (4 * i + j), hk with
      | none, hk =>
        rw [show I 18 (4 * i + j) = nI 0 from hk] at *
        refine ⟨fun c3 => absurd rfl c3, fun _ => ?_⟩
        conv => whnf
        exact ⟨rfl, s, I, L, F, rfl, hE⟩
      | some (.inl q), hk =>
        have hk1 : I 18 (4 * i + j) = nI 1 := hk.1
        refine ⟨fun _ => ?_, fun c3 => absurd (hk1.symm.trans c3) (by decide)⟩
        conv => whnf
        refine ⟨_, m_0 hh, ?_⟩
        conv => whnf
        rw [pk_mul, nI_add]
        refine ⟨_, _, _, m_18 hh, rfl, (show 4 * i + j < 12 by omega), ?_⟩
        conv => whnf
        refine ⟨?_, s, I, L, F, rfl, hE⟩
        rw [hk1]
        rfl
      | some (.inr q), hk =>
        have hk1 : I 18 (4 * i + j) = nI 2 := hk.1
        refine ⟨fun _ => ?_, fun c3 => absurd (hk1.symm.trans c3) (by decide)⟩
        conv => whnf
        refine ⟨_, m_0 hh, ?_⟩
        conv => whnf
        rw [pk_mul, nI_add]
        refine ⟨_, _, _, m_18 hh, rfl, (show 4 * i + j < 12 by omega), ?_⟩
        conv => whnf
        refine ⟨?_, s, I, L, F, rfl, hE⟩
        rw [hk1]
        rfl
    · conv => whnf
      rw [zholds, if_pos c, if_neg c2]
      exact ⟨rfl, s, I, L, F, rfl, hE⟩
  · conv => whnf
    rw [zholds, if_neg c]
    exact ⟨rfl, s, I, L, F, rfl, hE⟩
abbrev isRow (x : Int32) : Prop := 0 ≤ x.toInt ∧ x.toInt ≤ 2
def zlay (z : zS) (x y v : Int32) : Value × zS := if isRow x then (match zW z (tn x) with
    | none => (.int (-11), z)
    | some q => if 0 ≤ y.toInt ∧ y.toInt < q.1 then (.int (nI 1), (zR z, zT z, zO z, zC z, zK z, va_up (zW z) (tn x) (some (q.1, upd q.2 (tn y) v)), zP z, zX z, zI z)) else (.int (-13), z)) else (.int (-1), z)
theorem jle1 {m : Nat} (hm : m ≤ 80) (y : Int32) : y.toInt ≤ (nI m - nI 1).toInt ↔ y.toInt < m := by
  rcases Nat.eq_zero_or_pos m with h | h
  · subst h
    rw [show (nI 0 - nI 1).toInt = -1 by decide]
    omega
  · rw [jI_m1 h, nI_toInt (by omega)]
    omega
theorem r_lay {h : List jC} (hh : 53 ≤ h.length) {s : Nat → Int32} {I : jIs} {L : jLss} {F : jFs} {z : zS} (hE : EncR s I L F z) (hz : zWF z) (x y v : Int32) : jCt jy_X12_lay [.ref 20, .int x, .int y, .int v] (jR h s I L F) (zPost h (zlay z x y v).1 (zlay z x y v).2) := by
  obtain ⟨e1, e2, e3, e4, e5, e6, e7, e8, e9, e10⟩ := id hE
  refine jrun2 (js_X12_lay _) rfl rfl rfl (fun G hG hW hB => ?_)
  refine hG [] 300 _ _ _ _ _ _ ?_
  conv => whnf
  refine jcall (c_X12_isRow x _) ?_
  rintro r h' ⟨rfl, rfl⟩
  conv => whnf
  refine ⟨fun c => ?_, fun c => ?_⟩ <;> rw [jbi_0] at c
  · have c := Decidable.not_not.mp c
    rw [zlay, if_pos c] at hG ⊢
    have hx := tn_eq c.1
    have hx3 : tn x < 3 := tn_lt c.1 (by have := c.2; omega)
    generalize tn x = i at *
    subst hx
    have hr := e7 i hx3
    have hw := hz.2.2.2.2.1 i hx3
    conv => whnf
    refine ⟨_, m_0 hh, ?_⟩
    conv => whnf
    refine ⟨_, _, _, m_14 hh, rfl, hx3, ?_⟩
    conv => whnf
    match hzw : zW z i, hr, hw with
    | none, hr, hw =>
      have hr0 : I 14 i = nI 0 := hr
      refine ⟨fun c3 => absurd hr0 c3, fun _ => ?_⟩
      conv => whnf
      dsimp only
      exact ⟨rfl, s, I, L, F, rfl, hE⟩
    | some q, hr, hw =>
      obtain ⟨hr1, hr2, hr3⟩ := hr
      have hq := hw q rfl
      refine ⟨fun _ => ?_, fun c3 => absurd (hr1.symm.trans c3) (by decide)⟩
      dsimp only
      conv => whnf
      refine ⟨_, m_0 hh, ?_⟩
      conv => whnf
      refine ⟨_, _, _, m_15 hh, rfl, hx3, ?_⟩
      conv => whnf
      rw [hr2]
      refine jcall (c_X12_in y _ _ _) ?_
      rintro r h' ⟨rfl, rfl⟩
      conv => whnf
      refine ⟨fun c2 => ?_, fun c2 => ?_⟩ <;> rw [jbi_0, j0, jle1 (by omega)] at c2
      · have c2 := Decidable.not_not.mp c2
        rw [if_pos c2]
        have hy := tn_eq c2.1
        have hyl : tn y < q.1 := tn_lt c2.1 c2.2
        generalize tn y = j at *
        subst hy
        conv => whnf
        refine ⟨_, m_0 hh, ?_⟩
        conv => whnf
        rw [pk_mul, nI_add]
        refine ⟨_, _, _, m_16 hh, rfl, (show 40 * i + j < 120 by omega), ?_⟩
        conv => whnf
        erw [ms_16 (upd (I 16) (40 * i + j) v)]
        refine ⟨rfl, _, _, _, F, rfl, ⟨e1, e2, e3, e4, e5, e6, fun r hr => ?_, e8, e9, e10⟩⟩
        show match va_up (zW z) i (some (q.1, upd q.2 j v)) r with
          | none => I 14 r = nI 0
          | some q => I 14 r = nI 1 ∧ I 15 r = nI q.1 ∧ ∀ j2, j2 < q.1 → upd (I 16) (40 * i + j) v (40 * r + j2) = q.2 j2
        by_cases hri : r = i
        · subst hri
          rw [va_up, if_pos rfl]
          refine ⟨hr1, hr2, fun j2 hj2 => ?_⟩
          show upd (I 16) (40 * r + j) v (40 * r + j2) = upd q.2 j v j2
          unfold upd
          by_cases hjj : j2 = j
          · rw [if_pos (by omega), if_pos hjj]
          · rw [if_neg (by omega), if_neg hjj]
            exact hr3 j2 hj2
        · rw [va_up, if_neg hri]
          have hrr := e7 r hr
          have hwr := hz.2.2.2.2.1 r hr
          match hzr : zW z r, hrr, hwr with
          | none, hrr, _ => exact hrr
          | some q2, hrr, hwr =>
            refine ⟨hrr.1, hrr.2.1, fun j2 hj2 => ?_⟩
            have := hwr q2 rfl
            unfold upd
            rw [if_neg (by omega)]
            exact hrr.2.2 j2 hj2
      · rw [if_neg c2]
        conv => whnf
        exact ⟨rfl, s, I, L, F, rfl, hE⟩
  · conv => whnf
    rw [zlay, if_neg c]
    exact ⟨rfl, s, I, L, F, rfl, hE⟩
def zget (z : zS) (x y : Int32) : Value := if isRow x then (match zW z (tn x) with
    | none => .long (-9223372036854775808)
    | some q => if 0 ≤ y.toInt ∧ y.toInt < q.1 then .long (q.2 (tn y)).toInt64 else .long (-9223372036854775808)) else .long (-9223372036854775808)
theorem r_get {h : List jC} (hh : 53 ≤ h.length) {s : Nat → Int32} {I : jIs} {L : jLss} {F : jFs} {z : zS} (hE : EncR s I L F z) (hz : zWF z) (x y : Int32) : jCt jy_X12_get [.ref 20, .int x, .int y] (jR h s I L F) (zPost h (zget z x y) z) := by
  obtain ⟨e1, e2, e3, e4, e5, e6, e7, e8, e9, e10⟩ := id hE
  refine jrun2 (js_X12_get _) rfl rfl rfl (fun G hG hW hB => ?_)
  refine hG [] 300 _ _ _ _ _ _ ?_
  conv => whnf
  refine jcall (c_X12_isRow x _) ?_
  rintro r h' ⟨rfl, rfl⟩
  conv => whnf
  refine ⟨fun c => ?_, fun c => ?_⟩ <;> rw [jbi_0] at c
  · conv => whnf
    rw [zget, if_neg c]
    exact ⟨rfl, s, I, L, F, rfl, hE⟩
  have c := Decidable.not_not.mp c
  rw [zget, if_pos c] at hG ⊢
  have hx := tn_eq c.1
  have hx3 : tn x < 3 := tn_lt c.1 (by have := c.2; omega)
  generalize tn x = i at *
  subst hx
  have hr := e7 i hx3
  have hw := hz.2.2.2.2.1 i hx3
  conv => whnf
  refine ⟨_, m_0 hh, ?_⟩
  conv => whnf
  refine ⟨_, _, _, m_14 hh, rfl, hx3, ?_⟩
  conv => whnf
  match hzw : zW z i, hr, hw with
  | none, hr, hw =>
    have hr0 : I 14 i = nI 0 := hr
    refine ⟨fun _ => ?_, fun c3 => absurd hr0 c3⟩
    conv => whnf
    exact ⟨rfl, s, I, L, F, rfl, hE⟩
  | some q, hr, hw =>
    obtain ⟨hr1, hr2, hr3⟩ := hr
    have hq := hw q rfl
    refine ⟨fun c3 => absurd (hr1.symm.trans c3) (by decide), fun _ => ?_⟩
    dsimp only
    conv => whnf
    refine ⟨_, m_0 hh, ?_⟩
    conv => whnf
    refine ⟨_, _, _, m_15 hh, rfl, hx3, ?_⟩
    conv => whnf
    rw [hr2]
    refine jcall (c_X12_in y _ _ _) ?_
    rintro r h' ⟨rfl, rfl⟩
    conv => whnf
    refine ⟨fun c2 => ?_, fun c2 => ?_⟩ <;> rw [jbi_0, j0, jle1 (by omega)] at c2
    · rw [if_neg c2]
      conv => whnf
      exact ⟨rfl, s, I, L, F, rfl, hE⟩
    · have c2 := Decidable.not_not.mp c2
      rw [if_pos c2]
      have hy := tn_eq c2.1
      have hyl : tn y < q.1 := tn_lt c2.1 c2.2
      generalize tn y = j at *
      subst hy
      conv => whnf
      refine ⟨_, m_0 hh, ?_⟩
      conv => whnf
      rw [pk_mul, nI_add]
      refine ⟨_, _, _, m_16 hh, rfl, (show 40 * i + j < 120 by omega), ?_⟩
      conv => whnf
      refine ⟨?_, s, I, L, F, rfl, hE⟩
      rw [hr3 j hyl]
abbrev isThg (o : zOrd) (x : Int32) : Prop := 1 ≤ x.toInt ∧ x.toInt ≤ o.1
def zisb (z : zS) (x y : Int32) : Value := if isThg (zO z) x ∧ isThg (zO z) y then .int (jbi (zund (zO z) (tn x) (tn y))) else .int (-1)
theorem r_isBelow {h : List jC} (hh : 53 ≤ h.length) {s : Nat → Int32} {I : jIs} {L : jLss} {F : jFs} {z : zS} (hE : EncR s I L F z) (hz : zWF z) (x y : Int32) : jCt jy_X12_isBelow [.ref 20, .int x, .int y] (jR h s I L F) (zPost h (zisb z x y) z) := by
  obtain ⟨e1, e2, e3, e4, e5, e6, e7, e8, e9, e10⟩ := id hE
  have ho := hz.2.2.1.1
  have hbad : ¬ (isThg (zO z) x ∧ isThg (zO z) y) → zPost h (zisb z x y) z (some (.int (-1))) (jR h s I L F) := by
    intro hn
    rw [zisb, if_neg hn]
    exact ⟨rfl, s, I, L, F, rfl, hE⟩
  refine jrun2 (js_X12_isBelow _) rfl rfl rfl (fun G hG hW hB => ?_)
  refine hG [] 300 _ _ _ _ _ _ ?_
  conv => whnf
  refine ⟨⟨_, m_0 hh⟩, jcall (c_X12_isThing hh s I L F e4.1 ho x) ?_⟩
  rintro r h' ⟨rfl, rfl⟩
  conv => whnf
  refine ⟨fun c => ?_, fun c => ?_⟩ <;> rw [jbi_0] at c
  · conv => whnf
    exact hbad (fun q => c q.1)
  have c := Decidable.not_not.mp c
  conv => whnf
  refine ⟨⟨_, m_0 hh⟩, jcall (c_X12_isThing hh s I L F e4.1 ho y) ?_⟩
  rintro r h' ⟨rfl, rfl⟩
  conv => whnf
  refine ⟨fun c2 => ?_, fun c2 => ?_⟩ <;> rw [jbi_0] at c2
  · conv => whnf
    exact hbad (fun q => c2 q.2)
  have c2 := Decidable.not_not.mp c2
  rw [zisb, if_pos ⟨c, c2⟩] at hG ⊢
  have hx := tn_eq (show 0 ≤ x.toInt by omega)
  have hy := tn_eq (show 0 ≤ y.toInt by omega)
  have hx7 : tn x < 7 := tn_lt (by omega) (by have := c.2; omega)
  have hy7 : tn y < 7 := tn_lt (by omega) (by have := c2.2; omega)
  clear hbad
  generalize tn x = i at *
  generalize tn y = j at *
  subst hx
  subst hy
  conv => whnf
  refine ⟨⟨_, m_0 hh⟩, jcall (c_X12_isUnder hh s I L F e4 hz.2.2.1 hx7 hy7) ?_⟩
  rintro r h' ⟨rfl, rfl⟩
  conv => whnf
  refine ⟨fun c3 => ?_, fun c3 => ?_⟩ <;> rw [jbi_0] at c3
  · conv => whnf
    rw [jbi_f c3]
    exact ⟨rfl, s, I, L, F, rfl, hE⟩
  · conv => whnf
    rw [jbi_t (Decidable.not_not.mp c3)]
    exact ⟨rfl, s, I, L, F, rfl, hE⟩
def jzeI (f : Nat → Int32) (e : Nat) : Nat → Int32 := fun j => if j < e then nI 0 else f j
theorem jzeI_s (f : Nat → Int32) (e : Nat) : upd (jzeI f e) e (nI 0) = jzeI f (e + 1) := by
  funext j
  unfold upd jzeI
  by_cases h1 : j = e
  · rw [if_pos h1, if_pos (by omega)]
  · rw [if_neg h1]
    by_cases h2 : j < e
    · rw [if_pos h2, if_pos (by omega)]
    · rw [if_neg h2, if_neg (by omega)]
theorem jzeI_0 (f : Nat → Int32) : jzeI f 0 = f := by funext j; unfold jzeI; rw [if_neg (by omega)]
def zorder (z : zS) (x : Int32) : Value × zS := if 0 ≤ x.toInt ∧ x.toInt ≤ 6 then (.int (nI (zO z).1), (zR z, zT z, (tn x, fun _ => 0), zC z, zK z, zW z, zP z, zX z, zI z)) else (.int (-1), z)
theorem j6 : (nI 6).toInt = 6 := by decide
theorem r_order {h : List jC} (hh : 53 ≤ h.length) {s : Nat → Int32} {I : jIs} {L : jLss} {F : jFs} {z : zS} (hE : EncR s I L F z) (x : Int32) : jCt jy_X12_order [.ref 20, .int x] (jR h s I L F) (zPost h (zorder z x).1 (zorder z x).2) := by
  obtain ⟨e1, e2, e3, e4, e5, e6, e7, e8, e9, e10⟩ := id hE
  refine jrun2 (js_X12_order _) rfl rfl rfl (fun G hG hW hB => ?_)
  by_cases c : 0 ≤ x.toInt ∧ x.toInt ≤ 6
  · rw [zorder, if_pos c] at hG
    have hx := tn_eq c.1
    generalize tn x = n at *
    subst hx
    have loop : ∀ k e, 7 = e + k → G 24 [some (.ref 20), some (.int (nI n)), some (.int (s 3)), some (.int (nI e))] [] (jR h (upd s 3 (nI n)) (va_up I 10 (jzeI (I 10) e)) L F) 0 0 := by
      intro k
      induction k with
      | zero =>
        intro e he
        refine hG [24] 300 _ _ _ _ _ _ ?_
        conv => whnf
        refine ⟨fun qb => ?_, fun qb => ?_⟩ <;> rw [nI_ltI (by omega) (by omega)] at qb
        · conv => whnf
          refine ⟨?_, _, _, _, F, rfl, ⟨e1, e2, e3, ⟨rfl, fun j hj => ?_⟩, e5, e6, e7, e8, e9, e10⟩⟩
          · rw [e4.1]
          · show jzeI (I 10) e j = nI (2 * 0)
            unfold jzeI
            rw [if_pos (by omega)]
        · omega
      | succ k ih =>
        intro e he
        refine hG [24] 300 _ _ _ _ _ _ ?_
        conv => whnf
        refine ⟨fun qb => ?_, fun qb => ?_⟩ <;> rw [nI_ltI (by omega) (by omega)] at qb
        · omega
        conv => whnf
        refine ⟨_, m_0 hh, ?_⟩
        conv => whnf
        refine ⟨_, _, _, m_10 hh, rfl, (show e < 7 by omega), ?_⟩
        conv => whnf
        rw [nI_add]
        erw [ms_10 (upd (jzeI (I 10) e) e (nI 0))]
        rw [va_up_up, jzeI_s]
        exact ih (e + 1) (by omega)
    refine hG [24] 300 _ _ _ _ _ _ ?_
    conv => whnf
    refine jcall (c_X12_in _ _ _ _) ?_
    rintro r h' ⟨rfl, rfl⟩
    conv => whnf
    refine ⟨fun _ => ?_, fun c2 => ?_⟩
    · conv => whnf
      refine ⟨_, m_0 hh, ?_⟩
      conv => whnf
      refine ⟨trivial, _, m_0 hh, ?_⟩
      conv => whnf
      erw [ms_0 (upd s 3 (nI n))]
      have l0 := loop 7 0 (by omega)
      rw [jzeI_0, va_up_same] at l0
      exact l0
    · rw [jbi_0, j0, j6] at c2
      exact absurd c c2
  · rw [zorder, if_neg c] at hG
    refine hG [] 300 _ _ _ _ _ _ ?_
    conv => whnf
    refine jcall (c_X12_in _ _ _ _) ?_
    rintro r h' ⟨rfl, rfl⟩
    conv => whnf
    refine ⟨fun c2 => ?_, fun c2 => ?_⟩ <;> rw [jbi_0, j0, j6] at c2
    · exact absurd (Decidable.not_not.mp c2) c
    · conv => whnf
      exact ⟨rfl, s, I, L, F, rfl, hE⟩
