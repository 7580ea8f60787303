/-! row, fetch, store of the reference against the state -/
def eRow1 (t n : Int32) (a : Nat → Int32) (x : Option zRow) : Prop := match x with
  | none => t = nI 0
  | some q => t = nI 1 ∧ n = nI q.1 ∧ ∀ j, j < q.1 → a j = q.2 j
theorem eRow_at {t n a : Nat → Int32} {W : Nat → Option zRow} (h : eRow t n a W) {r : Nat} (hr : r < 3) : eRow1 (t r) (n r) (fun j => a (40 * r + j)) (W r) := h r hr
theorem eRow_of {t n a : Nat → Int32} {W : Nat → Option zRow} (h : ∀ r, r < 3 → eRow1 (t r) (n r) (fun j => a (40 * r + j)) (W r)) : eRow t n a W := h
theorem eRow1_c {t n t2 n2 : Int32} {a a2 : Nat → Int32} {x : Option zRow} (h : eRow1 t n a x) (h1 : t2 = t) (h2 : n2 = n) (hx : ∀ q, x = some q → q.1 ≤ 40) (h3 : ∀ j, j < 40 → a2 j = a j) : eRow1 t2 n2 a2 x := by
  match x, h, hx with
  | none, h, _ => exact h1.trans h
  | some q, h, hx =>
    have := hx q rfl
    exact ⟨h1.trans h.1, h2.trans h.2.1, fun j hj => (h3 j (by omega)).trans (h.2.2 j hj)⟩
theorem e_rowup {t n a t' n' a' : Nat → Int32} {W : Nat → Option zRow} (h : eRow t n a W) (hz : ∀ r, r < 3 → ∀ q, W r = some q → q.1 ≤ 40) {r : Nat} (hr : r < 3) {v : Option zRow} (h1 : ∀ k, k < 3 → k ≠ r → t' k = t k ∧ n' k = n k) (h2 : ∀ j, (j < 40 * r ∨ 40 * r + 40 ≤ j) → a' j = a j) (h3 : eRow1 (t' r) (n' r) (fun j => a' (40 * r + j)) v) : eRow t' n' a' (va_up W r v) := by
  refine eRow_of (fun k hk => ?_)
  by_cases hkr : k = r
  · subst hkr
    rw [va_up, if_pos rfl]
    exact h3
  · rw [va_up, if_neg hkr]
    exact eRow1_c (eRow_at h hk) (h1 k hk hkr).1 (h1 k hk hkr).2 (hz k hk) (fun j hj => h2 _ (by omega))
abbrev zsW (z : zS) (r : Nat) (v : Option zRow) : zS := (zR z, zT z, zO z, zC z, zK z, va_up (zW z) r v, zP z, zX z, zI z)
def jpsI (f : Nat → Int32) (o : Nat) (g : Nat → Int32) (e : Nat) : Nat → Int32 := fun j => if o ≤ j ∧ j < o + e then g (j - o) else f j
theorem jpsI_0 (f g : Nat → Int32) (o : Nat) : jpsI f o g 0 = f := by
  funext j; unfold jpsI; rw [if_neg (by omega)]
theorem jpsI_s (f : Nat → Int32) (o : Nat) (g : Nat → Int32) (e : Nat) : upd (jpsI f o g e) (o + e) (g e) = jpsI f o g (e + 1) := by
  funext j
  unfold upd jpsI
  by_cases h1 : j = o + e
  · rw [if_pos h1, if_pos (by omega), show j - o = e by omega]
  · rw [if_neg h1]
    by_cases h2 : o ≤ j ∧ j < o + e
    · rw [if_pos h2, if_pos (by omega)]
    · rw [if_neg h2, if_neg (by omega)]
def zrow (z : zS) (x y : Int32) : Value × zS := if isRow x ∧ y.toInt ≤ 40 then
    (if y.toInt < -1 then (.int (-14), z) else (.int (nI 1), zsW z (tn x) (if 0 ≤ y.toInt then some (tn y, fun _ => nI 0) else none)))
  else (.int (-1), z)
theorem jm1 : (-1 : Int32).toInt = -1 := by decide
theorem j40 : (nI 40).toInt = 40 := by decide
/-- what comes of row(): all but the rows is as it was, the row that finds() laid down too -/
def zPost3 (h : List jC) (s : Nat → Int32) (I : jIs) (L : jLss) (F : jFs) (res : Value) (z : zS) : jPost := fun r h' => r = some res ∧ ∃ I' : jIs, h' = jR h s I' L F ∧ I' 11 = I 11 ∧ EncR s I' L F z
theorem r_row3 {h : List jC} (hh : 53 ≤ h.length) {s : Nat → Int32} {I : jIs} {L : jLss} {F : jFs} {z : zS} (hE : EncR s I L F z) (hz : zWF z) (x y : Int32) : jCt jy_X12_row [.ref 20, .int x, .int y] (jR h s I L F) (zPost3 h s I L F (zrow z x y).1 (zrow z x y).2) := by
  obtain ⟨e1, e2, e3, e4, e5, e6, e7, e8, e9, e10⟩ := id hE
  generalize hΦ : zPost3 h s I L F (zrow z x y).1 (zrow z x y).2 = Φ
  have hbad : ¬ (isRow x ∧ y.toInt ≤ 40) → Φ (some (.int (-1))) (jR h s I L F) := by
    intro hn
    rw [← hΦ, zrow, if_neg hn]
    exact ⟨rfl, I, rfl, rfl, hE⟩
  refine jrun2 (js_X12_row _) rfl rfl rfl (fun G hG hW hB => ?_)
  by_cases c : isRow x ∧ y.toInt ≤ 40 ∧ -1 ≤ y.toInt
  · have hx := tn_eq c.1.1
    have hx3 : tn x < 3 := tn_lt c.1.1 (by have := c.1.2; omega)
    rw [zrow, if_pos ⟨c.1, c.2.1⟩, if_neg (by omega)] at hΦ
    generalize tn x = r at *
    have loop : ∀ t n : Nat → Int32, (∀ k, k < 3 → k ≠ r → t k = I 14 k ∧ n k = I 15 k) → eRow1 (t r) (n r) (fun _ => nI 0) (if 0 ≤ y.toInt then some (tn y, fun _ => nI 0) else none) → ∀ k e, 40 = e + k → G 55 [some (.ref 20), some (.int x), some (.int y), some (.int (nI e))] [] (jR h s (va_up (va_up (va_up I 14 t) 15 n) 16 (jpsI (I 16) (40 * r) (fun _ => nI 0) e)) L F) 0 0 := by
      intro t n htn hv k
      induction k with
      | zero =>
        intro e he
        refine hG [55] 300 _ _ _ _ _ _ ?_
        conv => whnf
        refine ⟨fun qb => ?_, fun qb => ?_⟩ <;> rw [nI_leI (by omega) (by omega)] at qb
        case refine_2 => omega
        conv => whnf
        rw [← hΦ]
        refine ⟨rfl, _, rfl, rfl, ⟨e1, e2, e3, e4, e5, e6, ?_, e8, e9, e10⟩⟩
        refine e_rowup (t' := t) (n' := n) (a' := jpsI (I 16) (40 * r) (fun _ => nI 0) e) e7 hz.2.2.2.2.1 hx3 htn (fun j hj => ?_) (eRow1_c hv rfl rfl (fun q hq => ?_) (fun j hj => ?_))
        · unfold jpsI
          rw [if_neg (by omega)]
        · split at hq
          · cases hq
            have := tn_lt (n := 41) (by assumption) (by have := c.2.1; omega)
            dsimp only
            omega
          · cases hq
        · unfold jpsI
          rw [if_pos (by omega)]
      | succ k ih =>
        intro e he
        refine hG [55] 300 _ _ _ _ _ _ ?_
        conv => whnf
        refine ⟨fun qb => ?_, fun qb => ?_⟩ <;> rw [nI_leI (by omega) (by omega)] at qb
        · omega
        conv => whnf
        refine ⟨_, m_0 hh, ?_⟩
        conv => whnf
        refine ⟨_, _, _, m_16 hh, (by rw [hx, pk_mul, nI_add]), (show 40 * r + e < 120 by omega), ?_⟩
        conv => whnf
        rw [nI_add]
        erw [ms_16 (upd (jpsI (I 16) (40 * r) (fun _ => nI 0) e) (40 * r + e) (nI 0))]
        rw [va_up_up, jpsI_s]
        exact ih (e + 1) (by omega)
    have fin : ∀ t n : Nat → Int32, (∀ k, k < 3 → k ≠ r → t k = I 14 k ∧ n k = I 15 k) → eRow1 (t r) (n r) (fun _ => nI 0) (if 0 ≤ y.toInt then some (tn y, fun _ => nI 0) else none) → G 55 [some (.ref 20), some (.int x), some (.int y), some (.int (nI 0))] [] (jR h s (va_up (va_up I 14 t) 15 n) L F) 0 0 := by
      intro t n htn hv
      have l0 := loop t n htn hv 40 0 (by omega)
      rw [jpsI_0] at l0
      rw [show va_up (va_up (va_up I 14 t) 15 n) 16 (I 16) = va_up (va_up I 14 t) 15 n from va_up_same (va_up (va_up I 14 t) 15 n) 16] at l0
      exact l0
    refine hG [55] 300 _ _ _ _ _ _ ?_
    conv => whnf
    refine jcall (c_X12_isRow _ _) ?_
    rintro r h' ⟨rfl, rfl⟩
    conv => whnf
    refine ⟨fun c3 => absurd c.1 (jbi_0.mp c3), fun _ => ?_⟩
    conv => whnf
    refine ⟨fun _ => ?_, fun c3 => absurd c.2.1 (by rw [jleI, j40] at c3; exact c3)⟩
    conv => whnf
    refine ⟨fun _ => ?_, fun c3 => absurd c.2.2 (by rw [jleI] at c3; exact c3)⟩
    conv => whnf
    refine ⟨_, m_0 hh, ?_⟩
    conv => whnf
    refine ⟨fun c4 => ?_, fun c4 => ?_⟩ <;> (have c5 := c4; rw [jlt, j0] at c5)
    · conv => whnf
      refine ⟨_, _, _, m_14 hh, hx, hx3, Or.inl rfl, ?_⟩
      conv => whnf
      erw [ms_14 (upd (I 14) r (nI 0))]
      refine ⟨_, m_0 hh, ?_⟩
      conv => whnf
      refine ⟨fun c6 => absurd c5 (by rw [jleI, j0] at c6; omega), fun _ => ?_⟩
      conv => whnf
      refine ⟨_, _, _, m_15 hh, hx, hx3, ?_⟩
      conv => whnf
      erw [ms_15 (upd (I 15) r (nI 0))]
      refine fin _ _ (fun k _ hk => ⟨by unfold upd; rw [if_neg hk], by unfold upd; rw [if_neg hk]⟩) ?_
      rw [if_neg (by omega)]
      show upd (I 14) r (nI 0) r = nI 0
      unfold upd
      rw [if_pos rfl]
    · conv => whnf
      refine ⟨_, _, _, m_14 hh, hx, hx3, Or.inr rfl, ?_⟩
      conv => whnf
      erw [ms_14 (upd (I 14) r (nI 1))]
      refine ⟨_, m_0 hh, ?_⟩
      conv => whnf
      refine ⟨fun _ => ?_, fun c6 => absurd c5 (by rw [jleI, j0] at c6; omega)⟩
      conv => whnf
      refine ⟨_, _, _, m_15 hh, hx, hx3, ?_⟩
      conv => whnf
      erw [ms_15 (upd (I 15) r y)]
      refine fin _ _ (fun k _ hk => ⟨by unfold upd; rw [if_neg hk], by unfold upd; rw [if_neg hk]⟩) ?_
      rw [if_pos (by omega)]
      refine ⟨?_, ?_, fun _ _ => rfl⟩
      · unfold upd
        rw [if_pos rfl]
      · unfold upd
        rw [if_pos rfl]
        exact tn_eq (by omega)
  · refine hG [] 300 _ _ _ _ _ _ ?_
    conv => whnf
    refine jcall (c_X12_isRow _ _) ?_
    rintro r h' ⟨rfl, rfl⟩
    conv => whnf
    refine ⟨fun c1 => ?_, fun c1 => ?_⟩ <;> rw [jbi_0] at c1
    · conv => whnf
      exact hbad (fun q => c1 q.1)
    have c1 := Decidable.not_not.mp c1
    conv => whnf
    refine ⟨fun c2 => ?_, fun c2 => ?_⟩ <;> rw [jleI, j40] at c2
    · conv => whnf
      refine ⟨fun c3 => ?_, fun c3 => ?_⟩ <;> rw [jleI] at c3
      · exact absurd ⟨c1, c2, c3⟩ c
      · conv => whnf
        rw [← hΦ, zrow, if_pos ⟨c1, c2⟩, if_pos (by rw [jm1] at c3; omega)]
        exact ⟨rfl, I, rfl, rfl, hE⟩
    · conv => whnf
      exact hbad (fun q => c2 q.2)
theorem r_row {h : List jC} (hh : 53 ≤ h.length) {s : Nat → Int32} {I : jIs} {L : jLss} {F : jFs} {z : zS} (hE : EncR s I L F z) (hz : zWF z) (x y : Int32) : jCt jy_X12_row [.ref 20, .int x, .int y] (jR h s I L F) (zPost h (zrow z x y).1 (zrow z x y).2) := by
  refine jCt_mono (r_row3 hh hE hz x y) ?_
  rintro r h' ⟨q1, I', q2, -, q3⟩
  exact ⟨q1, s, I', L, F, q2, q3⟩
