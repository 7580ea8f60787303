/-! the reference's smallest methods -/
theorem c_X12_in (x y z : Int32) (h : List jC) : jCt jy_X12_in [.int x, .int y, .int z] h (fun r h' => r = some (.int (jbi (y.toInt ≤ x.toInt ∧ x.toInt ≤ z.toInt))) ∧ h' = h) := by
  refine jrun2 (js_X12_in _) rfl rfl rfl (fun G hG hW hB => ?_)
  refine hG [] 20 _ _ _ _ _ _ ?_
  repeat' ((conv => whnf); with_reducible apply jAI; all_goals intro c)
  all_goals refine ⟨by decide, ?_, rfl⟩
  all_goals (simp only [jlt, jleI] at *)
  · rw [jbi_f (by omega)]
  · rw [jbi_f (by omega)]
  · rw [jbi_t (by omega)]
/-- the reference's numbers and rows where a number was too great, or none -/
def rS (s : Nat → Int32) (q : jLs) : Nat → Int32 := if q.1 = true then upd (upd s 0 (nI 1)) 1 (nI 1) else s
def rI (I : jIs) (q : jLs) : jIs := if q.1 = true then va_up (va_up I 1 (upd (I 1) 0 (nI 4))) 2 (upd (I 2) 0 q.2) else I
theorem rS0 {s : Nat → Int32} (hs : s 0 = nI 0) (q : jLs) : rS s q 0 = jbi (q.1 = true) := by
  unfold rS
  by_cases h : q.1 = true
  · rw [if_pos h, jbi_t h]; rfl
  · rw [if_neg h, jbi_f h]; exact hs
theorem rI_ne (I : jIs) (q : jLs) {k : Nat} (h1 : k ≠ 1) (h2 : k ≠ 2) : rI I q k = I k := by
  unfold rI
  split
  · rw [va_up_ne _ _ h2, va_up_ne _ _ h1]
  · rfl
theorem c_X12_over {h : List jC} (hh : 53 ≤ h.length) {s : Nat → Int32} (hs : s 0 = nI 0) (I : jIs) (L : jLss) (F : jFs) (q : jLs) (i : Int32) : jCt jy_X12_over [.ref 20, .int i] (jR h (rS s q) (rI I q) L F) (fun r h' => r = none ∧ h' = jR h (rS s (jbad1 q true i)) (rI I (jbad1 q true i)) L F) := by
  refine jrun2 (js_X12_over _) rfl rfl rfl (fun G hG hW hB => ?_)
  refine hG [] 300 _ _ _ _ _ _ ?_
  conv => whnf
  refine ⟨_, m_0 hh, ?_⟩
  conv => whnf
  rw [rS0 hs]
  refine ⟨fun c => ?_, fun c => ?_⟩ <;> rw [jbi_0] at c
  · have e1 : rS s q = s := if_neg c
    have e2 : rI I q = I := if_neg c
    have e3 : jbad1 q true i = (true, i) := by rw [jbad1, if_neg c]; rfl
    rw [e1, e2, e3]
    conv => whnf
    refine ⟨Or.inr rfl, _, m_0 hh, ?_⟩
    conv => whnf
    erw [ms_0 (upd s 0 (nI 1))]
    refine ⟨trivial, _, m_0 hh, ?_⟩
    conv => whnf
    erw [ms_0 (upd (upd s 0 (nI 1)) 1 (nI 1))]
    refine ⟨_, m_0 hh, ?_⟩
    conv => whnf
    refine ⟨_, _, _, m_1 hh, rfl, (by decide), ?_⟩
    conv => whnf
    erw [ms_1 ((upd (I 1) 0 (nI 4)))]
    refine ⟨_, m_0 hh, ?_⟩
    conv => whnf
    refine ⟨_, _, _, m_2 hh, rfl, (by decide), ?_⟩
    conv => whnf
    erw [ms_2 ((upd (va_up I 1 (upd (I 1) 0 (nI 4)) 2) 0 i))]
    exact ⟨rfl, rfl⟩
  · conv => whnf
    have c := Decidable.not_not.mp c
    refine ⟨rfl, ?_⟩
    rw [jbad1, if_pos c]
theorem c_X12_plus {h : List jC} (hh : 53 ≤ h.length) {s : Nat → Int32} (hs : s 0 = nI 0) (I : jIs) (L : jLss) (F : jFs) (q : jLs) (a b : Int64) (i : Int32) : jCt jy_X12_plus [.ref 20, .long a, .long b, .int i] (jR h (rS s q) (rI I q) L F) (fun r h' => r = some (.long (a + b)) ∧ h' = jR h (rS s (jbad1 q (jov a b) i)) (rI I (jbad1 q (jov a b) i)) L F) := by
  refine jrun2 (js_X12_plus _) rfl rfl rfl (fun G hG hW hB => ?_)
  refine hG [] 300 _ _ _ _ _ _ ?_
  conv => whnf
  refine ⟨fun c => ?_, fun c => ?_⟩ <;> rw [jlgge] at c
  · conv => whnf
    refine ⟨rfl, ?_⟩
    have : jov a b = false := by rw [jov, decide_eq_false_iff_not]; exact Int64.not_lt.mpr c
    rw [this, jbad1]
    simp only [Bool.false_eq_true, if_false, ite_self]
  · conv => whnf
    refine ⟨⟨_, m_0 hh⟩, jcall (c_X12_over hh hs I L F q i) ?_⟩
    rintro r h' ⟨rfl, rfl⟩
    conv => whnf
    refine ⟨rfl, ?_⟩
    have : jov a b = true := by rw [jov, decide_eq_true_iff]; exact Int64.not_le.mp c
    rw [this]
theorem c_X12_less {h : List jC} (hh : 53 ≤ h.length) {s : Nat → Int32} (hs : s 0 = nI 0) (I : jIs) (L : jLss) (F : jFs) (q : jLs) (a : Int64) (i : Int32) : jCt jy_X12_less [.ref 20, .long a, .int i] (jR h (rS s q) (rI I q) L F) (fun r h' => r = some (.long (-a)) ∧ h' = jR h (rS s (jbad1 q (decide (a = -9223372036854775808)) i)) (rI I (jbad1 q (decide (a = -9223372036854775808)) i)) L F) := by
  refine jrun2 (js_X12_less _) rfl rfl rfl (fun G hG hW hB => ?_)
  refine hG [] 300 _ _ _ _ _ _ ?_
  conv => whnf
  refine ⟨fun c => ?_, fun c => ?_⟩ <;> rw [jlg0] at c
  · conv => whnf
    refine ⟨rfl, ?_⟩
    rw [decide_eq_false c, jbad1]
    simp only [Bool.false_eq_true, if_false, ite_self]
  · conv => whnf
    refine ⟨⟨_, m_0 hh⟩, jcall (c_X12_over hh hs I L F q i) ?_⟩
    rintro r h' ⟨rfl, rfl⟩
    conv => whnf
    refine ⟨rfl, ?_⟩
    rw [decide_eq_true c]
theorem jotm_0 (b : Int64) : jotm 0 b = false := by
  unfold jotm
  rw [if_neg (by decide), decide_eq_false_iff_not]
  exact fun z => z.1 rfl
theorem jz_div (a : Int64) : (0 : Int64) / a = 0 := by
  exact Int64.zero_div
theorem jotm_b0 (a : Int64) : jotm a 0 = false := by
  unfold jotm
  split
  · decide
  · rw [decide_eq_false_iff_not]
    intro z
    apply z.2
    rw [Int64.mul_zero, jz_div]
theorem c_X12_times {h : List jC} (hh : 53 ≤ h.length) {s : Nat → Int32} (hs : s 0 = nI 0) (I : jIs) (L : jLss) (F : jFs) (q : jLs) (a b : Int64) (i : Int32) : jCt jy_X12_times [.ref 20, .long a, .long b, .int i] (jR h (rS s q) (rI I q) L F) (fun r h' => r = some (.long (a * b)) ∧ h' = jR h (rS s (jbad1 q (jotm a b) i)) (rI I (jbad1 q (jotm a b) i)) L F) := by
  have hno : jotm a b = false → jR h (rS s q) (rI I q) L F = jR h (rS s (jbad1 q (jotm a b) i)) (rI I (jbad1 q (jotm a b) i)) L F := by
    intro e
    rw [e, jbad1]
    simp only [Bool.false_eq_true, if_false, ite_self]
  refine jrun2 (js_X12_times _) rfl rfl rfl (fun G hG hW hB => ?_)
  have bad : jotm a b = true → G 68 [some (.ref 20), some (.long a), none, some (.long b), none, some (.int i), some (.long (a * b)), none] [] (jR h (rS s q) (rI I q) L F) 0 0 := by
    intro e
    refine hG [] 300 _ _ _ _ _ _ ?_
    conv => whnf
    refine ⟨⟨_, m_0 hh⟩, jcall (c_X12_over hh hs I L F q i) ?_⟩
    rintro r h' ⟨rfl, rfl⟩
    conv => whnf
    refine ⟨rfl, ?_⟩
    rw [e]
  have good : jotm a b = false → G 74 [some (.ref 20), some (.long a), none, some (.long b), none, some (.int i), some (.long (a * b)), none] [] (jR h (rS s q) (rI I q) L F) 0 0 := by
    intro e
    refine hG [] 300 _ _ _ _ _ _ ?_
    conv => whnf
    exact ⟨rfl, hno e⟩
  have nx : ¬ a = 0 → ¬ b = 0 → G 14 [some (.ref 20), some (.long a), none, some (.long b), none, some (.int i), none, none] [] (jR h (rS s q) (rI I q) L F) 0 0 := by
    intro ha hb
    have t35 : ¬ (a = -1 ∧ b = -9223372036854775808) → G 35 [some (.ref 20), some (.long a), none, some (.long b), none, some (.int i), some (.long (a * b)), none] [] (jR h (rS s q) (rI I q) L F) 0 0 := by
      intro h1
      have t51 : G 51 [some (.ref 20), some (.long a), none, some (.long b), none, some (.int i), some (.long (a * b)), none] [] (jR h (rS s q) (rI I q) L F) 0 0 := by
        refine hG [68, 74] 300 _ _ _ _ _ _ ?_
        conv => whnf
        refine ⟨fun c => ?_, fun c => ?_⟩ <;> rw [jlg0] at c
        · conv => whnf
          apply good
          rw [jotm, if_pos c, decide_eq_false_iff_not]
          exact fun z => h1 ⟨c, z⟩
        · conv => whnf
          refine ⟨ha, ?_⟩
          conv => whnf
          refine ⟨fun c2 => ?_, fun c2 => ?_⟩ <;> rw [jlg0] at c2
          · conv => whnf
            apply good
            rw [jotm, if_neg c, decide_eq_false_iff_not]
            exact fun z => z.2 c2
          · conv => whnf
            apply bad
            rw [jotm, if_neg c, decide_eq_true_iff]
            exact ⟨ha, c2⟩
      refine hG [51, 68, 74] 300 _ _ _ _ _ _ ?_
      conv => whnf
      refine ⟨fun c => ?_, fun c => ?_⟩ <;> rw [jlg0] at c
      · conv => whnf
        exact t51
      · conv => whnf
        refine ⟨fun c2 => ?_, fun c2 => ?_⟩ <;> rw [jlg0] at c2
        · conv => whnf
          apply bad
          rw [c, c2]
          decide
        · conv => whnf
          exact t51
    refine hG [35, 68, 74] 300 _ _ _ _ _ _ ?_
    conv => whnf
    refine ⟨fun c => ?_, fun c => ?_⟩ <;> rw [jlg0] at c
    · conv => whnf
      exact t35 (fun z => c z.1)
    · conv => whnf
      refine ⟨fun c2 => ?_, fun c2 => ?_⟩ <;> rw [jlg0] at c2
      · conv => whnf
        apply bad
        rw [jotm, if_pos c, decide_eq_true c2]
      · conv => whnf
        exact t35 (fun z => c2 z.2)
  refine hG [14] 300 _ _ _ _ _ _ ?_
  conv => whnf
  refine ⟨fun c => ?_, fun c => ?_⟩ <;> rw [jlg0] at c
  · conv => whnf
    refine ⟨?_, hno ?_⟩
    · rw [c, Int64.zero_mul]
    · rw [c, jotm_0]
  · conv => whnf
    refine ⟨fun c2 => ?_, fun c2 => ?_⟩ <;> rw [jlg0] at c2
    · conv => whnf
      exact nx c c2
    · conv => whnf
      refine ⟨?_, hno ?_⟩
      · rw [c2, Int64.mul_zero]
      · rw [c2, jotm_b0]
theorem jreg (x : Int32) : (0 ≤ x.toInt ∧ x.toInt ≤ 3) ↔ ∃ r, r < 4 ∧ x = nI r := by
  constructor
  · intro hx
    refine ⟨x.toInt.toNat, by omega, (jeq _ _).mpr ?_⟩
    rw [nI_toInt (by omega)]; omega
  · rintro ⟨r, hr, rfl⟩
    rw [nI_toInt (by omega)]; omega
theorem c_X12_isRegister (x : Int32) (h : List jC) : jCt jy_X12_isRegister [.int x] h (fun r h' => r = some (.int (jbi (0 ≤ x.toInt ∧ x.toInt ≤ 3))) ∧ h' = h) := by
  refine jrun2 (js_X12_isRegister _) rfl rfl rfl (fun G hG hW hB => ?_)
  refine hG [] 300 _ _ _ _ _ _ ?_
  conv => whnf
  refine jcall (c_X12_in _ _ _ h) ?_
  rintro r h' ⟨rfl, rfl⟩
  conv => whnf
  exact ⟨jbi_01 _, rfl, rfl⟩
theorem c_X12_many (n : Nat) (hn : n ≤ 6) (h : List jC) : jCt jy_X12_many [.int (nI n)] h (fun r h' => r = some (.int (nI (jmany n))) ∧ h' = h) := by
  refine jrun2 (js_X12_many _) rfl rfl rfl (fun G hG hW hB => ?_)
  refine hG [] 300 _ _ _ _ _ _ ?_
  conv => whnf
  refine ⟨fun q => ?_, fun q => ?_⟩ <;> rw [nI_eq (by omega) (by omega)] at q
  · conv => whnf
    refine ⟨?_, rfl⟩
    rw [jmany, if_neg q, jI_m1 (by omega), jI_one (by omega)]
  · conv => whnf
    refine ⟨?_, rfl⟩
    rw [jmany, if_pos q]
theorem jisof {c m : Nat} (hm : m ≤ 32) (x : Int32) (hm0 : 0 < m) : (0 ≤ x.toInt ∧ x.toInt ≤ (nI m - nI 1).toInt) ↔ (0 ≤ x.toInt ∧ x.toInt < m) := by
  rw [jI_m1 hm0, nI_toInt (by omega)]
  omega
theorem c_X12_isOf {h : List jC} (hh : 53 ≤ h.length) (s : Nat → Int32) (I : jIs) (L : jLss) (F : jFs) {r w : Nat} (hr : r < 4) (hw : w ≤ 6) (hI : I 3 r = nI w) (x : Int32) : jCt jy_X12_isOf [.ref 20, .int (nI r), .int x] (jR h s I L F) (fun r h' => r = some (.int (jbi (0 ≤ x.toInt ∧ x.toInt < jmany w))) ∧ h' = jR h s I L F) := by
  refine jrun2 (js_X12_isOf _) rfl rfl rfl (fun G hG hW hB => ?_)
  refine hG [] 300 _ _ _ _ _ _ ?_
  conv => whnf
  refine ⟨_, m_0 hh, ?_⟩
  conv => whnf
  refine ⟨_, _, _, m_3 hh, rfl, hr, ?_⟩
  conv => whnf
  rw [hI]
  refine jcall (c_X12_many w hw _) ?_
  rintro r h' ⟨rfl, rfl⟩
  conv => whnf
  refine jcall (c_X12_in _ _ _ _) ?_
  rintro r h' ⟨rfl, rfl⟩
  conv => whnf
  refine ⟨jbi_01 _, ?_, rfl⟩
  have hm := jmany_le hw
  congr 2
  apply jbi_c
  rw [j0, jisof (c := 0) hm.2 x hm.1]
/-- the first e numbers of a row are none -/
def jzer (f : Nat → Int64) : Nat → Nat → Int64
  | 0 => f
  | e + 1 => vp_updL (jzer f e) e 0
theorem jzer_at (f : Nat → Int64) (e j : Nat) : jzer f e j = if j < e then 0 else f j := by
  induction e with
  | zero => simp [jzer]
  | succ e ih =>
    simp only [jzer, vp_updL]
    by_cases hj : j = e
    · subst hj; simp
    · rw [if_neg hj, ih]
      by_cases hl : j < e
      · rw [if_pos hl, if_pos (by omega)]
      · rw [if_neg hl, if_neg (by omega)]
theorem c_X12_empties {h : List jC} (hh : 53 ≤ h.length) (s : Nat → Int32) (I : jIs) (L : jLss) (F : jFs) : jCt jy_X12_empties [.ref 20] (jR h s I L F) (fun r h' => r = none ∧ h' = jR h s I (va_up L 5 (jzer (L 5) 32)) F) := by
  refine jrun2 (js_X12_empties _) rfl rfl rfl (fun G hG hW hB => ?_)
  have loop : ∀ k e, 32 = e + k → ∀ L', L' = va_up L 5 (jzer (L 5) e) → G 2 [some (.ref 20), some (.int (nI e))] [] (jR h s I L' F) 0 0 := by
    intro k
    induction k with
    | zero =>
      intro e he L' hL
      refine hG [2] 300 _ _ _ _ _ _ ?_
      conv => whnf
      refine ⟨fun qb => ?_, fun qb => ?_⟩ <;> rw [nI_leI (by omega) (by omega)] at qb
      · conv => whnf
        refine ⟨rfl, ?_⟩
        rw [hL, he, Nat.add_zero]
      · omega
    | succ k ih =>
      intro e he L' hL
      refine hG [2] 300 _ _ _ _ _ _ ?_
      conv => whnf
      refine ⟨fun qb => ?_, fun qb => ?_⟩ <;> rw [nI_leI (by omega) (by omega)] at qb
      · omega
      conv => whnf
      refine ⟨_, m_0 hh, ?_⟩
      conv => whnf
      refine ⟨_, _, _, m_5 hh, rfl, (by omega), ?_⟩
      conv => whnf
      rw [nI_add]
      erw [ms_5 (vp_updL (L' 5) e 0)]
      refine ih (e + 1) (by omega) _ ?_
      rw [hL]
      funext j
      by_cases hj : j = 5
      · subst hj; simp [va_up, jzer]
      · simp [va_up, hj]
  refine hG [2] 300 _ _ _ _ _ _ ?_
  conv => whnf
  refine loop 32 0 (by omega) L ?_
  funext j
  by_cases hj : j = 5
  · subst hj; simp [va_up, jzer]
  · simp [va_up, hj]
