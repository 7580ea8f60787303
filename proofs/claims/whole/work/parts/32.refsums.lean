/-! the reference: numbers taken, added, told -/
theorem va_up_up {α : Type} (f : Nat → α) (k : Nat) (x y : α) : va_up (va_up f k x) k y = va_up f k y := by
  funext j
  by_cases hj : j = k
  · subst hj; simp [va_up]
  · simp [va_up, hj]
theorem va_up_same {α : Type} (f : Nat → α) (k : Nat) : va_up f k (f k) = f := by
  funext j
  by_cases hj : j = k
  · subst hj; simp [va_up]
  · simp [va_up, hj]
/-- the first e numbers are another row's -/
def jcpL (f g : Nat → Int64) : Nat → Nat → Int64
  | 0 => f
  | e + 1 => vp_updL (jcpL f g e) e (g e)
theorem jcpL_at (f g : Nat → Int64) (e j : Nat) : jcpL f g e j = if j < e then g j else f j := by
  induction e with
  | zero => simp [jcpL]
  | succ e ih =>
    simp only [jcpL, vp_updL]
    by_cases hj : j = e
    · subst hj; simp
    · rw [if_neg hj, ih]
      by_cases hl : j < e
      · rw [if_pos hl, if_pos (by omega)]
      · rw [if_neg hl, if_neg (by omega)]
theorem c_X12_takes {h : List jC} (hh : 53 ≤ h.length) (s : Nat → Int32) (I : jIs) (L : jLss) (F : jFs) {r : Nat} (hr : r < 4) : jCt jy_X12_takes [.ref 20, .int (nI r)] (jR h s I L F) (fun r' h' => r' = none ∧ h' = jR h s I (va_up L 5 (jcpL (L 5) (fun c => L 4 (32 * r + c)) 32)) F) := by
  refine jrun2 (js_X12_takes _) rfl rfl rfl (fun G hG hW hB => ?_)
  have loop : ∀ k e, 32 = e + k → G 2 [some (.ref 20), some (.int (nI r)), some (.int (nI e))] [] (jR h s I (va_up L 5 (jcpL (L 5) (fun c => L 4 (32 * r + c)) e)) F) 0 0 := by
    intro k
    induction k with
    | zero =>
      intro e he
      refine hG [2] 300 _ _ _ _ _ _ ?_
      conv => whnf
      refine ⟨fun qb => ?_, fun qb => ?_⟩ <;> rw [nI_leI (by omega) (by omega)] at qb
      · conv => whnf
        refine ⟨rfl, ?_⟩
        rw [he, Nat.add_zero]
      · omega
    | succ k ih =>
      intro e he
      refine hG [2] 300 _ _ _ _ _ _ ?_
      conv => whnf
      refine ⟨fun qb => ?_, fun qb => ?_⟩ <;> rw [nI_leI (by omega) (by omega)] at qb
      · omega
      conv => whnf
      refine ⟨_, m_0 hh, ?_⟩
      conv => whnf
      refine ⟨_, m_0 hh, ?_⟩
      conv => whnf
      rw [pk_mul, nI_add]
      refine ⟨_, _, _, m_4 hh, rfl, (show 32 * r + e < 128 from by omega), ?_⟩
      conv => whnf
      refine ⟨_, _, _, m_5 hh, rfl, (by omega), ?_⟩
      conv => whnf
      rw [nI_add]
      erw [ms_5 (vp_updL (jcpL (L 5) (fun c => L 4 (32 * r + c)) e) e (L 4 (32 * r + e)))]
      rw [va_up_up]
      exact ih (e + 1) (by omega)
  refine hG [2] 300 _ _ _ _ _ _ ?_
  conv => whnf
  have l0 := loop 32 0 (by omega)
  rw [show jcpL (L 5) (fun c => L 4 (32 * r + c)) 0 = L 5 from rfl, va_up_same] at l0
  exact l0
theorem c_X12_isFiner (x y : Nat) (h : List jC) : jCt jy_X12_isFiner [.int (nI x), .int (nI y)] h (fun r h' => r = some (.int (jbi (nI (x &&& y) = nI y))) ∧ h' = h) := by
  refine jrun2 (js_X12_isFiner _) rfl rfl rfl (fun G hG hW hB => ?_)
  refine hG [] 300 _ _ _ _ _ _ ?_
  conv => whnf
  rw [jI_and]
  refine ⟨fun c => ?_, fun c => ?_⟩
  · conv => whnf
    exact ⟨Or.inl rfl, by rw [jbi_f c], rfl⟩
  · conv => whnf
    exact ⟨Or.inr rfl, by rw [jbi_t c], rfl⟩
theorem c_X12_addsF {h : List jC} (hh : 53 ≤ h.length) {s : Nat → Int32} (hs : s 0 = nI 0) (I : jIs) (L : jLss) (F : jFs) (q : jLs) {n : Nat} (hn : n ≤ 6) (c : Nat) (v : Int64) : jCt jy_X12_addsF [.ref 20, .int (nI n), .int (nI c), .long v] (jR h (rS s q) (rI I q) L F) (fun r h' => r = none ∧ h' = jR h (rS s (jfin c v (L 5, q) (jmany n)).2) (rI I (jfin c v (L 5, q) (jmany n)).2) (va_up L 5 (jfin c v (L 5, q) (jmany n)).1) F) := by
  have hm := jmany_le hn
  refine jrun2 (js_X12_addsF _) rfl rfl rfl (fun G hG hW hB => ?_)
  have loop : ∀ k e, jmany n = e + k → G 3 [some (.ref 20), some (.int (nI n)), some (.int (nI c)), some (.long v), none, some (.int (nI e))] [] (jR h (rS s (jfin c v (L 5, q) e).2) (rI I (jfin c v (L 5, q) e).2) (va_up L 5 (jfin c v (L 5, q) e).1) F) 0 0 := by
    intro k
    induction k with
    | zero =>
      intro e he
      refine hG [3] 300 _ _ _ _ _ _ ?_
      conv => whnf
      refine jcall (c_X12_many n hn _) ?_
      rintro r h' ⟨rfl, rfl⟩
      conv => whnf
      refine ⟨fun qb => ?_, fun qb => ?_⟩ <;> rw [nI_leI (by omega) (by omega)] at qb
      · conv => whnf
        refine ⟨rfl, ?_⟩
        rw [he, Nat.add_zero]
      · omega
    | succ k ih =>
      intro e he
      have i1 := ih (e + 1) (by omega)
      rw [jfin] at i1
      refine hG [3] 300 _ _ _ _ _ _ ?_
      conv => whnf
      refine jcall (c_X12_many n hn _) ?_
      rintro r h' ⟨rfl, rfl⟩
      conv => whnf
      refine ⟨fun qb => ?_, fun qb => ?_⟩ <;> rw [nI_leI (by omega) (by omega)] at qb
      · omega
      conv => whnf
      refine jcall (c_X12_isFiner e c _) ?_
      rintro r h' ⟨rfl, rfl⟩
      conv => whnf
      refine ⟨fun d => ?_, fun d => ?_⟩ <;> rw [jbi_0] at d
      · conv => whnf
        rw [nI_add]
        rw [if_neg d] at i1
        exact i1
      · conv => whnf
        rw [if_pos (Decidable.not_not.mp d)] at i1
        refine ⟨_, m_0 hh, ?_⟩
        conv => whnf
        refine ⟨_, m_0 hh, ?_⟩
        conv => whnf
        refine ⟨_, _, _, m_5 hh, rfl, (by omega), ?_⟩
        conv => whnf
        refine ⟨⟨_, m_0 hh⟩, jcall (c_X12_plus hh hs I _ F _ _ _ _) ?_⟩
        rintro r h' ⟨rfl, rfl⟩
        conv => whnf
        refine ⟨_, _, _, m_5 hh, rfl, (by omega), ?_⟩
        conv => whnf
        rw [nI_add]
        erw [ms_5 (vp_updL (jfin c v (L 5, q) e).1 e ((jfin c v (L 5, q) e).1 e + v))]
        rw [va_up_up]
        exact i1
  refine hG [3] 300 _ _ _ _ _ _ ?_
  conv => whnf
  have l0 := loop (jmany n) 0 (by omega)
  rw [show jfin c v (L 5, q) 0 = (L 5, q) from rfl, show (L 5, q).1 = L 5 from rfl, va_up_same] at l0
  exact l0
theorem jpop6 (c : Nat) : jpop c = 0 + c / 2 ^ 0 % 2 + c / 2 ^ 1 % 2 + c / 2 ^ 2 % 2 + c / 2 ^ 3 % 2 + c / 2 ^ 4 % 2 + c / 2 ^ 5 % 2 := by
  unfold jpop
  simp only [Nat.pow_zero, Nat.div_one, Nat.zero_add]
def jpopF (c : Nat) : Nat → Nat
  | 0 => 0
  | i + 1 => jpopF c i + c / 2 ^ i % 2
theorem jpopF_le (c : Nat) : ∀ i, jpopF c i ≤ i
  | 0 => Nat.le_refl _
  | i + 1 => by have := jpopF_le c i; have := Nat.mod_lt (c / 2 ^ i) (show 0 < 2 by decide); simp only [jpopF]; omega
theorem c_X12_bits (c : Nat) (hc : c < 2 ^ 31) (h : List jC) : jCt jy_X12_bits [.int (nI c)] h (fun r h' => r = some (.int (nI (jpop c))) ∧ h' = h) := by
  refine jrun2 (js_X12_bits _) rfl rfl rfl (fun G hG hW hB => ?_)
  have loop : ∀ k i, 6 = i + k → G 4 [some (.int (nI c)), some (.int (nI (jpopF c i))), some (.int (nI i))] [] h 0 0 := by
    intro k
    induction k with
    | zero =>
      intro i he
      refine hG [4] 300 _ _ _ _ _ _ ?_
      conv => whnf
      refine ⟨fun qb => ?_, fun qb => ?_⟩ <;> rw [nI_leI (by omega) (by omega)] at qb
      · conv => whnf
        refine ⟨?_, rfl⟩
        rw [jpop6, show i = 6 by omega]
        rfl
      · omega
    | succ k ih =>
      intro i he
      refine hG [4] 300 _ _ _ _ _ _ ?_
      conv => whnf
      refine ⟨fun qb => ?_, fun qb => ?_⟩ <;> rw [nI_leI (by omega) (by omega)] at qb
      · omega
      conv => whnf
      rw [jI_bit (by omega) (by omega), nI_add, nI_add]
      exact ih (i + 1) (by omega)
  refine hG [4] 300 _ _ _ _ _ _ ?_
  conv => whnf
  exact loop 6 0 (by omega)
theorem c_X12_length (n c : Nat) (hn : n ≤ 6) (hc : c < 2 ^ 31) (h : List jC) : jCt jy_X12_length [.int (nI n), .int (nI c)] h (fun r h' => r = some (.int (nI (jlen n c))) ∧ h' = h) := by
  refine jrun2 (js_X12_length _) rfl rfl rfl (fun G hG hW hB => ?_)
  refine hG [] 300 _ _ _ _ _ _ ?_
  conv => whnf
  refine ⟨fun qb => ?_, fun qb => ?_⟩ <;> rw [nI_eq (by omega) (by omega)] at qb
  · conv => whnf
    refine jcall (c_X12_bits c hc h) ?_
    rintro r h' ⟨rfl, rfl⟩
    conv => whnf
    refine ⟨?_, rfl⟩
    rw [nI_add, jlen, if_neg qb, Nat.add_comm]
  · conv => whnf
    refine ⟨?_, rfl⟩
    rw [jlen, if_pos qb]
/-- what turned() makes of bits, up to place i -/
def jtuF (n c : Nat) : Nat → Nat
  | 0 => 0
  | i + 1 => jtuF n c i ||| (c / 2 ^ i % 2) * 2 ^ (n - (i + 1) - 1)
theorem jtuF_lt (n c : Nat) (hn : n ≤ 6) : ∀ i, jtuF n c i < 64
  | 0 => show 0 < 64 by decide
  | i + 1 => by
    have h1 := jtuF_lt n c hn i
    have h2 : (c / 2 ^ i % 2) * 2 ^ (n - (i + 1) - 1) < 2 ^ 6 := by
      have : c / 2 ^ i % 2 < 2 := Nat.mod_lt _ (by decide)
      have h3 : 2 ^ (n - (i + 1) - 1) ≤ 2 ^ 4 := Nat.pow_le_pow_right (by decide) (by omega)
      have : (c / 2 ^ i % 2) * 2 ^ (n - (i + 1) - 1) ≤ 1 * 2 ^ 4 := Nat.mul_le_mul (by omega) h3
      omega
    exact Nat.or_lt_two_pow (n := 6) h1 h2
def jtu (n c : Nat) : Nat := jtuF n c (n - 1)
theorem c_X12_turned (n c : Nat) (hn : n ≤ 6) (hc : c < 2 ^ 31) (h : List jC) : jCt jy_X12_turned [.int (nI n), .int (nI c)] h (fun r h' => r = some (.int (nI (jtu n c))) ∧ h' = h) := by
  refine jrun2 (js_X12_turned _) rfl rfl rfl (fun G hG hW hB => ?_)
  have loop : ∀ k i, n - 1 = i + k → G 4 [some (.int (nI n)), some (.int (nI c)), some (.int (nI (jtuF n c i))), some (.int (nI (i + 1)))] [] h 0 0 := by
    intro k
    induction k with
    | zero =>
      intro i he
      refine hG [4] 300 _ _ _ _ _ _ ?_
      conv => whnf
      refine ⟨fun qb => ?_, fun qb => ?_⟩ <;> rw [nI_leI (by omega) (by omega)] at qb
      · conv => whnf
        refine ⟨?_, rfl⟩
        rw [jtu, he, Nat.add_zero]
      · omega
    | succ k ih =>
      intro i he
      refine hG [4] 300 _ _ _ _ _ _ ?_
      conv => whnf
      refine ⟨fun qb => ?_, fun qb => ?_⟩ <;> rw [nI_leI (by omega) (by omega)] at qb
      · omega
      conv => whnf
      have hb : c / 2 ^ i % 2 < 2 := Nat.mod_lt _ (by decide)
      have hp : 2 ^ (n - (i + 1) - 1) ≤ 2 ^ 4 := Nat.pow_le_pow_right (by decide) (by omega)
      rw [jI_m1 (show 1 ≤ i + 1 by omega), Nat.add_sub_cancel, jI_bit (by omega) (by omega), pk_sub (show i + 1 ≤ n by omega), jI_m1 (show 1 ≤ n - (i + 1) by omega), jI_shl (by omega) (by have := Nat.mul_le_mul (show c / 2 ^ i % 2 ≤ 1 by omega) hp; omega), jI_or, nI_add]
      exact ih (i + 1) (by omega)
  refine hG [4] 300 _ _ _ _ _ _ ?_
  conv => whnf
  exact loop (n - 1) 0 (by omega)
theorem c_X0_turned (n c : Nat) (hn : n ≤ 6) (hc : c < 2 ^ 31) (h : List jC) : jCt jy_X0_turned [.int (nI n), .int (nI c)] h (fun r h' => r = some (.int (nI (jtu n c))) ∧ h' = h) := by
  refine jrun2 (js_X0_turned _) rfl rfl rfl (fun G hG hW hB => ?_)
  have loop : ∀ k i, n - 1 = i + k → G 4 [some (.int (nI n)), some (.int (nI c)), some (.int (nI (jtuF n c i))), some (.int (nI (i + 1)))] [] h 0 0 := by
    intro k
    induction k with
    | zero =>
      intro i he
      refine hG [4] 300 _ _ _ _ _ _ ?_
      conv => whnf
      refine ⟨fun qb => ?_, fun qb => ?_⟩ <;> rw [nI_leI (by omega) (by omega)] at qb
      · conv => whnf
        refine ⟨?_, rfl⟩
        rw [jtu, he, Nat.add_zero]
      · omega
    | succ k ih =>
      intro i he
      have i1 := ih (i + 1) (by omega)
      rw [jtuF] at i1
      refine hG [4] 300 _ _ _ _ _ _ ?_
      conv => whnf
      refine ⟨fun qb => ?_, fun qb => ?_⟩ <;> rw [nI_leI (by omega) (by omega)] at qb
      · omega
      conv => whnf
      have hb : c / 2 ^ i % 2 < 2 := Nat.mod_lt _ (by decide)
      rw [jI_m1 (show 1 ≤ i + 1 by omega), Nat.add_sub_cancel, jI_bit (by omega) (by omega)]
      refine ⟨fun d => ?_, fun d => ?_⟩ <;> rw [nI_eq (by omega) (by omega)] at d
      · conv => whnf
        rw [nI_add]
        rw [show c / 2 ^ i % 2 = 0 by omega, Nat.zero_mul, Nat.or_zero] at i1
        exact i1
      · conv => whnf
        rw [pk_sub (show i + 1 ≤ n by omega), jI_m1 (show 1 ≤ n - (i + 1) by omega), jI_one (by omega), jI_or, nI_add]
        rw [d, Nat.one_mul] at i1
        exact i1
  refine hG [4] 300 _ _ _ _ _ _ ?_
  conv => whnf
  exact loop (n - 1) 0 (by omega)
