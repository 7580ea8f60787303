/-! the reference: what was made comes to a register; steps taken back -/
theorem jupd2 (s : Nat → Int32) (k : Nat) (x y : Int32) : upd (upd s k x) k y = upd s k y := by
  funext j
  by_cases hj : j = k
  · subst hj; simp [upd]
  · simp [upd, hj]
/-- g from place o on, e of it -/
def jpst (f : Nat → Int64) (o : Nat) (g : Nat → Int64) (e : Nat) : Nat → Int64 := fun j => if o ≤ j ∧ j < o + e then g (j - o) else f j
theorem jpst_0 (f g : Nat → Int64) (o : Nat) : jpst f o g 0 = f := by
  funext j; unfold jpst; rw [if_neg (by omega)]
theorem jpst_s (f g : Nat → Int64) (o e : Nat) : vp_updL (jpst f o g e) (o + e) (g e) = jpst f o g (e + 1) := by
  funext j
  unfold vp_updL jpst
  by_cases hj : j = o + e
  · rw [if_pos hj, if_pos (by omega)]; congr 1; omega
  · rw [if_neg hj]
    by_cases h1 : o ≤ j ∧ j < o + e
    · rw [if_pos h1, if_pos (by omega)]
    · rw [if_neg h1, if_neg (by omega)]
def shI (f : Nat → Int32) (m : Nat) : Nat → Int32 := fun j => if j < m then f (j + 1) else f j
def shN (f : Nat → Int64) (m : Nat) : Nat → Int64 := fun j => if j < m then f (j + 32) else f j
theorem shI_s (f : Nat → Int32) (m : Nat) : upd (shI f m) m (shI f m (m + 1)) = shI f (m + 1) := by
  funext j
  unfold upd shI
  by_cases hj : j = m
  · rw [if_pos hj, if_neg (by omega), if_pos (by omega), hj]
  · rw [if_neg hj]
    by_cases h1 : j < m
    · rw [if_pos h1, if_pos (by omega)]
    · rw [if_neg h1, if_neg (by omega)]
theorem shN_s (f : Nat → Int64) (m : Nat) : vp_updL (shN f m) m (shN f m (m + 32)) = shN f (m + 1) := by
  funext j
  unfold vp_updL shN
  by_cases hj : j = m
  · rw [if_pos hj, if_neg (by omega), if_pos (by omega), hj]
  · rw [if_neg hj]
    by_cases h1 : j < m
    · rw [if_pos h1, if_pos (by omega)]
    · rw [if_neg h1, if_neg (by omega)]
def rk (k : Nat) : Nat := if k = 8 then 7 else k
def rShI (k : Nat) (f : Nat → Int32) : Nat → Int32 := if k = 8 then shI f 7 else f
def rShN (k : Nat) (f : Nat → Int64) : Nat → Int64 := if k = 8 then shN f 224 else f
def bcI (I : jIs) (r n k : Nat) : jIs := va_up (va_up (va_up I 6 (upd (rShI k (I 6)) (rk k) (nI r))) 7 (upd (rShI k (I 7)) (rk k) (I 3 r))) 3 (upd (I 3) r (nI n))
def bcL (L : jLss) (r k : Nat) : jLss := va_up (va_up L 8 (jpst (rShN k (L 8)) (32 * rk k) (fun c => L 4 (32 * r + c)) 32)) 4 (jpst (L 4) (32 * r) (L 5) 32)
theorem shI_0 (f : Nat → Int32) : shI f 0 = f := by funext j; unfold shI; rw [if_neg (by omega)]
theorem shN_0 (f : Nat → Int64) : shN f 0 = f := by funext j; unfold shN; rw [if_neg (by omega)]
theorem upd_same (f : Nat → Int32) (k : Nat) : upd f k (f k) = f := by
  funext j
  by_cases hj : j = k
  · subst hj; simp [upd]
  · simp [upd, hj]
theorem c_X12_becomes {h : List jC} (hh : 53 ≤ h.length) (s : Nat → Int32) (I : jIs) (L : jLss) (F : jFs) {r n k w : Nat} (hr : r < 4) (hn : n < 100) (hk : s 2 = nI k) (hk8 : k ≤ 8) (hw : I 3 r = nI w) (hw1 : w < 100) : jCt jy_X12_becomes [.ref 20, .int (nI r), .int (nI n)] (jR h s I L F)
    (fun r' h' => r' = none ∧ ((w = n ∧ ∀ c, c < 32 → L 4 (32 * r + c) = L 5 c) → h' = jR h s I L F) ∧ (¬ (w = n ∧ ∀ c, c < 32 → L 4 (32 * r + c) = L 5 c) → h' = jR h (upd s 2 (nI (rk k + 1))) (bcI I r n k) (bcL L r k) F)) := by
  refine jrun2 (js_X12_becomes _) rfl rfl rfl (fun G hG hW hB => ?_)
  -- behind the record: the row is copied
  have last : ¬ (w = n ∧ ∀ c, c < 32 → L 4 (32 * r + c) = L 5 c) → ∀ d e, 32 = e + d → ∀ (x3 : Int32) (x5 : Option Value), G 270 [some (.ref 20), some (.int (nI r)), some (.int (nI n)), some (.int x3), some (.int (nI e)), x5] [] (jR h (upd s 2 (nI (rk k + 1))) (bcI I r n k) (va_up (va_up L 8 (jpst (rShN k (L 8)) (32 * rk k) (fun c => L 4 (32 * r + c)) 32)) 4 (jpst (L 4) (32 * r) (L 5) e)) F) 0 0 := by
    intro hno d
    induction d with
    | zero =>
      intro e he x3 x5
      refine hG [270] 300 _ _ _ _ _ _ ?_
      conv => whnf
      refine ⟨fun qb => ?_, fun qb => ?_⟩ <;> rw [nI_leI (by omega) (by omega)] at qb
      · conv => whnf
        refine ⟨rfl, fun z => absurd z hno, fun _ => ?_⟩
        rw [show e = 32 by omega]
        rfl
      · omega
    | succ d ih =>
      intro e he x3 x5
      refine hG [270] 300 _ _ _ _ _ _ ?_
      conv => whnf
      refine ⟨fun qb => ?_, fun qb => ?_⟩ <;> rw [nI_leI (by omega) (by omega)] at qb
      · omega
      conv => whnf
      refine ⟨_, m_0 hh, ?_⟩
      conv => whnf
      rw [pk_mul, nI_add]
      refine ⟨_, m_0 hh, ?_⟩
      conv => whnf
      refine ⟨_, _, _, m_5 hh, rfl, (by omega), ?_⟩
      conv => whnf
      refine ⟨_, _, _, m_4 hh, rfl, (show 32 * r + e < 128 from by omega), ?_⟩
      conv => whnf
      rw [nI_add]
      erw [ms_4 (vp_updL (jpst (L 4) (32 * r) (L 5) e) (32 * r + e) (L 5 e))]
      rw [va_up_up, jpst_s]
      exact ih (e + 1) (by omega) x3 x5
  -- the record's numbers
  have rcd : ¬ (w = n ∧ ∀ c, c < 32 → L 4 (32 * r + c) = L 5 c) → ∀ d e, 32 = e + d → ∀ (x3 : Int32) (x5 : Option Value), G 210 [some (.ref 20), some (.int (nI r)), some (.int (nI n)), some (.int x3), some (.int (nI e)), x5] [] (jR h (upd s 2 (nI (rk k))) (va_up (va_up I 6 (upd (rShI k (I 6)) (rk k) (nI r))) 7 (upd (rShI k (I 7)) (rk k) (I 3 r))) (va_up L 8 (jpst (rShN k (L 8)) (32 * rk k) (fun c => L 4 (32 * r + c)) e)) F) 0 0 := by
    intro hno d
    have hrk : rk k ≤ 7 := by unfold rk; split <;> omega
    induction d with
    | zero =>
      intro e he x3 x5
      refine hG [210, 270] 300 _ _ _ _ _ _ ?_
      conv => whnf
      refine ⟨fun qb => ?_, fun qb => ?_⟩ <;> rw [nI_leI (by omega) (by omega)] at qb
      · conv => whnf
        refine ⟨_, m_0 hh, ?_⟩
        conv => whnf
        refine ⟨trivial, _, m_0 hh, ?_⟩
        conv => whnf
        erw [ms_0 (upd (upd s 2 (nI (rk k))) 2 (nI (rk k) + nI 1))]
        refine ⟨_, m_0 hh, ?_⟩
        conv => whnf
        refine ⟨_, _, _, m_3 hh, rfl, hr, ?_⟩
        conv => whnf
        erw [ms_3 (upd (I 3) r (nI n))]
        rw [jupd2, nI_add]
        have := last hno 32 0 (by omega) x3 x5
        rw [jpst_0] at this
        rw [show e = 32 by omega]
        have e4 : va_up (va_up L 8 (jpst (rShN k (L 8)) (32 * rk k) (fun c => L 4 (32 * r + c)) 32)) 4 (L 4) = va_up L 8 (jpst (rShN k (L 8)) (32 * rk k) (fun c => L 4 (32 * r + c)) 32) := va_up_same (va_up L 8 (jpst (rShN k (L 8)) (32 * rk k) (fun c => L 4 (32 * r + c)) 32)) 4
        rw [e4] at this
        exact this
      · omega
    | succ d ih =>
      intro e he x3 x5
      refine hG [210] 300 _ _ _ _ _ _ ?_
      conv => whnf
      refine ⟨fun qb => ?_, fun qb => ?_⟩ <;> rw [nI_leI (by omega) (by omega)] at qb
      · omega
      conv => whnf
      refine ⟨_, m_0 hh, ?_⟩
      conv => whnf
      refine ⟨_, m_0 hh, ?_⟩
      conv => whnf
      refine ⟨_, m_0 hh, ?_⟩
      conv => whnf
      refine ⟨_, _, _, m_4 hh, (by rw [pk_mul, nI_add]), (show 32 * r + e < 128 from by omega), ?_⟩
      conv => whnf
      refine ⟨_, _, _, m_8 hh, (show nI 32 * nI (rk k) + nI e = _ from by rw [pk_mul, nI_add]), (show 32 * rk k + e < 256 from by omega), ?_⟩
      conv => whnf
      rw [nI_add]
      erw [ms_8 (vp_updL (jpst (rShN k (L 8)) (32 * rk k) (fun c => L 4 (32 * r + c)) e) (32 * rk k + e) (L 4 (32 * r + e)))]
      rw [va_up_up, show L 4 (32 * r + e) = (fun c => L 4 (32 * r + c)) e from rfl, jpst_s]
      exact ih (e + 1) (by omega) x3 x5
  have hrk : rk k ≤ 7 := by unfold rk; split <;> omega
  have mid : ¬ (w = n ∧ ∀ c, c < 32 → L 4 (32 * r + c) = L 5 c) → ∀ (x3 : Int32) (x4 x5 : Option Value), G 182 [some (.ref 20), some (.int (nI r)), some (.int (nI n)), some (.int x3), x4, x5] [] (jR h (upd s 2 (nI (rk k))) (va_up (va_up I 6 (rShI k (I 6))) 7 (rShI k (I 7))) (va_up L 8 (rShN k (L 8))) F) 0 0 := by
    intro hno x3 x4 x5
    refine hG [210] 300 _ _ _ _ _ _ ?_
    conv => whnf
    refine ⟨_, m_0 hh, ?_⟩
    conv => whnf
    refine ⟨_, m_0 hh, ?_⟩
    conv => whnf
    refine ⟨_, _, _, m_6 hh, rfl, (show rk k < 8 from by omega), ?_⟩
    conv => whnf
    erw [ms_6 (upd (rShI k (I 6)) (rk k) (nI r))]
    refine ⟨_, m_0 hh, ?_⟩
    conv => whnf
    refine ⟨_, m_0 hh, ?_⟩
    conv => whnf
    refine ⟨_, m_0 hh, ?_⟩
    conv => whnf
    refine ⟨_, _, _, m_3 hh, rfl, hr, ?_⟩
    conv => whnf
    refine ⟨_, _, _, m_7 hh, rfl, (show rk k < 8 from by omega), ?_⟩
    conv => whnf
    erw [ms_7 (upd (rShI k (I 7)) (rk k) (I 3 r))]
    have := rcd hno 32 0 (by omega) x3 x5
    rw [jpst_0] at this
    have e1 : va_up (va_up (va_up (va_up I 6 (rShI k (I 6))) 7 (rShI k (I 7))) 6 (upd (rShI k (I 6)) (rk k) (nI r))) 7 (upd (rShI k (I 7)) (rk k) (I 3 r)) = va_up (va_up I 6 (upd (rShI k (I 6)) (rk k) (nI r))) 7 (upd (rShI k (I 7)) (rk k) (I 3 r)) := by
      funext j
      unfold va_up
      by_cases h7 : j = 7
      · rw [if_pos h7, if_pos h7]
      · rw [if_neg h7, if_neg h7]
        by_cases h6 : j = 6
        · rw [if_pos h6, if_neg h7, if_pos h6]
        · rw [if_neg h6, if_neg h7, if_neg h6, if_neg h6]
    rw [e1]
    exact this
  -- the eldest step falls away
  have shift : k = 8 → ¬ (w = n ∧ ∀ c, c < 32 → L 4 (32 * r + c) = L 5 c) → ∀ (x3 : Int32), ∀ d i, 7 = i + d → ∀ x5 : Option Value, G 82 [some (.ref 20), some (.int (nI r)), some (.int (nI n)), some (.int x3), some (.int (nI (i + 1))), x5] [] (jR h s (va_up (va_up I 6 (shI (I 6) i)) 7 (shI (I 7) i)) (va_up L 8 (shN (L 8) (32 * i))) F) 0 0 := by
    intro h8 hno x3 d
    induction d with
    | zero =>
      intro i hi x5
      have hi7 : i = 7 := by omega
      subst hi7
      refine hG [82, 182] 300 _ _ _ _ _ _ ?_
      conv => whnf
      refine ⟨fun qb => ?_, fun qb => ?_⟩ <;> rw [nI_leI (by omega) (by omega)] at qb
      · conv => whnf
        refine ⟨_, m_0 hh, ?_⟩
        conv => whnf
        refine ⟨trivial, _, m_0 hh, ?_⟩
        conv => whnf
        erw [ms_0 (upd s 2 (s 2 - nI 1))]
        have := mid hno x3 (some (.int (nI (7 + 1)))) x5
        rw [show s 2 - nI 1 = nI (rk k) by rw [hk, h8]; rfl]
        rw [show rShI k = fun f => shI f 7 from funext fun f => if_pos h8, show rShN k = fun f => shN f 224 from funext fun f => if_pos h8] at this
        exact this
      · omega
    | succ d ih =>
      intro i hi x5
      have inner : ∀ d2 c, 32 = c + d2 → G 124 [some (.ref 20), some (.int (nI r)), some (.int (nI n)), some (.int x3), some (.int (nI (i + 1))), some (.int (nI c))] [] (jR h s (va_up (va_up I 6 (shI (I 6) (i + 1))) 7 (shI (I 7) (i + 1))) (va_up L 8 (shN (L 8) (32 * i + c))) F) 0 0 := by
        intro d2
        induction d2 with
        | zero =>
          intro c hc
          refine hG [82, 124] 300 _ _ _ _ _ _ ?_
          conv => whnf
          refine ⟨fun qb => ?_, fun qb => ?_⟩ <;> rw [nI_leI (by omega) (by omega)] at qb
          · conv => whnf
            rw [nI_add]
            have := ih (i + 1) (by omega) (some (.int (nI c)))
            rw [show 32 * (i + 1) = 32 * i + c by omega] at this
            exact this
          · omega
        | succ d2 ih2 =>
          intro c hc
          refine hG [124] 300 _ _ _ _ _ _ ?_
          conv => whnf
          refine ⟨fun qb => ?_, fun qb => ?_⟩ <;> rw [nI_leI (by omega) (by omega)] at qb
          · omega
          conv => whnf
          refine ⟨_, m_0 hh, ?_⟩
          conv => whnf
          refine ⟨_, m_0 hh, ?_⟩
          conv => whnf
          refine ⟨_, _, _, m_8 hh, (by rw [pk_mul, nI_add]; congr 1; omega), (show 32 * i + c + 32 < 256 from by omega), ?_⟩
          conv => whnf
          refine ⟨_, _, _, m_8 hh, (by rw [pk_mul, pk_sub (by omega), nI_add, show 32 * (i + 1) - 32 + c = 32 * i + c by omega]), (show 32 * i + c < 256 from by omega), ?_⟩
          conv => whnf
          rw [nI_add]
          erw [ms_8 (vp_updL (shN (L 8) (32 * i + c)) (32 * i + c) (shN (L 8) (32 * i + c) (32 * i + c + 32)))]
          rw [va_up_up, shN_s]
          exact ih2 (c + 1) (by omega)
      refine hG [82, 124] 300 _ _ _ _ _ _ ?_
      conv => whnf
      refine ⟨fun qb => ?_, fun qb => ?_⟩ <;> rw [nI_leI (by omega) (by omega)] at qb
      · omega
      conv => whnf
      refine ⟨_, m_0 hh, ?_⟩
      conv => whnf
      refine ⟨_, m_0 hh, ?_⟩
      conv => whnf
      refine ⟨_, _, _, m_6 hh, rfl, (show i + 1 < 8 from by omega), ?_⟩
      conv => whnf
      refine ⟨_, _, _, m_6 hh, (by rw [jI_m1 (by omega), Nat.add_sub_cancel]), (show i < 8 from by omega), ?_⟩
      conv => whnf
      erw [ms_6 (upd (shI (I 6) i) i (shI (I 6) i (i + 1)))]
      refine ⟨_, m_0 hh, ?_⟩
      conv => whnf
      refine ⟨_, m_0 hh, ?_⟩
      conv => whnf
      refine ⟨_, _, _, m_7 hh, rfl, (show i + 1 < 8 from by omega), ?_⟩
      conv => whnf
      refine ⟨_, _, _, m_7 hh, (by rw [jI_m1 (by omega), Nat.add_sub_cancel]), (show i < 8 from by omega), ?_⟩
      conv => whnf
      erw [ms_7 (upd (shI (I 7) i) i (shI (I 7) i (i + 1)))]
      rw [shI_s, shI_s]
      have e1 : va_up (va_up (va_up (va_up I 6 (shI (I 6) i)) 7 (shI (I 7) i)) 6 (shI (I 6) (i + 1))) 7 (shI (I 7) (i + 1)) = va_up (va_up I 6 (shI (I 6) (i + 1))) 7 (shI (I 7) (i + 1)) := by
        funext j
        unfold va_up
        by_cases h7 : j = 7
        · rw [if_pos h7, if_pos h7]
        · rw [if_neg h7, if_neg h7]
          by_cases h6 : j = 6
          · rw [if_pos h6, if_neg h7, if_pos h6]
          · rw [if_neg h6, if_neg h7, if_neg h6, if_neg h6]
      rw [e1]
      exact inner 32 0 (by omega)
  have dec : ∀ x3 : Int32, ((x3 = nI 1 ∧ (w = n ∧ ∀ c, c < 32 → L 4 (32 * r + c) = L 5 c)) ∨ (x3 = nI 0 ∧ ¬ (w = n ∧ ∀ c, c < 32 → L 4 (32 * r + c) = L 5 c))) → ∀ x4 : Option Value, G 65 [some (.ref 20), some (.int (nI r)), some (.int (nI n)), some (.int x3), x4, none] [] (jR h s I L F) 0 0 := by
    intro x3 hx x4
    refine hG [82, 182] 300 _ _ _ _ _ _ ?_
    conv => whnf
    rcases hx with ⟨rfl, hyes⟩ | ⟨rfl, hno⟩
    · refine ⟨fun z => absurd z nI_10, fun _ => ?_⟩
      conv => whnf
      exact ⟨rfl, fun _ => rfl, fun z => absurd hyes z⟩
    · refine ⟨fun _ => ?_, fun z => absurd rfl z⟩
      conv => whnf
      refine ⟨_, m_0 hh, ?_⟩
      conv => whnf
      rw [hk]
      refine ⟨fun qb => ?_, fun qb => ?_⟩ <;> rw [nI_eq (by omega) (by omega)] at qb
      · conv => whnf
        have := mid hno (nI 0) x4 none
        rw [show rk k = k from if_neg qb, ← hk, upd_same, show rShI k = fun f => f from funext fun f => if_neg qb, show rShN k = fun f => f from funext fun f => if_neg qb, va_up_same] at this
        have e7 : va_up I 7 (I 7) = I := va_up_same I 7
        have e8 : va_up L 8 (L 8) = L := va_up_same L 8
        rw [e7, e8] at this
        exact this
      · conv => whnf
        have := shift qb hno (nI 0) 7 0 (by omega) none
        rw [shI_0, shI_0, shN_0, va_up_same] at this
        have e7 : va_up I 7 (I 7) = I := va_up_same I 7
        have e8 : va_up L 8 (L 8) = L := va_up_same L 8
        rw [e7, e8] at this
        exact this
  have cmp : ∀ d e, 32 = e + d → ∀ x3 : Int32, ((x3 = nI 1 ∧ (w = n ∧ ∀ c, c < e → L 4 (32 * r + c) = L 5 c)) ∨ (x3 = nI 0 ∧ ¬ (w = n ∧ ∀ c, c < e → L 4 (32 * r + c) = L 5 c))) → G 19 [some (.ref 20), some (.int (nI r)), some (.int (nI n)), some (.int x3), some (.int (nI e)), none] [] (jR h s I L F) 0 0 := by
    intro d
    induction d with
    | zero =>
      intro e he x3 hx
      refine hG [19, 65] 300 _ _ _ _ _ _ ?_
      conv => whnf
      refine ⟨fun qb => ?_, fun qb => ?_⟩ <;> rw [nI_leI (by omega) (by omega)] at qb
      · conv => whnf
        rw [show e = 32 by omega] at hx ⊢
        exact dec x3 hx _
      · omega
    | succ d ih =>
      intro e he x3 hx
      refine hG [19] 300 _ _ _ _ _ _ ?_
      conv => whnf
      refine ⟨fun qb => ?_, fun qb => ?_⟩ <;> rw [nI_leI (by omega) (by omega)] at qb
      · omega
      conv => whnf
      rcases hx with ⟨rfl, hyes⟩ | ⟨rfl, hno⟩
      · refine ⟨fun z => absurd z nI_10, fun _ => ?_⟩
        conv => whnf
        refine ⟨_, m_0 hh, ?_⟩
        conv => whnf
        refine ⟨_, _, _, m_4 hh, (by rw [pk_mul, nI_add]), (show 32 * r + e < 128 from by omega), ?_⟩
        conv => whnf
        refine ⟨_, m_0 hh, ?_⟩
        conv => whnf
        refine ⟨_, _, _, m_5 hh, rfl, (by omega), ?_⟩
        conv => whnf
        refine ⟨fun c => ?_, fun c => ?_⟩ <;> rw [jlg0] at c
        · conv => whnf
          rw [nI_add]
          refine ih (e + 1) (by omega) _ (Or.inr ⟨rfl, fun z => c (z.2 e (by omega))⟩)
        · conv => whnf
          rw [nI_add]
          refine ih (e + 1) (by omega) _ (Or.inl ⟨rfl, hyes.1, fun c2 h2 => ?_⟩)
          by_cases h3 : c2 = e
          · rw [h3]; exact c
          · exact hyes.2 c2 (by omega)
      · refine ⟨fun _ => ?_, fun z => absurd rfl z⟩
        conv => whnf
        rw [nI_add]
        exact ih (e + 1) (by omega) _ (Or.inr ⟨rfl, fun z => hno ⟨z.1, fun c h2 => z.2 c (by omega)⟩⟩)
  refine hG [19] 300 _ _ _ _ _ _ ?_
  conv => whnf
  refine ⟨_, m_0 hh, ?_⟩
  conv => whnf
  refine ⟨_, _, _, m_3 hh, rfl, hr, ?_⟩
  conv => whnf
  rw [hw]
  refine ⟨fun qb => ?_, fun qb => ?_⟩ <;> rw [nI_eq (by omega) (by omega)] at qb
  · conv => whnf
    exact cmp 32 0 (by omega) _ (Or.inr ⟨rfl, fun z => qb z.1⟩)
  · conv => whnf
    exact cmp 32 0 (by omega) _ (Or.inl ⟨rfl, qb, fun c h2 => by omega⟩)
