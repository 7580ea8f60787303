/-! goes() of the reference: the steps from what is left of two compositions on -/
def jparts (n c : Nat) : List Nat := (List.range (jlen n c)).map (fun i => (jno n c i).getD 0)
def jend (e t : Nat) : Nat := if 0 < t then e ||| 2 ^ (t - 1) else e
def jgsh : Nat → List Nat → List Nat → Nat → Nat → (Nat → Int32) → (Nat → Int32)
  | 0, _, _, e, _, w => upd w e (w e + nI 1)
  | _ + 1, [], [], e, _, w => upd w e (w e + nI 1)
  | D + 1, a :: A, [], e, t, w => jgsh D A [] (jend e t) (t + a) w
  | D + 1, [], b :: B, e, t, w => jgsh D [] B (jend e t) (t + b) w
  | D + 1, a :: A, b :: B, e, t, w => jgsh D A B (jend e t) (t + a + b) (jgsh D (a :: A) B (jend e t) (t + b) (jgsh D A (b :: B) (jend e t) (t + a) w))
theorem jno_okb : ∀ n, n < 7 → ∀ c, c < 32 → ∀ i, i < 7 → (Nat.blt c (jmany n) && Nat.blt i (jlen n c) && !((jno n c i).isSome && Nat.ble 1 ((jno n c i).getD 0))) = false := by decide +kernel
theorem jno_ok (n : Nat) (hn : n < 7) (c : Nat) (hc : c < 32) (i : Nat) (hi : i < 7) (h1 : c < jmany n) (h2 : i < jlen n c) : (jno n c i).isSome = true ∧ 1 ≤ (jno n c i).getD 0 := by
  have h := jno_okb n hn c hc i hi
  rw [show Nat.blt c (jmany n) = true from Nat.ble_eq.mpr h1, show Nat.blt i (jlen n c) = true from Nat.ble_eq.mpr h2] at h
  simp only [Bool.true_and, Bool.not_eq_false', Bool.and_eq_true] at h
  exact ⟨h.1, Nat.le_of_ble_eq_true h.2⟩
theorem jparts_len (n c : Nat) : (jparts n c).length = jlen n c := by simp [jparts]
theorem jp_cons {n c i a : Nat} {A : List Nat} (hn : n ≤ 6) (hc : c < jmany n) (h : (jparts n c).drop i = a :: A) : i < jlen n c ∧ jno n c i = some a ∧ (jparts n c).drop (i + 1) = A ∧ 1 ≤ a := by
  have hm := jmany_le hn
  have hl := jlen_le n c
  have hi : i < (jparts n c).length := by
    rcases Nat.lt_or_ge i (jparts n c).length with h2 | h2
    · exact h2
    · rw [List.drop_eq_nil_of_le h2] at h; cases h
  rw [List.drop_eq_getElem_cons hi] at h
  rw [jparts_len] at hi
  obtain ⟨h1, h2⟩ := jno_ok n (by omega) c (by omega) i (by omega) hc hi
  have h3 := (List.cons.inj h).1
  have h4 := (List.cons.inj h).2
  simp only [jparts, List.getElem_map, List.getElem_range] at h3
  cases hj : jno n c i with
  | none => rw [hj] at h1; cases h1
  | some v =>
    rw [hj] at h2 h3
    simp only [Option.getD_some] at h2 h3
    exact ⟨hi, by rw [h3], h4, by omega⟩
theorem jp_nil {n c i : Nat} (h : (jparts n c).drop i = []) : jlen n c ≤ i := by
  have := congrArg List.length h
  rw [List.length_drop, jparts_len] at this
  simp at this
  omega
theorem jend_lt {e t : Nat} (ht : t ≤ 6) (he : e < jmany t) : jend e t < 2 ^ t := by
  unfold jend
  unfold jmany at he
  split
  · rw [if_neg (by omega)] at he
    refine Nat.or_lt_two_pow (Nat.lt_of_lt_of_le he (Nat.pow_le_pow_right (by decide) (by omega))) (Nat.pow_lt_pow_right (by decide) (by omega))
  · rw [if_pos (by omega)] at he
    have : 0 < 2 ^ t := Nat.pow_pos (by decide)
    omega
theorem jend_many {e t u : Nat} (ht : t ≤ 6) (he : e < jmany t) (hu : t < u) : jend e t < jmany u := by
  have h1 := jend_lt ht he
  unfold jmany
  rw [if_neg (by omega)]
  exact Nat.lt_of_lt_of_le h1 (Nat.pow_le_pow_right (by decide) (by omega))
theorem jend_I {e t : Nat} {xe xt : Int32} (ee : xe = nI e) (et : xt = nI t) (ht : t ≤ 6) (h0 : 0 < t) : (xe ||| nI 1 <<< ((xt - nI 1) &&& 31)) = nI (jend e t) := by
  rw [ee, et, jI_m1 h0, jI_one (by omega), jI_or, jend, if_pos h0]
theorem c_X12_goes {h : List jC} (hh : 53 ≤ h.length) (s : Nat → Int32) (L : jLss) (F : jFs) {n c m b : Nat} (hn : n ≤ 6) (hc : c < jmany n) (hm : m ≤ 6) (hb : b < jmany m) {xn xc xm xb : Int32} (en : xn = nI n) (ec : xc = nI c) (em : xm = nI m) (eb : xb = nI b) : ∀ (D i j e t : Nat) (A B : List Nat) (I : jIs) (xi xj xe xt : Int32), xi = nI i → xj = nI j → xe = nI e → xt = nI t → (jparts n c).drop i = A → (jparts m b).drop j = B → A.length + B.length ≤ D → A.sum + B.sum + t ≤ 6 → e < jmany t → i < 8 → j < 8 → jCt (jy_X12_goes (D + 1)) [.ref 20, .int xn, .int xc, .int xi, .int xm, .int xb, .int xj, .int xe, .int xt] (jR h s I L F) (fun r h' => r = none ∧ h' = jR h s (va_up I 9 (jgsh D A B e t (I 9))) L F) := by
  have hmn := jmany_le hn
  have hmm := jmany_le hm
  have hln := jlen_le n c
  have hlm := jlen_le m b
  have el1 := c_X12_length n c hn (by omega)
  have el2 := c_X12_length m b hm (by omega)
  rw [← en, ← ec] at el1
  rw [← em, ← eb] at el2
  have nil : ∀ (D i j e t : Nat) (I : jIs) (xi xj xe xt : Int32), xi = nI i → xj = nI j → xe = nI e → xt = nI t → jlen n c ≤ i → jlen m b ≤ j → t ≤ 6 → e < jmany t → i < 8 → j < 8 → jCt (jy_X12_goes (D + 1)) [.ref 20, .int xn, .int xc, .int xi, .int xm, .int xb, .int xj, .int xe, .int xt] (jR h s I L F) (fun r h' => r = none ∧ h' = jR h s (va_up I 9 (upd (I 9) e (I 9 e + nI 1))) L F) := by
    intro D i j e t I xi xj xe xt ei ej ee et hi hj ht he hi8 hj8
    have hmt := jmany_le ht
    refine jrun2 (js2_X12_goes _ _) rfl rfl rfl (fun G hG hWW hBB => ?_)
    refine hG [] 300 _ _ _ _ _ _ ?_
    conv => whnf
    refine jcall (el1 _) ?_
    rintro r h' ⟨rfl, rfl⟩
    conv => whnf
    refine ⟨fun qb => ?_, fun qb => ?_⟩ <;> rw [ei, nI_leI (by omega) (by omega)] at qb
    case refine_2 => omega
    conv => whnf
    refine jcall (el2 _) ?_
    rintro r h' ⟨rfl, rfl⟩
    conv => whnf
    refine ⟨fun qc => ?_, fun qc => ?_⟩ <;> rw [ej, nI_leI (by omega) (by omega)] at qc
    case refine_2 => omega
    conv => whnf
    refine ⟨fun q => absurd rfl q, fun _ => ?_⟩
    conv => whnf
    refine ⟨fun q => absurd rfl q, fun _ => ?_⟩
    conv => whnf
    refine ⟨_, m_0 hh, ?_⟩
    conv => whnf
    refine ⟨_, _, _, m_9 hh, ee, (show e < 32 by omega), ?_⟩
    conv => whnf
    refine ⟨_, _, _, m_9 hh, ee, (show e < 32 by omega), ?_⟩
    conv => whnf
    erw [ms_9 (upd (I 9) e (I 9 e + nI 1))]
    exact ⟨rfl, rfl⟩
  intro D
  induction D with
  | zero =>
    intro i j e t A B I xi xj xe xt ei ej ee et hA hB hl hs he hi8 hj8
    have hA0 : A = [] := List.length_eq_zero_iff.mp (by omega)
    have hB0 : B = [] := List.length_eq_zero_iff.mp (by omega)
    rw [hA0] at hA
    rw [hB0] at hB
    exact nil 0 i j e t I xi xj xe xt ei ej ee et (jp_nil hA) (jp_nil hB) (by omega) he hi8 hj8
  | succ D ih =>
    intro i j e t A B I xi xj xe xt ei ej ee et hA hB hl hs he hi8 hj8
    have hmt := jmany_le (show t ≤ 6 by omega)
    match A, B, hA, hB, hl, hs with
    | [], [], hA, hB, hl, hs => exact nil (D + 1) i j e t I xi xj xe xt ei ej ee et (jp_nil hA) (jp_nil hB) (by omega) he hi8 hj8
    | a :: A, [], hA, hB, hl, hs =>
      obtain ⟨a1, a2, a3, a4⟩ := jp_cons hn hc hA
      have na := c_X12_numberOf (n := n) (c := c) hn (by omega) (i := i) (by omega) en ec ei
      rw [a2] at na
      have b1 := jp_nil hB
      simp only [List.length_cons, List.length_nil, List.sum_cons, List.sum_nil] at hl hs
      rw [jgsh]
      refine jrun2 (js2_X12_goes _ _) rfl rfl rfl (fun G hG hWW hBB => ?_)
      have rest : ∀ y, y = nI (jend e t) → G 78 [some (.ref 20), some (.int xn), some (.int xc), some (.int xi), some (.int xm), some (.int xb), some (.int xj), some (.int xe), some (.int xt), some (.int (nI 1)), some (.int (nI 0)), some (.int y)] [] (jR h s I L F) 0 0 := by
        intro y ey
        refine hG [78] 300 _ _ _ _ _ _ ?_
        conv => whnf
        refine ⟨fun q => absurd q (by decide), fun _ => ?_⟩
        conv => whnf
        refine jcall (na _) ?_
        rintro r h' ⟨rfl, rfl⟩
        conv => whnf
        refine ⟨⟨_, m_0 hh⟩, jcall (ih (i + 1) j (jend e t) (t + a) A ([]) I _ _ _ _ (by rw [ei, nI_add]) ej ey (by rw [et]; exact nI_add _ _) a3 hB (by simp only [List.length_cons, List.length_nil]; omega) (by simp only [List.sum_cons, List.sum_nil]; omega) (jend_many (by omega) he (by omega)) (by omega) hj8) ?_⟩
        rintro r h' ⟨rfl, rfl⟩
        conv => whnf
        refine ⟨fun _ => ?_, fun q => absurd rfl q⟩
        conv => whnf
        refine ⟨fun q => absurd q (by decide), fun _ => ?_⟩
        conv => whnf
        refine ⟨fun _ => ?_, fun q => absurd rfl q⟩
        conv => whnf
        exact ⟨rfl, rfl⟩
      refine hG [78] 300 _ _ _ _ _ _ ?_
      conv => whnf
      refine jcall (el1 _) ?_
      rintro r h' ⟨rfl, rfl⟩
      conv => whnf
      refine ⟨fun qb => ?_, fun qb => ?_⟩ <;> rw [ei, nI_leI (by omega) (by omega)] at qb
      case refine_1 => omega
      conv => whnf
      refine jcall (el2 _) ?_
      rintro r h' ⟨rfl, rfl⟩
      conv => whnf
      refine ⟨fun qc => ?_, fun qc => ?_⟩ <;> rw [ej, nI_leI (by omega) (by omega)] at qc
      case refine_2 => omega
      conv => whnf
      refine ⟨fun _ => ?_, fun q => absurd q (by decide)⟩
      conv => whnf
      refine ⟨fun qd => ?_, fun qd => ?_⟩
      · have qe := qd
        rw [et, jleI, j0, nI_toInt (by omega)] at qe
        refine rest _ ?_
        rw [ee, jend, if_neg (by omega)]
      · have qe := qd
        rw [et, jleI, j0, nI_toInt (by omega)] at qe
        conv => whnf
        exact rest _ (jend_I ee et (by omega) (by omega))
    | [], bb :: B, hA, hB, hl, hs =>
      have a1 := jp_nil hA
      obtain ⟨b1, b2, b3, b4⟩ := jp_cons hm hb hB
      have nb := c_X12_numberOf (n := m) (c := b) hm (by omega) (i := j) (by omega) em eb ej
      rw [b2] at nb
      simp only [List.length_cons, List.length_nil, List.sum_cons, List.sum_nil] at hl hs
      rw [jgsh]
      refine jrun2 (js2_X12_goes _ _) rfl rfl rfl (fun G hG hWW hBB => ?_)
      have rest : ∀ y, y = nI (jend e t) → G 78 [some (.ref 20), some (.int xn), some (.int xc), some (.int xi), some (.int xm), some (.int xb), some (.int xj), some (.int xe), some (.int xt), some (.int (nI 0)), some (.int (nI 1)), some (.int y)] [] (jR h s I L F) 0 0 := by
        intro y ey
        refine hG [78] 300 _ _ _ _ _ _ ?_
        conv => whnf
        refine ⟨fun _ => ?_, fun q => absurd rfl q⟩
        conv => whnf
        refine ⟨fun q => absurd q (by decide), fun _ => ?_⟩
        conv => whnf
        refine jcall (nb _) ?_
        rintro r h' ⟨rfl, rfl⟩
        conv => whnf
        refine ⟨⟨_, m_0 hh⟩, jcall (ih i (j + 1) (jend e t) (t + bb) ([]) B I _ _ _ _ ei (by rw [ej, nI_add]) ey (by rw [et]; exact nI_add _ _) hA b3 (by simp only [List.length_cons, List.length_nil]; omega) (by simp only [List.sum_cons, List.sum_nil]; omega) (jend_many (by omega) he (by omega)) hi8 (by omega)) ?_⟩
        rintro r h' ⟨rfl, rfl⟩
        conv => whnf
        refine ⟨fun _ => ?_, fun q => absurd rfl q⟩
        conv => whnf
        exact ⟨rfl, rfl⟩
      refine hG [78] 300 _ _ _ _ _ _ ?_
      conv => whnf
      refine jcall (el1 _) ?_
      rintro r h' ⟨rfl, rfl⟩
      conv => whnf
      refine ⟨fun qb => ?_, fun qb => ?_⟩ <;> rw [ei, nI_leI (by omega) (by omega)] at qb
      case refine_2 => omega
      conv => whnf
      refine jcall (el2 _) ?_
      rintro r h' ⟨rfl, rfl⟩
      conv => whnf
      refine ⟨fun qc => ?_, fun qc => ?_⟩ <;> rw [ej, nI_leI (by omega) (by omega)] at qc
      case refine_1 => omega
      conv => whnf
      refine ⟨fun q => absurd rfl q, fun _ => ?_⟩
      conv => whnf
      refine ⟨fun _ => ?_, fun q => absurd q (by decide)⟩
      conv => whnf
      refine ⟨fun qd => ?_, fun qd => ?_⟩
      · have qe := qd
        rw [et, jleI, j0, nI_toInt (by omega)] at qe
        refine rest _ ?_
        rw [ee, jend, if_neg (by omega)]
      · have qe := qd
        rw [et, jleI, j0, nI_toInt (by omega)] at qe
        conv => whnf
        exact rest _ (jend_I ee et (by omega) (by omega))
    | a :: A, bb :: B, hA, hB, hl, hs =>
      obtain ⟨a1, a2, a3, a4⟩ := jp_cons hn hc hA
      have na := c_X12_numberOf (n := n) (c := c) hn (by omega) (i := i) (by omega) en ec ei
      rw [a2] at na
      obtain ⟨b1, b2, b3, b4⟩ := jp_cons hm hb hB
      have nb := c_X12_numberOf (n := m) (c := b) hm (by omega) (i := j) (by omega) em eb ej
      rw [b2] at nb
      simp only [List.length_cons, List.length_nil, List.sum_cons, List.sum_nil] at hl hs
      rw [jgsh]
      refine jrun2 (js2_X12_goes _ _) rfl rfl rfl (fun G hG hWW hBB => ?_)
      have rest : ∀ y, y = nI (jend e t) → G 78 [some (.ref 20), some (.int xn), some (.int xc), some (.int xi), some (.int xm), some (.int xb), some (.int xj), some (.int xe), some (.int xt), some (.int (nI 1)), some (.int (nI 1)), some (.int y)] [] (jR h s I L F) 0 0 := by
        intro y ey
        refine hG [78] 300 _ _ _ _ _ _ ?_
        conv => whnf
        refine ⟨fun q => absurd q (by decide), fun _ => ?_⟩
        conv => whnf
        refine jcall (na _) ?_
        rintro r h' ⟨rfl, rfl⟩
        conv => whnf
        refine ⟨⟨_, m_0 hh⟩, jcall (ih (i + 1) j (jend e t) (t + a) A (bb :: B) I _ _ _ _ (by rw [ei, nI_add]) ej ey (by rw [et]; exact nI_add _ _) a3 hB (by simp only [List.length_cons, List.length_nil]; omega) (by simp only [List.sum_cons, List.sum_nil]; omega) (jend_many (by omega) he (by omega)) (by omega) hj8) ?_⟩
        rintro r h' ⟨rfl, rfl⟩
        conv => whnf
        refine ⟨fun q => absurd q (by decide), fun _ => ?_⟩
        conv => whnf
        refine jcall (nb _) ?_
        rintro r h' ⟨rfl, rfl⟩
        conv => whnf
        refine ⟨⟨_, m_0 hh⟩, jcall (ih i (j + 1) (jend e t) (t + bb) (a :: A) B (va_up I 9 (jgsh D A (bb :: B) (jend e t) (t + a) (I 9))) _ _ _ _ ei (by rw [ej, nI_add]) ey (by rw [et]; exact nI_add _ _) hA b3 (by simp only [List.length_cons, List.length_nil]; omega) (by simp only [List.sum_cons, List.sum_nil]; omega) (jend_many (by omega) he (by omega)) hi8 (by omega)) ?_⟩
        rintro r h' ⟨rfl, rfl⟩
        rw [va_up_up, va_up_self]
        conv => whnf
        refine ⟨fun q => absurd q (by decide), fun _ => ?_⟩
        conv => whnf
        refine ⟨fun q => absurd q (by decide), fun _ => ?_⟩
        conv => whnf
        refine jcall (na _) ?_
        rintro r h' ⟨rfl, rfl⟩
        conv => whnf
        refine jcall (nb _) ?_
        rintro r h' ⟨rfl, rfl⟩
        conv => whnf
        refine ⟨⟨_, m_0 hh⟩, jcall (ih (i + 1) (j + 1) (jend e t) (t + a + bb) A B (va_up I 9 (jgsh D (a :: A) B (jend e t) (t + bb) (jgsh D A (bb :: B) (jend e t) (t + a) (I 9)))) _ _ _ _ (by rw [ei, nI_add]) (by rw [ej, nI_add]) ey (by rw [et]; exact (congrArg (· + nI bb) (nI_add _ _)).trans (nI_add _ _)) a3 b3 (by omega) (by omega) (jend_many (by omega) he (by omega)) (by omega) (by omega)) ?_⟩
        rintro r h' ⟨rfl, rfl⟩
        rw [va_up_up, va_up_self]
        conv => whnf
        exact ⟨rfl, rfl⟩
      refine hG [78] 300 _ _ _ _ _ _ ?_
      conv => whnf
      refine jcall (el1 _) ?_
      rintro r h' ⟨rfl, rfl⟩
      conv => whnf
      refine ⟨fun qb => ?_, fun qb => ?_⟩ <;> rw [ei, nI_leI (by omega) (by omega)] at qb
      case refine_1 => omega
      conv => whnf
      refine jcall (el2 _) ?_
      rintro r h' ⟨rfl, rfl⟩
      conv => whnf
      refine ⟨fun qc => ?_, fun qc => ?_⟩ <;> rw [ej, nI_leI (by omega) (by omega)] at qc
      case refine_1 => omega
      conv => whnf
      refine ⟨fun _ => ?_, fun q => absurd q (by decide)⟩
      conv => whnf
      refine ⟨fun qd => ?_, fun qd => ?_⟩
      · have qe := qd
        rw [et, jleI, j0, nI_toInt (by omega)] at qe
        refine rest _ ?_
        rw [ee, jend, if_neg (by omega)]
      · have qe := qd
        rw [et, jleI, j0, nI_toInt (by omega)] at qe
        conv => whnf
        exact rest _ (jend_I ee et (by omega) (by omega))
