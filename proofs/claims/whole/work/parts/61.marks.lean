/-! descents, marks of the reference against the state -/
def jdes (l : List Nat) : Nat → Nat
  | 0 => 0
  | e + 1 => jdes l e ||| (if l.getD (e + 1) 0 < l.getD e 0 then 2 ^ e else 0)
def jpk (l : List Nat) : Nat → Nat
  | 0 => 0
  | e + 1 => jpk l e ||| (if l.getD e 0 < l.getD (e + 1) 0 ∧ l.getD (e + 2) 0 < l.getD (e + 1) 0 then 2 ^ (e + 1) else 0)
theorem c_X12_descents {h : List jC} (hh : 53 ≤ h.length) (s : Nat → Int32) (I : jIs) (L : jLss) (F : jFs) {n : Nat} (hs : s 3 = nI n) (hn : n ≤ 6) {l : List Nat} (hl : ∀ m, m < n → I 11 m = nI (l.getD m 0) ∧ l.getD m 0 ≤ 6) : jCt jy_X12_descents [.ref 20] (jR h s I L F) (fun r h' => r = some (.int (nI (jdes l (n - 1)))) ∧ h' = jR h s I L F) := by
  refine jrun2 (js_X12_descents _) rfl rfl rfl (fun G hG hW hB => ?_)
  have loop : ∀ u e, n - 1 = e + u → G 4 [some (.ref 20), some (.int (nI (jdes l e))), some (.int (nI (e + 1)))] [] (jR h s I L F) 0 0 := by
    intro u
    induction u with
    | zero =>
      intro e he
      refine hG [4] 300 _ _ _ _ _ _ ?_
      conv => whnf
      refine ⟨_, m_0 hh, ?_⟩
      conv => whnf
      rw [hs]
      refine ⟨fun qb => ?_, fun qb => ?_⟩ <;> rw [nI_leI (by omega) (by omega)] at qb
      case refine_2 => omega
      conv => whnf
      rw [show n - 1 = e by omega]
      exact ⟨rfl, rfl⟩
    | succ u ih =>
      intro e he
      have i1 := ih (e + 1) (by omega)
      rw [jdes] at i1
      obtain ⟨g1, g2⟩ := hl e (by omega)
      obtain ⟨g3, g4⟩ := hl (e + 1) (by omega)
      refine hG [4] 300 _ _ _ _ _ _ ?_
      conv => whnf
      refine ⟨_, m_0 hh, ?_⟩
      conv => whnf
      rw [hs]
      refine ⟨fun qb => ?_, fun qb => ?_⟩ <;> rw [nI_leI (by omega) (by omega)] at qb
      · omega
      conv => whnf
      refine ⟨_, m_0 hh, ?_⟩
      conv => whnf
      rw [pk_sub (show 1 ≤ e + 1 by omega), Nat.add_sub_cancel]
      refine ⟨_, _, _, m_11 hh, rfl, (show e < 6 by omega), ?_⟩
      conv => whnf
      rw [g1]
      refine ⟨_, m_0 hh, ?_⟩
      conv => whnf
      refine ⟨_, _, _, m_11 hh, rfl, (show e + 1 < 6 by omega), ?_⟩
      conv => whnf
      rw [g3]
      refine ⟨fun qb => ?_, fun qb => ?_⟩ <;> rw [nI_leI (by omega) (by omega)] at qb
      · rw [if_neg (by omega)] at i1
        conv => whnf
        rw [jI_or, nI_add]
        exact i1
      · rw [if_pos (by omega)] at i1
        conv => whnf
        rw [pk_sub (show 1 ≤ e + 1 by omega), Nat.add_sub_cancel, jI_one (by omega), jI_or, nI_add]
        exact i1
  refine hG [4] 300 _ _ _ _ _ _ ?_
  conv => whnf
  exact loop (n - 1) 0 (by omega)
def zmarks (z : zS) (x y : Int32) : Value := if 0 ≤ x.toInt ∧ 0 ≤ y.toInt ∧ y.toInt ≤ 1 then (match (zrows (zO z))[tn x]? with
    | none => .int (-2)
    | some l => if y = nI 0 then .int (nI (jdes l ((zO z).1 - 1))) else .int (nI (jpk l ((zO z).1 - 2)))) else .int (-1)
theorem r_marks {h : List jC} (hh : 53 ≤ h.length) {s : Nat → Int32} {I : jIs} {L : jLss} {F : jFs} {z : zS} (hE : EncR s I L F z) (hz : zWF z) (x y : Int32) : jCt jy_X12_marks [.ref 20, .int x, .int y] (jR h s I L F) (zPost h (zmarks z x y) z) := by
  obtain ⟨e1, e2, e3, e4, e5, e6, e7, e8, e9, e10⟩ := id hE
  have hok := hz.2.2.1
  have ho6 := hok.1
  have hgood : ∀ (v : Value) (w : Nat → Int32) (n : Int32), zmarks z x y = v → zPost h (zmarks z x y) z (some v) (jR h (upd s 4 n) (va_up I 11 w) L F) := fun v w n hv => e_seen hE w n hv.symm
  have hbad : ¬ (0 ≤ x.toInt ∧ 0 ≤ y.toInt ∧ y.toInt ≤ 1) → zPost h (zmarks z x y) z (some (.int (-1))) (jR h s I L F) := by
    intro c
    rw [zmarks, if_neg c]
    exact ⟨rfl, s, I, L, F, rfl, hE⟩
  generalize hΦ : zPost h (zmarks z x y) z = Φ at *
  generalize hn : (zO z).1 = n at *
  refine jrun2 (js_X12_marks _) rfl rfl rfl (fun G hG hW hB => ?_)
  have peaks : ∀ (s : Nat → Int32) (I : jIs) (l : List Nat), s 3 = nI n → (∀ m, m < n → I 11 m = nI (l.getD m 0) ∧ l.getD m 0 ≤ 6) → Φ (some (.int (nI (jpk l (n - 2))))) (jR h s I L F) → ∀ u e, n - 2 = e + u → G 40 [some (.ref 20), some (.int x), some (.int y), some (.int (nI (jpk l e))), some (.int (nI (e + 2)))] [] (jR h s I L F) 0 0 := by
    intro s I l hs hl hend u
    induction u with
    | zero =>
      intro e he
      refine hG [40] 300 _ _ _ _ _ _ ?_
      conv => whnf
      refine ⟨_, m_0 hh, ?_⟩
      conv => whnf
      rw [hs]
      refine ⟨fun qb => ?_, fun qb => ?_⟩ <;> rw [nI_leI (by omega) (by omega)] at qb
      case refine_2 => omega
      conv => whnf
      rw [show n - 2 = e by omega] at hend
      exact hend
    | succ u ih =>
      intro e he
      have i1 := ih (e + 1) (by omega)
      rw [jpk] at i1
      obtain ⟨g1, g2⟩ := hl e (by omega)
      obtain ⟨g3, g4⟩ := hl (e + 1) (by omega)
      obtain ⟨g5, g6⟩ := hl (e + 2) (by omega)
      refine hG [40] 300 _ _ _ _ _ _ ?_
      conv => whnf
      refine ⟨_, m_0 hh, ?_⟩
      conv => whnf
      rw [hs]
      refine ⟨fun qb => ?_, fun qb => ?_⟩ <;> rw [nI_leI (by omega) (by omega)] at qb
      · omega
      conv => whnf
      refine ⟨_, m_0 hh, ?_⟩
      conv => whnf
      rw [pk_sub (show 1 ≤ e + 2 by omega), show e + 2 - 1 = e + 1 by omega]
      refine ⟨_, _, _, m_11 hh, rfl, (show e + 1 < 6 by omega), ?_⟩
      conv => whnf
      rw [g3]
      refine ⟨_, m_0 hh, ?_⟩
      conv => whnf
      rw [pk_sub (show 2 ≤ e + 2 by omega), show e + 2 - 2 = e by omega]
      refine ⟨_, _, _, m_11 hh, rfl, (show e < 6 by omega), ?_⟩
      conv => whnf
      rw [g1]
      refine ⟨fun qb => ?_, fun qb => ?_⟩ <;> rw [nI_leI (by omega) (by omega)] at qb
      · rw [if_neg (by omega)] at i1
        conv => whnf
        rw [jI_or, nI_add]
        exact i1
      conv => whnf
      refine ⟨_, m_0 hh, ?_⟩
      conv => whnf
      rw [pk_sub (show 1 ≤ e + 2 by omega), show e + 2 - 1 = e + 1 by omega]
      refine ⟨_, _, _, m_11 hh, rfl, (show e + 1 < 6 by omega), ?_⟩
      conv => whnf
      rw [g3]
      refine ⟨_, m_0 hh, ?_⟩
      conv => whnf
      refine ⟨_, _, _, m_11 hh, rfl, (show e + 2 < 6 by omega), ?_⟩
      conv => whnf
      rw [g5]
      refine ⟨fun qc => ?_, fun qc => ?_⟩ <;> rw [nI_leI (by omega) (by omega)] at qc
      · rw [if_neg (by omega)] at i1
        conv => whnf
        rw [jI_or, nI_add]
        exact i1
      · rw [if_pos (by omega)] at i1
        conv => whnf
        rw [pk_sub (show 1 ≤ e + 2 by omega), show e + 2 - 1 = e + 1 by omega, jI_one (by omega), jI_or, nI_add]
        exact i1
  have main : 0 ≤ x.toInt ∧ 0 ≤ y.toInt ∧ y.toInt ≤ 1 → G 15 [some (.ref 20), some (.int x), some (.int y), none, none] [] (jR h s I L F) 0 0 := by
    intro c
    refine hG [15, 40] 300 _ _ _ _ _ _ ?_
    conv => whnf
    refine ⟨⟨_, m_0 hh⟩, jcall (c_X12_takesRow hh s I L F e4 hok x) ?_⟩
    rintro r h' ⟨w, sn, rfl, hq⟩
    rcases hq with ⟨i, l, q1, q2, rfl, q5⟩ | ⟨q1, q2, rfl⟩
    · have hil := (List.getElem?_eq_some_iff.mp q1).1
      have hzl := zrows_len (o := zO z) (by omega)
      obtain ⟨hl1, hl2⟩ := rws_each (List.mem_of_getElem? q1)
      have hll : ∀ m, m < n → va_up I 11 w 11 m = nI (l.getD m 0) ∧ l.getD m 0 ≤ 6 := by
        intro m hm
        have hg := List.getElem?_eq_getElem (l := l) (i := m) (by omega)
        rw [show va_up I 11 w 11 m = w m by rw [va_up_self], q5 _ _ hg, List.getD, hg]
        refine ⟨rfl, ?_⟩
        have := (hl2 _ (List.mem_of_getElem? hg)).2
        simp only [Option.getD_some]
        omega
      have hsp : zmarks z x y = if y = nI 0 then .int (nI (jdes l (n - 1))) else .int (nI (jpk l (n - 2))) := by
        rw [zmarks, if_pos c, show tn x = i by rw [q2, tn_nI (by omega)], q1, hn]
      have hs3 : upd s 4 (nI sn) 3 = nI n := by rw [← hn]; exact e4.1
      conv => whnf
      refine ⟨fun _ => ?_, fun q => absurd q (by decide)⟩
      conv => whnf
      refine ⟨fun cy => ?_, fun cy => ?_⟩
      · rw [if_neg cy] at hsp
        conv => whnf
        exact peaks (upd s 4 (nI sn)) (va_up I 11 w) l hs3 hll (hgood _ _ _ hsp) (n - 2) 0 (by omega)
      · rw [if_pos cy] at hsp
        conv => whnf
        refine ⟨⟨_, m_0 hh⟩, jcall (c_X12_descents hh (upd s 4 (nI sn)) (va_up I 11 w) L F hs3 ho6 hll) ?_⟩
        rintro r h' ⟨rfl, rfl⟩
        conv => whnf
        exact hgood _ _ _ hsp
    · conv => whnf
      refine ⟨fun q => absurd rfl q, fun _ => ?_⟩
      conv => whnf
      refine hgood _ _ _ ?_
      rw [zmarks, if_pos c, List.getElem?_eq_none]
      exact Nat.le_of_not_lt (fun q => q1 _ q (tn_eq c.1))
  refine hG [15] 300 _ _ _ _ _ _ ?_
  conv => whnf
  refine ⟨fun c1 => ?_, fun c1 => ?_⟩ <;> rw [jlt, j0] at c1
  · conv => whnf
    exact hbad (fun q => by omega)
  conv => whnf
  refine jcall (c_X12_in y _ _ _) ?_
  rintro r h' ⟨rfl, rfl⟩
  conv => whnf
  refine ⟨fun c2 => ?_, fun c2 => ?_⟩ <;> rw [jbi_0, j0, j1] at c2
  · exact main ⟨by omega, Decidable.not_not.mp c2⟩
  · conv => whnf
    exact hbad (fun q => c2 q.2)
