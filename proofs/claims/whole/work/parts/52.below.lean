/-! count, below of the reference against the state -/
def jcnt (p : Nat → Bool) : Nat → Nat
  | 0 => 0
  | e + 1 => jcnt p e + (if p e = true then 1 else 0)
theorem jcnt_le (p : Nat → Bool) : ∀ e, jcnt p e ≤ e
  | 0 => Nat.le_refl _
  | e + 1 => by have := jcnt_le p e; simp only [jcnt]; split <;> omega
def zcount (z : zS) (x : Int32) : Value :=
  if x = nI 0 then .int (nI (zT z).length) else if x = nI 1 then .int (nI (zP z).1) else if x = nI 2 then .int (nI (zX z).length)
  else if x = nI 3 then .int (nI (jcnt (fun p => (zK z p).isSome) 12)) else if x = nI 4 then .int (nI (zO z).1) else if x = nI 5 then .int (nI (jcnt (fun r => (zW z r).isSome) 3)) else .int (-1)
theorem r_count {h : List jC} (hh : 53 ≤ h.length) {s : Nat → Int32} {I : jIs} {L : jLss} {F : jFs} {z : zS} (hE : EncR s I L F z) (x : Int32) : jCt jy_X12_count [.ref 20, .int x] (jR h s I L F) (zPost h (zcount z x) z) := by
  obtain ⟨e1, e2, e3, e4, e5, e6, e7, e8, e9, e10⟩ := id hE
  have hgood : ∀ v, zcount z x = .int v → zPost h (zcount z x) z (some (.int v)) (jR h s I L F) := by
    intro v hv
    rw [hv]
    exact ⟨rfl, s, I, L, F, rfl, hE⟩
  generalize hΦ : zPost h (zcount z x) z = Φ at *
  refine jrun2 (js_X12_count _) rfl rfl rfl (fun G hG hW hB => ?_)
  have rk : x = nI 3 → ∀ k e, 12 = e + k → G 57 [some (.ref 20), some (.int x), some (.int (nI (jcnt (fun p => (zK z p).isSome) e))), some (.int (nI e))] [] (jR h s I L F) 0 0 := by
    intro hx k
    induction k with
    | zero =>
      intro e he
      refine hG [57] 300 _ _ _ _ _ _ ?_
      conv => whnf
      refine ⟨fun qb => ?_, fun qb => ?_⟩ <;> rw [nI_leI (by omega) (by omega)] at qb
      case refine_2 => omega
      conv => whnf
      rw [show e = 12 by omega]
      refine hgood _ ?_
      rw [zcount, hx, if_neg (by decide), if_neg (by decide), if_neg (by decide), if_pos rfl]
    | succ k ih =>
      intro e he
      have i1 := ih (e + 1) (by omega)
      rw [jcnt] at i1
      have hk := e6 e (by omega)
      refine hG [57] 300 _ _ _ _ _ _ ?_
      conv => whnf
      refine ⟨fun qb => ?_, fun qb => ?_⟩ <;> rw [nI_leI (by omega) (by omega)] at qb
      · omega
      conv => whnf
      refine ⟨_, m_0 hh, ?_⟩
      conv => whnf
      refine ⟨_, _, _, m_18 hh, rfl, (show e < 12 by omega), ?_⟩
      conv => whnf
      have hq : (I 18 e = nI 0 ∧ (zK z e).isSome = false) ∨ (¬ I 18 e = nI 0 ∧ (zK z e).isSome = true) := by
        match hzk : zK z e, hk with
        | none, hk => exact Or.inl ⟨hk, rfl⟩
        | some (.inl q), hk => exact Or.inr ⟨fun c => absurd (hk.1.symm.trans c) (by decide), rfl⟩
        | some (.inr q), hk => exact Or.inr ⟨fun c => absurd (hk.1.symm.trans c) (by decide), rfl⟩
      rcases hq with ⟨q1, q2⟩ | ⟨q1, q2⟩
      · refine ⟨fun c => absurd q1 c, fun _ => ?_⟩
        conv => whnf
        rw [nI_add, nI_add]
        rw [q2, if_neg (by decide)] at i1
        exact i1
      · refine ⟨fun _ => ?_, fun c => absurd c q1⟩
        conv => whnf
        rw [nI_add, nI_add]
        rw [q2, if_pos rfl] at i1
        exact i1
  have rw3 : x = nI 5 → ∀ k e, 3 = e + k → G 95 [some (.ref 20), some (.int x), some (.int (nI (jcnt (fun r => (zW z r).isSome) e))), some (.int (nI e))] [] (jR h s I L F) 0 0 := by
    intro hx k
    induction k with
    | zero =>
      intro e he
      refine hG [95] 300 _ _ _ _ _ _ ?_
      conv => whnf
      refine ⟨fun qb => ?_, fun qb => ?_⟩ <;> rw [nI_leI (by omega) (by omega)] at qb
      case refine_2 => omega
      conv => whnf
      rw [show e = 3 by omega]
      refine hgood _ ?_
      rw [zcount, hx, if_neg (by decide), if_neg (by decide), if_neg (by decide), if_neg (by decide), if_neg (by decide), if_pos rfl]
    | succ k ih =>
      intro e he
      have i1 := ih (e + 1) (by omega)
      rw [jcnt] at i1
      have hk := e7 e (by omega)
      refine hG [95] 300 _ _ _ _ _ _ ?_
      conv => whnf
      refine ⟨fun qb => ?_, fun qb => ?_⟩ <;> rw [nI_leI (by omega) (by omega)] at qb
      · omega
      conv => whnf
      refine ⟨_, m_0 hh, ?_⟩
      conv => whnf
      refine ⟨_, _, _, m_14 hh, rfl, (show e < 3 by omega), ?_⟩
      conv => whnf
      have hq : (I 14 e = nI 0 ∧ (zW z e).isSome = false) ∨ (¬ I 14 e = nI 0 ∧ (zW z e).isSome = true) := by
        match hzk : zW z e, hk with
        | none, hk => exact Or.inl ⟨hk, rfl⟩
        | some q, hk => exact Or.inr ⟨fun c => absurd (hk.1.symm.trans c) (by decide), rfl⟩
      rcases hq with ⟨q1, q2⟩ | ⟨q1, q2⟩
      · refine ⟨fun _ => ?_, fun c => absurd q1 c⟩
        conv => whnf
        rw [nI_add, nI_add]
        rw [q2, if_neg (by decide)] at i1
        exact i1
      · refine ⟨fun c => absurd c q1, fun _ => ?_⟩
        conv => whnf
        rw [nI_add, nI_add]
        rw [q2, if_pos rfl] at i1
        exact i1
  refine hG [57, 95] 300 _ _ _ _ _ _ ?_
  conv => whnf
  refine ⟨fun d => ?_, fun d => ?_, fun d => ?_, fun d => ?_, fun d => ?_, fun d => ?_, fun d => ?_⟩
  · conv => whnf
    refine ⟨_, m_0 hh, ?_⟩
    conv => whnf
    refine hgood _ ?_
    rw [zcount, if_pos d, e3.1]
  · conv => whnf
    refine ⟨_, m_0 hh, ?_⟩
    conv => whnf
    refine hgood _ ?_
    rw [zcount, d, if_neg (by decide), if_pos rfl, e8.1]
  · conv => whnf
    refine ⟨_, m_0 hh, ?_⟩
    conv => whnf
    refine hgood _ ?_
    rw [zcount, d, if_neg (by decide), if_neg (by decide), if_pos rfl, e9.1]
  · exact rk d 12 0 (by omega)
  · conv => whnf
    refine ⟨_, m_0 hh, ?_⟩
    conv => whnf
    refine hgood _ ?_
    rw [zcount, d, if_neg (by decide), if_neg (by decide), if_neg (by decide), if_neg (by decide), if_pos rfl, e4.1]
  · exact rw3 d 3 0 (by omega)
  · conv => whnf
    refine hgood _ ?_
    have hne : ∀ k, k < 6 → ¬ x = nI k := by
      intro k hk q
      rw [q, nI_toInt (by omega)] at d
      omega
    rw [zcount, if_neg (hne 0 (by decide)), if_neg (hne 1 (by decide)), if_neg (hne 2 (by decide)), if_neg (hne 3 (by decide)), if_neg (hne 4 (by decide)), if_neg (hne 5 (by decide))]
