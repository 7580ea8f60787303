/-! takesRow, rowOf, descents, marks of the reference against the state -/
def tPost (h : List jC) (s : Nat → Int32) (I : jIs) (L : jLss) (F : jFs) (k : Int32) (rs : List (List Nat)) : jPost := fun r h' => ∃ (w : Nat → Int32) (sn : Nat), h' = jR h (upd s 4 (nI sn)) (va_up I 11 w) L F ∧
  ((∃ (x : Nat) (l : List Nat), rs[x]? = some l ∧ k = nI x ∧ r = some (.int (nI 1)) ∧ ∀ m v, l[m]? = some v → w m = nI v) ∨ ((∀ x, x < rs.length → ¬ k = nI x) ∧ sn = rs.length ∧ r = some (.int (nI 0))))
def zrows (o : zOrd) : List (List Nat) := rws o o.1 0
theorem zrows_len {o : zOrd} (ho : o.1 ≤ 6) : (zrows o).length ≤ 46656 := Nat.le_trans (rws_len o ho o.1 0) (Nat.pow_le_pow_right (by decide) ho)
theorem rwsL_mem {g : Nat → List (List Nat)} {l : List Nat} : ∀ {i : Nat}, l ∈ rwsL g i → ∃ j, 0 < j ∧ j ≤ i ∧ l ∈ g j
  | 0, h => by simp [rwsL] at h
  | i + 1, h => by
    rw [rwsL, List.mem_append] at h
    rcases h with h | h
    · obtain ⟨j, h1, h2, h3⟩ := rwsL_mem h
      exact ⟨j, h1, by omega, h3⟩
    · exact ⟨i + 1, by omega, by omega, h⟩
theorem rws_each {o : zOrd} : ∀ {f told : Nat} {l : List Nat}, l ∈ rws o f told → l.length = f ∧ ∀ v ∈ l, 0 < v ∧ v ≤ o.1
  | 0, told, l, h => by
    have : l = [] := by simpa [rws] using h
    subst this
    exact ⟨rfl, fun v hv => by simp at hv⟩
  | f + 1, told, l, h => by
    rw [rws] at h
    obtain ⟨j, h1, h2, h3⟩ := rwsL_mem h
    split at h3
    · obtain ⟨l2, h4, rfl⟩ := List.mem_map.mp h3
      obtain ⟨h5, h6⟩ := rws_each h4
      refine ⟨by rw [List.length_cons, h5], fun v hv => ?_⟩
      rcases List.mem_cons.mp hv with rfl | hv
      · exact ⟨h1, h2⟩
      · exact h6 v hv
    · simp at h3
theorem c_X12_takesRow {h : List jC} (hh : 53 ≤ h.length) (s : Nat → Int32) (I : jIs) (L : jLss) (F : jFs) {o : zOrd} (ho : eOrd (s 3) (I 10) o) (hok : zordOk o) (k : Int32) : jCt jy_X12_takesRow [.ref 20, .int k] (jR h s I L F) (tPost h s I L F k (zrows o)) := by
  refine jrun2 (js_X12_takesRow _) rfl rfl rfl (fun G hG hW hB => ?_)
  refine hG [] 300 _ _ _ _ _ _ ?_
  conv => whnf
  refine ⟨trivial, _, m_0 hh, ?_⟩
  conv => whnf
  erw [ms_0 (upd s 4 (nI 0))]
  have h6 : 6 ^ o.1 ≤ 6 ^ 6 := Nat.pow_le_pow_right (by decide) hok.1
  have hc := c_X12_finds hh L F hok k 7 o.1 0 0 0 (upd s 4 (nI 0)) I (nI 0) (nI 0) (by have := hok.1; omega) ho rfl rfl rfl (by omega) (by decide) (by omega)
  refine ⟨⟨_, m_0 hh⟩, jcall hc ?_⟩
  rintro r h' ⟨w, sn, rfl, -, hq⟩
  rw [jupd2]
  rcases hq with ⟨x, l, q1, q2, q3, rfl, q5⟩ | ⟨q1, q2, rfl⟩
  · conv => whnf
    exact ⟨Or.inr rfl, w, sn, rfl, Or.inl ⟨x, l, q1, by rw [q2, Nat.zero_add], rfl, fun m v hm => by rw [← q5 m v hm, Nat.zero_add]⟩⟩
  · conv => whnf
    exact ⟨Or.inl rfl, w, sn, rfl, Or.inr ⟨fun x hx => by have := q1 x hx; rwa [Nat.zero_add] at this, by rw [q2, Nat.zero_add]; rfl, rfl⟩⟩
def zrowOf (z : zS) (x y : Int32) : Value := if x.toInt < -1 ∨ (0 ≤ x.toInt ∧ ¬ (0 ≤ y.toInt ∧ y.toInt < (zO z).1)) then .int (-1)
  else if x.toInt = -1 then .int (nI (zrows (zO z)).length) else (match (zrows (zO z))[tn x]? with
    | none => .int (-2)
    | some l => .int (nI (l.getD (tn y) 0)))
theorem e_seen {h : List jC} {s : Nat → Int32} {I : jIs} {L : jLss} {F : jFs} {z : zS} (hE : EncR s I L F z) (w : Nat → Int32) (n : Int32) {v : Value} {a : Value} (hv : v = a) : zPost h a z (some v) (jR h (upd s 4 n) (va_up I 11 w) L F) := ⟨by rw [hv], _, _, L, F, rfl, hE⟩
theorem r_rowOf {h : List jC} (hh : 53 ≤ h.length) {s : Nat → Int32} {I : jIs} {L : jLss} {F : jFs} {z : zS} (hE : EncR s I L F z) (hz : zWF z) (x y : Int32) : jCt jy_X12_rowOf [.ref 20, .int x, .int y] (jR h s I L F) (zPost h (zrowOf z x y) z) := by
  obtain ⟨e1, e2, e3, e4, e5, e6, e7, e8, e9, e10⟩ := id hE
  have hok := hz.2.2.1
  have ho6 := hok.1
  have hgood : ∀ (v a : Value) (w : Nat → Int32) (n : Int32), zrowOf z x y = v → zPost h (zrowOf z x y) z (some v) (jR h (upd s 4 n) (va_up I 11 w) L F) := fun v a w n hv => e_seen hE w n hv.symm
  have hbad : (x.toInt < -1 ∨ (0 ≤ x.toInt ∧ ¬ (0 ≤ y.toInt ∧ y.toInt < (zO z).1))) → zPost h (zrowOf z x y) z (some (.int (-1))) (jR h s I L F) := by
    intro c
    rw [zrowOf, if_pos c]
    exact ⟨rfl, s, I, L, F, rfl, hE⟩
  have hm1 : x = -1 ↔ x.toInt = -1 := by rw [jeq, jm1]
  generalize hΦ : zPost h (zrowOf z x y) z = Φ at *
  refine jrun2 (js_X12_rowOf _) rfl rfl rfl (fun G hG hW hB => ?_)
  have main : ¬ (x.toInt < -1 ∨ (0 ≤ x.toInt ∧ ¬ (0 ≤ y.toInt ∧ y.toInt < (zO z).1))) → G 25 [some (.ref 20), some (.int x), some (.int y), none] [] (jR h s I L F) 0 0 := by
    intro c
    refine hG [25] 300 _ _ _ _ _ _ ?_
    conv => whnf
    refine ⟨⟨_, m_0 hh⟩, jcall (c_X12_takesRow hh s I L F e4 hok x) ?_⟩
    rintro r h' ⟨w, sn, rfl, hq⟩
    rcases hq with ⟨i, l, q1, q2, rfl, q5⟩ | ⟨q1, q2, rfl⟩
    · have hil := (List.getElem?_eq_some_iff.mp q1).1
      have hzl := zrows_len ho6
      have hxt : x.toInt = i := by rw [q2, nI_toInt (by omega)]
      obtain ⟨hl1, hl2⟩ := rws_each (List.mem_of_getElem? q1)
      have cy : 0 ≤ y.toInt ∧ y.toInt < (zO z).1 := by
        refine Decidable.byContradiction (fun q => c (Or.inr ⟨by omega, q⟩))
      have hy := tn_eq cy.1
      have hyl : tn y < (zO z).1 := tn_lt cy.1 cy.2
      have hyg := List.getElem?_eq_getElem (l := l) (i := tn y) (by omega)
      conv => whnf
      refine ⟨fun _ => ?_, fun q => absurd (hm1.mp q) (by omega)⟩
      conv => whnf
      refine ⟨fun q => absurd q (by decide), fun _ => ?_⟩
      conv => whnf
      refine ⟨_, m_0 hh, ?_⟩
      conv => whnf
      refine ⟨_, _, _, m_11 hh, hy, (show tn y < 6 by omega), ?_⟩
      conv => whnf
      rw [show va_up I 11 w 11 (tn y) = w (tn y) by rw [va_up_self], q5 _ _ hyg]
      refine hgood _ (.int 0) _ _ ?_
      rw [zrowOf, if_neg c, if_neg (by omega), show tn x = i by rw [q2, tn_nI (by omega)], q1]
      simp [List.getD, hyg]
    · conv => whnf
      refine ⟨fun c2 => ?_, fun c2 => ?_⟩ <;> rw [hm1] at c2
      · conv => whnf
        refine ⟨fun _ => ?_, fun q => absurd rfl q⟩
        conv => whnf
        refine hgood _ (.int 0) _ _ ?_
        have hx0 : 0 ≤ x.toInt := by
          rcases Int.lt_or_le x.toInt 0 with q | q
          · exact absurd (Or.inl (by omega)) c
          · exact q
        rw [zrowOf, if_neg c, if_neg c2, List.getElem?_eq_none]
        refine Nat.le_of_not_lt (fun q => q1 _ q (tn_eq hx0))
      · conv => whnf
        refine ⟨_, m_0 hh, ?_⟩
        conv => whnf
        refine hgood _ (.int 0) _ _ ?_
        rw [zrowOf, if_neg c, if_pos c2, ← q2]
        rfl
  refine hG [25] 300 _ _ _ _ _ _ ?_
  conv => whnf
  refine ⟨fun c1 => ?_, fun c1 => ?_⟩ <;> rw [jlt, jm1] at c1
  · conv => whnf
    exact hbad (Or.inl c1)
  conv => whnf
  refine ⟨fun c2 => ?_, fun c2 => ?_⟩ <;> rw [jlt, j0] at c2
  · exact main (fun q => q.elim c1 (fun q => by omega))
  conv => whnf
  refine ⟨_, m_0 hh, ?_⟩
  conv => whnf
  rw [e4.1]
  refine jcall (c_X12_in y _ _ _) ?_
  rintro r h' ⟨rfl, rfl⟩
  conv => whnf
  refine ⟨fun c3 => ?_, fun c3 => ?_⟩ <;> rw [jbi_0, j0, jle1 (by omega)] at c3
  · exact main (fun q => q.elim c1 (fun q => q.2 (Decidable.not_not.mp c3)))
  · conv => whnf
    exact hbad (Or.inr ⟨by omega, c3⟩)
