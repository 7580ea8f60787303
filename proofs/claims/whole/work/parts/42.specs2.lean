/-! more orders of the reference against the state: of, fundamental, inF, told, back, feed, wipe, why, holds -/
theorem r_of {h : List jC} (hh : 53 ≤ h.length) {s : Nat → Int32} {I : jIs} {L : jLss} {F : jFs} {z : zS} (hE : EncR s I L F z) (hz : zWF z) (x y : Int32) : jCt jy_X12_of [.ref 20, .int x, .int y] (jR h s I L F) (zPost h (zof z x y) z) := by
  have hbad : ¬ isNum z x y → zPost h (zof z x y) z (some (.long (-9223372036854775808))) (jR h s I L F) := by
    intro hn
    rw [zof, if_neg hn]
    exact ⟨rfl, s, I, L, F, rfl, hE⟩
  refine jrun2 (js_X12_of _) rfl rfl rfl (fun G hG hW hB => ?_)
  refine hG [] 300 _ _ _ _ _ _ ?_
  conv => whnf
  refine jcall (c_X12_isRegister x _) ?_
  rintro r h' ⟨rfl, rfl⟩
  conv => whnf
  refine ⟨fun c => ?_, fun c => ?_⟩ <;> rw [jbi_0] at c
  · conv => whnf
    exact hbad (fun q => c q.1)
  have c := Decidable.not_not.mp c
  obtain ⟨hx, hx4⟩ := isReg_nI c
  have hw := (hE.2.1 (tn x) hx4).1
  have hw6 := (hz.1 (tn x) hx4).1
  have hm := jmany_le hw6
  conv => whnf
  rw [hx]
  refine ⟨⟨_, m_0 hh⟩, jcall (c_X12_isOf hh s I L F hx4 hw6 hw y) ?_⟩
  rintro r h' ⟨rfl, rfl⟩
  conv => whnf
  refine ⟨fun c2 => ?_, fun c2 => ?_⟩ <;> rw [jbi_0] at c2
  · rw [← hx]
    conv => whnf
    exact hbad (fun q => c2 q.2)
  · have c2 := Decidable.not_not.mp c2
    have hy := tn_eq c2.1
    have hyl : tn y < jmany (zR z (tn x)).1 := tn_lt c2.1 c2.2
    rw [← hx, zof, if_pos ⟨c, c2⟩]
    rw [hx, hy]
    generalize tn x = r at *
    generalize tn y = n at *
    rw [← hx, ← hy]
    subst hx
    subst hy
    conv => whnf
    refine ⟨_, m_0 hh, ?_⟩
    conv => whnf
    refine ⟨_, _, _, m_4 hh, (by rw [pk_mul, nI_add]), (show 32 * r + n < 128 by omega), ?_⟩
    conv => whnf
    refine ⟨?_, s, I, L, F, rfl, hE⟩
    rw [(hE.2.1 r hx4).2 n (by omega), tn_nI (by omega), tn_nI (by omega)]
def jnz (f : Nat → Int64) : Nat → Nat
  | 0 => 0
  | e + 1 => jnz f e + (if f e = 0 then 0 else 1)
theorem jnz_le (f : Nat → Int64) : ∀ e, jnz f e ≤ e
  | 0 => Nat.le_refl _
  | e + 1 => by have := jnz_le f e; simp only [jnz]; split <;> omega
theorem jnz_c {f g : Nat → Int64} : ∀ {e : Nat}, (∀ c, c < e → f c = g c) → jnz f e = jnz g e
  | 0, _ => rfl
  | e + 1, h => by rw [jnz, jnz, jnz_c (fun c hc => h c (by omega)), h e (by omega)]
def ztold (z : zS) (x y : Int32) : Value := if isReg x ∧ 0 ≤ y.toInt ∧ y.toInt ≤ 2 then (if tn y = 0 then .int (nI (zR z (tn x)).1) else if tn y = 1 then .int (nI (jmany (zR z (tn x)).1)) else .int (nI (jnz (zR z (tn x)).2 32))) else .int (-1)
theorem j2 : (nI 2).toInt = 2 := by decide
theorem r_told {h : List jC} (hh : 53 ≤ h.length) {s : Nat → Int32} {I : jIs} {L : jLss} {F : jFs} {z : zS} (hE : EncR s I L F z) (hz : zWF z) (x y : Int32) : jCt jy_X12_told [.ref 20, .int x, .int y] (jR h s I L F) (zPost h (ztold z x y) z) := by
  have hbad : ¬ (isReg x ∧ 0 ≤ y.toInt ∧ y.toInt ≤ 2) → zPost h (ztold z x y) z (some (.int (-1))) (jR h s I L F) := by
    intro hn
    rw [ztold, if_neg hn]
    exact ⟨rfl, s, I, L, F, rfl, hE⟩
  refine jrun2 (js_X12_told _) rfl rfl rfl (fun G hG hW hB => ?_)
  refine hG [51] 300 _ _ _ _ _ _ ?_
  conv => whnf
  refine jcall (c_X12_isRegister x _) ?_
  rintro r h' ⟨rfl, rfl⟩
  conv => whnf
  refine ⟨fun c => ?_, fun c => ?_⟩ <;> rw [jbi_0] at c
  · conv => whnf
    exact hbad (fun q => c q.1)
  have c := Decidable.not_not.mp c
  obtain ⟨hx, hx4⟩ := isReg_nI c
  have hw := (hE.2.1 (tn x) hx4).1
  have hw6 := (hz.1 (tn x) hx4).1
  conv => whnf
  refine jcall (c_X12_in y _ _ _) ?_
  rintro r h' ⟨rfl, rfl⟩
  conv => whnf
  refine ⟨fun c2 => ?_, fun c2 => ?_⟩ <;> rw [jbi_0] at c2
  · have c2 := Decidable.not_not.mp c2
    rw [j0, j2] at c2
    have hy := tn_eq c2.1
    have hy2 : tn y < 3 := tn_lt c2.1 (by have := c2.2; omega)
    have hsp := show ztold z x y = _ from if_pos ⟨c, c2⟩
    rw [hsp] at hG ⊢
    clear hsp hbad
    generalize tn x = r at *
    generalize tn y = n at *
    subst hx
    subst hy
    conv => whnf
    refine ⟨fun qb => ?_, fun qb => ?_⟩ <;> rw [nI_leI (by omega) (by omega)] at qb
    · have hn : n = 2 := by omega
      subst hn
      rw [if_neg (by decide), if_neg (by decide)]
      have loop : ∀ d e, 32 = e + d → G 51 [some (.ref 20), some (.int (nI r)), some (.int (nI 2)), some (.int (nI (jnz (zR z r).2 e))), some (.int (nI e))] [] (jR h s I L F) 0 0 := by
        intro d
        induction d with
        | zero =>
          intro e he
          refine hG [51] 300 _ _ _ _ _ _ ?_
          conv => whnf
          refine ⟨fun qb => ?_, fun qb => ?_⟩ <;> rw [nI_leI (by omega) (by omega)] at qb
          · conv => whnf
            rw [show e = 32 by omega]
            exact ⟨rfl, s, I, L, F, rfl, hE⟩
          · omega
        | succ d ih =>
          intro e he
          have i1 := ih (e + 1) (by omega)
          rw [jnz, ← (hE.2.1 r hx4).2 e (by omega)] at i1
          refine hG [51] 300 _ _ _ _ _ _ ?_
          conv => whnf
          refine ⟨fun qb => ?_, fun qb => ?_⟩ <;> rw [nI_leI (by omega) (by omega)] at qb
          · omega
          conv => whnf
          refine ⟨_, m_0 hh, ?_⟩
          conv => whnf
          refine ⟨_, _, _, m_4 hh, (by rw [pk_mul, nI_add]), (show 32 * r + e < 128 by omega), ?_⟩
          conv => whnf
          refine ⟨fun c => ?_, fun c => ?_⟩ <;> rw [jlg0] at c
          · conv => whnf
            rw [nI_add, nI_add]
            rw [if_pos c] at i1
            exact i1
          · conv => whnf
            rw [nI_add, nI_add]
            rw [if_neg c] at i1
            exact i1
      conv => whnf
      exact loop 32 0 (by omega)
    · conv => whnf
      refine ⟨fun qb => ?_, fun qb => ?_⟩ <;> rw [nI_eq (by omega) (by omega)] at qb
      · conv => whnf
        refine ⟨_, m_0 hh, ?_⟩
        conv => whnf
        refine ⟨_, _, _, m_3 hh, rfl, hx4, ?_⟩
        conv => whnf
        rw [hw]
        refine jcall (c_X12_many _ hw6 _) ?_
        rintro r h' ⟨rfl, rfl⟩
        conv => whnf
        rw [if_neg qb, if_pos (by omega)]
        exact ⟨rfl, s, I, L, F, rfl, hE⟩
      · conv => whnf
        refine ⟨_, m_0 hh, ?_⟩
        conv => whnf
        refine ⟨_, _, _, m_3 hh, rfl, hx4, ?_⟩
        conv => whnf
        rw [if_pos qb, hw]
        exact ⟨rfl, s, I, L, F, rfl, hE⟩
  · conv => whnf
    refine hbad (fun q => c2 ?_)
    rw [j0, j2]
    exact q.2
def zback (z : zS) : Value × zS := match (zT z).getLast? with
  | none => (.int (-5), z)
  | some q => (.int (nI ((zT z).length - 1)), (va_up (zR z) q.1 q.2, (zT z).dropLast, z.2.2))
theorem r_back {h : List jC} (hh : 53 ≤ h.length) {s : Nat → Int32} {I : jIs} {L : jLss} {F : jFs} {z : zS} (hE : EncR s I L F z) (hz : zWF z) : jCt jy_X12_back [.ref 20] (jR h s I L F) (zPost h (zback z).1 (zback z).2) := by
  obtain ⟨e1, e2, e3, e4, e5, e6, e7, e8, e9, e10⟩ := id hE
  have hl := hz.2.1.1
  refine jrun2 (js_X12_back _) rfl rfl rfl (fun G hG hW hB => ?_)
  refine hG [47] 300 _ _ _ _ _ _ ?_
  conv => whnf
  refine ⟨_, m_0 hh, ?_⟩
  conv => whnf
  rw [e3.1]
  refine ⟨fun qb => ?_, fun qb => ?_⟩ <;> rw [nI_eq (by omega) (by omega)] at qb
  · -- there is one
    have hlast : (zT z)[(zT z).length - 1]? = some ((zT z)[(zT z).length - 1]'(by omega)) := List.getElem?_eq_getElem (by omega)
    generalize hq : (zT z)[(zT z).length - 1]'(by omega) = q at hlast
    have hg : (zT z).getLast? = some q := by rw [List.getLast?_eq_getElem?]; exact hlast
    have hsp : zback z = (.int (nI ((zT z).length - 1)), (va_up (zR z) q.1 q.2, (zT z).dropLast, z.2.2)) := by unfold zback; rw [hg]
    rw [hsp] at hG ⊢
    clear hq
    obtain ⟨q1, q2, q3⟩ := e3.2 _ _ hlast
    have hmem : q ∈ zT z := List.mem_of_getElem? hlast
    have hqr := (hz.2.1.2 q hmem).1
    generalize hn : (zT z).length - 1 = n at *
    have hn1 : (zT z).length = n + 1 := by omega
    have hsub : s 2 - nI 1 = nI n := by rw [e3.1, hn1, jI_m1 (by omega), Nat.add_sub_cancel]
    conv => whnf
    refine ⟨_, m_0 hh, ?_⟩
    conv => whnf
    refine ⟨trivial, _, m_0 hh, ?_⟩
    conv => whnf
    erw [ms_0 (upd s 2 (s 2 - nI 1))]
    rw [hsub]
    refine ⟨_, m_0 hh, ?_⟩
    conv => whnf
    refine ⟨_, m_0 hh, ?_⟩
    conv => whnf
    refine ⟨_, _, _, m_6 hh, rfl, (show n < 8 by omega), ?_⟩
    conv => whnf
    rw [q1]
    refine ⟨_, m_0 hh, ?_⟩
    conv => whnf
    refine ⟨_, m_0 hh, ?_⟩
    conv => whnf
    refine ⟨_, m_0 hh, ?_⟩
    conv => whnf
    refine ⟨_, _, _, m_7 hh, rfl, (show n < 8 by omega), ?_⟩
    conv => whnf
    rw [q2]
    refine ⟨_, _, _, m_3 hh, rfl, hqr, ?_⟩
    conv => whnf
    erw [ms_3 (upd (I 3) q.1 (nI q.2.1))]
    have loop : ∀ d e, 32 = e + d → G 47 [some (.ref 20), some (.int (nI q.1)), some (.int (nI e))] [] (jR h (upd s 2 (nI n)) (va_up I 3 (upd (I 3) q.1 (nI q.2.1))) (va_up L 4 (jpst (L 4) (32 * q.1) (fun c => L 8 (32 * n + c)) e)) F) 0 0 := by
      intro d
      induction d with
      | zero =>
        intro e he
        refine hG [47] 300 _ _ _ _ _ _ ?_
        conv => whnf
        refine ⟨fun qb => ?_, fun qb => ?_⟩ <;> rw [nI_leI (by omega) (by omega)] at qb
        · conv => whnf
          refine ⟨_, m_0 hh, ?_⟩
          conv => whnf
          refine ⟨rfl, _, _, _, F, rfl, ?_⟩
          refine ⟨e1, fun r hr => ?_, ⟨?_, fun i p hi => ?_⟩, e4, e5, e6, e7, e8, e9, e10⟩
          · show upd (I 3) q.1 (nI q.2.1) r = nI (va_up (zR z) q.1 q.2 r).1 ∧ ∀ c, c < 32 → jpst (L 4) (32 * q.1) (fun c => L 8 (32 * n + c)) e (32 * r + c) = (va_up (zR z) q.1 q.2 r).2 c
            by_cases hrq : r = q.1
            · subst hrq
              refine ⟨by simp [upd, va_up], fun c hc => ?_⟩
              unfold jpst va_up
              rw [if_pos (by omega), if_pos rfl, ← q3 c hc]
              congr 1; omega
            · refine ⟨by simp [upd, va_up, hrq]; exact (e2 r hr).1, fun c hc => ?_⟩
              unfold jpst va_up
              rw [if_neg (by omega), if_neg hrq]
              exact (e2 r hr).2 c hc
          · show nI n = nI (zT z).dropLast.length
            rw [List.length_dropLast, hn1, Nat.add_sub_cancel]
          · have hi2 : (zT z)[i]? = some p := by
              rw [List.getElem?_dropLast] at hi
              split at hi
              · exact hi
              · cases hi
            exact e3.2 i p hi2
        · omega
      | succ d ih =>
        intro e he
        refine hG [47] 300 _ _ _ _ _ _ ?_
        conv => whnf
        refine ⟨fun qb => ?_, fun qb => ?_⟩ <;> rw [nI_leI (by omega) (by omega)] at qb
        · omega
        conv => whnf
        refine ⟨_, m_0 hh, ?_⟩
        conv => whnf
        refine ⟨_, m_0 hh, ?_⟩
        conv => whnf
        refine ⟨_, m_0 hh, ?_⟩
        conv => whnf
        refine ⟨_, _, _, m_8 hh, (show nI 32 * nI n + nI e = _ from by rw [pk_mul, nI_add]), (show 32 * n + e < 256 from by omega), ?_⟩
        conv => whnf
        refine ⟨_, _, _, m_4 hh, (by rw [pk_mul, nI_add]), (show 32 * q.1 + e < 128 from by omega), ?_⟩
        conv => whnf
        rw [nI_add]
        erw [ms_4 (vp_updL (jpst (L 4) (32 * q.1) (fun c => L 8 (32 * n + c)) e) (32 * q.1 + e) ((fun c => L 8 (32 * n + c)) e))]
        rw [va_up_up, jpst_s]
        exact ih (e + 1) (by omega)
    have l0 := loop 32 0 (by omega)
    rw [jpst_0] at l0
    have e4' : va_up L 4 (L 4) = L := va_up_same L 4
    rw [e4'] at l0
    conv => whnf
    exact l0
  · conv => whnf
    have hT : zT z = [] := List.length_eq_zero_iff.mp qb
    have hsp : zback z = (.int (-5), z) := by unfold zback; rw [hT]; rfl
    rw [hsp]
    exact ⟨rfl, s, I, L, F, rfl, hE⟩
