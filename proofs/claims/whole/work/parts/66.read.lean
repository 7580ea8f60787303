/-! here(), must() of the reference -/
abbrev zTap : Type := Nat × (Nat → Nat)
def jhere (t : zTap) (a : Nat) : Int32 := if a < t.1 then nI (t.2 a) else -1
theorem c_X12_here {h : List jC} (hh : 53 ≤ h.length) (s : Nat → Int32) (I : jIs) (L : jLss) (F : jFs) {t : zTap} (ht : eTap (s 5) (I 21) t) (ht80 : t.1 ≤ 80) {a : Nat} (ha : s 6 = nI a) (ha2 : a < 1000) : jCt jy_X12_here [.ref 20] (jR h s I L F) (fun r h' => r = some (.int (jhere t a)) ∧ h' = jR h s I L F) := by
  refine jrun2 (js_X12_here _) rfl rfl rfl (fun G hG hW hB => ?_)
  refine hG [] 300 _ _ _ _ _ _ ?_
  conv => whnf
  refine ⟨_, m_0 hh, ?_⟩
  conv => whnf
  refine ⟨_, m_0 hh, ?_⟩
  conv => whnf
  rw [ha, ht.1]
  refine ⟨fun qb => ?_, fun qb => ?_⟩ <;> rw [nI_leI (by omega) (by omega)] at qb
  · conv => whnf
    rw [jhere, if_neg (by omega)]
    exact ⟨rfl, rfl⟩
  · conv => whnf
    refine ⟨_, m_0 hh, ?_⟩
    conv => whnf
    refine ⟨_, m_0 hh, ?_⟩
    conv => whnf
    refine ⟨_, _, _, m_21 hh, ha, (show a < 80 by omega), ?_⟩
    conv => whnf
    rw [jhere, if_pos (by omega), ht.2 a (by omega)]
    exact ⟨rfl, rfl⟩
/-- the place and whether all was right so far, behind a sign that must stand there -/
def jmust (t : zTap) (sg : Int32) (q : Nat × Bool) : Nat × Bool := if q.2 = true then q else if jhere t q.1 = sg then (q.1 + 1, false) else (q.1, true)
/-- the numbers of the reference with place and rightness as told -/
abbrev jsR (s : Nat → Int32) (q : Nat × Bool) : Nat → Int32 := upd (upd s 7 (jbi (q.2 = true))) 6 (nI q.1)
theorem jsR_two (s : Nat → Int32) (x x2 y y2 : Int32) : upd (upd (upd (upd s 7 x) 6 y) 7 x2) 6 y2 = upd (upd s 7 x2) 6 y2 := by
  funext i
  unfold upd
  by_cases h6 : i = 6
  · rw [if_pos h6, if_pos h6]
  · rw [if_neg h6, if_neg h6]
    by_cases h7 : i = 7
    · rw [if_pos h7, if_neg h6, if_pos h7]
    · rw [if_neg h7, if_neg h6, if_neg h7, if_neg h7]
theorem c_X12_must {h : List jC} (hh : 53 ≤ h.length) (s : Nat → Int32) (I : jIs) (L : jLss) (F : jFs) {t : zTap} (ht : eTap (s 5) (I 21) t) (ht80 : t.1 ≤ 80) (q : Nat × Bool) (ha2 : q.1 < 1000) (sg : Int32) : jCt jy_X12_must [.ref 20, .int sg] (jR h (jsR s q) I L F) (fun r h' => r = none ∧ h' = jR h (jsR s (jmust t sg q)) I L F) := by
  have h7 : jsR s q 7 = jbi (q.2 = true) := rfl
  have h6 : jsR s q 6 = nI q.1 := rfl
  have ht2 : eTap (jsR s q 5) (I 21) t := ht
  refine jrun2 (js_X12_must _) rfl rfl rfl (fun G hG hW hB => ?_)
  refine hG [] 300 _ _ _ _ _ _ ?_
  conv => whnf
  refine ⟨_, m_0 hh, ?_⟩
  conv => whnf
  rw [h7]
  refine ⟨fun c => ?_, fun c => ?_⟩ <;> rw [jbi_0] at c
  case refine_2 =>
    conv => whnf
    rw [jmust, if_pos (Decidable.not_not.mp c)]
    exact ⟨rfl, rfl⟩
  rw [jmust, if_neg c] at hG ⊢
  have hq2 : q.2 = false := Bool.not_eq_true _ |>.mp c
  conv => whnf
  refine ⟨⟨_, m_0 hh⟩, jcall (c_X12_here hh _ I L F ht2 ht80 h6 ha2) ?_⟩
  rintro r h' ⟨rfl, rfl⟩
  conv => whnf
  refine ⟨fun d => ?_, fun d => ?_⟩
  · rw [if_pos d] at hG ⊢
    conv => whnf
    refine ⟨Or.inl rfl, _, m_0 hh, ?_⟩
    conv => whnf
    erw [ms_0 (upd (jsR s q) 7 (nI 0))]
    refine ⟨_, m_0 hh, ?_⟩
    conv => whnf
    refine ⟨_, m_0 hh, ?_⟩
    conv => whnf
    refine ⟨fun _ => ?_, fun w => absurd rfl w⟩
    conv => whnf
    refine ⟨trivial, _, m_0 hh, ?_⟩
    conv => whnf
    erw [ms_0 (upd (upd (jsR s q) 7 (nI 0)) 6 ((jsR s q 6 + nI 1)))]
    refine ⟨rfl, ?_⟩
    rw [h6, nI_add, jsR_two]
    rfl
  · rw [if_neg d] at hG ⊢
    conv => whnf
    refine ⟨Or.inr rfl, _, m_0 hh, ?_⟩
    conv => whnf
    erw [ms_0 (upd (jsR s q) 7 (nI 1))]
    refine ⟨_, m_0 hh, ?_⟩
    conv => whnf
    refine ⟨_, m_0 hh, ?_⟩
    conv => whnf
    refine ⟨fun w => absurd (show nI 1 = nI 0 from w) (by decide), fun _ => ?_⟩
    conv => whnf
    refine ⟨trivial, _, m_0 hh, ?_⟩
    conv => whnf
    erw [ms_0 (upd (upd (jsR s q) 7 (nI 1)) 6 ((jsR s q 6 + nI 0)))]
    refine ⟨rfl, ?_⟩
    rw [h6, nI_add, jsR_two]
    rfl
theorem jsR_w (s : Nat → Int32) (x x2 y : Int32) : upd (upd (upd s 7 x) 6 y) 7 x2 = upd (upd s 7 x2) 6 y := by
  funext i
  unfold upd
  by_cases h6 : i = 6
  · rw [if_pos h6, if_neg (by omega), if_pos h6]
  · rw [if_neg h6, if_neg h6]
    by_cases h7 : i = 7
    · rw [if_pos h7, if_pos h7]
    · rw [if_neg h7, if_neg h7, if_neg h7]
