/-! figure() of the reference -/
def jbt (n : Nat) : Int64 := if 0 < n ∧ n < 60 then 1 <<< ((nI n - nI 1).toInt64 &&& 63) else 0
def jfig (t : zTap) (q : Nat × Bool) (u : Nat × Int64) : (Nat × Bool) × (Nat × Int64) := if q.2 = true ∨ ¬ (49 ≤ (jhere t q.1).toInt ∧ (jhere t q.1).toInt ≤ 54) then ((q.1, true), u) else ((q.1 + 1, false), (u.1 + (tn (jhere t q.1) - 48), u.2 ||| jbt u.1))
theorem vpL_same (f : Nat → Int64) (k : Nat) : vp_updL f k (f k) = f := by
  funext j
  unfold vp_updL
  split
  · rename_i h; rw [h]
  · rfl
theorem j49 : (nI 49).toInt = 49 := by decide
theorem j54 : (nI 54).toInt = 54 := by decide
theorem c_X12_figure {h : List jC} (hh : 53 ≤ h.length) (s : Nat → Int32) (I : jIs) (L : jLss) (F : jFs) {t : zTap} (ht : eTap (s 5) (I 21) t) (ht80 : t.1 ≤ 80) (q : Nat × Bool) (ha2 : q.1 < 1000) {T : Nat} (hT : s 8 = nI T) (hT80 : T < 80) (u : Nat × Int64) (hu : u.1 < 1000) (hI : I 24 T = nI u.1) (hL : L 25 T = u.2) : jCt jy_X12_figure [.ref 20] (jR h (jsR s q) I L F) (fun r h' => r = none ∧ h' = jR h (jsR s (jfig t q u).1) (va_up I 24 (upd (I 24) T (nI (jfig t q u).2.1))) (va_up L 25 (vp_updL (L 25) T (jfig t q u).2.2)) F) := by
  have h7 : jsR s q 7 = jbi (q.2 = true) := rfl
  have h6 : jsR s q 6 = nI q.1 := rfl
  have h8 : jsR s q 8 = nI T := hT
  have ht2 : eTap (jsR s q 5) (I 21) t := ht
  generalize hΦ : (fun (r : Option Value) (h' : List jC) => r = none ∧ h' = jR h (jsR s (jfig t q u).1) (va_up I 24 (upd (I 24) T (nI (jfig t q u).2.1))) (va_up L 25 (vp_updL (L 25) T (jfig t q u).2.2)) F) = Φ
  refine jrun2 (js_X12_figure _) rfl rfl rfl (fun G hG hW hB => ?_)
  have wrong : (q.2 = true ∨ ¬ (49 ≤ (jhere t q.1).toInt ∧ (jhere t q.1).toInt ≤ 54)) → G 22 [some (.ref 20), none] [.ref 20] (jR h (jsR s q) I L F) 0 0 := by
    intro c
    have hsp : jfig t q u = ((q.1, true), u) := if_pos c
    refine hG [22] 300 _ _ _ _ _ _ ?_
    conv => whnf
    refine ⟨Or.inr rfl, _, m_0 hh, ?_⟩
    conv => whnf
    erw [ms_0 (upd (jsR s q) 7 (nI 1))]
    refine ⟨_, m_0 hh, ?_⟩
    conv => whnf
    refine ⟨fun w => absurd (show nI 1 = nI 0 from w) (by decide), fun _ => ?_⟩
    conv => whnf
    rw [← hΦ, hsp]
    refine ⟨rfl, ?_⟩
    dsimp only
    rw [← hI, upd_same, va_up_same, ← hL, vpL_same, va_up_same, jsR_w]
    rfl
  refine hG [22, 77] 300 _ _ _ _ _ _ ?_
  conv => whnf
  refine ⟨_, m_0 hh, ?_⟩
  conv => whnf
  rw [h7]
  refine ⟨fun c => ?_, fun c => ?_⟩ <;> rw [jbi_0] at c
  · exact wrong (Or.inl (Decidable.not_not.mp c))
  conv => whnf
  refine ⟨⟨_, m_0 hh⟩, jcall (c_X12_here hh _ I L F ht2 ht80 h6 ha2) ?_⟩
  rintro r h' ⟨rfl, rfl⟩
  conv => whnf
  refine jcall (c_X12_in _ _ _ _) ?_
  rintro r h' ⟨rfl, rfl⟩
  conv => whnf
  refine ⟨fun d => ?_, fun d => ?_⟩ <;> rw [jbi_0, j49, j54] at d
  case refine_2 => exact wrong (Or.inr d)
  have d := Decidable.not_not.mp d
  have hsp : jfig t q u = ((q.1 + 1, false), (u.1 + (tn (jhere t q.1) - 48), u.2 ||| jbt u.1)) := if_neg (fun w => w.elim c (fun w => w d))
  have hhn := tn_eq (show 0 ≤ (jhere t q.1).toInt by omega)
  have hh48 : 48 ≤ tn (jhere t q.1) := by unfold tn; omega
  have hh54 : tn (jhere t q.1) ≤ 54 := by unfold tn; omega
  have ht3 : eTap (upd (jsR s q) 7 (nI 0) 5) (I 21) t := ht
  have h63 : upd (jsR s q) 7 (nI 0) 6 = nI q.1 := rfl
  have h83 : upd (jsR s q) 7 (nI 0) 8 = nI T := hT
  have tail : ∀ b, b = jbt u.1 → G 77 [some (.ref 20), some (.int (nI u.1))] [.long b, .long u.2, .int (nI T), .ref 45] (jR h (upd (jsR s q) 7 (nI 0)) I L F) 0 0 := by
    intro b hb
    refine hG [77] 300 _ _ _ _ _ _ ?_
    conv => whnf
    refine ⟨_, _, _, m_25 hh, rfl, hT80, ?_⟩
    conv => whnf
    erw [ms_25 (vp_updL (L 25) T (u.2 ||| b))]
    refine ⟨_, m_0 hh, ?_⟩
    conv => whnf
    refine ⟨_, m_0 hh, ?_⟩
    conv => whnf
    rw [h83]
    refine ⟨⟨_, m_0 hh⟩, jcall (c_X12_here hh (upd (jsR s q) 7 (nI 0)) I (va_up L 25 (vp_updL (L 25) T (u.2 ||| b))) F ht3 ht80 h63 ha2) ?_⟩
    rintro r h' ⟨rfl, rfl⟩
    conv => whnf
    refine ⟨_, _, _, m_24 hh, rfl, hT80, ?_⟩
    conv => whnf
    rw [show nI u.1 + jhere t q.1 - nI 48 = nI (u.1 + (tn (jhere t q.1) - 48)) by
      rw [hhn, nI_add, pk_sub (by omega), tn_nI (by omega)]
      congr 1
      omega]
    erw [ms_24 (upd (I 24) T (nI (u.1 + (tn (jhere t q.1) - 48))))]
    refine ⟨_, m_0 hh, ?_⟩
    conv => whnf
    refine ⟨trivial, _, m_0 hh, ?_⟩
    conv => whnf
    erw [ms_0 (upd (upd (jsR s q) 7 (nI 0)) 6 ((upd (jsR s q) 7 (nI 0) 6 + nI 1)))]
    rw [← hΦ, hsp, hb]
    refine ⟨rfl, ?_⟩
    rw [h63, nI_add, jsR_two]
    rfl
  conv => whnf
  refine ⟨Or.inl rfl, _, m_0 hh, ?_⟩
  conv => whnf
  erw [ms_0 (upd (jsR s q) 7 (nI 0))]
  refine ⟨_, m_0 hh, ?_⟩
  conv => whnf
  refine ⟨fun _ => ?_, fun w => absurd rfl w⟩
  conv => whnf
  refine ⟨_, m_0 hh, ?_⟩
  conv => whnf
  refine ⟨_, m_0 hh, ?_⟩
  conv => whnf
  rw [h83]
  refine ⟨_, _, _, m_24 hh, rfl, hT80, ?_⟩
  conv => whnf
  rw [hI]
  refine ⟨_, m_0 hh, ?_⟩
  conv => whnf
  refine ⟨_, m_0 hh, ?_⟩
  conv => whnf
  rw [h83]
  refine ⟨_, _, _, m_25 hh, rfl, hT80, ?_⟩
  conv => whnf
  rw [hL]
  refine ⟨fun e => ?_, fun e => ?_⟩ <;> rw [nI_leI (by omega) (by omega)] at e
  · conv => whnf
    exact tail 0 (by rw [jbt, if_neg (by omega)])
  conv => whnf
  refine ⟨fun e2 => ?_, fun e2 => ?_⟩ <;> rw [nI_leI (by omega) (by omega)] at e2
  · conv => whnf
    exact tail 0 (by rw [jbt, if_neg (by omega)])
  · conv => whnf
    exact tail _ (by rw [jbt, if_pos (by omega)])
