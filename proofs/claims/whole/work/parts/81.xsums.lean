/-! sums of the class: twin, withNumber, withFundamental, plus, notZero, isLike -/
/-- the cells with longs set and a new sum behind -/
def jNw (h : List jC) (l w : Nat) (p : (Nat → Int64) × jLs) : List jC := h.set l (oL p.2) ++ [oS w (h.length + 1), aL (jmany w) p.1]
theorem jnew2 (h : List jC) (c x y : jC) : (h ++ [c]).set h.length x ++ [y] = h ++ [x, y] := by
  rw [List.set_append_right _ _ (Nat.le_refl _), Nat.sub_self]
  simp
theorem jtwo_s (h : List jC) (x y : jC) : (h ++ [x, y])[h.length]? = some x := by rw [List.getElem?_append_right (Nat.le_refl _), Nat.sub_self]; rfl
theorem jtwo_a (h : List jC) (x y : jC) : (h ++ [x, y])[h.length + 1]? = some y := by rw [List.getElem?_append_right (by omega), Nat.add_sub_cancel_left]; rfl
theorem jtwo_set (h : List jC) (x y w : jC) : (h ++ [x, y]).set (h.length + 1) w = h ++ [x, w] := by
  rw [List.set_append_right _ _ (by omega), Nat.add_sub_cancel_left]
  rfl
theorem jtwo_out {h : List jC} {l : Nat} {c : jC} (hl : h[l]? = some c) (z x y : jC) : (h ++ [x, y]).set l z = h.set l z ++ [x, y] := List.set_append_left _ _ (List.getElem?_eq_some_iff.mp hl).1
section
variable {h : List jC} {l w : Nat} {p : (Nat → Int64) × jLs} {q0 : jLs}
theorem jNw_0 (hl : h[l]? = some (oL q0)) (f : Nat → Int64) : jNw h l w (f, q0) = h ++ [oS w (h.length + 1), aL (jmany w) f] := by
  unfold jNw
  rw [jset_same hl]
theorem jNw_l (hl : h[l]? = some (oL q0)) : (jNw h l w p)[l]? = some (oL p.2) := jget_apl (jget_set hl)
theorem jNw_s : (jNw h l w p)[h.length]? = some (oS w (h.length + 1)) := by
  have := jtwo_s (h.set l (oL p.2)) (oS w (h.length + 1)) (aL (jmany w) p.1)
  rw [List.length_set] at this
  exact this
theorem jNw_a : (jNw h l w p)[h.length + 1]? = some (aL (jmany w) p.1) := by
  have := jtwo_a (h.set l (oL p.2)) (oS w (h.length + 1)) (aL (jmany w) p.1)
  rw [List.length_set] at this
  exact this
theorem jNw_o {j : Nat} {x : jC} (hn : l ≠ j) (hj : h[j]? = some x) : (jNw h l w p)[j]? = some x := jget_apl (jget_ne hn hj)
theorem jNw_LA (hl : h[l]? = some (oL q0)) (p' : (Nat → Int64) × jLs) : jLA (jNw h l w p) l (h.length + 1) (jmany w) p' = jNw h l w p' := by
  have hl2 : (h.set l (oL p.2))[l]? = some (oL p.2) := jget_set hl
  unfold jLA jNw
  rw [jtwo_out hl2, List.set_set]
  have := jtwo_set (h.set l (oL p'.2)) (oS w (h.length + 1)) (aL (jmany w) p.1) (aL (jmany w) p'.1)
  rw [List.length_set] at this
  exact this
end
theorem c_X8_twin {h : List jC} {s w a : Nat} {f : Nat → Int64} (hs : h[s]? = some (oS w a)) (ha : h[a]? = some (aL (jmany w) f)) (hw : w ≤ 6) : jCt jy_X8_twin [.ref s] h (fun r h' => r = some (.ref h.length) ∧ h' = h ++ [oS w (h.length + 1), aL (jmany w) (jcpL (fun _ => 0) f (jmany w))]) := by
  have hm := jmany_le hw
  refine jrun2 (js_X8_twin _) rfl rfl rfl (fun G hG hW hB => ?_)
  have loop : ∀ k e, jmany w = e + k → G 14 [some (.ref s), some (.ref h.length), some (.int (nI e))] [] (h ++ [oS w (h.length + 1), aL (jmany w) (jcpL (fun _ => 0) f e)]) 2 34 := by
    intro k
    induction k with
    | zero =>
      intro e he
      refine hG [14] 300 _ _ _ _ _ _ ?_
      conv => whnf
      refine ⟨_, jget_apl hs, ?_⟩
      conv => whnf
      refine ⟨_, _, _, jget_apl ha, ?_⟩
      conv => whnf
      refine ⟨fun qb => ?_, fun qb => ?_⟩ <;> rw [nI_leI (by omega) (by omega)] at qb
      · conv => whnf
        rw [he, Nat.add_zero]
        exact ⟨rfl, rfl⟩
      · omega
    | succ k ih =>
      intro e he
      refine hG [14] 300 _ _ _ _ _ _ ?_
      conv => whnf
      refine ⟨_, jget_apl hs, ?_⟩
      conv => whnf
      refine ⟨_, _, _, jget_apl ha, ?_⟩
      conv => whnf
      refine ⟨fun qb => ?_, fun qb => ?_⟩ <;> rw [nI_leI (by omega) (by omega)] at qb
      · omega
      conv => whnf
      refine ⟨_, jtwo_s h _ _, ?_⟩
      conv => whnf
      refine ⟨_, _, _, jtwo_a h _ _, ?_⟩
      conv => whnf
      refine ⟨fun qb => ?_, fun qb => ?_⟩ <;> rw [nI_leI (by omega) (by omega)] at qb
      · omega
      conv => whnf
      refine ⟨_, jtwo_s h _ _, ?_⟩
      conv => whnf
      refine ⟨_, jget_apl hs, ?_⟩
      conv => whnf
      refine ⟨_, _, _, jget_apl ha, rfl, (show e < jmany w by omega), ?_⟩
      conv => whnf
      refine ⟨_, _, _, jtwo_a h _ _, rfl, (show e < jmany w by omega), ?_⟩
      conv => whnf
      rw [nI_add]
      erw [jtwo_set h (oS w (h.length + 1)) (aL (jmany w) (jcpL (fun _ => 0) f e)) (aL (jmany w) (vp_updL (jcpL (fun _ => 0) f e) e (f e)))]
      exact ih (e + 1) (by omega)
  refine hG [14] 300 _ _ _ _ _ _ ?_
  conv => whnf
  refine ⟨_, jget_app hs, ?_⟩
  conv => whnf
  refine jcall (c_X8_init hw (jget_new _ _)) ?_
  rintro r h' ⟨rfl, rfl⟩
  rw [List.length_append, List.length_singleton, jnew2]
  conv => whnf
  exact loop (jmany w) 0 (by omega)
theorem c_X8_withNumber {h : List jC} {s w a : Nat} {f : Nat → Int64} (hs : h[s]? = some (oS w a)) (ha : h[a]? = some (aL (jmany w) f)) (hw : w ≤ 6) {c : Nat} (hc : c < jmany w) (v : Int64) : jCt jy_X8_withNumber [.ref s, .int (nI c), .long v] h (fun r h' => r = some (.ref h.length) ∧ h' = h ++ [oS w (h.length + 1), aL (jmany w) (vp_updL (jcpL (fun _ => 0) f (jmany w)) c v)]) := by
  have hm := jmany_le hw
  refine jrun2 (js_X8_withNumber _) rfl rfl rfl (fun G hG hW hB => ?_)
  refine hG [] 300 _ _ _ _ _ _ ?_
  conv => whnf
  refine ⟨⟨_, hs⟩, jcall (c_X8_twin hs ha hw) ?_⟩
  rintro r h' ⟨rfl, rfl⟩
  conv => whnf
  refine ⟨_, jtwo_s h _ _, ?_⟩
  conv => whnf
  refine ⟨_, _, _, jtwo_a h _ _, ?_⟩
  conv => whnf
  refine jcall (c_X11_within _ _ _) ?_
  rintro r h' ⟨rfl, rfl⟩
  rw [jbi_t (by rw [nI_toInt (by omega), nI_toInt (by omega)]; omega)]
  conv => whnf
  refine ⟨fun c => absurd c nI_10, fun _ => ?_⟩
  conv => whnf
  refine ⟨_, jtwo_s h _ _, ?_⟩
  conv => whnf
  refine ⟨_, _, _, jtwo_a h _ _, rfl, hc, ?_⟩
  conv => whnf
  erw [jtwo_set h (oS w (h.length + 1)) (aL (jmany w) (jcpL (fun _ => 0) f (jmany w))) (aL (jmany w) (vp_updL (jcpL (fun _ => 0) f (jmany w)) c v))]
  exact ⟨rfl, rfl⟩
theorem c_X8_withFundamental {h : List jC} {s w a l : Nat} {f : Nat → Int64} {q : jLs} (hs : h[s]? = some (oS w a)) (ha : h[a]? = some (aL (jmany w) f)) (hl : h[l]? = some (oL q)) (hw : w ≤ 6) (c : Nat) (v : Int64) : jCt jy_X8_withFundamental [.ref s, .int (nI c), .long v, .ref l] h (fun r h' => r = some (.ref h.length) ∧ h' = jNw h l w (jfin c v (jcpL (fun _ => 0) f (jmany w), q) (jmany w))) := by
  have hm := jmany_le hw
  refine jrun2 (js_X8_withFundamental _) rfl rfl rfl (fun G hG hW hB => ?_)
  refine hG [] 300 _ _ _ _ _ _ ?_
  conv => whnf
  refine ⟨⟨_, hs⟩, jcall (c_X8_twin hs ha hw) ?_⟩
  rintro r h' ⟨rfl, rfl⟩
  rw [← jNw_0 hl]
  conv => whnf
  refine ⟨⟨_, jNw_s⟩, jcall (c_X8_comesToFiner (q := (jcpL (fun _ => 0) f (jmany w), q)) jNw_s jNw_a (jNw_l hl) c hm.2 v) ?_⟩
  rintro r h' ⟨rfl, rfl⟩
  rw [jNw_LA hl]
  conv => whnf
  exact ⟨rfl, rfl⟩
/-- g comes to f, number by number -/
def jpl (q : (Nat → Int64) × jLs) (g : Nat → Int64) : Nat → (Nat → Int64) × jLs
  | 0 => q
  | e + 1 => jcm (jpl q g e) e (g e)
theorem jpl_hi (q : (Nat → Int64) × jLs) (g : Nat → Int64) : ∀ e k, e ≤ k → (jpl q g e).1 k = q.1 k
  | 0, _, _ => rfl
  | e + 1, k, h => by
    rw [jpl]
    unfold jcm
    dsimp only
    unfold vp_updL
    rw [if_neg (by omega)]
    exact jpl_hi q g e k (by omega)
theorem jpl_jsm (f0 f g g2 k0 : Nat → Int64) (i : Int32) (hi : i = nI 0) : ∀ e, (∀ c, c < e → f0 c = f c) → (∀ c, c < e → g c = g2 c) → (jpl (f0, (false, i)) g e).2 = (jsm f g2 k0 e).2 ∧ ∀ c, c < e → (jpl (f0, (false, i)) g e).1 c = (jsm f g2 k0 e).1 c
  | 0, _, _ => ⟨by rw [hi]; rfl, fun c hc => absurd hc (Nat.not_lt_zero c)⟩
  | e + 1, h1, h2 => by
    obtain ⟨i1, i2⟩ := jpl_jsm f0 f g g2 k0 i hi e (fun c hc => h1 c (by omega)) (fun c hc => h2 c (by omega))
    have hh := jpl_hi (f0, (false, i)) g e e (Nat.le_refl _)
    dsimp only at hh
    rw [jpl, jsm]
    unfold jcm
    dsimp only
    rw [hh, i1, h1 e (by omega), h2 e (by omega)]
    refine ⟨rfl, fun c hc => ?_⟩
    unfold vp_updL
    by_cases hce : c = e
    · rw [if_pos hce, if_pos hce]
    · rw [if_neg hce, if_neg hce]
      exact i2 c (by omega)
theorem c_X8_plus {h : List jC} {s w a l s2 a2 : Nat} {f g : Nat → Int64} {q : jLs} (hs : h[s]? = some (oS w a)) (ha : h[a]? = some (aL (jmany w) f)) (hs2 : h[s2]? = some (oS w a2)) (ha2 : h[a2]? = some (aL (jmany w) g)) (hl : h[l]? = some (oL q)) (hw : w ≤ 6) : jCt jy_X8_plus [.ref s, .ref s2, .ref l] h (fun r h' => r = some (.ref h.length) ∧ h' = jNw h l w (jpl (jcpL (fun _ => 0) f (jmany w), q) g (jmany w))) := by
  have hm := jmany_le hw
  have n1 : l ≠ s2 := jne hl hs2 (fun z => by cases z)
  have n2 : l ≠ a2 := jne hl ha2 (fun z => by cases z)
  refine jrun2 (js_X8_plus _) rfl rfl rfl (fun G hG hW hB => ?_)
  have loop : ∀ k e, jmany w = e + k → G 8 [some (.ref s), some (.ref s2), some (.ref l), some (.ref h.length), some (.int (nI e))] [] (jNw h l w (jpl (jcpL (fun _ => 0) f (jmany w), q) g e)) 2 34 := by
    intro k
    induction k with
    | zero =>
      intro e he
      refine hG [8] 300 _ _ _ _ _ _ ?_
      conv => whnf
      refine ⟨_, jNw_o n1 hs2, ?_⟩
      conv => whnf
      refine ⟨_, _, _, jNw_o n2 ha2, ?_⟩
      conv => whnf
      refine ⟨fun qb => ?_, fun qb => ?_⟩ <;> rw [nI_leI (by omega) (by omega)] at qb
      · conv => whnf
        rw [he, Nat.add_zero]
        exact ⟨rfl, rfl⟩
      · omega
    | succ k ih =>
      intro e he
      have i1 := ih (e + 1) (by omega)
      rw [jpl] at i1
      refine hG [8] 300 _ _ _ _ _ _ ?_
      conv => whnf
      refine ⟨_, jNw_o n1 hs2, ?_⟩
      conv => whnf
      refine ⟨_, _, _, jNw_o n2 ha2, ?_⟩
      conv => whnf
      refine ⟨fun qb => ?_, fun qb => ?_⟩ <;> rw [nI_leI (by omega) (by omega)] at qb
      · omega
      conv => whnf
      refine ⟨_, jNw_o n1 hs2, ?_⟩
      conv => whnf
      refine ⟨_, _, _, jNw_o n2 ha2, rfl, (show e < jmany w by omega), ?_⟩
      conv => whnf
      refine ⟨⟨_, jNw_s⟩, jcall (c_X8_comes (q := jpl (jcpL (fun _ => 0) f (jmany w), q) g e) jNw_s jNw_a (jNw_l hl) (c := e) (by omega) hm.2 (g e)) ?_⟩
      rintro r h' ⟨rfl, rfl⟩
      rw [jNw_LA hl]
      conv => whnf
      rw [nI_add]
      exact i1
  refine hG [8] 300 _ _ _ _ _ _ ?_
  conv => whnf
  refine ⟨⟨_, hs⟩, jcall (c_X8_twin hs ha hw) ?_⟩
  rintro r h' ⟨rfl, rfl⟩
  rw [← jNw_0 hl]
  conv => whnf
  exact loop (jmany w) 0 (by omega)
theorem c_X8_notZero {h : List jC} {s w a : Nat} {f : Nat → Int64} (hs : h[s]? = some (oS w a)) (ha : h[a]? = some (aL (jmany w) f)) (hw : w ≤ 6) : jCt jy_X8_notZero [.ref s] h (fun r h' => r = some (.int (nI (jnz f (jmany w)))) ∧ h' = h) := by
  have hm := jmany_le hw
  refine jrun2 (js_X8_notZero _) rfl rfl rfl (fun G hG hW hB => ?_)
  have loop : ∀ k e, jmany w = e + k → G 4 [some (.ref s), some (.int (nI (jnz f e))), some (.int (nI e))] [] h 0 0 := by
    intro k
    induction k with
    | zero =>
      intro e he
      refine hG [4] 300 _ _ _ _ _ _ ?_
      conv => whnf
      refine ⟨_, hs, ?_⟩
      conv => whnf
      refine ⟨_, _, _, ha, ?_⟩
      conv => whnf
      refine ⟨fun qb => ?_, fun qb => ?_⟩ <;> rw [nI_leI (by omega) (by omega)] at qb
      · conv => whnf
        rw [he, Nat.add_zero]
        exact ⟨rfl, rfl⟩
      · omega
    | succ k ih =>
      intro e he
      have i1 := ih (e + 1) (by omega)
      rw [jnz] at i1
      refine hG [4] 300 _ _ _ _ _ _ ?_
      conv => whnf
      refine ⟨_, hs, ?_⟩
      conv => whnf
      refine ⟨_, _, _, ha, ?_⟩
      conv => whnf
      refine ⟨fun qb => ?_, fun qb => ?_⟩ <;> rw [nI_leI (by omega) (by omega)] at qb
      · omega
      conv => whnf
      refine ⟨_, hs, ?_⟩
      conv => whnf
      refine ⟨_, _, _, ha, rfl, (show e < jmany w by omega), ?_⟩
      conv => whnf
      refine ⟨fun c => ?_, fun c => ?_⟩ <;> rw [jlg0] at c
      · rw [if_neg c] at i1
        conv => whnf
        rw [nI_add, nI_add]
        exact i1
      · rw [if_pos c] at i1
        conv => whnf
        rw [nI_add, nI_add]
        exact i1
  refine hG [4] 300 _ _ _ _ _ _ ?_
  conv => whnf
  exact loop (jmany w) 0 (by omega)
theorem c_X8_isLike {h : List jC} {s w a s2 w2 a2 : Nat} {f g : Nat → Int64} (hs : h[s]? = some (oS w a)) (ha : h[a]? = some (aL (jmany w) f)) (hw : w ≤ 6) (hs2 : h[s2]? = some (oS w2 a2)) (ha2 : h[a2]? = some (aL (jmany w2) g)) (hw2 : w2 ≤ 6) : jCt jy_X8_isLike [.ref s, .ref s2] h (fun r h' => r = some (.int (jbi (w = w2 ∧ ∀ c, c < jmany w → f c = g c))) ∧ h' = h) := by
  have hm := jmany_le hw
  have hm2 := jmany_le hw2
  refine jrun2 (js_X8_isLike _) rfl rfl rfl (fun G hG hW hB => ?_)
  have no : ¬ w = w2 → (nI 0 = nI 0 ∨ nI 0 = nI 1) ∧ some (Value.int (nI 0)) = some (.int (jbi (w = w2 ∧ ∀ c, c < jmany w → f c = g c))) ∧ h = h := fun hn => ⟨Or.inl rfl, by rw [jbi_f (fun z => hn z.1)], rfl⟩
  have loop : w = w2 → ∀ k e, jmany w = e + k → (∀ c, c < e → f c = g c) → G 28 [some (.ref s), some (.ref s2), some (.int (nI e))] [] h 0 0 := by
    intro hww k
    induction k with
    | zero =>
      intro e he hc
      refine hG [28] 300 _ _ _ _ _ _ ?_
      conv => whnf
      refine ⟨_, hs, ?_⟩
      conv => whnf
      refine ⟨_, _, _, ha, ?_⟩
      conv => whnf
      refine ⟨fun qb => ?_, fun qb => ?_⟩ <;> rw [nI_leI (by omega) (by omega)] at qb
      · conv => whnf
        refine ⟨Or.inr rfl, ?_, rfl⟩
        rw [jbi_t ⟨hww, fun c h2 => hc c (by omega)⟩]
      · omega
    | succ k ih =>
      intro e he hc
      refine hG [28] 300 _ _ _ _ _ _ ?_
      conv => whnf
      refine ⟨_, hs, ?_⟩
      conv => whnf
      refine ⟨_, _, _, ha, ?_⟩
      conv => whnf
      refine ⟨fun qb => ?_, fun qb => ?_⟩ <;> rw [nI_leI (by omega) (by omega)] at qb
      · omega
      conv => whnf
      refine ⟨_, hs, ?_⟩
      conv => whnf
      refine ⟨_, _, _, ha, rfl, (show e < jmany w by omega), ?_⟩
      conv => whnf
      refine ⟨_, hs2, ?_⟩
      conv => whnf
      refine ⟨_, _, _, ha2, rfl, (show e < jmany w2 by rw [← hww]; omega), ?_⟩
      conv => whnf
      refine ⟨fun c => ?_, fun c => ?_⟩ <;> rw [jlg0] at c
      · conv => whnf
        rw [nI_add]
        refine ih (e + 1) (by omega) (fun c2 h2 => ?_)
        by_cases h3 : c2 = e
        · rw [h3]; exact c
        · exact hc c2 (by omega)
      · conv => whnf
        refine ⟨Or.inl rfl, ?_, rfl⟩
        rw [jbi_f (fun z => c (z.2 e (by omega)))]
  refine hG [28] 300 _ _ _ _ _ _ ?_
  conv => whnf
  refine ⟨_, hs, ?_⟩
  conv => whnf
  refine ⟨_, hs2, ?_⟩
  conv => whnf
  refine ⟨fun c => ?_, fun c => ?_⟩ <;> rw [nI_eq (by omega) (by omega)] at c
  · conv => whnf
    exact no c
  · conv => whnf
    refine ⟨_, hs, ?_⟩
    conv => whnf
    refine ⟨_, _, _, ha, ?_⟩
    conv => whnf
    refine ⟨_, hs2, ?_⟩
    conv => whnf
    refine ⟨_, _, _, ha2, ?_⟩
    conv => whnf
    refine ⟨fun _ => ?_, fun c2 => absurd (by rw [c]) c2⟩
    conv => whnf
    exact loop c (jmany w) 0 (by omega) (fun c hc => absurd hc (Nat.not_lt_zero c))
