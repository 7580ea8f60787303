/-! sums and longs of the class: what a walk leaves behind, in plain functions -/
abbrev jLs : Type := Bool × Int32
abbrev oL (q : jLs) : jC := .inr (2, [.int (jbi (q.1 = true)), .int q.2])
abbrev oS (w a : Nat) : jC := .inr (7, [.int (nI w), .ref a])
abbrev aL (n : Nat) (f : Nat → Int64) : jC := .inl (.long, n, .inr (.inl f))
abbrev aI (n : Nat) (f : Nat → Int32) : jC := .inl (.int, n, .inl f)
def jbad1 (q : jLs) (p : Bool) (i : Int32) : jLs := if q.1 = true then q else if p = true then (true, i) else q
def jov (a b : Int64) : Bool := decide ((a ^^^ (a + b)) &&& (b ^^^ (a + b)) < 0)
def jotm (a b : Int64) : Bool := if a = -1 then decide (b = -9223372036854775808) else decide (¬ a = 0 ∧ ¬ a * b / a = b)
theorem jset_same {h : List jC} {k : Nat} {c : jC} (hk : h[k]? = some c) : h.set k c = h := by
  apply List.ext_getElem?
  intro j
  by_cases e : k = j
  · subst e
    rw [List.getElem?_set_self (List.getElem?_eq_some_iff.mp hk).1, hk]
  · rw [List.getElem?_set_ne e]
theorem jget_set {h : List jC} {k : Nat} {c0 c : jC} (hk : h[k]? = some c0) : (h.set k c)[k]? = some c := List.getElem?_set_self (List.getElem?_eq_some_iff.mp hk).1
theorem jget_ne {h : List jC} {k j : Nat} {c x : jC} (hn : k ≠ j) (hj : h[j]? = some x) : (h.set k c)[j]? = some x := by rw [List.getElem?_set_ne hn]; exact hj
theorem jne {h : List jC} {a b : Nat} {x y : jC} (ha : h[a]? = some x) (hb : h[b]? = some y) (hxy : x ≠ y) : a ≠ b := by
  intro e; subst e; rw [ha] at hb; exact hxy (Option.some.inj hb)
theorem jlg0 (x y : Int64) : lg_cmp x y = nI 0 ↔ x = y := by rw [nI_0]; exact lg_cmp_eq x y
theorem jlgge (x y : Int64) : nI 0 ≤ lg_cmp x y ↔ y ≤ x := by rw [nI_0]; exact lg_cmp_ge x y
theorem c_X3_tooGreat {h : List jC} {l : Nat} {q : jLs} (hl : h[l]? = some (oL q)) (i : Int32) : jCt jy_X3_tooGreat [.ref l, .int i] h (fun r h' => r = none ∧ h' = h.set l (oL (jbad1 q true i))) := by
  refine jrun2 (js_X3_tooGreat _) rfl rfl rfl (fun G hG hW hB => ?_)
  refine hG [] 50 _ _ _ _ _ _ ?_
  conv => whnf
  refine ⟨_, hl, ?_⟩
  conv => whnf
  refine ⟨fun c => ?_, fun c => ?_⟩ <;> rw [jbi_0] at c
  · conv => whnf
    have c := Decidable.not_not.mp c
    refine ⟨rfl, ?_⟩
    rw [jbad1, if_pos c, jset_same hl]
  · conv => whnf
    refine ⟨Or.inr rfl, _, hl, ?_⟩
    conv => whnf
    refine ⟨trivial, _, jget_set hl, ?_⟩
    conv => whnf
    refine ⟨rfl, ?_⟩
    rw [List.set_set, jbad1, if_neg c, if_pos rfl]
    rfl
theorem c_X3_plus {h : List jC} {l : Nat} {q : jLs} (hl : h[l]? = some (oL q)) (a b : Int64) (i : Int32) : jCt jy_X3_plus [.ref l, .long a, .long b, .int i] h (fun r h' => r = some (.long (a + b)) ∧ h' = h.set l (oL (jbad1 q (jov a b) i))) := by
  refine jrun2 (js_X3_plus _) rfl rfl rfl (fun G hG hW hB => ?_)
  refine hG [] 50 _ _ _ _ _ _ ?_
  conv => whnf
  refine ⟨fun c => ?_, fun c => ?_⟩ <;> rw [jlgge] at c
  · conv => whnf
    refine ⟨rfl, ?_⟩
    have : jov a b = false := by rw [jov, decide_eq_false_iff_not]; exact Int64.not_lt.mpr c
    rw [this, jbad1]
    simp only [Bool.false_eq_true, if_false, ite_self]
    exact (jset_same hl).symm
  · conv => whnf
    refine ⟨⟨_, hl⟩, jcall (c_X3_tooGreat hl i) ?_⟩
    rintro r h' ⟨rfl, rfl⟩
    conv => whnf
    refine ⟨rfl, ?_⟩
    have : jov a b = true := by rw [jov, decide_eq_true_iff]; exact Int64.not_le.mp c
    rw [this]
theorem c_X3_otherSign {h : List jC} {l : Nat} {q : jLs} (hl : h[l]? = some (oL q)) (a : Int64) (i : Int32) : jCt jy_X3_otherSign [.ref l, .long a, .int i] h (fun r h' => r = some (.long (-a)) ∧ h' = h.set l (oL (jbad1 q (decide (a = -9223372036854775808)) i))) := by
  refine jrun2 (js_X3_otherSign _) rfl rfl rfl (fun G hG hW hB => ?_)
  refine hG [] 50 _ _ _ _ _ _ ?_
  conv => whnf
  refine ⟨fun c => ?_, fun c => ?_⟩ <;> rw [jlg0] at c
  · conv => whnf
    refine ⟨rfl, ?_⟩
    rw [decide_eq_false c, jbad1]
    simp only [Bool.false_eq_true, if_false, ite_self]
    exact (jset_same hl).symm
  · conv => whnf
    refine ⟨⟨_, hl⟩, jcall (c_X3_tooGreat hl i) ?_⟩
    rintro r h' ⟨rfl, rfl⟩
    conv => whnf
    refine ⟨rfl, ?_⟩
    rw [decide_eq_true c]
theorem jneg1 (b : Int64) : (-1) * b = -b := by
  rw [show (-1 : Int64) = -(1) from rfl, Int64.neg_mul, Int64.one_mul]
theorem c_X3_times {h : List jC} {l : Nat} {q : jLs} (hl : h[l]? = some (oL q)) (a b : Int64) (i : Int32) : jCt jy_X3_times [.ref l, .long a, .long b, .int i] h (fun r h' => r = some (.long (a * b)) ∧ h' = h.set l (oL (jbad1 q (jotm a b) i))) := by
  refine jrun2 (js_X3_times _) rfl rfl rfl (fun G hG hW hB => ?_)
  refine hG [] 50 _ _ _ _ _ _ ?_
  conv => whnf
  refine ⟨fun c => ?_, fun c => ?_⟩ <;> rw [jlg0] at c
  · conv => whnf
    have hno : jotm a b = false → h = h.set l (oL (jbad1 q (jotm a b) i)) := by
      intro e
      rw [e, jbad1]
      simp only [Bool.false_eq_true, if_false, ite_self]
      exact (jset_same hl).symm
    refine ⟨fun c2 => ?_, fun c2 => ?_⟩ <;> rw [jlg0] at c2
    · conv => whnf
      refine ⟨rfl, hno ?_⟩
      rw [jotm, if_neg c, decide_eq_false_iff_not]
      exact fun z => z.1 c2
    · conv => whnf
      refine ⟨c2, ?_⟩
      conv => whnf
      refine ⟨fun c3 => ?_, fun c3 => ?_⟩ <;> rw [jlg0] at c3
      · conv => whnf
        refine ⟨rfl, hno ?_⟩
        rw [jotm, if_neg c, decide_eq_false_iff_not]
        exact fun z => z.2 c3
      · conv => whnf
        refine ⟨⟨_, hl⟩, jcall (c_X3_tooGreat hl i) ?_⟩
        rintro r h' ⟨rfl, rfl⟩
        conv => whnf
        refine ⟨rfl, ?_⟩
        rw [jotm, if_neg c, decide_eq_true ⟨c2, c3⟩]
  · conv => whnf
    refine ⟨⟨_, hl⟩, jcall (c_X3_otherSign hl b i) ?_⟩
    rintro r h' ⟨rfl, rfl⟩
    conv => whnf
    refine ⟨?_, ?_⟩
    · rw [c, jneg1]
    · rw [jotm, if_pos c]
theorem c_X3_init {h : List jC} {l : Nat} (hl : h[l]? = some (.inr (2, [.int (nI 0), .int (nI 0)]))) : jCt jy_X3_init [.ref l] h (fun r h' => r = none ∧ h' = h) := by
  refine jrun2 (js_X3_init _) rfl rfl rfl (fun G hG hW hB => ?_)
  refine hG [] 50 _ _ _ _ _ _ ?_
  conv => whnf
  refine ⟨Or.inl rfl, _, hl, ?_⟩
  conv => whnf
  refine ⟨trivial, _, jget_set hl, ?_⟩
  conv => whnf
  refine ⟨rfl, ?_⟩
  rw [List.set_set]
  exact jset_same hl
theorem c_X2_init (h : List jC) (l : Nat) : jCt jy_X2_init [.ref l] h (fun r h' => r = none ∧ h' = h) := by
  refine jrun2 (js_X2_init _) rfl rfl rfl (fun G hG hW hB => ?_)
  refine hG [] 50 _ _ _ _ _ _ ?_
  conv => whnf
  exact ⟨rfl, rfl⟩
theorem c_J9_max (x y : Int32) (h : List jC) : jCt jy_J9_max_7cf53 [.int x, .int y] h (fun r h' => r = some (.int (if x < y then y else x)) ∧ h' = h) := by
  refine jrun2 (js_J9_max_7cf53 _) (by decide +kernel) rfl rfl (fun G hG hW hB => ?_)
  refine hG [] 50 _ _ _ _ _ _ ?_
  repeat' ((conv => whnf); with_reducible apply jAI; all_goals intro c)
  all_goals refine ⟨?_, rfl⟩
  · rw [if_pos c]
  · rw [if_neg c]
theorem c_J9_min (x y : Int32) (h : List jC) : jCt jy_J9_min_7cf53 [.int x, .int y] h (fun r h' => r = some (.int (if y < x then y else x)) ∧ h' = h) := by
  refine jrun2 (js_J9_min_7cf53 _) (by decide +kernel) rfl rfl (fun G hG hW hB => ?_)
  refine hG [] 50 _ _ _ _ _ _ ?_
  repeat' ((conv => whnf); with_reducible apply jAI; all_goals intro c)
  all_goals refine ⟨?_, rfl⟩
  · rw [if_pos c]
  · rw [if_neg c]
theorem jmany_le {w : Nat} (hw : w ≤ 6) : 0 < jmany w ∧ jmany w ≤ 32 := by
  unfold jmany
  have : ∀ w, w ≤ 6 → 0 < (if w = 0 then 1 else 2 ^ (w - 1)) ∧ (if w = 0 then 1 else 2 ^ (w - 1)) ≤ 32 := by decide
  exact this w hw
theorem jget_app {h : List jC} {k : Nat} {c x : jC} (hk : h[k]? = some x) : (h ++ [c])[k]? = some x := by rw [List.getElem?_append_left (List.getElem?_eq_some_iff.mp hk).1]; exact hk
theorem jget_new (h : List jC) (c : jC) : (h ++ [c])[h.length]? = some c := by rw [List.getElem?_append_right (Nat.le_refl _), Nat.sub_self]; rfl
theorem jset_app {h : List jC} {k : Nat} {c x y : jC} (hk : h[k]? = some x) : (h ++ [c]).set k y = h.set k y ++ [c] := List.set_append_left _ _ (List.getElem?_eq_some_iff.mp hk).1
/-- a new sum's row comes behind the cells -/
theorem c_X8_init {h : List jC} {s w : Nat} (hw : w ≤ 6) (hs : h[s]? = some (.inr (7, [.int (nI 0), .null]))) : jCt jy_X8_init [.ref s, .int (nI w)] h (fun r h' => r = none ∧ h' = h.set s (oS w h.length) ++ [aL (jmany w) (fun _ => 0)]) := by
  refine jrun2 (js_X8_init _) rfl rfl rfl (fun G hG hW hB => ?_)
  refine hG [28] 50 _ _ _ _ _ _ ?_
  conv => whnf
  refine jcall (c_X2_init h s) ?_
  rintro r h' ⟨rfl, rfl⟩
  conv => whnf
  refine jcall (c_J9_max _ _ _) ?_
  rintro r h' ⟨rfl, rfl⟩
  rw [if_neg (show ¬ nI w < nI 0 from nI_nlt (by omega) (by omega))]
  conv => whnf
  refine jcall (c_J9_min _ _ _) ?_
  rintro r h' ⟨rfl, rfl⟩
  rw [if_neg (show ¬ nI 6 < nI w from nI_nlt (by omega) (by omega))]
  conv => whnf
  refine ⟨trivial, _, hs, ?_⟩
  conv => whnf
  refine ⟨_, jget_set hs, ?_⟩
  conv => whnf
  refine jcall (c_X0_howMany w hw _) ?_
  rintro r h' ⟨rfl, rfl⟩
  have hm := jmany_le hw
  conv => whnf
  refine ⟨jmany w, rfl, by omega, (show 0 + jmany w ≤ 32 from by omega), ?_⟩
  conv => whnf
  refine hB 1 32 (Nat.le_refl 1) (show 0 + jmany w ≤ 32 from by omega) ?_
  refine hG [] 50 _ _ _ _ _ _ ?_
  conv => whnf
  refine ⟨trivial, _, jget_app (jget_set hs), ?_⟩
  conv => whnf
  refine ⟨rfl, ?_⟩
  rw [jset_app (jget_set hs), List.set_set, List.length_set]
  rfl
theorem c_X8_at {h : List jC} {s w a n : Nat} {f : Nat → Int64} (hs : h[s]? = some (oS w a)) (ha : h[a]? = some (aL n f)) {c : Nat} (hc : c < n) (hn : n ≤ 32) : jCt jy_X8_at [.ref s, .int (nI c)] h (fun r h' => r = some (.long (f c)) ∧ h' = h) := by
  refine jrun2 (js_X8_at _) rfl rfl rfl (fun G hG hW hB => ?_)
  refine hG [] 50 _ _ _ _ _ _ ?_
  conv => whnf
  refine ⟨_, hs, ?_⟩
  conv => whnf
  refine ⟨_, _, _, ha, ?_⟩
  conv => whnf
  refine jcall (c_X11_within _ _ h) ?_
  rintro r h' ⟨rfl, rfl⟩
  rw [jbi_t (by rw [nI_toInt (by omega), nI_toInt (by omega)]; omega)]
  conv => whnf
  refine ⟨fun c => absurd c nI_10, fun _ => ?_⟩
  conv => whnf
  refine ⟨_, hs, ?_⟩
  conv => whnf
  refine ⟨_, _, _, ha, rfl, hc, ?_⟩
  conv => whnf
  exact ⟨rfl, rfl⟩
theorem c_X0_isFiner (x y : Nat) (h : List jC) : jCt jy_X0_isFiner [.int (nI x), .int (nI y)] h (fun r h' => r = some (.int (jbi (nI (x &&& y) = nI y))) ∧ h' = h) := by
  refine jrun2 (js_X0_isFiner _) rfl rfl rfl (fun G hG hW hB => ?_)
  refine hG [] 50 _ _ _ _ _ _ ?_
  conv => whnf
  rw [jI_and]
  refine ⟨fun c => ?_, fun c => ?_⟩
  · conv => whnf
    exact ⟨Or.inl rfl, by rw [jbi_f c], rfl⟩
  · conv => whnf
    exact ⟨Or.inr rfl, by rw [jbi_t c], rfl⟩
/-- v comes to the number c -/
def jcm (q : (Nat → Int64) × jLs) (c : Nat) (v : Int64) : (Nat → Int64) × jLs := (vp_updL q.1 c (q.1 c + v), jbad1 q.2 (jov (q.1 c) v) (nI c))
/-- the cells with a sum's row and its longs set -/
def jLA (h : List jC) (l a n : Nat) (q : (Nat → Int64) × jLs) : List jC := (h.set l (oL q.2)).set a (aL n q.1)
theorem jLA_same {h : List jC} {l a n : Nat} {q : (Nat → Int64) × jLs} (hl : h[l]? = some (oL q.2)) (ha : h[a]? = some (aL n q.1)) : jLA h l a n q = h := by
  unfold jLA
  rw [jset_same hl, jset_same ha]
theorem jla {h : List jC} {l a n : Nat} {q : jLs} {f : Nat → Int64} (hl : h[l]? = some (oL q)) (ha : h[a]? = some (aL n f)) : l ≠ a := jne hl ha (fun z => by cases z)
theorem jLA_two {h : List jC} {l a n : Nat} {q q2 : (Nat → Int64) × jLs} (hne : l ≠ a) : jLA (jLA h l a n q) l a n q2 = jLA h l a n q2 := by
  unfold jLA
  have e : ((h.set l (oL q.2)).set a (aL n q.1)).set l (oL q2.2) = (h.set l (oL q2.2)).set a (aL n q.1) := by rw [List.set_comm _ _ (Ne.symm hne), List.set_set]
  rw [e, List.set_set]
theorem jLA_l {h : List jC} {l a n : Nat} {q q0 : (Nat → Int64) × jLs} (hl : h[l]? = some (oL q0.2)) (ha : h[a]? = some (aL n q0.1)) : (jLA h l a n q)[l]? = some (oL q.2) ∧ (jLA h l a n q)[a]? = some (aL n q.1) ∧ ∀ {j : Nat} {x : jC}, l ≠ j → a ≠ j → h[j]? = some x → (jLA h l a n q)[j]? = some x := by
  have hne := jla hl ha
  refine ⟨?_, ?_, fun h1 h2 hj => ?_⟩
  · unfold jLA; exact jget_ne (Ne.symm hne) (jget_set hl)
  · unfold jLA; exact jget_set (jget_ne hne ha)
  · unfold jLA; exact jget_ne h2 (jget_ne h1 hj)
theorem c_X8_comes {h : List jC} {s w a n l : Nat} {q : (Nat → Int64) × jLs} (hs : h[s]? = some (oS w a)) (ha : h[a]? = some (aL n q.1)) (hl : h[l]? = some (oL q.2)) {c : Nat} (hc : c < n) (hn : n ≤ 32) (v : Int64) : jCt jy_X8_comes [.ref s, .int (nI c), .long v, .ref l] h (fun r h' => r = none ∧ h' = jLA h l a n (jcm q c v)) := by
  have hls : l ≠ s := jne hl hs (fun z => by cases z)
  refine jrun2 (js_X8_comes _) rfl rfl rfl (fun G hG hW hB => ?_)
  refine hG [] 50 _ _ _ _ _ _ ?_
  conv => whnf
  refine ⟨_, hs, ?_⟩
  conv => whnf
  refine ⟨_, _, _, ha, ?_⟩
  conv => whnf
  refine jcall (c_X11_within _ _ h) ?_
  rintro r h' ⟨rfl, rfl⟩
  rw [jbi_t (by rw [nI_toInt (by omega), nI_toInt (by omega)]; omega)]
  conv => whnf
  refine ⟨fun c => absurd c nI_10, fun _ => ?_⟩
  conv => whnf
  refine ⟨_, hs, ?_⟩
  conv => whnf
  refine ⟨_, hs, ?_⟩
  conv => whnf
  refine ⟨_, _, _, ha, rfl, hc, ?_⟩
  conv => whnf
  refine ⟨⟨_, hl⟩, jcall (c_X3_plus hl _ _ _) ?_⟩
  rintro r h' ⟨rfl, rfl⟩
  conv => whnf
  refine ⟨_, _, _, jget_ne (jla hl ha) ha, rfl, hc, ?_⟩
  conv => whnf
  exact ⟨rfl, rfl⟩
/-- v comes to all numbers below e that are finer than c -/
def jfin (c : Nat) (v : Int64) (q : (Nat → Int64) × jLs) : Nat → (Nat → Int64) × jLs
  | 0 => q
  | e + 1 => if nI (e &&& c) = nI c then jcm (jfin c v q e) e v else jfin c v q e
theorem c_X8_comesToFiner {h : List jC} {s w a n l : Nat} {q : (Nat → Int64) × jLs} (hs : h[s]? = some (oS w a)) (ha : h[a]? = some (aL n q.1)) (hl : h[l]? = some (oL q.2)) (c : Nat) (hn : n ≤ 32) (v : Int64) : jCt jy_X8_comesToFiner [.ref s, .int (nI c), .long v, .ref l] h (fun r h' => r = none ∧ h' = jLA h l a n (jfin c v q n)) := by
  have hls : l ≠ s := jne hl hs (fun z => by cases z)
  have has : a ≠ s := jne ha hs (fun z => by cases z)
  refine jrun2 (js_X8_comesToFiner _) rfl rfl rfl (fun G hG hW hB => ?_)
  have loop : ∀ k e, n = e + k → G 3 [some (.ref s), some (.int (nI c)), some (.long v), none, some (.ref l), some (.int (nI e))] [] (jLA h l a n (jfin c v q e)) 0 0 := by
    intro k
    induction k with
    | zero =>
      intro e he
      obtain ⟨g1, g2, g3⟩ := jLA_l (q := jfin c v q e) hl ha
      refine hG [3] 50 _ _ _ _ _ _ ?_
      conv => whnf
      refine ⟨_, g3 hls has hs, ?_⟩
      conv => whnf
      refine ⟨_, _, _, g2, ?_⟩
      conv => whnf
      refine ⟨fun q => ?_, fun q => ?_⟩ <;> rw [nI_leI (by omega) (by omega)] at q
      · conv => whnf
        refine ⟨rfl, ?_⟩
        rw [he, Nat.add_zero]
      · omega
    | succ k ih =>
      intro e he
      obtain ⟨g1, g2, g3⟩ := jLA_l (q := jfin c v q e) hl ha
      refine hG [3] 50 _ _ _ _ _ _ ?_
      conv => whnf
      refine ⟨_, g3 hls has hs, ?_⟩
      conv => whnf
      refine ⟨_, _, _, g2, ?_⟩
      conv => whnf
      refine ⟨fun q => ?_, fun q => ?_⟩ <;> rw [nI_leI (by omega) (by omega)] at q
      · omega
      conv => whnf
      refine jcall (c_X0_isFiner e c _) ?_
      rintro r h' ⟨rfl, rfl⟩
      have i1 := ih (e + 1) (by omega)
      rw [jfin] at i1
      conv => whnf
      refine ⟨fun d => ?_, fun d => ?_⟩ <;> rw [jbi_0] at d
      · conv => whnf
        rw [nI_add]
        rw [if_neg d] at i1
        exact i1
      · conv => whnf
        refine ⟨⟨_, g3 hls has hs⟩, jcall (c_X8_comes (g3 hls has hs) g2 g1 (c := e) (by omega) hn v) ?_⟩
        rintro r h' ⟨rfl, rfl⟩
        conv => whnf
        rw [nI_add, jLA_two (jla hl ha)]
        rw [if_pos (Decidable.not_not.mp d)] at i1
        exact i1
  have l0 := loop n 0 (by omega)
  rw [show jfin c v q 0 = q from rfl, jLA_same hl ha] at l0
  refine hG [3] 50 _ _ _ _ _ _ ?_
  conv => whnf
  exact l0
