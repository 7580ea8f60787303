/-! the class's reader: what it sees, its figures, its numbers -/
abbrev oRd (n l a T : Nat) : jC := .inr (4, [.ref 10, .int (nI n), .ref l, .int (nI a), .int (nI T)])
/-- the tape as the reader has it -/
def rTp (t : zTap) (h : List jC) : Prop := t.1 ≤ 80 ∧ (∀ j, t.2 j < 128) ∧ ∃ f, h[10]? = some (aI 80 f) ∧ ∀ j, j < t.1 → f j = nI (t.2 j)
theorem rTp.set {t : zTap} {h : List jC} (H : rTp t h) {k : Nat} (hk : k ≠ 10) (x : jC) : rTp t (h.set k x) := by
  obtain ⟨h1, h2, f, h3, h4⟩ := H
  exact ⟨h1, h2, f, jget_ne hk h3, h4⟩
theorem rTp.app {t : zTap} {h : List jC} (H : rTp t h) (ap : List jC) : rTp t (h ++ ap) := by
  obtain ⟨h1, h2, f, h3, h4⟩ := H
  exact ⟨h1, h2, f, jget_apl h3, h4⟩
theorem oRd_10 {h : List jC} {ρ n l a T : Nat} {t : zTap} (hR : h[ρ]? = some (oRd n l a T)) (hP : rTp t h) : ρ ≠ 10 := by
  obtain ⟨-, -, f, h3, -⟩ := hP
  exact jne hR h3 (fun z => by cases z)
theorem jhere_at {t : zTap} {a : Nat} (h : a < t.1) : jhere t a = nI (t.2 a) := if_pos h
theorem jhere_off {t : zTap} {a : Nat} (h : ¬ a < t.1) : jhere t a = -1 := if_neg h
theorem nIm1 {x : Nat} (hx : x < 1000) : ¬ (-1 : Int32) = nI x := by
  intro e
  rw [jeq, jm1, nI_toInt (by omega)] at e
  omega
theorem c_X5_sees {h : List jC} {ρ l a T : Nat} {t : zTap} (hR : h[ρ]? = some (oRd t.1 l a T)) (hP : rTp t h) (ha : a < 1000) (x : Nat) (hx : x < 1000) : jCt jy_X5_sees [.ref ρ, .int (nI x)] h (fun r h' => r = some (.int (jbi (jhere t a = nI x))) ∧ h' = h) := by
  obtain ⟨h1, h2, f, h3, h4⟩ := hP
  refine jrun2 (js_X5_sees _) rfl rfl rfl (fun G hG hW hB => ?_)
  refine hG [] 300 _ _ _ _ _ _ ?_
  conv => whnf
  refine ⟨_, hR, ?_⟩
  conv => whnf
  refine ⟨_, hR, ?_⟩
  conv => whnf
  refine jcall (c_wi (nI a) t.1 (by omega) h) ?_
  rintro r' h' ⟨rfl, he⟩
  obtain rfl := he.symm
  clear he
  conv => whnf
  refine ⟨fun c => ?_, fun c => ?_⟩ <;> rw [jbi_0, nI_toInt (show a < 2 ^ 31 by omega)] at c
  · have c2 : ¬ a < t.1 := by omega
    conv => whnf
    refine ⟨Or.inl rfl, ?_, rfl⟩
    rw [jhere_off c2, jbi_f (nIm1 hx)]
  have c2 : a < t.1 := by omega
  conv => whnf
  refine ⟨_, hR, ?_⟩
  conv => whnf
  refine ⟨_, hR, ?_⟩
  conv => whnf
  refine ⟨_, _, _, h3, rfl, (show a < 80 by omega), ?_⟩
  conv => whnf
  rw [h4 a c2, ← jhere_at c2]
  refine ⟨fun d => ?_, fun d => ?_⟩
  · conv => whnf
    exact ⟨Or.inl rfl, by rw [jbi_f d], rfl⟩
  · conv => whnf
    exact ⟨Or.inr rfl, by rw [jbi_t d], rfl⟩
/-- the figure at a place, or -1 -/
def jfgv (t : zTap) (a : Nat) : Int32 := if 48 ≤ (jhere t a).toInt ∧ (jhere t a).toInt ≤ 57 then jhere t a - nI 48 else -1
theorem jhere_toInt {t : zTap} {a : Nat} (ht : ∀ j, t.2 j < 128) : (jhere t a).toInt = (if a < t.1 then (t.2 a : Int) else -1) := by
  unfold jhere
  split
  · exact nI_toInt (by have := ht a; omega)
  · exact jm1
theorem c_X5_figure {h : List jC} {ρ l a T : Nat} {t : zTap} (hR : h[ρ]? = some (oRd t.1 l a T)) (hP : rTp t h) (ha : a < 1000) : jCt jy_X5_figure [.ref ρ] h (fun r h' => r = some (.int (jfgv t a)) ∧ h' = h) := by
  obtain ⟨h1, h2, f, h3, h4⟩ := hP
  have hti := jhere_toInt (a := a) h2
  have h2a := h2 a
  refine jrun2 (js_X5_figure _) rfl rfl rfl (fun G hG hW hB => ?_)
  refine hG [] 300 _ _ _ _ _ _ ?_
  conv => whnf
  refine ⟨_, hR, ?_⟩
  conv => whnf
  refine ⟨_, hR, ?_⟩
  conv => whnf
  refine jcall (c_wi (nI a) t.1 (by omega) h) ?_
  rintro r' h' ⟨rfl, he⟩
  obtain rfl := he.symm
  clear he
  conv => whnf
  refine ⟨fun c => ?_, fun c => ?_⟩ <;> rw [jbi_0, nI_toInt (show a < 2 ^ 31 by omega)] at c
  · have c2 : ¬ a < t.1 := by omega
    rw [if_neg c2] at hti
    conv => whnf
    refine ⟨?_, rfl⟩
    rw [jfgv, if_neg (by omega)]
  have c2 : a < t.1 := by omega
  rw [if_pos c2] at hti
  conv => whnf
  refine ⟨_, hR, ?_⟩
  conv => whnf
  refine ⟨_, hR, ?_⟩
  conv => whnf
  refine ⟨_, _, _, h3, rfl, (show a < 80 by omega), ?_⟩
  conv => whnf
  rw [h4 a c2]
  refine ⟨fun qb => ?_, fun qb => ?_⟩ <;> rw [nI_ltI (by omega) (by omega)] at qb
  · conv => whnf
    refine ⟨?_, rfl⟩
    rw [jfgv, if_neg (by omega)]
  conv => whnf
  refine ⟨_, hR, ?_⟩
  conv => whnf
  refine ⟨_, hR, ?_⟩
  conv => whnf
  refine ⟨_, _, _, h3, rfl, (show a < 80 by omega), ?_⟩
  conv => whnf
  rw [h4 a c2]
  refine ⟨fun qb => ?_, fun qb => ?_⟩ <;> rw [nI_leI (by omega) (by omega)] at qb
  · conv => whnf
    refine ⟨_, hR, ?_⟩
    conv => whnf
    refine ⟨_, hR, ?_⟩
    conv => whnf
    refine ⟨_, _, _, h3, rfl, (show a < 80 by omega), ?_⟩
    conv => whnf
    rw [h4 a c2]
    refine ⟨?_, rfl⟩
    rw [jfgv, if_pos (by omega), jhere_at c2]
  · conv => whnf
    refine ⟨?_, rfl⟩
    rw [jfgv, if_neg (by omega)]
theorem jfgv_neg {t : zTap} {a : Nat} (ht : ∀ j, t.2 j < 128) : jfgv t a < nI 0 ↔ ¬ (48 ≤ (jhere t a).toInt ∧ (jhere t a).toInt ≤ 57) := by
  have hti := jhere_toInt (a := a) ht
  have h2a := ht a
  unfold jfgv
  split
  · rename_i c
    refine ⟨fun w => ?_, fun w => absurd c w⟩
    by_cases d : a < t.1
    · rw [if_pos d] at hti
      rw [jhere_at d, pk_sub (by omega)] at w
      exact absurd w (nI_nlt (by omega) (by omega))
    · rw [if_neg d] at hti
      omega
  · rename_i c
    exact ⟨fun _ => c, fun _ => by decide⟩
theorem jfgv_val {t : zTap} {a : Nat} (ht : ∀ j, t.2 j < 128) (c : 48 ≤ (jhere t a).toInt ∧ (jhere t a).toInt ≤ 57) : jfgv t a = nI (tn (jhere t a) - 48) ∧ 48 ≤ tn (jhere t a) ∧ tn (jhere t a) ≤ 57 := by
  have hh := tn_eq (show 0 ≤ (jhere t a).toInt by omega)
  have e1 : 48 ≤ tn (jhere t a) := by unfold tn; omega
  have e2 : tn (jhere t a) ≤ 57 := by unfold tn; omega
  refine ⟨?_, e1, e2⟩
  rw [jfgv, if_pos c]
  rw [show jhere t a - nI 48 = nI (tn (jhere t a)) - nI 48 by rw [← hh], pk_sub e1]
/-- a term's leading figures -/
theorem c_X5_readTimes {h : List jC} {ρ l a T : Nat} {t : zTap} (hR : h[ρ]? = some (oRd t.1 l a T)) (hP : rTp t h) (ha : a < 900) : jCt jy_X5_readTimes [.ref ρ] h (fun r h' => r = some (.int (nI (if (jdig t a 4).2 = 0 then 1 else (jdig t a 4).1))) ∧ h' = h.set ρ (oRd t.1 l (a + (jdig t a 4).2) T)) := by
  have h10 := oRd_10 hR hP
  have hbd4 := jdig_le t a 4
  have hlt := hP.2.1
  generalize hΦ : (fun (r : Option Value) (h' : List jC) => r = some (.int (nI (if (jdig t a 4).2 = 0 then 1 else (jdig t a 4).1))) ∧ h' = h.set ρ (oRd t.1 l (a + (jdig t a 4).2) T)) = Φ
  refine jrun2 (js_X5_readTimes _) rfl rfl rfl (fun G hG hW hB => ?_)
  have g42 : G 42 [some (.ref ρ), some (.int (nI (jdig t a 4).1)), some (.int (nI (jdig t a 4).2))] [] (h.set ρ (oRd t.1 l (a + (jdig t a 4).2) T)) 0 0 := by
    refine hG [] 300 _ _ _ _ _ _ ?_
    conv => whnf
    refine ⟨fun c => ?_, fun c => ?_⟩ <;> rw [nI_eq (by omega) (by omega)] at c
    · conv => whnf
      rw [← hΦ]
      refine ⟨?_, rfl⟩
      rw [if_neg c]
    · conv => whnf
      rw [← hΦ]
      refine ⟨?_, rfl⟩
      rw [if_pos c]
  have loop : ∀ k u, 4 = u + k → (jdig t a u).2 = u → G 4 [some (.ref ρ), some (.int (nI (jdig t a u).1)), some (.int (nI u))] [] (h.set ρ (oRd t.1 l (a + u) T)) 0 0 := by
    intro k
    induction k with
    | zero =>
      intro u hu hd
      have hu4 : u = 4 := by omega
      subst hu4
      rw [hd] at g42
      refine hG [4, 42] 300 _ _ _ _ _ _ ?_
      conv => whnf
      refine ⟨fun qb => ?_, fun qb => ?_⟩ <;> rw [nI_leI (by omega) (by omega)] at qb
      case refine_2 => omega
      exact g42
    | succ k ih =>
      intro u hu hd
      have i1 := ih (u + 1) (by omega)
      rw [jdig] at i1
      have hbd := (jdig_le t a u).2
      have hp : 10 ^ u ≤ 10 ^ 4 := Nat.pow_le_pow_right (by decide) (by omega)
      have hR2 : (h.set ρ (oRd t.1 l (a + u) T))[ρ]? = some (oRd t.1 l (a + u) T) := jget_set hR
      have hP2 := hP.set h10 (oRd t.1 l (a + u) T)
      have hfg := c_X5_figure hR2 hP2 (by omega)
      refine hG [4, 42] 300 _ _ _ _ _ _ ?_
      conv => whnf
      refine ⟨fun qb => ?_, fun qb => ?_⟩ <;> rw [nI_leI (by omega) (by omega)] at qb
      · omega
      conv => whnf
      refine ⟨⟨_, hR2⟩, jcall (hfg) ?_⟩
      rintro r h' ⟨rfl, rfl⟩
      conv => whnf
      refine ⟨fun c => ?_, fun c => ?_⟩ <;> rw [jfgv_neg hlt] at c
      · have hst := jdig_stop t a c hd (k + 1)
        rw [show u + (k + 1) = 4 by omega] at hst
        rw [hst, hd] at g42
        exact g42
      have c := Decidable.not_not.mp c
      rw [if_pos ⟨hd, c⟩] at i1
      obtain ⟨v1, v2, v3⟩ := jfgv_val hlt c
      conv => whnf
      refine ⟨⟨_, hR2⟩, jcall (hfg) ?_⟩
      rintro r h' ⟨rfl, rfl⟩
      conv => whnf
      rw [v1, pk_mul, nI_add, nI_add, show (jdig t a u).1 * 10 + (tn (jhere t (a + u)) - 48) = 10 * (jdig t a u).1 + (tn (jhere t (a + u)) - 48) by omega]
      refine ⟨_, hR2, ?_⟩
      conv => whnf
      rw [nI_add]
      refine ⟨trivial, _, hR2, ?_⟩
      conv => whnf
      have e : (h.set ρ (oRd t.1 l (a + u) T)).set ρ (oRd t.1 l (a + u + 1) T) = h.set ρ (oRd t.1 l (a + (u + 1)) T) := by rw [List.set_set, Nat.add_assoc]
      erw [e]
      exact i1 rfl
  have l0 := loop 4 0 (by omega) rfl
  rw [Nat.add_zero, jset_same hR] at l0
  refine hG [4] 300 _ _ _ _ _ _ ?_
  conv => whnf
  exact l0
/-! a term's numbers -/
theorem c_X9_goesOn {h : List jC} {e w : Nat} {b y : Value} {bt : Int32} (he : h[e]? = some (.inr (8, [b, y, .int (nI w), .int bt]))) (hw : w < 1000) (d : Nat) : jCt jy_X9_goesOn [.ref e, .int (nI d)] h (fun r h' => r = none ∧ h' = h.set e (.inr (8, [b, y, .int (nI (w + d)), .int (if 0 < w ∧ w < 6 then bt ||| nI (2 ^ (w - 1)) else bt)]))) := by
  have g33 : ∀ {Φ : jPost} (G : jKt), (∀ (C : List Nat) (n pc : Nat) lv st h a b, jw (jp_X9_goesOn Φ) G C n pc lv st h a b → G pc lv st h a b) → ∀ (h : List jC) (bt : Int32), h[e]? = some (.inr (8, [b, y, .int (nI w), .int bt])) → Φ none (h.set e (.inr (8, [b, y, .int (nI (w + d)), .int bt]))) → G 33 [some (.ref e), some (.int (nI d))] [] h 0 0 := by
    intro Φ G hG h bt he hΦ
    refine hG [] 300 _ _ _ _ _ _ ?_
    conv => whnf
    refine ⟨_, he, ?_⟩
    conv => whnf
    rw [nI_add]
    refine ⟨trivial, _, he, ?_⟩
    conv => whnf
    exact hΦ
  refine jrun2 (js_X9_goesOn _) rfl rfl rfl (fun G hG hW hB => ?_)
  refine hG [33] 300 _ _ _ _ _ _ ?_
  conv => whnf
  refine ⟨_, he, ?_⟩
  conv => whnf
  refine ⟨fun qb => ?_, fun qb => ?_⟩ <;> rw [nI_leI (by omega) (by omega)] at qb
  · refine g33 G hG h bt he ⟨rfl, ?_⟩
    rw [if_neg (by omega)]
  conv => whnf
  refine ⟨_, he, ?_⟩
  conv => whnf
  refine ⟨fun c => ?_, fun c => ?_⟩ <;> rw [nI_leI (by omega) (by omega)] at c
  · refine g33 G hG h bt he ⟨rfl, ?_⟩
    rw [if_neg (by omega)]
  conv => whnf
  refine ⟨_, he, ?_⟩
  conv => whnf
  refine ⟨_, he, ?_⟩
  conv => whnf
  rw [jI_m1 (by omega), jI_one (by omega)]
  refine ⟨trivial, _, he, ?_⟩
  conv => whnf
  refine g33 G hG _ _ (jget_set he) ⟨rfl, ?_⟩
  rw [List.set_set, if_pos (by omega)]
/-- the class's bits of a term, where they are asked -/
def tmB (u : Nat × Int64) (bt : Int32) : Prop := u.1 ≤ 6 → bt = u.2.toInt32
theorem jbt_32 : ∀ n, n < 6 → (jbt n).toInt32 = if 0 < n ∧ n < 6 then nI (2 ^ (n - 1)) else 0 := by decide +kernel
theorem tmB_go {u : Nat × Int64} {bt : Int32} (h : tmB u bt) (d : Nat) (hd : 1 ≤ d) : tmB (u.1 + d, u.2 ||| jbt u.1) (if 0 < u.1 ∧ u.1 < 6 then bt ||| nI (2 ^ (u.1 - 1)) else bt) := by
  intro hle
  dsimp only at hle ⊢
  rw [Int64.toInt32_or, jbt_32 u.1 (by omega), h (by omega)]
  split
  · rfl
  · rw [Int32.or_zero]
abbrev oTm (y : Int32) (f : Bool) (w : Nat) (bt : Int32) : jC := .inr (8, [.int (jbi (f = true)), .int y, .int (nI w), .int bt])
/-- the numbers from a place on: as the reference reads them -/
def jnum (t : zTap) (k a : Nat) (u : Nat × Int64) : (Nat × Bool) × (Nat × Int64) := jfgs t k (jfig t (a, false) u).1 (jfig t (a, false) u).2
theorem c_X5_readNumbers {h : List jC} {ρ l a T e : Nat} {t : zTap} {y : Int32} {fF : Bool} (hR : h[ρ]? = some (oRd t.1 l a T)) (hP : rTp t h) (he : h[e]? = some (oTm y fF 0 (nI 0))) (ha : a ≤ t.1) (h1 : 1 ≤ a) : jCt jy_X5_readNumbers [.ref ρ, .ref e] h (fun r h' => r = some (.int (jbi ((jnum t 81 a (0, 0)).1.2 = false))) ∧ ∃ w bt, h' = (h.set ρ (oRd t.1 l (jnum t 81 a (0, 0)).1.1 T)).set e (oTm y fF w bt) ∧ ((jnum t 81 a (0, 0)).1.2 = false → w = (jnum t 81 a (0, 0)).2.1 ∧ tmB (jnum t 81 a (0, 0)).2 bt)) := by
  have h10 := oRd_10 hR hP
  have hlt := hP.2.1
  have ht80 := hP.1
  have e10 : e ≠ 10 := by
    obtain ⟨-, -, f, h3, -⟩ := hP
    exact jne he h3 (fun z => by cases z)
  have hre : ρ ≠ e := jne hR he (fun z => by cases z)
  generalize hz : jnum t 81 a (0, 0) = z
  generalize hΦ : (fun (r : Option Value) (h' : List jC) => r = some (.int (jbi (z.1.2 = false))) ∧ ∃ w bt, h' = (h.set ρ (oRd t.1 l z.1.1 T)).set e (oTm y fF w bt) ∧ (z.1.2 = false → w = z.2.1 ∧ tmB z.2 bt)) = Φ
  refine jrun2 (js_X5_readNumbers _) rfl rfl rfl (fun G hG hW hB => ?_)
  have loop : ∀ k i p (u : Nat × Int64) bt (x3 : Option Value), t.1 + 1 ≤ p + k → p ≤ t.1 → i + 1 ≤ p → u.1 ≤ 6 * p → tmB u bt → jnum t k p u = z → G 2 [some (.ref ρ), some (.ref e), some (.int (nI i)), x3] [] ((h.set ρ (oRd t.1 l p T)).set e (oTm y fF u.1 bt)) 0 0 := by
    intro k
    induction k with
    | zero =>
      intro i p u bt x3 hk hp hi h6 hb hj
      omega
    | succ k ih =>
      intro i p u bt x3 hk hp hi h6 hb hj
      have hR2 : ((h.set ρ (oRd t.1 l p T)).set e (oTm y fF u.1 bt))[ρ]? = some (oRd t.1 l p T) := jget_ne (Ne.symm hre) (jget_set hR)
      have he2 : ((h.set ρ (oRd t.1 l p T)).set e (oTm y fF u.1 bt))[e]? = some (oTm y fF u.1 bt) := jget_set (jget_ne hre he)
      have hP2 := (hP.set h10 (oRd t.1 l p T)).set e10 (oTm y fF u.1 bt)
      have hfg := c_X5_figure hR2 hP2 (by omega)
      have wrong : ¬ (49 ≤ (jhere t p).toInt ∧ (jhere t p).toInt ≤ 54) → Φ (some (.int (nI 0))) ((h.set ρ (oRd t.1 l p T)).set e (oTm y fF u.1 bt)) := by
        intro c
        have hj2 : z = ((p, true), u) := by
          rw [← hj, jnum, jfig, if_pos (Or.inr c)]
          cases k <;> rfl
        rw [← hΦ, hj2]
        exact ⟨by rw [jbi_f (fun w => by cases w)], u.1, bt, rfl, fun w => by cases w⟩
      refine hG [2, 26, 28] 300 _ _ _ _ _ _ ?_
      conv => whnf
      refine ⟨_, hR2, ?_⟩
      conv => whnf
      refine ⟨fun c => ?_, fun c => ?_⟩ <;> rw [nI_leI (by omega) (by omega)] at c
      · omega
      conv => whnf
      refine ⟨⟨_, hR2⟩, jcall (hfg) ?_⟩
      rintro r h' ⟨rfl, rfl⟩
      conv => whnf
      have g26 : ¬ (49 ≤ (jhere t p).toInt ∧ (jhere t p).toInt ≤ 54) → G 26 [some (.ref ρ), some (.ref e), some (.int (nI i)), some (.int (jfgv t p))] [] ((h.set ρ (oRd t.1 l p T)).set e (oTm y fF u.1 bt)) 0 0 := by
        intro c
        refine hG [] 300 _ _ _ _ _ _ ?_
        conv => whnf
        exact ⟨Or.inl rfl, wrong c⟩
      have g28 : (49 ≤ (jhere t p).toInt ∧ (jhere t p).toInt ≤ 54) → G 28 [some (.ref ρ), some (.ref e), some (.int (nI i)), some (.int (jfgv t p))] [] ((h.set ρ (oRd t.1 l p T)).set e (oTm y fF u.1 bt)) 0 0 := by
        intro c
        obtain ⟨v1, v2, v3⟩ := jfgv_val (a := p) hlt ⟨by omega, by omega⟩
        have v4 : 49 ≤ tn (jhere t p) := by unfold tn; omega
        have v5 : tn (jhere t p) ≤ 54 := by unfold tn; omega
        have hpl : p < t.1 := jhere_out (by omega)
        have hjf : jfig t (p, false) u = ((p + 1, false), (u.1 + (tn (jhere t p) - 48), u.2 ||| jbt u.1)) := by
          rw [jfig, if_neg (fun w => w.elim (fun w => by cases w) (fun w => w c))]
        obtain ⟨u2, hu2⟩ : ∃ u2 : Nat × Int64, u2 = (u.1 + (tn (jhere t p) - 48), u.2 ||| jbt u.1) := ⟨_, rfl⟩
        obtain ⟨b2, hb2⟩ : ∃ b2, b2 = (if 0 < u.1 ∧ u.1 < 6 then bt ||| nI (2 ^ (u.1 - 1)) else bt) := ⟨_, rfl⟩
        have ht2 : tmB u2 b2 := by
          rw [hu2, hb2]
          exact tmB_go hb _ (by omega)
        have hgo := c_X9_goesOn he2 (show u.1 < 1000 by omega) (tn (jhere t p) - 48)
        rw [← hb2, show u.1 + (tn (jhere t p) - 48) = u2.1 by rw [hu2], List.set_set] at hgo
        rw [jnum, hjf, ← hu2] at hj
        dsimp only at hj
        rw [jfgs] at hj
        have hs1 : ((h.set ρ (oRd t.1 l p T)).set e (oTm y fF u2.1 b2))[ρ]? = some (oRd t.1 l p T) := jget_ne (Ne.symm hre) (jget_set hR)
        have hs2 : ((h.set ρ (oRd t.1 l p T)).set e (oTm y fF u2.1 b2)).set ρ (oRd t.1 l (p + 1) T) = (h.set ρ (oRd t.1 l (p + 1) T)).set e (oTm y fF u2.1 b2) := by
          rw [List.set_comm _ _ (Ne.symm hre), List.set_set]
        have hs3 : ((h.set ρ (oRd t.1 l (p + 1) T)).set e (oTm y fF u2.1 b2))[ρ]? = some (oRd t.1 l (p + 1) T) := jget_ne (Ne.symm hre) (jget_set hR)
        have hs4 : ((h.set ρ (oRd t.1 l (p + 1) T)).set e (oTm y fF u2.1 b2)).set ρ (oRd t.1 l (p + 2) T) = (h.set ρ (oRd t.1 l (p + 2) T)).set e (oTm y fF u2.1 b2) := by
          rw [List.set_comm _ _ (Ne.symm hre), List.set_set]
        have hse := c_X5_sees hs3 ((hP.set h10 (oRd t.1 l (p + 1) T)).set e10 (oTm y fF u2.1 b2)) (by omega) 44 (by decide)
        have hw2 : u2.1 ≤ 6 * (p + 1) := by rw [hu2]; dsimp only; omega
        rw [v1]
        refine hG [2] 300 _ _ _ _ _ _ ?_
        conv => whnf
        refine ⟨⟨_, he2⟩, jcall hgo ?_⟩
        rintro r' h' ⟨rfl, rfl⟩
        conv => whnf
        refine ⟨_, hs1, ?_⟩
        conv => whnf
        rw [nI_add]
        refine ⟨trivial, _, hs1, ?_⟩
        conv => whnf
        erw [hs2]
        refine ⟨⟨_, hs3⟩, jcall (hse) ?_⟩
        rintro r h' ⟨rfl, rfl⟩
        conv => whnf
        refine ⟨fun d => ?_, fun d => ?_⟩ <;> rw [jbi_0] at d
        · have d := Decidable.not_not.mp d
          rw [if_pos ⟨rfl, d⟩] at hj
          have hin := jhere_in d (by decide)
          conv => whnf
          refine ⟨_, hs3, ?_⟩
          conv => whnf
          rw [nI_add]
          refine ⟨trivial, _, hs3, ?_⟩
          conv => whnf
          erw [hs4]
          rw [nI_add]
          exact ih (i + 1) (p + 2) u2 b2 _ (by omega) (by omega) (by omega) (by omega) ht2 hj
        · rw [if_neg (fun w => d w.2)] at hj
          conv => whnf
          refine ⟨Or.inr rfl, ?_⟩
          rw [← hΦ, ← hj]
          exact ⟨by rw [jbi_t rfl], u2.1, b2, rfl, fun _ => ⟨rfl, ht2⟩⟩
      have hti := jhere_toInt (a := p) hlt
      by_cases c : 48 ≤ (jhere t p).toInt ∧ (jhere t p).toInt ≤ 57
      · obtain ⟨v1, v2, v3⟩ := jfgv_val (a := p) hlt c
        have v6 : (jhere t p).toInt = (tn (jhere t p) : Int) := by unfold tn; omega
        rw [v1] at g26 g28 ⊢
        refine ⟨fun qb => ?_, fun qb => ?_⟩ <;> rw [nI_ltI (by omega) (by omega)] at qb
        · exact g26 (by omega)
        conv => whnf
        refine ⟨fun d => ?_, fun d => ?_⟩ <;> rw [nI_leI (by omega) (by omega)] at d
        · exact g28 (by omega)
        · exact g26 (by omega)
      · have hv : jfgv t p = -1 := if_neg c
        rw [hv] at g26 ⊢
        refine ⟨fun _ => g26 (by omega), fun d => absurd (by decide) d⟩
  have l0 := fun x3 => loop 81 0 a (0, 0) (nI 0) x3 (by omega) ha (by omega) (by dsimp only; omega) (fun _ => rfl) hz
  have hs0 : (h.set ρ (oRd t.1 l a T)).set e (oTm y fF 0 (nI 0)) = h := by rw [jset_same hR, jset_same he]
  rw [hs0] at l0
  refine hG [2] 300 _ _ _ _ _ _ ?_
  conv => whnf
  exact l0 none
