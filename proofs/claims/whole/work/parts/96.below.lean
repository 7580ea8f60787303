/-! the class: orders made, below, isBelow -/
theorem c_X4_init_ {h : List jC} {s lo : Nat} {lf : Nat → Int32} {o : zOrd} (hs : h[s]? = some (.inr (3, [.int (nI 0), .null, .null, .null]))) (hlo : h[lo]? = some (aI 7 lf)) (hp : o.1 ≤ 6) (hl : ∀ j, j < 7 → lf j = nI (o.2 j)) (ho : ∀ j, j < 7 → o.2 j < 64) : jCt jy_X4_init_ [.ref s, .int (nI o.1), .ref lo] h (fun r h' => r = none ∧ ∃ ef, h' = h.set s (oO o.1 lo (.ref h.length) .null) ++ [aI (2 ^ o.1) ef] ∧ ∀ t, t < 2 ^ o.1 → ef t = nI (zend o t)) := by
  have hp2 : 2 ^ o.1 ≤ 64 := Nat.pow_le_pow_right (by decide) hp
  have hsl : s ≠ lo := jne hs hlo (fun z => by cases z)
  have hll := (List.getElem?_eq_some_iff.mp hlo).1
  have hsL := (List.getElem?_eq_some_iff.mp hs).1
  generalize hΦ : (fun (r : Option Value) (h' : List jC) => r = none ∧ ∃ ef, h' = h.set s (oO o.1 lo (.ref h.length) .null) ++ [aI (2 ^ o.1) ef] ∧ ∀ t, t < 2 ^ o.1 → ef t = nI (zend o t)) = Φ
  refine jrun2 (js_X4_init_ _) rfl rfl rfl (fun G hG hWW hBB => ?_)
  refine hG [37] 300 _ _ _ _ _ _ ?_
  conv => whnf
  refine ⟨trivial, _, hs, ?_⟩
  conv => whnf
  erw [jset_same hs]
  refine jcall (c_J9_max _ _ h) ?_
  rintro r' h' ⟨rfl, he⟩
  obtain rfl := he.symm
  clear he
  conv => whnf
  rw [if_neg (show ¬ nI o.1 < nI 0 from nI_nlt (by omega) (by omega))]
  refine jcall (c_J9_min _ _ h) ?_
  rintro r' h' ⟨rfl, he⟩
  obtain rfl := he.symm
  clear he
  conv => whnf
  rw [if_neg (show ¬ nI 6 < nI o.1 from nI_nlt (by omega) (by omega))]
  refine ⟨trivial, _, hs, ?_⟩
  conv => whnf
  refine ⟨trivial, _, jget_set hs, ?_⟩
  conv => whnf
  rw [List.set_set]
  refine ⟨_, jget_set hs, ?_⟩
  conv => whnf
  rw [jI_one (by omega)]
  refine ⟨2 ^ o.1, rfl, by omega, (show 0 + 2 ^ o.1 ≤ 64 by omega), ?_⟩
  rw [List.length_set]
  conv => whnf
  refine hBB 1 64 (by decide) (show 0 + 2 ^ o.1 ≤ 64 by omega) ?_
  refine hG [] 300 _ _ _ _ _ _ ?_
  conv => whnf
  refine ⟨trivial, _, jget_app (jget_set hs), ?_⟩
  conv => whnf
  rw [jset_app (jget_set hs), List.set_set]
  have hnew : (h.set s (oO o.1 lo (.ref h.length) .null) ++ [aI (2 ^ o.1) (fun _ => nI 0)])[h.length]? = some (aI (2 ^ o.1) (fun _ => nI 0)) := by
    have := jget_new (h.set s (oO o.1 lo (.ref h.length) .null)) (aI (2 ^ o.1) (fun _ => nI 0))
    rw [List.length_set] at this
    exact this
  refine ⟨⟨_, jget_app (jget_set hs)⟩, jcall (c_X4_countEndings (o := o) (lf := lf) (jget_app (jget_set hs)) (jget_app (jget_ne hsl hlo)) hnew (by omega) hp hl ho) ?_⟩
  rintro r' h' ⟨rfl, ef, rfl, hef⟩
  conv => whnf
  rw [← hΦ]
  refine ⟨rfl, ef, ?_, hef⟩
  rw [List.set_append_right _ _ (by rw [List.length_set]; exact Nat.le_refl _), List.length_set, Nat.sub_self]
  rfl
theorem c_X4_init {h : List jC} {s : Nat} {p : Nat} (hs : h[s]? = some (.inr (3, [.int (nI 0), .null, .null, .null]))) (hp : p ≤ 6) : jCt jy_X4_init [.ref s, .int (nI p)] h (fun r h' => r = none ∧ ∃ ef, h' = h.set s (oO p h.length (.ref (h.length + 1)) .null) ++ [aI 7 (fun _ => nI 0), aI (2 ^ p) ef] ∧ ∀ t, t < 2 ^ p → ef t = nI (zend (p, fun _ => 0) t)) := by
  refine jrun2 (js_X4_init _) rfl rfl rfl (fun G hG hW hB => ?_)
  refine hG [] 300 _ _ _ _ _ _ ?_
  conv => whnf
  refine ⟨7, rfl, by decide, by decide, ?_⟩
  conv => whnf
  refine jcall (c_X4_init_ (o := (p, fun _ => 0)) (jget_app hs) (jget_new h _) hp (fun _ _ => rfl) (fun _ _ => (by show 0 < 64; decide))) ?_
  rintro r' h' ⟨rfl, ef, rfl, hef⟩
  conv => whnf
  refine ⟨rfl, ef, ?_, hef⟩
  rw [jset_app hs, List.length_append, List.append_assoc]
  rfl
theorem EncA.ord {τ : jTg} {h : List jC} {ρ ω κ π : Nat} {n : Int32} {t k : Value} {z : zS} (H : EncA τ h ρ ω κ π n t k z) : ∃ lo en lf ef cv, τ ω = 13 ∧ fz0 τ lo ∧ fz0 τ en ∧ h[ω]? = some (oO (zO z).1 lo (.ref en) cv) ∧ h[lo]? = some (aI 7 lf) ∧ h[en]? = some (aI (2 ^ (zO z).1) ef) ∧ (∀ j, j < 7 → lf j = nI ((zO z).2 j)) ∧ (∀ t, t < 2 ^ (zO z).1 → ef t = nI (zend (zO z) t)) ∧ xCa (fz0 τ) h cv (zO z) := by
  obtain ⟨h1, lo, en, lf, ef, cv, h2, h3, h4, h5, h6, h7, h8, h9⟩ := H.2.2.1
  exact ⟨lo, en, lf, ef, cv, h1, h2, h3, h4, h5, h6, h7, h8, h9⟩
/-- a new place's tag -/
theorem EncA.tag {τ : jTg} {h : List jC} {ρ ω κ π : Nat} {n : Int32} {t k : Value} {z : zS} (H : EncA τ h ρ ω κ π n t k z) (l : List jC) {a : Nat} (t' : Nat) (ha : h.length ≤ a) (hl : a < (h ++ l).length) : EncA (va_up τ a t') (h ++ l) ρ ω κ π n t k z := by
  obtain ⟨e1, e2, e3, e4, e5, e6, e7, e8, e9, e10, e11⟩ := H
  have K : KT (fun _ => true) τ h (va_up τ a t') (h ++ l) := ((KT.refl).app l).tag ha
  have h53 := e11.1
  exact ⟨jget_apl e1, e2.kt K rfl rfl, e3.kt K rfl rfl, e4.kt K rfl, e5.kt K rfl rfl, e6.kt K rfl rfl (fun _ _ => rfl), e7.kt K rfl, e8.kp (K.kp rfl), e9.kt K rfl rfl rfl, e10.kt K rfl rfl, (e11.app l).tag (by omega) hl⟩
theorem zord64 {o : zOrd} (ho : zordOk o) : ∀ j, j < 7 → o.2 j < 64 := by
  intro j hj
  have h1 := (ho.2 j hj).1
  have h2 : 2 ^ o.1 ≤ 64 := Nat.pow_le_pow_right (by decide) ho.1
  omega
theorem q_order {τ : jTg} {h : List jC} {z : zS} (E : EncX τ h z) (x : Int32) : jCt jy_X11_order [.ref 2, .int x] h (xPost h (zorder z x).1 (zorder z x).2) := by
  obtain ⟨ρ, ω, κ, π, n, t, k, H⟩ := id E
  obtain ⟨lo, en, lf, ef, cv, -, -, -, hω, -⟩ := H.ord
  have e1 := H.1
  have e11 := E.B
  generalize hΦ : xPost h _ _ = Φ
  refine jrun2 (js_X11_order _) rfl rfl rfl (fun G hG hW hB => ?_)
  refine hG [] 300 _ _ _ _ _ _ ?_
  conv => whnf
  refine jcall (c_wi x 7 (by decide) h) ?_
  rintro r' h' ⟨rfl, he⟩
  obtain rfl := he.symm
  clear he
  conv => whnf
  refine ⟨fun c => ?_, fun c => ?_⟩ <;> rw [jbi_0] at c
  case refine_2 =>
    rw [zorder, if_neg (by omega)] at hΦ
    conv => whnf
    rw [← hΦ]
    exact xsame E _
  have c := Decidable.not_not.mp c
  rw [zorder, if_pos (by omega)] at hΦ
  have hx := tn_eq c.1
  have hx6 : tn x ≤ 6 := by unfold tn; omega
  generalize tn x = p at *
  conv => whnf
  refine ⟨_, e1, ?_⟩
  conv => whnf
  refine ⟨_, hω, ?_⟩
  conv => whnf
  rw [hx]
  refine jcall (c_X4_init (jget_new h _) hx6) ?_
  rintro r' h' ⟨rfl, ef2, rfl, hef⟩
  have hl1 : (h ++ [(.inr (3, [.int (nI 0), .null, .null, .null]) : jC)]).length = h.length + 1 := by rw [List.length_append]; rfl
  have hh : (h ++ [(.inr (3, [.int (nI 0), .null, .null, .null]) : jC)]).set h.length (oO p (h ++ [(.inr (3, [.int (nI 0), .null, .null, .null]) : jC)]).length (.ref ((h ++ [(.inr (3, [.int (nI 0), .null, .null, .null]) : jC)]).length + 1)) .null) ++ [aI 7 (fun _ => nI 0), aI (2 ^ p) ef2] = h ++ [oO p (h.length + 1) (.ref (h.length + 2)) .null, aI 7 (fun _ => nI 0), aI (2 ^ p) ef2] := by
    rw [hl1, List.set_append_right _ _ (Nat.le_refl _), Nat.sub_self, List.append_assoc]
    rfl
  rw [hh]
  obtain ⟨l, hl⟩ : ∃ l : List jC, l = [oO p (h.length + 1) (.ref (h.length + 2)) .null, aI 7 (fun _ => nI 0), aI (2 ^ p) ef2] := ⟨_, rfl⟩
  rw [← hl]
  conv => whnf
  refine ⟨trivial, _, jget_apl e1, ?_⟩
  conv => whnf
  have hll : (h ++ l).length = h.length + 3 := by rw [List.length_append, hl]; rfl
  have hlen := e11.1
  obtain ⟨a1, a2, a3, a4, a5, a6, a7, a8, a9, a10, a11⟩ := H.tag l (a := h.length) 13 (Nat.le_refl _) (by omega)
  have fr : ∀ q, h.length < q → va_up τ h.length 13 q = 0 := fun q hq => by unfold va_up; rw [if_neg (by omega)]; exact e11.2.2.2 _ (by omega)
  have j0 := jidx h l 0
  rw [Nat.add_zero] at j0
  have Hn := EncA.mk2 (ω := h.length) (o := (p, fun _ => 0)) a1 a2 ⟨by simp [va_up], h.length + 1, h.length + 2, _, ef2, .null, fr _ (by omega), fr _ (by omega), j0.trans (by rw [hl]; rfl), (jidx h l 1).trans (by rw [hl]; rfl), (jidx h l 2).trans (by rw [hl]; rfl), fun j hj => rfl, hef, Or.inl rfl⟩ a4 a5 a6 a7 a8 a9 a10 a11
  rw [← hΦ]
  exact xput (z' := (zR z, zT z, (p, fun _ => 0), zC z, zK z, zW z, zP z, zX z, zI z)) E (S := fun t => t != 1) ((((KT.refl).app l).set _ (Or.inr (by rw [e11.2.1]; rfl))).tag (Nat.le_refl _)) rfl ⟨_, _, _, _, _, _, _, Hn⟩ _
theorem q_isBelow {τ : jTg} {h : List jC} {z : zS} (E : EncX τ h z) (hz : zWF z) (x y : Int32) : jCt jy_X11_isBelow [.ref 2, .int x, .int y] h (xPost h (zisb z x y) z) := by
  obtain ⟨ρ, ω, κ, π, n, t, k, H⟩ := id E
  obtain ⟨lo, en, lf, ef, cv, -, -, -, hω, hlo, -, hlf, -⟩ := H.ord
  have e1 := H.1
  have hok := hz.2.2.1
  have h64 := zord64 hok
  generalize hΦ : xPost h _ _ = Φ
  have hno : ¬ (isThg (zO z) x ∧ isThg (zO z) y) → Φ (some (.int (-1))) h := by
    intro hn
    rw [zisb, if_neg hn] at hΦ
    rw [← hΦ]
    exact xsame E _
  refine jrun2 (js_X11_isBelow _) rfl rfl rfl (fun G hG hW hB => ?_)
  refine hG [] 300 _ _ _ _ _ _ ?_
  conv => whnf
  refine ⟨_, e1, ?_⟩
  conv => whnf
  refine ⟨⟨_, hω⟩, jcall (c_X4_has hω hlo hok.1 x) ?_⟩
  rintro r' h' ⟨rfl, he⟩
  obtain rfl := he.symm
  clear he
  conv => whnf
  refine ⟨fun c => ?_, fun c => ?_⟩ <;> rw [jbi_0] at c
  · conv => whnf
    exact hno (fun q => c q.1)
  have c := Decidable.not_not.mp c
  conv => whnf
  refine ⟨_, e1, ?_⟩
  conv => whnf
  refine ⟨⟨_, hω⟩, jcall (c_X4_has hω hlo hok.1 y) ?_⟩
  rintro r' h' ⟨rfl, he⟩
  obtain rfl := he.symm
  clear he
  conv => whnf
  refine ⟨fun c2 => ?_, fun c2 => ?_⟩ <;> rw [jbi_0] at c2
  case refine_2 =>
    conv => whnf
    exact hno (fun q => c2 q.2)
  have c2 := Decidable.not_not.mp c2
  rw [zisb, if_pos ⟨c, c2⟩] at hΦ
  conv => whnf
  refine ⟨_, e1, ?_⟩
  conv => whnf
  refine ⟨⟨_, hω⟩, jcall (c_X4_stands hω hlo hok.1 hlf h64 x y) ?_⟩
  rintro r' h' ⟨rfl, he⟩
  obtain rfl := he.symm
  clear he
  conv => whnf
  refine ⟨fun c3 => ?_, fun c3 => ?_⟩ <;> rw [jbi_0] at c3
  · rw [jbi_f (fun q => c3 ⟨⟨c, c2⟩, q⟩)] at hΦ
    conv => whnf
    rw [← hΦ]
    exact xsame E _
  · rw [jbi_t (Decidable.not_not.mp c3).2] at hΦ
    conv => whnf
    rw [← hΦ]
    exact xsame E _
theorem jprb : ∀ p, p < 7 → ∀ c, c < 64 → (Nat.blt c (2 ^ p) && !(Nat.beq (jprL (p, fun _ => c) 1 p) (jpop c))) = false := by decide +kernel
theorem jprL_c (o : zOrd) (k : Nat) (q : zOrd) (m : Nat) (h : o.2 k = q.2 m) : ∀ n, jprL o k n = jprL q m n
  | 0 => rfl
  | n + 1 => by
    rw [jprL, jprL, jprL_c o k q m h n]
    unfold zund
    rw [h]
theorem jprL_pop {o : zOrd} (hp : o.1 ≤ 6) {k : Nat} (hk : o.2 k < 2 ^ o.1) : jprL o k o.1 = jpop (o.2 k) := by
  have hp2 : 2 ^ o.1 ≤ 64 := Nat.pow_le_pow_right (by decide) hp
  have := jprb o.1 (by omega) (o.2 k) (by omega)
  rw [show Nat.blt (o.2 k) (2 ^ o.1) = true from (Nat.blt_eq).mpr hk, Bool.true_and, Bool.not_eq_eq_eq_not, Bool.not_false] at this
  rw [jprL_c o k (o.1, fun _ => o.2 k) 1 rfl]
  exact Nat.eq_of_beq_eq_true this
/-- all twos of an order, counted over its rows -/
def jppF (o : zOrd) : Nat → Nat
  | 0 => 0
  | v + 1 => jppF o v + jpop (o.2 v)
theorem jprK_pp {o : zOrd} (hp : o.1 ≤ 6) (h0 : o.2 0 = 0) (hk : ∀ k, k < 7 → o.2 k < 2 ^ o.1 ∧ (o.1 < k → o.2 k = 0)) : jprK o o.1 o.1 = jppF o 7 := by
  have h1 : ∀ v, v ≤ o.1 → jprK o o.1 v = jppF o (v + 1) := by
    intro v
    induction v with
    | zero => intro _; rw [jprK, jppF, jppF, h0]; rfl
    | succ v ih =>
      intro hv
      rw [jprK, ih (by omega), jprL_pop hp (hk (v + 1) (by omega)).1]
      rfl
  have h2 : ∀ d, o.1 + 1 + d ≤ 7 → jppF o (o.1 + 1 + d) = jppF o (o.1 + 1) := by
    intro d
    induction d with
    | zero => intro _; rfl
    | succ d ih =>
      intro hd
      rw [← Nat.add_assoc, jppF, ih (by omega), (hk (o.1 + 1 + d) (by omega)).2 (by omega)]
      rfl
  have h3 := h2 (7 - (o.1 + 1)) (by omega)
  rw [show o.1 + 1 + (7 - (o.1 + 1)) = 7 by omega] at h3
  rw [h1 o.1 (Nat.le_refl _), h3]
theorem c_X4_pairs {h : List jC} {cv : Value} {b lo : Nat} {en : Value} {lf : Nat → Int32} {o : zOrd} (hb : h[b]? = some (oO o.1 lo en cv)) (hlo : h[lo]? = some (aI 7 lf)) (hl : ∀ j, j < 7 → lf j = nI (o.2 j)) (ho : ∀ j, j < 7 → o.2 j < 64) : jCt jy_X4_pairs [.ref b] h (fun r h' => r = some (.int (nI (jppF o 7))) ∧ h' = h) := by
  refine jrun2 (js_X4_pairs _) rfl rfl rfl (fun G hG hW hB => ?_)
  have loop : ∀ u v, 7 = v + u → G 4 [some (.ref b), some (.int (nI (jppF o v))), some (.int (nI v))] [] h 0 0 := by
    intro u
    induction u with
    | zero =>
      intro v hv
      refine hG [4] 300 _ _ _ _ _ _ ?_
      conv => whnf
      refine ⟨_, hb, ?_⟩
      conv => whnf
      refine ⟨_, _, _, hlo, ?_⟩
      conv => whnf
      refine ⟨fun qb => ?_, fun qb => ?_⟩ <;> rw [nI_leI (by omega) (by omega)] at qb
      · conv => whnf
        rw [show v = 7 by omega]
        exact ⟨rfl, rfl⟩
      · omega
    | succ u ih =>
      intro v hv
      have i1 := ih (v + 1) (by omega)
      rw [jppF] at i1
      refine hG [4] 300 _ _ _ _ _ _ ?_
      conv => whnf
      refine ⟨_, hb, ?_⟩
      conv => whnf
      refine ⟨_, _, _, hlo, ?_⟩
      conv => whnf
      refine ⟨fun qb => ?_, fun qb => ?_⟩ <;> rw [nI_leI (by omega) (by omega)] at qb
      · omega
      conv => whnf
      refine ⟨_, hb, ?_⟩
      conv => whnf
      refine ⟨_, _, _, hlo, rfl, (show v < 7 by omega), ?_⟩
      conv => whnf
      rw [hl v (by omega)]
      have hpc := c_J6_bitCount (o.2 v) (ho v (by omega)) h
      refine jcall hpc ?_
      rintro r' h' ⟨rfl, he⟩
      obtain rfl := he.symm
      clear he
      conv => whnf
      rw [nI_add, nI_add]
      exact i1
  refine hG [4] 300 _ _ _ _ _ _ ?_
  conv => whnf
  exact loop 7 0 (by omega)
theorem zbelO_b {o : zOrd} (ho : zordOk o) {i j : Nat} (hi : 1 ≤ i ∧ i ≤ o.1) : ∀ k, k < 7 → (zbelO o i j).2 k < 2 ^ o.1 ∧ (k = 0 ∨ o.1 < k → (zbelO o i j).2 k = 0) := by
  intro k hk
  obtain ⟨h1, h2, -⟩ := ho.2 k hk
  have hi1 := (ho.2 i (by have := ho.1; omega)).1
  show (if (0 < k ∧ k ≤ o.1) ∧ (k = j ∨ zund o j k) then o.2 k ||| (o.2 i ||| 2 ^ (i - 1)) else o.2 k) < 2 ^ o.1 ∧ (k = 0 ∨ o.1 < k → (if (0 < k ∧ k ≤ o.1) ∧ (k = j ∨ zund o j k) then o.2 k ||| (o.2 i ||| 2 ^ (i - 1)) else o.2 k) = 0)
  split
  · refine ⟨Nat.or_lt_two_pow h1 (jor_lt2 ho.1 hi1 (by omega)), fun q => ?_⟩
    omega
  · exact ⟨h1, h2⟩
theorem c_X4_withBelow {h : List jC} {cv : Value} {b lo : Nat} {en : Value} {lf : Nat → Int32} {o : zOrd} (hb : h[b]? = some (oO o.1 lo en cv)) (hlo : h[lo]? = some (aI 7 lf)) (hok : zordOk o) (hl : ∀ j, j < 7 → lf j = nI (o.2 j)) {x y : Int32} (hx : isThg o x) (hy : isThg o y) : jCt jy_X4_withBelow [.ref b, .int x, .int y] h (fun r h' => r = some (.ref (h.length + 1)) ∧ ∃ lf2 ef, h' = h ++ [aI 7 lf2, oO o.1 h.length (.ref (h.length + 2)) .null, aI (2 ^ o.1) ef] ∧ (∀ j, j < 7 → lf2 j = nI ((zbelO o (tn x) (tn y)).2 j)) ∧ ∀ t, t < 2 ^ o.1 → ef t = nI (zend (zbelO o (tn x) (tn y)) t)) := by
  have h64 := zord64 hok
  have hp := hok.1
  have hxx := tn_eq (x := x) (by have := hx.1; omega)
  have hyy := tn_eq (x := y) (by have := hy.1; omega)
  have hx1 : 1 ≤ tn x ∧ tn x ≤ o.1 := by unfold isThg at hx; unfold tn; omega
  have hy1 : 1 ≤ tn y ∧ tn y ≤ o.1 := by unfold isThg at hy; unfold tn; omega
  have hzb := zbelO_b hok (j := tn y) hx1
  have hp2 : 2 ^ o.1 ≤ 64 := Nat.pow_le_pow_right (by decide) hp
  obtain ⟨gm, hgm⟩ : ∃ gm : Nat → Nat → Int32, gm = fun v j => if j < v then nI ((zbelO o (tn x) (tn y)).2 j) else lf j := ⟨_, rfl⟩
  generalize hΦ : (fun (r : Option Value) (h' : List jC) => r = some (.ref (h.length + 1)) ∧ ∃ lf2 ef, h' = h ++ [aI 7 lf2, oO o.1 h.length (.ref (h.length + 2)) .null, aI (2 ^ o.1) ef] ∧ (∀ j, j < 7 → lf2 j = nI ((zbelO o (tn x) (tn y)).2 j)) ∧ ∀ t, t < 2 ^ o.1 → ef t = nI (zend (zbelO o (tn x) (tn y)) t)) = Φ
  refine jrun2 (js_X4_withBelow _) rfl rfl rfl (fun G hG hWW hBB => ?_)
  have hbn : ∀ w : Nat → Int32, (h ++ [aI 7 w])[h.length]? = some (aI 7 w) := fun w => jget_new h _
  have hsn : ∀ w v : Nat → Int32, (h ++ [aI 7 w]).set h.length (aI 7 v) = h ++ [aI 7 v] := by
    intro w v
    rw [List.set_append_right _ _ (Nat.le_refl _), Nat.sub_self]
    rfl
  have g83 : ∀ (w : Nat → Int32) (x4 x5 : Option Value), (∀ j, j < 7 → w j = nI ((zbelO o (tn x) (tn y)).2 j)) → G 83 [some (.ref b), some (.int x), some (.int y), some (.ref h.length), x4, x5] [] (h ++ [aI 7 w]) 1 7 := by
    intro w x4 x5 hw
    refine hG [] 300 _ _ _ _ _ _ ?_
    conv => whnf
    refine ⟨_, jget_app (jget_app hb), ?_⟩
    conv => whnf
    have hl1 : (h ++ [aI 7 w]).length = h.length + 1 := by rw [List.length_append]; rfl
    refine jcall (c_X4_init_ (o := zbelO o (tn x) (tn y)) (jget_new (h ++ [aI 7 w]) _) (jget_app (hbn w)) hp hw (fun j hj => Nat.lt_of_lt_of_le (hzb j hj).1 hp2)) ?_
    rintro r' h' ⟨rfl, ef, rfl, hef⟩
    conv => whnf
    rw [← hΦ, hl1]
    refine ⟨rfl, w, ef, ?_, hw, hef⟩
    have hl2 : ((h ++ [aI 7 w]) ++ [(.inr (3, [.int (nI 0), .null, .null, .null]) : jC)]).length = h.length + 2 := by rw [List.length_append, hl1]; rfl
    rw [hl2, List.append_assoc, List.set_append_right _ _ (by omega), show h.length + 1 - h.length = 1 by omega, List.append_assoc]
    rfl
  have loop : ∀ u v, o.1 + 1 = v + u → 1 ≤ v → G 36 [some (.ref b), some (.int x), some (.int y), some (.ref h.length), some (.int (nI (o.2 (tn x) ||| 2 ^ (tn x - 1)))), some (.int (nI v))] [] (h ++ [aI 7 (gm v)]) 1 7 := by
    intro u
    induction u with
    | zero =>
      intro v hv h1
      refine hG [36, 83] 300 _ _ _ _ _ _ ?_
      conv => whnf
      refine ⟨_, jget_app hb, ?_⟩
      conv => whnf
      refine ⟨fun qb => ?_, fun qb => ?_⟩ <;> rw [nI_ltI (by omega) (by omega)] at qb
      · refine g83 _ _ _ (fun j hj => ?_)
        rw [hgm]
        dsimp only
        by_cases hj2 : j < v
        · rw [if_pos hj2]
        · rw [if_neg hj2, hl j hj, (hzb j hj).2 (Or.inr (by omega)), ((hok.2 j hj).2.1 (Or.inr (by omega)))]
      · omega
    | succ u ih =>
      intro v hv h1
      have i1 := ih (v + 1) (by omega) (by omega)
      have hgv : gm v v = nI (o.2 v) := by
        rw [hgm]
        dsimp only
        rw [if_neg (by omega), hl v (by omega)]
      have hthv : isThg o (nI v) := by
        unfold isThg
        rw [nI_toInt (by omega)]
        omega
      have hnum : tn (nI v) = v := tn_nI (by omega)
      have hz1 : (v = tn y ∨ zund o (tn y) v) → upd (gm v) v (nI (o.2 v) ||| nI (o.2 (tn x) ||| 2 ^ (tn x - 1))) = gm (v + 1) := by
        intro hc
        funext j
        rw [hgm]
        unfold upd
        dsimp only
        by_cases hj : j = v
        · subst hj
          rw [if_pos rfl, if_pos (by omega), jI_or]
          show _ = nI (if (0 < j ∧ j ≤ o.1) ∧ (j = tn y ∨ zund o (tn y) j) then o.2 j ||| (o.2 (tn x) ||| 2 ^ (tn x - 1)) else o.2 j)
          rw [if_pos ⟨by omega, hc⟩]
        · rw [if_neg hj]
          by_cases h2 : j < v
          · rw [if_pos h2, if_pos (by omega)]
          · rw [if_neg h2, if_neg (by omega)]
      have hz2 : ¬ (v = tn y ∨ zund o (tn y) v) → gm v = gm (v + 1) := by
        intro hc
        funext j
        rw [hgm]
        dsimp only
        by_cases hj : j = v
        · subst hj
          rw [if_neg (by omega), if_pos (by omega), hl j (by omega)]
          show _ = nI (if (0 < j ∧ j ≤ o.1) ∧ (j = tn y ∨ zund o (tn y) j) then o.2 j ||| (o.2 (tn x) ||| 2 ^ (tn x - 1)) else o.2 j)
          rw [if_neg (fun q => hc q.2)]
        · by_cases h2 : j < v
          · rw [if_pos h2, if_pos (by omega)]
          · rw [if_neg h2, if_neg (by omega)]
      have g68 : (v = tn y ∨ zund o (tn y) v) → G 68 [some (.ref b), some (.int x), some (.int y), some (.ref h.length), some (.int (nI (o.2 (tn x) ||| 2 ^ (tn x - 1)))), some (.int (nI v))] [] (h ++ [aI 7 (gm v)]) 1 7 := by
        intro hc
        have hz := hz1 hc
        refine hG [36] 300 _ _ _ _ _ _ ?_
        conv => whnf
        refine ⟨_, _, _, hbn _, rfl, (show v < 7 by omega), ?_⟩
        conv => whnf
        refine ⟨_, _, _, hbn _, rfl, (show v < 7 by omega), ?_⟩
        conv => whnf
        rw [hgv, nI_add]
        erw [hsn, hz]
        exact i1
      refine hG [36, 68, 83] 300 _ _ _ _ _ _ ?_
      conv => whnf
      refine ⟨_, jget_app hb, ?_⟩
      conv => whnf
      refine ⟨fun qb => ?_, fun qb => ?_⟩ <;> rw [nI_ltI (by omega) (by omega)] at qb
      · omega
      conv => whnf
      refine ⟨_, _, _, hbn _, ?_⟩
      conv => whnf
      refine ⟨fun qb => ?_, fun qb => ?_⟩ <;> rw [nI_leI (by omega) (by omega)] at qb
      · omega
      conv => whnf
      refine ⟨fun c => ?_, fun c => ?_⟩
      · refine g68 (Or.inl ?_)
        rw [hyy, nI_eq (by omega) (by omega)] at c
        exact c
      have c' : ¬ v = tn y := fun e => c (by rw [e, ← hyy])
      have hst := c_X4_stands (jget_app (c := aI 7 (gm v)) hb) (jget_app hlo) hp hl h64 y (nI v)
      rw [hnum] at hst
      conv => whnf
      refine ⟨⟨_, jget_app hb⟩, jcall hst ?_⟩
      rintro r' h' ⟨rfl, rfl⟩
      conv => whnf
      refine ⟨fun d => ?_, fun d => ?_⟩ <;> rw [jbi_0] at d
      · rw [← hz2 (fun q => q.elim c' (fun q => d ⟨⟨hy, hthv⟩, q⟩))] at i1
        conv => whnf
        rw [nI_add]
        exact i1
      · exact g68 (Or.inr (Decidable.not_not.mp d).2)
  have hbit : lf (tn x) ||| nI 1 <<< ((x - nI 1) &&& 31) = nI (o.2 (tn x) ||| 2 ^ (tn x - 1)) := by
    have e : x - nI 1 = nI (tn x - 1) := by
      have := jI_m1 hx1.1
      rw [← hxx] at this
      exact this
    rw [e, hl _ (by omega), jI_one (by omega), jI_or]
  have hg1 : gm 1 = lf := by
    funext j
    rw [hgm]
    dsimp only
    split
    · rename_i hj
      have hj0 : j = 0 := by omega
      subst hj0
      rw [(hzb 0 (by decide)).2 (Or.inl rfl), hl 0 (by decide), ((hok.2 0 (by decide)).2.1 (Or.inl rfl))]
    · rfl
  refine hG [36] 300 _ _ _ _ _ _ ?_
  conv => whnf
  refine ⟨_, hb, ?_⟩
  conv => whnf
  refine ⟨_, _, hlo, by decide, ?_⟩
  conv => whnf
  refine ⟨_, _, (show 2 ≤ h.length by have := (List.getElem?_eq_some_iff.mp hb).1; have := (List.getElem?_eq_some_iff.mp hlo).1; have := jne hb hlo (fun z => by cases z); omega), hbn _, ?_⟩
  conv => whnf
  refine ⟨⟨_, jget_app hb⟩, jcall (c_X4_has (jget_app hb) (jget_app hlo) hp x) ?_⟩
  rintro r' h' ⟨rfl, rfl⟩
  rw [jbi_t hx]
  conv => whnf
  refine ⟨fun c => absurd c nI_10, fun _ => ?_⟩
  conv => whnf
  refine ⟨_, jget_app hb, ?_⟩
  conv => whnf
  refine ⟨_, _, _, jget_app hlo, hxx, (show tn x < 7 by omega), ?_⟩
  conv => whnf
  rw [hbit]
  have l0 := loop o.1 1 (by omega) (Nat.le_refl _)
  rw [hg1] at l0
  exact l0
theorem q_below {τ : jTg} {h : List jC} {z : zS} (E : EncX τ h z) (hz : zWF z) (x y : Int32) : jCt jy_X11_below [.ref 2, .int x, .int y] h (xPost h (zbelow z x y).1 (zbelow z x y).2) := by
  obtain ⟨ρ, ω, κ, π, n, t, k, H⟩ := id E
  obtain ⟨lo, en, lf, ef, cv, -, -, -, hω, hlo, -, hlf, -⟩ := H.ord
  have e1 := H.1
  have e11 := E.B
  have hok := hz.2.2.1
  have h64 := zord64 hok
  generalize hΦ : xPost h _ _ = Φ
  have hno : ¬ (isThg (zO z) x ∧ isThg (zO z) y) → Φ (some (.int (-1))) h := by
    intro hn
    rw [zbelow, if_neg hn] at hΦ
    rw [← hΦ]
    exact xsame E _
  refine jrun2 (js_X11_below _) rfl rfl rfl (fun G hG hW hB => ?_)
  refine hG [41] 300 _ _ _ _ _ _ ?_
  conv => whnf
  refine ⟨_, e1, ?_⟩
  conv => whnf
  refine ⟨⟨_, hω⟩, jcall (c_X4_has hω hlo hok.1 x) ?_⟩
  rintro r' h' ⟨rfl, he⟩
  obtain rfl := he.symm
  clear he
  conv => whnf
  refine ⟨fun c => ?_, fun c => ?_⟩ <;> rw [jbi_0] at c
  · conv => whnf
    exact hno (fun q => c q.1)
  have c := Decidable.not_not.mp c
  conv => whnf
  refine ⟨_, e1, ?_⟩
  conv => whnf
  refine ⟨⟨_, hω⟩, jcall (c_X4_has hω hlo hok.1 y) ?_⟩
  rintro r' h' ⟨rfl, he⟩
  obtain rfl := he.symm
  clear he
  conv => whnf
  refine ⟨fun c2 => ?_, fun c2 => ?_⟩ <;> rw [jbi_0] at c2
  case refine_2 =>
    conv => whnf
    exact hno (fun q => c2 q.2)
  have c2 := Decidable.not_not.mp c2
  rw [zbelow, if_pos ⟨c, c2⟩] at hΦ
  have hxx := tn_eq (x := x) (by have := c.1; omega)
  have hyy := tn_eq (x := y) (by have := c2.1; omega)
  have hp := hok.1
  have hx1 : 1 ≤ tn x ∧ tn x ≤ (zO z).1 := by unfold tn; omega
  have hy1 : 1 ≤ tn y ∧ tn y ≤ (zO z).1 := by unfold tn; omega
  have g41 : (tn x = tn y ∨ zund (zO z) (tn y) (tn x)) → G 41 [some (.ref 2), some (.int x), some (.int y)] [] h 0 0 := by
    intro q
    rw [if_pos q] at hΦ
    refine hG [] 300 _ _ _ _ _ _ ?_
    conv => whnf
    rw [← hΦ]
    exact xsame E _
  conv => whnf
  refine ⟨fun d => ?_, fun d => ?_⟩
  · exact g41 (Or.inl (by rw [d]))
  have d' : ¬ tn x = tn y := fun e => d (by rw [hxx, hyy, e])
  conv => whnf
  refine ⟨_, e1, ?_⟩
  conv => whnf
  refine ⟨⟨_, hω⟩, jcall (c_X4_stands hω hlo hok.1 hlf h64 y x) ?_⟩
  rintro r' h' ⟨rfl, he⟩
  obtain rfl := he.symm
  clear he
  conv => whnf
  refine ⟨fun d2 => ?_, fun d2 => ?_⟩ <;> rw [jbi_0] at d2
  case refine_2 => exact g41 (Or.inr (Decidable.not_not.mp d2).2)
  have d3 : ¬ (tn x = tn y ∨ zund (zO z) (tn y) (tn x)) := fun q => q.elim d' (fun q => d2 ⟨⟨c2, c⟩, q⟩)
  rw [if_neg d3] at hΦ
  conv => whnf
  refine ⟨_, e1, ?_⟩
  conv => whnf
  refine ⟨⟨_, hω⟩, jcall (c_X4_withBelow hω hlo hok hlf c c2) ?_⟩
  rintro r' h' ⟨rfl, lf2, ef2, rfl, hlf2, hef2⟩
  have hzb := zbelO_b hok (j := tn y) hx1
  have hp2 : 2 ^ (zO z).1 ≤ 64 := Nat.pow_le_pow_right (by decide) hp
  obtain ⟨l, hl⟩ : ∃ l : List jC, l = [aI 7 lf2, oO (zO z).1 h.length (.ref (h.length + 2)) .null, aI (2 ^ (zO z).1) ef2] := ⟨_, rfl⟩
  rw [← hl]
  have j0 := jidx h l 0
  rw [Nat.add_zero] at j0
  have x0 : (h ++ l)[h.length]? = some (aI 7 lf2) := j0.trans (by rw [hl]; rfl)
  have x1 : (h ++ l)[h.length + 1]? = some (oO (zO z).1 h.length (.ref (h.length + 2)) .null) := (jidx h l 1).trans (by rw [hl]; rfl)
  have x2 : (h ++ l)[h.length + 2]? = some (aI (2 ^ (zO z).1) ef2) := (jidx h l 2).trans (by rw [hl]; rfl)
  have hlen := e11.1
  have hll : (h ++ l).length = h.length + 3 := by rw [List.length_append, hl]; rfl
  obtain ⟨a1, a2, a3, a4, a5, a6, a7, a8, a9, a10, a11⟩ := H.tag l (a := h.length + 1) 13 (by omega) (by omega)
  have fr : ∀ q, h.length ≤ q → q ≠ h.length + 1 → va_up τ (h.length + 1) 13 q = 0 := fun q hq hn => by unfold va_up; rw [if_neg hn]; exact e11.2.2.2 _ (by omega)
  have Hn := EncA.mk2 (ω := h.length + 1) (o := zbelO (zO z) (tn x) (tn y)) a1 a2 ⟨by simp [va_up], h.length, h.length + 2, lf2, ef2, .null, fr _ (by omega) (by omega), fr _ (by omega) (by omega), x1, x0, x2, hlf2, hef2, Or.inl rfl⟩ a4 a5 a6 a7 a8 a9 a10 a11
  conv => whnf
  refine ⟨trivial, _, jget_apl e1, ?_⟩
  conv => whnf
  refine ⟨_, Hn.1, ?_⟩
  conv => whnf
  have hpr := c_X4_pairs (h := (h ++ l).set 2 (mx ρ (h.length + 1) κ π n t k)) (o := zbelO (zO z) (tn x) (tn y)) (jget_ne (by omega) x1) (jget_ne (by omega) x0) hlf2 (fun j hj => Nat.lt_of_lt_of_le (hzb j hj).1 hp2)
  rw [← jprK_pp (o := zbelO (zO z) (tn x) (tn y)) hp ((hzb 0 (by decide)).2 (Or.inl rfl)) (fun k hk => ⟨(hzb k hk).1, fun q => (hzb k hk).2 (Or.inr q)⟩)] at hpr
  refine ⟨⟨_, jget_ne (by omega) x1⟩, jcall hpr ?_⟩
  rintro r' h' ⟨rfl, rfl⟩
  conv => whnf
  rw [← hΦ]
  exact xput (z' := (zR z, zT z, zbelO (zO z) (tn x) (tn y), zC z, zK z, zW z, zP z, zX z, zI z)) E (S := fun t => t != 1) ((((KT.refl).app l).set _ (Or.inr (by rw [e11.2.1]; rfl))).tag (by omega)) rfl ⟨_, _, _, _, _, _, _, Hn⟩ _
