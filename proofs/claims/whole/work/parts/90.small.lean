/-! the class: multiply; how its parts are written; back, feed, wipe, why, count, holds -/
theorem c_settleM {τ : jTg} {h : List jC} {z : zS} (E : EncX τ h z) (hz : zWF z) {r : Nat} (hr : r < 4) {w : Nat} {f : Nat → Int64} {p : (Nat → Int64) × jLs} {q : jLs} {ww : Nat → Int32} (hcan : zcan (w, f)) (hp : q.1 = true ∨ ∀ c, c < jmany w → p.1 c = f c) (hq : p.2 = q) : jCt jy_X11_settle [.ref 2, .int (nI r), .ref (h ++ [oL (false, nI 0)]).length, .ref h.length] (jM (h ++ [oL (false, nI 0)]) h.length w p ww) (fun r' h' => r' = some (.int (if q.1 = true then -9 else nI w)) ∧ (∃ τ', EncX τ' h' (zstl z r (w, f) q (nI w)).2) ∧ ∀ k, 20 ≤ k → k < 53 → h'[k]? = h[k]?) := by
  subst hq
  have hlen : (h ++ [oL (false, nI 0)]).length = (h ++ [oL p.2]).length := by rw [List.length_append, List.length_append]; rfl
  have hjm : jM (h ++ [oL (false, nI 0)]) h.length w p ww = h ++ ([oL p.2] ++ [oS w ((h ++ [oL p.2]).length + 1), aL (jmany w) p.1] ++ [aI (jmany w) ww]) := by
    unfold jM
    rw [List.set_append_right _ _ (Nat.le_refl _), Nat.sub_self, hlen, List.append_assoc]
    rfl
  have hmw := (jmany_le hcan.1).2
  -- the numbers as they are
  obtain ⟨g, hg1, hg2, hg3⟩ : ∃ g : Nat → Int64, zcan (w, g) ∧ (∀ c, c < jmany w → p.1 c = g c) ∧ zstl z r (w, g) p.2 (nI w) = zstl z r (w, f) p.2 (nI w) := by
    rcases hp with hp | hp
    · refine ⟨jcpL (fun _ => 0) p.1 (jmany w), zcan_mk hcan.1 (fun c h1 h2 => by rw [jcpL_at, if_neg (by omega)]), fun c hc => by rw [jcpL_at, if_pos hc], ?_⟩
      rw [zstl, zstl, if_pos hp, if_pos hp]
    · exact ⟨f, hcan, hp, rfl⟩
  have hx0 := xS_new (E.B.app [oL p.2]) hg2
  have hx1 : xS (fz0 τ) (h ++ ([oL p.2] ++ [oS w ((h ++ [oL p.2]).length + 1), aL (jmany w) p.1] ++ [aI (jmany w) ww])) (h ++ [oL p.2]).length (w, g) := by
    have := hx0.kp ((KT_app τ _ [aI (jmany w) ww]).kp rfl)
    rw [List.append_assoc, List.append_assoc, ← List.append_assoc [oL p.2]] at this
    exact this
  rw [hjm, hlen, ← hg3]
  have hc := c_X11_settle (E.app ([oL p.2] ++ [oS w ((h ++ [oL p.2]).length + 1), aL (jmany w) p.1] ++ [aI (jmany w) ww])) hz hr hx1 hg1 (l := h.length) (q := p.2) (by
    rw [List.getElem?_append_right (Nat.le_refl _), Nat.sub_self]
    rfl)
  refine jCt_mono hc ?_
  rintro r' h' H
  obtain ⟨a, b, c⟩ := yx E H
  rw [zstl_1] at a
  exact ⟨a, b, c⟩
theorem jmulE_hi (a : Int64) (w : Nat → Int32) (q : (Nat → Int64) × jLs) : ∀ e k, e ≤ k → (jmulE a w q e).1 k = q.1 k
  | 0, _, _ => rfl
  | e + 1, k, h => by
    rw [jmulE]
    split
    · exact jmulE_hi a w q e k (by omega)
    · rw [jcm_ne _ _ _ (by omega)]
      exact jmulE_hi a w q e k (by omega)
theorem jmulD_hi (n m : Nat) (a : Int64) (c : Nat) (g : Nat → Int64) (q : (Nat → Int64) × jLs) (k : Nat) (h : jmany (n + m) ≤ k) : ∀ d, (jmulD n m a c g q d).1 k = q.1 k
  | 0 => rfl
  | d + 1 => by
    have ih := jmulD_hi n m a c g q k h d
    rw [jmulD]
    split
    · exact ih
    · split
      · exact ih
      · rw [jmulE_hi _ _ _ _ _ h]; exact ih
theorem jmulC_hi (n m : Nat) (f g f0 : Nat → Int64) (k : Nat) (h : jmany (n + m) ≤ k) : ∀ c, (jmulC n m f g f0 c).1 k = f0 k
  | 0 => rfl
  | c + 1 => by
    rw [jmulC, jmulD_hi _ _ _ _ _ _ _ h]
    exact jmulC_hi n m f g f0 k h c
theorem q_multiply {τ : jTg} {h : List jC} {z : zS} (E : EncX τ h z) (hz : zWF z) (x y w : Int32) : jCt jy_X11_multiply [.ref 2, .int x, .int y, .int w] h (xPost h (zmul z x y w).1 (zmul z x y w).2) := by
  obtain ⟨ρ, ω, κ, π, n, t, k, H⟩ := id E
  have e1 := H.1
  by_cases c : ¬ (isReg x ∧ isReg y ∧ isReg w)
  · rw [zmul, if_neg c]
    refine jrun2 (js_X11_multiply _) rfl rfl rfl (fun G hG hW hB => ?_)
    refine hG [] 300 _ _ _ _ _ _ ?_
    conv => whnf
    refine jcall (c_wi x 4 (by decide) h) ?_
    rintro r' h' ⟨rfl, he⟩
    obtain rfl := he.symm
    clear he
    conv => whnf
    refine ⟨fun c1 => ?_, fun c1 => ?_⟩ <;> rw [jbi_0, ← isReg_iff] at c1
    · conv => whnf
      exact xsame E _
    conv => whnf
    refine jcall (c_wi y 4 (by decide) h) ?_
    rintro r' h' ⟨rfl, he⟩
    obtain rfl := he.symm
    clear he
    conv => whnf
    refine ⟨fun c2 => ?_, fun c2 => ?_⟩ <;> rw [jbi_0, ← isReg_iff] at c2
    · conv => whnf
      exact xsame E _
    conv => whnf
    refine jcall (c_wi w 4 (by decide) h) ?_
    rintro r' h' ⟨rfl, he⟩
    obtain rfl := he.symm
    clear he
    conv => whnf
    refine ⟨fun c3 => ?_, fun c3 => ?_⟩ <;> rw [jbi_0, ← isReg_iff] at c3
    · exact absurd ⟨Decidable.not_not.mp c1, Decidable.not_not.mp c2, Decidable.not_not.mp c3⟩ c
    · conv => whnf
      exact xsame E _
  have c := Decidable.not_not.mp c
  rw [zmul, if_pos c]
  obtain ⟨cx, cy, cw⟩ := c
  obtain ⟨hx, hx4⟩ := isReg_nI cx
  obtain ⟨hy, hy4⟩ := isReg_nI cy
  obtain ⟨hw, hw4⟩ := isReg_nI cw
  generalize tn x = r at *
  generalize tn y = a at *
  generalize tn w = b at *
  obtain ⟨fR, kr, ar, gr, h1, h2, h3, h4, h5, h6, h7⟩ := H.reg hy4
  obtain ⟨fR2, kr2, ar2, gr2, g1, g2, g3, g4, g5, g6, g7⟩ := H.reg hw4
  have hca := hz.1 a hy4
  have hcb := hz.1 b hw4
  have hm := jmany_le hca.1
  have hw6a := hca.1
  have hw6b := hcb.1
  have h2l : h.length ≠ 2 := by have := E.B.1; omega
  generalize hΦ : xPost h _ _ = Φ
  refine jrun2 (js_X11_multiply _) rfl rfl rfl (fun G hG hW hB => ?_)
  refine hG [] 300 _ _ _ _ _ _ ?_
  conv => whnf
  refine jcall (c_wi x 4 (by decide) h) ?_
  rintro r' h' ⟨rfl, he⟩
  obtain rfl := he.symm
  clear he
  conv => whnf
  refine ⟨fun c1 => absurd ((isReg_iff x).mp cx) (jbi_0.mp c1), fun _ => ?_⟩
  conv => whnf
  refine jcall (c_wi y 4 (by decide) h) ?_
  rintro r' h' ⟨rfl, he⟩
  obtain rfl := he.symm
  clear he
  conv => whnf
  refine ⟨fun c1 => absurd ((isReg_iff y).mp cy) (jbi_0.mp c1), fun _ => ?_⟩
  conv => whnf
  refine jcall (c_wi w 4 (by decide) h) ?_
  rintro r' h' ⟨rfl, he⟩
  obtain rfl := he.symm
  clear he
  conv => whnf
  refine ⟨fun _ => ?_, fun c1 => absurd ((isReg_iff w).mp cw) (jbi_0.mp c1)⟩
  conv => whnf
  refine ⟨_, e1, ?_⟩
  conv => whnf
  refine ⟨_, _, _, _, _, h1, hy, hy4, h2, ?_⟩
  conv => whnf
  refine ⟨_, h5, ?_⟩
  conv => whnf
  refine ⟨_, e1, ?_⟩
  conv => whnf
  refine ⟨_, _, _, _, _, g1, hw, hw4, g2, ?_⟩
  conv => whnf
  refine ⟨_, g5, ?_⟩
  conv => whnf
  rw [nI_add]
  refine ⟨fun c1 => ?_, fun c1 => ?_⟩ <;> rw [nI_leI (by omega) (by omega)] at c1
  case refine_2 =>
    rw [if_neg c1] at hΦ
    conv => whnf
    rw [← hΦ]
    exact xsame E _
  rw [if_pos c1] at hΦ
  have hzC := zal_C (n := (zR z a).1) (m := (zR z b).1) c1 gr gr2 (fun _ => 0) (jmany (zR z a).1)
  have hzE := zeq_mulC (n := (zR z a).1) (m := (zR z b).1) c1 (f0 := fun _ => 0) (f3 := fun _ => 0) (fun c _ => rfl) g7 (jmany (zR z a).1) h7
  have hcq : zcan ((zR z a).1 + (zR z b).1, (jmulC (zR z a).1 (zR z b).1 (zR z a).2 (zR z b).2 (fun _ => 0) (jmany (zR z a).1)).1) := zcan_mk c1 (fun k k1 k2 => jmulC_hi _ _ _ _ _ k k2 _)
  have hmm := jmany_le c1
  have hset := fun ww => c_settleM (ww := ww) (p := jkC (zR z a).1 (zR z b).1 gr gr2 (fun _ => 0) (jmany (zR z a).1)) E hz hx4 hcq (by
    rcases hzC.2 with q | q
    · left; rw [← hzE.1]; exact q
    · right
      intro c hc
      rw [q c (by omega), hzE.2 c (by omega)]) (hzC.1.trans hzE.1)
  rw [← hx] at hset
  clear hzC hzE
  generalize hp : jkC (zR z a).1 (zR z b).1 gr gr2 (fun _ => 0) (jmany (zR z a).1) = p at hset
  generalize jmulC (zR z a).1 (zR z b).1 (zR z a).2 (zR z b).2 (fun _ => 0) (jmany (zR z a).1) = q at *
  conv => whnf
  refine jcall (c_X3_init (jget_new h _)) ?_
  rintro r h' ⟨rfl, rfl⟩
  conv => whnf
  rw [← oL0]
  refine ⟨_, jget_app e1, ?_⟩
  conv => whnf
  refine ⟨_, _, _, _, _, jget_app h1, hy, hy4, h2, ?_⟩
  conv => whnf
  refine ⟨_, jget_app e1, ?_⟩
  conv => whnf
  refine ⟨_, _, _, _, _, jget_app g1, hw, hw4, g2, ?_⟩
  conv => whnf
  refine ⟨⟨_, jget_app h5⟩, jcall (c_X8_times (jget_app h5) (jget_app h6) (jget_app g5) (jget_app g6) (jget_new h _) c1) ?_⟩
  rintro r' h' ⟨rfl, ww, rfl⟩
  rw [hp]
  conv => whnf
  refine ⟨⟨_, jM_o h2l (jget_app e1)⟩, jcall (hset ww) ?_⟩
  rintro r' h' ⟨rfl, hE, hF⟩
  conv => whnf
  rw [← hΦ]
  exact ⟨by rw [zstl_1], hE, hF⟩
/-- the object's fields are written -/
theorem EncA.mk2 {τ : jTg} {h : List jC} {c0 : jC} {ρ ω κ π : Nat} {n : Int32} {t k : Value} {R : Nat → zReg} {T : List (Nat × zReg)} {o : zOrd} {C : Nat → UInt32} {K : Nat → Option zItm} {W : Nat → Option zRow} {P : zTap} {X : List (Int32 × Int32)} {I : Option zImg} (h2 : h[2]? = some c0) (e2 : xR τ h ρ R) (e3 : xO τ h ω o) (e4 : xC τ h κ C) (e5 : xK τ h π K) (e6 : xW τ h W) (e7 : xP τ h n P) (e8 : xX (fz0 τ) h t X) (e9 : xT τ h T) (e10 : xI τ h k I) (e11 : xB τ h) : EncA τ (h.set 2 (mx ρ ω κ π n t k)) ρ ω κ π n t k (R, T, o, C, K, W, P, X, I) := by
  have KK : KT (fun t => t != 1) τ h τ (h.set 2 (mx ρ ω κ π n t k)) := (KT.refl).set _ (Or.inr (by rw [e11.2.1]; rfl))
  have K0 := KK.kp rfl
  exact ⟨jget_set h2, e2.kt KK rfl rfl, e3.kt KK rfl rfl, e4.kt KK rfl, e5.kt KK rfl rfl, e6.kt KK rfl rfl (fun r hr => by match r, hr with | 0, _ => rfl | 1, _ => rfl | 2, _ => rfl), e7.kt KK rfl, e8.kp K0, e9.kt KK rfl rfl rfl, e10.kt KK rfl rfl, e11.set _ _⟩
theorem t3_ok {S : Nat → Bool} (h10 : S 10 = true) (h11 : S 11 = true) (h12 : S 12 = true) : ∀ r, r < 3 → S (10 + r) = true := by
  intro r hr
  match r, hr with
  | 0, _ => exact h10
  | 1, _ => exact h11
  | 2, _ => exact h12
theorem t09_of {S : Nat → Bool} (h0 : S 0 = true) (h9 : S 9 = true) : ∀ t, t09 t = true → S t = true := by
  intro t ht
  have : t = 0 ∨ t = 9 := by simpa [t09] using ht
  rcases this with rfl | rfl
  · exact h0
  · exact h9
/-- one place is written that is not the reference's -/
theorem xput {τ τ' : jTg} {h h' : List jC} {z z' : zS} (E : EncX τ h z) {S : Nat → Bool} (K : KT S τ h τ' h') (h9 : S 9 = true) (E' : EncX τ' h' z') (res : Value) : xPost h res z' (some res) h' := by
  refine ⟨rfl, ⟨τ', E'⟩, fun k h1 h2 => ?_⟩
  have B := E.B
  have hl : k < h.length := Nat.lt_of_lt_of_le h2 B.1
  have hk := List.getElem?_eq_getElem hl
  rw [hk]
  exact (K k _ hk (by rw [B.2.2.1 k h1 h2]; exact h9)).1
theorem q_wipe {τ : jTg} {h : List jC} {z : zS} (E : EncX τ h z) : jCt jy_X11_wipe [.ref 2] h (xPost h (zwipe z).1 (zwipe z).2) := by
  obtain ⟨ρ, ω, κ, π, n, t, k, H⟩ := id E
  obtain ⟨e1, e2, e3, e4, e5, e6, e7, e8, e9, e10, e11⟩ := id H
  refine jrun2 (js_X11_wipe _) rfl rfl rfl (fun G hG hW hB => ?_)
  refine hG [] 300 _ _ _ _ _ _ ?_
  conv => whnf
  refine ⟨_, e1, ?_⟩
  conv => whnf
  refine ⟨trivial, _, e1, ?_⟩
  conv => whnf
  rw [e7.2.1]
  obtain ⟨a, b, f, hf, hg⟩ := e7
  refine xput E (S := fun t => t != 1) ((KT.refl).set _ (Or.inr (by rw [e11.2.1]; rfl))) rfl ⟨ρ, ω, κ, π, nI 0, t, k, ?_⟩ _
  exact EncA.mk2 e1 e2 e3 e4 e5 e6 ⟨a, rfl, f, hf, fun j hj => absurd hj (Nat.not_lt_zero j)⟩ e8 e9 e10 e11
theorem q_feed {τ : jTg} {h : List jC} {z : zS} (E : EncX τ h z) (hz : zWF z) (x : Int32) : jCt jy_X11_feed [.ref 2, .int x] h (xPost h (zfeed z x).1 (zfeed z x).2) := by
  obtain ⟨ρ, ω, κ, π, n, t, k, H⟩ := id E
  obtain ⟨e1, e2, e3, e4, e5, e6, e7, e8, e9, e10, e11⟩ := id H
  obtain ⟨t10, hn, f, hf, hg⟩ := id e7
  have h80 := hz.2.2.2.2.2.1.1
  have j32 : (nI 32).toInt = 32 := by decide
  have j126 : (nI 126).toInt = 126 := by decide
  generalize hΦ : xPost h _ _ = Φ
  refine jrun2 (js_X11_feed _) rfl rfl rfl (fun G hG hW hB => ?_)
  refine hG [] 300 _ _ _ _ _ _ ?_
  conv => whnf
  refine ⟨fun c => ?_, fun c => ?_⟩ <;> rw [jlt, j32] at c
  · rw [zfeed, if_neg (by omega)] at hΦ
    conv => whnf
    rw [← hΦ]
    exact xsame E _
  conv => whnf
  refine ⟨fun c2 => ?_, fun c2 => ?_⟩ <;> rw [jleI, j126] at c2
  case refine_2 =>
    rw [zfeed, if_neg (by omega)] at hΦ
    conv => whnf
    rw [← hΦ]
    exact xsame E _
  rw [zfeed, if_pos (by omega)] at hΦ
  have hx := tn_eq (x := x) (by omega)
  conv => whnf
  refine ⟨_, e1, ?_⟩
  conv => whnf
  rw [hn]
  refine ⟨_, e1, ?_⟩
  conv => whnf
  refine ⟨_, _, _, hf, ?_⟩
  conv => whnf
  refine ⟨fun c3 => ?_, fun c3 => ?_⟩ <;> rw [nI_ltI (by omega) (by omega)] at c3
  · rw [if_neg (by omega)] at hΦ
    conv => whnf
    refine ⟨_, e1, ?_⟩
    conv => whnf
    refine ⟨_, e1, ?_⟩
    conv => whnf
    refine ⟨_, _, _, hf, hn, (show (zP z).1 < 80 by omega), ?_⟩
    conv => whnf
    have n210 : (10 : Nat) ≠ 2 := by decide
    refine ⟨_, jget_ne n210 e1, ?_⟩
    conv => whnf
    rw [hn, nI_add]
    refine ⟨trivial, _, jget_ne n210 e1, ?_⟩
    conv => whnf
    refine ⟨_, jget_set (jget_ne n210 e1), ?_⟩
    conv => whnf
    rw [← hΦ]
    have K1 : KT (fun t => t != 6) τ h τ (h.set 10 (aI 80 (upd f (zP z).1 x))) := (KT.refl).set _ (Or.inr (by rw [t10]; rfl))
    have K0 := K1.kp rfl
    have KK : KT (fun t => t != 6 && t != 1) τ h τ ((h.set 10 (aI 80 (upd f (zP z).1 x))).set 2 (mx ρ ω κ π (nI ((zP z).1 + 1)) t k)) := ((KT.refl).set _ (Or.inr (by rw [t10]; rfl))).set _ (Or.inr (by rw [e11.2.1]; rfl))
    refine xput E KK rfl ⟨ρ, ω, κ, π, nI ((zP z).1 + 1), t, k, ?_⟩ _
    refine EncA.mk2 (jget_ne n210 e1) (e2.kt K1 rfl rfl) (e3.kt K1 rfl rfl) (e4.kt K1 rfl) (e5.kt K1 rfl rfl) (e6.kt K1 rfl rfl (t3_ok (S := fun t => t != 6) rfl rfl rfl)) ⟨t10, rfl, _, jget_set hf, fun j hj => ?_⟩ (e8.kp K0) (e9.kt K1 rfl rfl rfl) (e10.kt K1 rfl rfl) (e11.set _ _)
    dsimp only at hj ⊢
    unfold upd
    by_cases hj2 : j = (zP z).1
    · rw [if_pos hj2, if_pos hj2]
      exact hx
    · rw [if_neg hj2, if_neg hj2]
      exact hg j (by omega)
  · rw [if_pos (by omega)] at hΦ
    conv => whnf
    rw [← hΦ]
    exact xsame E _
