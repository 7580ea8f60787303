/-! public methods of the class: zero, put, of, fundamental, told -/
theorem c_wi (x : Int32) (n : Nat) (hn : n < 2 ^ 31) (h : List jC) : jCt jy_X11_within [.int x, .int (nI n)] h (fun r h' => r = some (.int (jbi (0 ≤ x.toInt ∧ x.toInt < n))) ∧ h' = h) := by
  refine jCt_mono (c_X11_within x (nI n) h) ?_
  rintro r h' ⟨h1, h2⟩
  refine ⟨?_, h2⟩
  rw [h1, jbi_c (show (0 ≤ x.toInt ∧ x.toInt < (nI n).toInt) ↔ (0 ≤ x.toInt ∧ x.toInt < n) by rw [nI_toInt hn])]
theorem isReg_iff (x : Int32) : isReg x ↔ (0 ≤ x.toInt ∧ x.toInt < (4 : Nat)) := by unfold isReg; omega
theorem isRow_iff (x : Int32) : isRow x ↔ (0 ≤ x.toInt ∧ x.toInt < (3 : Nat)) := by unfold isRow; omega
theorem xS_new {τ : jTg} {h : List jC} (B : xB τ h) {w : Nat} {f g : Nat → Int64} (hg : ∀ c, c < jmany w → g c = f c) : xS (fz0 τ) (h ++ [oS w (h.length + 1), aL (jmany w) g]) h.length (w, f) := ⟨B.2.2.2 _ (Nat.le_refl _), h.length + 1, g, B.2.2.2 _ (by omega), jtwo_s h _ _, jtwo_a h _ _, hg⟩
theorem jNw_eq (h : List jC) (q0 : jLs) (w : Nat) (p : (Nat → Int64) × jLs) : jNw (h ++ [oL q0]) h.length w p = (h ++ [oL p.2]) ++ [oS w ((h ++ [oL p.2]).length + 1), aL (jmany w) p.1] := by
  unfold jNw
  rw [List.set_append_right _ _ (Nat.le_refl _), Nat.sub_self, List.length_append, List.length_append]
  rfl
theorem jcp_can {x : zReg} (hx : zcan x) {f : Nat → Int64} (hf : ∀ c, c < jmany x.1 → f c = x.2 c) : ∀ c, c < 32 → jcpL (fun _ => 0) f (jmany x.1) c = x.2 c := by
  intro c hc
  rw [jcpL_at]
  split
  · rename_i h1
    exact hf c h1
  · rename_i h1
    rw [hx.2 c hc (by omega)]
theorem oL0 : oL (false, nI 0) = .inr (2, [.int (nI 0), .int (nI 0)]) := rfl
/-- a register as the class holds it -/
theorem EncA.reg {τ : jTg} {h : List jC} {ρ ω κ π : Nat} {n : Int32} {t k : Value} {z : zS} (H : EncA τ h ρ ω κ π n t k z) {r : Nat} (hr : r < 4) : ∃ fR kr ar gr, h[ρ]? = some (aO "QuasiSums$Sum" 4 fR) ∧ fR r = some kr ∧ fz0 τ kr ∧ fz0 τ ar ∧ h[kr]? = some (oS (zR z r).1 ar) ∧ h[ar]? = some (aL (jmany (zR z r).1) gr) ∧ ∀ c, c < jmany (zR z r).1 → gr c = (zR z r).2 c := by
  obtain ⟨fR, h1, h2⟩ := H.2.1.2
  obtain ⟨kr, h3, h4, ar, gr, h5, h6, h7, h8⟩ := h2 r hr
  exact ⟨fR, kr, ar, gr, h1, h3, h4, h5, h6, h7, h8⟩
theorem c_X11_isNumber {τ : jTg} {h : List jC} {ρ ω κ π : Nat} {n : Int32} {t k : Value} {z : zS} (H : EncA τ h ρ ω κ π n t k z) (hz : zWF z) (x c : Int32) : jCt jy_X11_isNumber [.ref 2, .int x, .int c] h (fun r h' => r = some (.int (jbi (isNum z x c))) ∧ h' = h) := by
  have no : ¬ isNum z x c → ∀ w, w = nI 0 → (w = nI 0 ∨ w = nI 1) ∧ some (Value.int w) = some (.int (jbi (isNum z x c))) ∧ h = h := fun hn w hw => ⟨Or.inl hw, by rw [jbi_f hn, hw], rfl⟩
  refine jrun2 (js_X11_isNumber _) rfl rfl rfl (fun G hG hW hB => ?_)
  refine hG [] 300 _ _ _ _ _ _ ?_
  conv => whnf
  refine jcall (c_wi x 4 (by decide) h) ?_
  rintro r' h' ⟨rfl, he⟩
  obtain rfl := he.symm
  clear he
  conv => whnf
  refine ⟨fun c1 => ?_, fun c1 => ?_⟩ <;> rw [jbi_0, ← isReg_iff] at c1
  · conv => whnf
    exact no (fun q => c1 q.1) _ rfl
  have c1 := Decidable.not_not.mp c1
  obtain ⟨hx, hx4⟩ := isReg_nI c1
  obtain ⟨fR, kr, ar, gr, h1, h2, h3, h4, h5, h6, h7⟩ := H.reg hx4
  have hm := jmany_le (hz.1 _ hx4).1
  conv => whnf
  refine ⟨_, H.1, ?_⟩
  conv => whnf
  refine ⟨_, _, _, _, _, h1, hx, hx4, h2, ?_⟩
  conv => whnf
  refine ⟨_, h5, ?_⟩
  conv => whnf
  refine ⟨_, _, _, h6, ?_⟩
  conv => whnf
  refine jcall (c_wi c _ (by omega) h) ?_
  rintro r' h' ⟨rfl, he⟩
  obtain rfl := he.symm
  clear he
  conv => whnf
  refine ⟨fun c2 => ?_, fun c2 => ?_⟩ <;> rw [jbi_0] at c2
  · conv => whnf
    exact no (fun q => c2 q.2) _ rfl
  · conv => whnf
    exact ⟨Or.inr rfl, by rw [jbi_t ⟨c1, Decidable.not_not.mp c2⟩], rfl⟩
theorem c_X10_init {h : List jC} {s : Nat} {a b c : Value} (hs : h[s]? = some (.inr (9, [a, b, c]))) (x y : Int32) {w : Value} (hw : w = .null ∨ ∃ k, w = .ref k) : jCt jy_X10_init [.ref s, .int x, .int y, w] h (fun r' h' => r' = none ∧ h' = h.set s (.inr (9, [.int x, .int y, w]))) := by
  rcases hw with rfl | ⟨k, rfl⟩
  · refine jrun2 (js_X10_init _) rfl rfl rfl (fun G hG hW hB => ?_)
    refine hG [] 300 _ _ _ _ _ _ ?_
    conv => whnf
    refine ⟨trivial, _, hs, ?_⟩
    conv => whnf
    refine ⟨trivial, _, jget_set hs, ?_⟩
    conv => whnf
    refine ⟨trivial, _, jget_set (jget_set hs), ?_⟩
    conv => whnf
    rw [List.set_set, List.set_set]
    exact ⟨rfl, rfl⟩
  · refine jrun2 (js_X10_init _) rfl rfl rfl (fun G hG hW hB => ?_)
    refine hG [] 300 _ _ _ _ _ _ ?_
    conv => whnf
    refine ⟨trivial, _, hs, ?_⟩
    conv => whnf
    refine ⟨trivial, _, jget_set hs, ?_⟩
    conv => whnf
    refine ⟨trivial, _, jget_set (jget_set hs), ?_⟩
    conv => whnf
    rw [List.set_set, List.set_set]
    exact ⟨rfl, rfl⟩
/-- the object's field is written: reasons -/
theorem EncA.trb {τ : jTg} {h : List jC} {ρ ω κ π : Nat} {n : Int32} {t k : Value} {z : zS} (H : EncA τ h ρ ω κ π n t k z) {t' : Value} {x : List (Int32 × Int32)} (hx : xX (fz0 τ) h t' x) : EncA τ (h.set 2 (mx ρ ω κ π n t' k)) ρ ω κ π n t' k (zset z x) := by
  obtain ⟨e1, e2, e3, e4, e5, e6, e7, e8, e9, e10, e11⟩ := H
  have K : KT (fun t => t != 1) τ h τ (h.set 2 (mx ρ ω κ π n t' k)) := (KT.refl).set _ (Or.inr (by rw [e11.2.1]; rfl))
  have K0 := K.kp rfl
  exact ⟨jget_set e1, e2.kt K rfl rfl, e3.kt K rfl rfl, e4.kt K rfl, e5.kt K rfl rfl, e6.kt K rfl rfl (fun r hr => by match r, hr with | 0, _ => rfl | 1, _ => rfl | 2, _ => rfl), e7.kt K rfl, hx.kp K0, e9.kt K rfl rfl rfl, e10.kt K rfl rfl, e11.set _ _⟩
theorem t09_1 : ∀ t, t09 t = true → (fun t => t != 1) t = true := by
  intro t ht
  have : t = 0 ∨ t = 9 := by simpa [t09] using ht
  rcases this with rfl | rfl <;> rfl
theorem c_X11_tellOver {τ : jTg} {h : List jC} {z : zS} (E : EncX τ h z) {l : Nat} {q : jLs} (hl : h[l]? = some (oL q)) : jCt jy_X11_tellOver [.ref 2, .ref l] h (yPost τ h none (zset z [(nI 4, q.2)])) := by
  obtain ⟨ρ, ω, κ, π, n, t, k, H⟩ := id E
  have e1 := H.1
  have B := E.B
  refine jrun2 (js_X11_tellOver _) rfl rfl rfl (fun G hG hW hB => ?_)
  refine hG [] 300 _ _ _ _ _ _ ?_
  conv => whnf
  refine ⟨_, jget_app hl, ?_⟩
  conv => whnf
  refine jcall (c_X10_init (jget_new h _) (nI 4) q.2 (Or.inl rfl)) ?_
  rintro r h' ⟨rfl, rfl⟩
  have hst : (h ++ [(.inr (9, [.int (nI 0), .int (nI 0), .null]) : jC)]).set h.length (.inr (9, [.int (nI 4), .int q.2, .null])) = h ++ [.inr (9, [.int (nI 4), .int q.2, .null])] := by
    rw [List.set_append_right _ _ (Nat.le_refl _), Nat.sub_self]
    rfl
  rw [hst]
  have Ha := H.app [(.inr (9, [.int (nI 4), .int q.2, .null]) : jC)]
  conv => whnf
  refine ⟨trivial, _, jget_app e1, ?_⟩
  conv => whnf
  refine ⟨rfl, τ, ⟨ρ, ω, κ, π, n, _, k, Ha.trb (t' := .ref h.length) (x := [(nI 4, q.2)]) ⟨h.length, .null, rfl, B.2.2.2 _ (Nat.le_refl _), jget_new h _, rfl⟩⟩, ?_⟩
  exact (((KT.refl (S := fun t => t != 1)).app _).set _ (Or.inr (by rw [B.2.1]; rfl))).mono t09_1
theorem c_X11_settle {τ : jTg} {h : List jC} {z : zS} (E : EncX τ h z) (hz : zWF z) {r : Nat} (hr : r < 4) {b : Nat} {x : zReg} (hb : xS (fz0 τ) h b x) (hx : zcan x) {l : Nat} {q : jLs} (hl : h[l]? = some (oL q)) : jCt jy_X11_settle [.ref 2, .int (nI r), .ref b, .ref l] h (yPost τ h (some (zstl z r x q (nI x.1)).1) (zstl z r x q (nI x.1)).2) := by
  have ⟨ρ, ω, κ, π, n, t, k, H⟩ := id E
  have e1 := H.1
  obtain ⟨hb0, ab, gb, hb1, hbs, hba, hbg⟩ := id hb
  refine jrun2 (js_X11_settle _) rfl rfl rfl (fun G hG hW hB => ?_)
  refine hG [] 300 _ _ _ _ _ _ ?_
  conv => whnf
  refine ⟨_, hl, ?_⟩
  conv => whnf
  refine ⟨fun c => ?_, fun c => ?_⟩ <;> rw [jbi_0] at c
  · rw [zstl, if_neg c] at hG ⊢
    conv => whnf
    refine ⟨⟨_, e1⟩, jcall (c_X11_become E hz hr hb hx) ?_⟩
    rintro r' h' ⟨rfl, τ', E', K'⟩
    conv => whnf
    refine ⟨_, (K' _ _ hbs (by rw [show τ b = 0 from hb0]; rfl)).1, ?_⟩
    conv => whnf
    exact ⟨rfl, τ', E', K'⟩
  · rw [zstl, if_pos (Decidable.not_not.mp c)] at hG ⊢
    conv => whnf
    refine ⟨⟨_, e1⟩, jcall (c_X11_tellOver E hl) ?_⟩
    rintro r' h' ⟨rfl, τ', E', K'⟩
    conv => whnf
    exact ⟨rfl, τ', E', K'⟩
def zans (z : zS) (v : Int64) (q : jLs) : Value × zS := if q.1 = true then (.long (-9223372036854775808), zset z [(nI 4, q.2)]) else (.long v, z)
theorem c_X11_answer {τ : jTg} {h : List jC} {z : zS} (E : EncX τ h z) {l : Nat} {q : jLs} (hl : h[l]? = some (oL q)) (v : Int64) : jCt jy_X11_answer [.ref 2, .long v, .ref l] h (yPost τ h (some (zans z v q).1) (zans z v q).2) := by
  obtain ⟨ρ, ω, κ, π, n, t, k, H⟩ := id E
  have e1 := H.1
  refine jrun2 (js_X11_answer _) rfl rfl rfl (fun G hG hW hB => ?_)
  refine hG [] 300 _ _ _ _ _ _ ?_
  conv => whnf
  refine ⟨_, hl, ?_⟩
  conv => whnf
  refine ⟨fun c => ?_, fun c => ?_⟩ <;> rw [jbi_0] at c
  · rw [zans, if_neg c] at hG ⊢
    conv => whnf
    exact ⟨rfl, τ, E, KT.refl⟩
  · rw [zans, if_pos (Decidable.not_not.mp c)] at hG ⊢
    conv => whnf
    refine ⟨⟨_, e1⟩, jcall (c_X11_tellOver E hl) ?_⟩
    rintro r' h' ⟨rfl, τ', E', K'⟩
    conv => whnf
    exact ⟨rfl, τ', E', K'⟩
theorem yx {τ : jTg} {h ap : List jC} {res : Value} {z z2 : zS} {r : Option Value} {h' : List jC} (E : EncX τ h z2) (H : yPost τ (h ++ ap) (some res) z r h') : xPost h res z r h' := by
  obtain ⟨h1, τ', E', K⟩ := H
  refine ⟨h1, ⟨τ', E'⟩, fun k k1 k2 => ?_⟩
  rw [K.nine (E.B.app ap) k1 k2]
  exact List.getElem?_append_left (Nat.lt_of_lt_of_le k2 E.B.1)
theorem q_zero {τ : jTg} {h : List jC} {z : zS} (E : EncX τ h z) (hz : zWF z) (x y : Int32) : jCt jy_X11_zero [.ref 2, .int x, .int y] h (xPost h (zzero z x y).1 (zzero z x y).2) := by
  obtain ⟨ρ, ω, κ, π, n, t, k, H⟩ := id E
  have e1 := H.1
  by_cases c : ¬ (isReg x ∧ 0 ≤ y.toInt ∧ y.toInt ≤ 6)
  · rw [zzero, if_neg c]
    refine jrun2 (js_X11_zero _) rfl rfl rfl (fun G hG hW hB => ?_)
    refine hG [] 300 _ _ _ _ _ _ ?_
    conv => whnf
    refine jcall (c_wi x 4 (by decide) h) ?_
    rintro r' h' ⟨rfl, he⟩
    obtain rfl := he.symm
    clear he
    conv => whnf
    refine ⟨fun c1 => ?_, fun c1 => ?_⟩ <;> rw [jbi_0, ← isReg_iff] at c1
    · conv => whnf
      exact xsame E _
    · conv => whnf
      refine jcall (c_wi y 7 (by decide) h) ?_
      rintro r' h' ⟨rfl, he⟩
      obtain rfl := he.symm
      clear he
      conv => whnf
      refine ⟨fun c2 => ?_, fun c2 => ?_⟩ <;> rw [jbi_0] at c2
      · exact absurd ⟨Decidable.not_not.mp c1, by omega⟩ c
      · conv => whnf
        exact xsame E _
  have c := Decidable.not_not.mp c
  rw [zzero, if_pos c]
  obtain ⟨hx, hx4⟩ := isReg_nI c.1
  have hy := tn_eq c.2.1
  have hy6 : tn y ≤ 6 := by unfold tn; omega
  generalize tn x = r at *
  generalize tn y = w at *
  obtain ⟨fR, kr, ar, gr, h1, h2, h3, h4, h5, h6, h7⟩ := H.reg hx4
  generalize hΦ : xPost h _ _ = Φ
  refine jrun2 (js_X11_zero _) rfl rfl rfl (fun G hG hW hB => ?_)
  refine hG [] 300 _ _ _ _ _ _ ?_
  conv => whnf
  refine jcall (c_wi x 4 (by decide) h) ?_
  rintro r' h' ⟨rfl, he⟩
  obtain rfl := he.symm
  clear he
  conv => whnf
  refine ⟨fun c1 => absurd ((isReg_iff x).mp c.1) (jbi_0.mp c1), fun _ => ?_⟩
  conv => whnf
  refine jcall (c_wi y 7 (by decide) h) ?_
  rintro r' h' ⟨rfl, he⟩
  obtain rfl := he.symm
  clear he
  conv => whnf
  refine ⟨fun _ => ?_, fun c1 => absurd (show 0 ≤ y.toInt ∧ y.toInt < (7 : Nat) by omega) (jbi_0.mp c1)⟩
  conv => whnf
  refine ⟨_, e1, ?_⟩
  conv => whnf
  refine ⟨_, _, _, _, _, h1, hx, hx4, h2, ?_⟩
  conv => whnf
  refine ⟨_, h5, ?_⟩
  conv => whnf
  rw [hy]
  refine jcall (c_X8_init hy6 (jget_new h _)) ?_
  rintro r h' ⟨rfl, rfl⟩
  rw [List.length_append, List.length_singleton, jnew2]
  have hc := c_X11_become (E.app [oS w (h.length + 1), aL (jmany w) (fun _ => 0)]) hz hx4 (xS_new E.B (fun c _ => rfl)) (x := (w, fun _ => 0)) ⟨hy6, fun c _ _ => rfl⟩
  rw [← hx] at hc
  conv => whnf
  refine ⟨⟨_, jget_apl e1⟩, jcall hc ?_⟩
  rintro r' h' ⟨rfl, τ', E', K'⟩
  conv => whnf
  rw [← hΦ]
  exact yx E ⟨rfl, τ', E', K'⟩
theorem zcan_upd {x : zReg} (hx : zcan x) {c : Nat} (hc : c < jmany x.1) (v : Int64) : zcan (x.1, vp_updL x.2 c v) := by
  refine ⟨hx.1, fun k h1 h2 => ?_⟩
  show vp_updL x.2 c v k = 0
  unfold vp_updL
  dsimp only at h2
  rw [if_neg (by omega)]
  exact hx.2 k h1 h2
theorem q_put {τ : jTg} {h : List jC} {z : zS} (E : EncX τ h z) (hz : zWF z) (x y : Int32) (v : Int64) : jCt jy_X11_put [.ref 2, .int x, .int y, .long v] h (xPost h (zput z x y v).1 (zput z x y v).2) := by
  obtain ⟨ρ, ω, κ, π, n, t, k, H⟩ := id E
  have e1 := H.1
  by_cases c : ¬ isNum z x y
  · rw [zput, if_neg c]
    refine jrun2 (js_X11_put _) rfl rfl rfl (fun G hG hW hB => ?_)
    refine hG [] 300 _ _ _ _ _ _ ?_
    conv => whnf
    refine ⟨⟨_, e1⟩, jcall (c_X11_isNumber H hz x y) ?_⟩
    rintro r' h' ⟨rfl, he⟩
    obtain rfl := he.symm
    clear he
    conv => whnf
    refine ⟨fun c1 => absurd (jbi_f c) c1, fun _ => ?_⟩
    conv => whnf
    exact xsame E _
  have c := Decidable.not_not.mp c
  rw [zput, if_pos c]
  obtain ⟨hx, hx4⟩ := isReg_nI c.1
  have hy := tn_eq c.2.1
  have hyl : tn y < jmany (zR z (tn x)).1 := tn_lt c.2.1 c.2.2
  have hN := c_X11_isNumber H hz x y
  rw [jbi_t c] at hN
  clear c
  generalize tn x = r at *
  generalize tn y = e at *
  obtain ⟨fR, kr, ar, gr, h1, h2, h3, h4, h5, h6, h7⟩ := H.reg hx4
  have hcan := hz.1 r hx4
  have hm := jmany_le hcan.1
  generalize hΦ : xPost h _ _ = Φ
  refine jrun2 (js_X11_put _) rfl rfl rfl (fun G hG hW hB => ?_)
  refine hG [] 300 _ _ _ _ _ _ ?_
  conv => whnf
  refine ⟨⟨_, e1⟩, jcall (hN) ?_⟩
  rintro r' h' ⟨rfl, he⟩
  obtain rfl := he.symm
  clear he
  conv => whnf
  refine ⟨fun _ => ?_, fun c1 => absurd c1 nI_10⟩
  conv => whnf
  refine ⟨_, e1, ?_⟩
  conv => whnf
  refine ⟨_, _, _, _, _, h1, hx, hx4, h2, ?_⟩
  conv => whnf
  rw [hy]
  refine ⟨⟨_, h5⟩, jcall (c_X8_withNumber h5 h6 hcan.1 hyl v) ?_⟩
  rintro r' h' ⟨rfl, rfl⟩
  have hc := c_X11_become (E.app [oS (zR z r).1 (h.length + 1), aL (jmany (zR z r).1) (vp_updL (jcpL (fun _ => 0) gr (jmany (zR z r).1)) e v)]) hz hx4 (xS_new E.B (f := vp_updL (zR z r).2 e v) (fun c hc => by
    unfold vp_updL
    split
    · rfl
    · exact jcp_can hcan h7 c (by omega))) (zcan_upd hcan hyl v)
  rw [← hx] at hc
  conv => whnf
  refine ⟨⟨_, jget_apl e1⟩, jcall hc ?_⟩
  rintro r' h' ⟨rfl, τ', E', K'⟩
  conv => whnf
  rw [← hΦ]
  exact yx E ⟨rfl, τ', E', K'⟩
theorem q_of {τ : jTg} {h : List jC} {z : zS} (E : EncX τ h z) (hz : zWF z) (x y : Int32) : jCt jy_X11_of [.ref 2, .int x, .int y] h (xPost h (zof z x y) z) := by
  obtain ⟨ρ, ω, κ, π, n, t, k, H⟩ := id E
  have e1 := H.1
  by_cases c : ¬ isNum z x y
  · rw [zof, if_neg c]
    refine jrun2 (js_X11_of _) rfl rfl rfl (fun G hG hW hB => ?_)
    refine hG [] 300 _ _ _ _ _ _ ?_
    conv => whnf
    refine ⟨⟨_, e1⟩, jcall (c_X11_isNumber H hz x y) ?_⟩
    rintro r' h' ⟨rfl, he⟩
    obtain rfl := he.symm
    clear he
    conv => whnf
    refine ⟨fun _ => ?_, fun c1 => absurd (jbi_f c) c1⟩
    conv => whnf
    exact xsame E _
  have c := Decidable.not_not.mp c
  rw [zof, if_pos c]
  obtain ⟨hx, hx4⟩ := isReg_nI c.1
  have hy := tn_eq c.2.1
  have hyl : tn y < jmany (zR z (tn x)).1 := tn_lt c.2.1 c.2.2
  have hN := c_X11_isNumber H hz x y
  rw [jbi_t c] at hN
  clear c
  generalize tn x = r at *
  generalize tn y = e at *
  obtain ⟨fR, kr, ar, gr, h1, h2, h3, h4, h5, h6, h7⟩ := H.reg hx4
  have hm := jmany_le (hz.1 r hx4).1
  have hat := c_X8_at h5 h6 hyl hm.2
  rw [h7 e hyl] at hat
  refine jrun2 (js_X11_of _) rfl rfl rfl (fun G hG hW hB => ?_)
  refine hG [] 300 _ _ _ _ _ _ ?_
  conv => whnf
  refine ⟨⟨_, e1⟩, jcall (hN) ?_⟩
  rintro r' h' ⟨rfl, he⟩
  obtain rfl := he.symm
  clear he
  conv => whnf
  refine ⟨fun c1 => absurd c1 nI_10, fun _ => ?_⟩
  conv => whnf
  refine ⟨_, e1, ?_⟩
  conv => whnf
  refine ⟨_, _, _, _, _, h1, hx, hx4, h2, ?_⟩
  conv => whnf
  rw [hy]
  refine ⟨⟨_, h5⟩, jcall (hat) ?_⟩
  rintro r' h' ⟨rfl, he⟩
  obtain rfl := he.symm
  clear he
  conv => whnf
  exact xsame E _
