/-! the class: fundamental, sum, antipode, inF, counts, told -/
theorem jcm_ne (q : (Nat → Int64) × jLs) (c : Nat) (v : Int64) {k : Nat} (h : k ≠ c) : (jcm q c v).1 k = q.1 k := by
  unfold jcm vp_updL
  dsimp only
  rw [if_neg h]
theorem jfin_hi (c : Nat) (v : Int64) (q : (Nat → Int64) × jLs) : ∀ e k, e ≤ k → (jfin c v q e).1 k = q.1 k
  | 0, _, _ => rfl
  | e + 1, k, h => by
    rw [jfin]
    split
    · rw [jcm_ne _ _ _ (by omega)]; exact jfin_hi c v q e k (by omega)
    · exact jfin_hi c v q e k (by omega)
theorem jsm_hi (f g f0 : Nat → Int64) : ∀ e k, e ≤ k → (jsm f g f0 e).1 k = f0 k
  | 0, _, _ => rfl
  | e + 1, k, h => by
    rw [jsm]
    dsimp only
    unfold vp_updL
    rw [if_neg (by omega)]
    exact jsm_hi f g f0 e k (by omega)
theorem jco_hi (t : Nat) (v : Int64) (q : (Nat → Int64) × jLs) : ∀ e k, e ≤ k → (jco t v q e).1 k = q.1 k
  | 0, _, _ => rfl
  | e + 1, k, h => by
    rw [jco]
    split
    · rw [jcm_ne _ _ _ (by omega)]; exact jco_hi t v q e k (by omega)
    · exact jco_hi t v q e k (by omega)
theorem jan_hi (f : Nat → Int64) (n m : Nat) (f0 : Nat → Int64) : ∀ e k, m ≤ k → (jan f n m f0 e).1 k = f0 k
  | 0, _, _ => rfl
  | e + 1, k, h => by
    rw [jan]
    split
    · rw [jco_hi _ _ _ m k h]; exact jan_hi f n m f0 e k h
    · rw [jco_hi _ _ _ m k h]; exact jan_hi f n m f0 e k h
theorem zcan_mk {w : Nat} {f : Nat → Int64} (h6 : w ≤ 6) (h : ∀ c, c < 32 → jmany w ≤ c → f c = 0) : zcan (w, f) := ⟨h6, h⟩
theorem zstl_1 (z : zS) (r : Nat) (x : zReg) (q : jLs) (a : Int32) : (zstl z r x q a).1 = .int (if q.1 = true then -9 else a) := by
  unfold zstl
  split <;> rfl
theorem zans_1 (z : zS) (v : Int64) (q : jLs) : (zans z v q).1 = .long (if q.1 = true then -9223372036854775808 else v) := by
  unfold zans
  split <;> rfl
theorem c_settleN {τ : jTg} {h : List jC} {z : zS} (E : EncX τ h z) (hz : zWF z) {r : Nat} (hr : r < 4) {w : Nat} {f : Nat → Int64} {p : (Nat → Int64) × jLs} {q : jLs} (hcan : zcan (w, f)) (hp : ∀ c, c < jmany w → p.1 c = f c) (hq : p.2 = q) : jCt jy_X11_settle [.ref 2, .int (nI r), .ref (h ++ [oL (false, nI 0)]).length, .ref h.length] (jNw (h ++ [oL (false, nI 0)]) h.length w p) (fun r' h' => r' = some (.int (if q.1 = true then -9 else nI w)) ∧ (∃ τ', EncX τ' h' (zstl z r (w, f) q (nI w)).2) ∧ ∀ k, 20 ≤ k → k < 53 → h'[k]? = h[k]?) := by
  subst hq
  have hlen : (h ++ [oL (false, nI 0)]).length = (h ++ [oL p.2]).length := by rw [List.length_append, List.length_append]; rfl
  rw [jNw_eq, hlen]
  have hc := c_X11_settle ((E.app [oL p.2]).app [oS w ((h ++ [oL p.2]).length + 1), aL (jmany w) p.1]) hz hr (xS_new (E.B.app _) hp) hcan (l := h.length) (q := p.2) (jget_apl (jget_new h _))
  refine jCt_mono hc ?_
  rintro r' h' H
  rw [List.append_assoc] at H
  obtain ⟨a, b, c⟩ := yx E H
  rw [zstl_1] at a
  exact ⟨a, b, c⟩
theorem c_answerN {τ : jTg} {h : List jC} {z : zS} (E : EncX τ h z) {q : jLs} (v : Int64) : jCt jy_X11_answer [.ref 2, .long v, .ref h.length] (h ++ [oL q]) (fun r' h' => r' = some (.long (if q.1 = true then -9223372036854775808 else v)) ∧ (∃ τ', EncX τ' h' (zans z v q).2) ∧ ∀ k, 20 ≤ k → k < 53 → h'[k]? = h[k]?) := by
  have hc := c_X11_answer (E.app [oL q]) (l := h.length) (q := q) (jget_new h _) v
  refine jCt_mono hc ?_
  rintro r' h' H
  obtain ⟨a, b, c⟩ := yx E H
  rw [zans_1] at a
  exact ⟨a, b, c⟩
theorem jnot9 : ∀ w, w < 20 → ¬ nI w = -9 := by decide
theorem q_fundamental {τ : jTg} {h : List jC} {z : zS} (E : EncX τ h z) (hz : zWF z) (x y : Int32) (v : Int64) : jCt jy_X11_fundamental [.ref 2, .int x, .int y, .long v] h (xPost h (zfund z x y v).1 (zfund z x y v).2) := by
  obtain ⟨ρ, ω, κ, π, n, t, k, H⟩ := id E
  have e1 := H.1
  by_cases c : ¬ isNum z x y
  · rw [zfund, if_neg c]
    refine jrun2 (js_X11_fundamental _) rfl rfl rfl (fun G hG hW hB => ?_)
    refine hG [] 300 _ _ _ _ _ _ ?_
    conv => whnf
    refine ⟨⟨_, e1⟩, jcall (c_X11_isNumber H hz x y) ?_⟩
    rintro r' h' ⟨rfl, he⟩
    obtain rfl := he.symm
    clear he
    conv => whnf
    refine ⟨fun c1 => absurd (jbi_f c) c1, fun _ => ?_⟩
    conv => whnf
    exact xsame E _
  have c := Decidable.not_not.mp c
  rw [zfund, if_pos c]
  obtain ⟨hx, hx4⟩ := isReg_nI c.1
  have hy := tn_eq c.2.1
  have hyl : tn y < jmany (zR z (tn x)).1 := tn_lt c.2.1 c.2.2
  have hN := c_X11_isNumber H hz x y
  rw [jbi_t c] at hN
  clear c
  generalize tn x = r at *
  generalize tn y = e at *
  obtain ⟨fR, kr, ar, gr, h1, h2, h3, h4, h5, h6, h7⟩ := H.reg hx4
  have hcan := hz.1 r hx4
  have hm := jmany_le hcan.1
  have h2l : h.length ≠ 2 := by have := E.B.1; omega
  have hze := zeq_jfin (q := (jcpL (fun _ => 0) gr (jmany (zR z r).1), (false, nI 0))) (p := ((zR z r).2, (false, nI 0))) ⟨rfl, fun c hc => jcp_can hcan h7 c hc⟩ e v (jmany (zR z r).1) hm.2
  have hcq : zcan ((zR z r).1, (jfin e v ((zR z r).2, (false, nI 0)) (jmany (zR z r).1)).1) := zcan_mk hcan.1 (fun k k1 k2 => (jfin_hi e v _ _ k k2).trans (hcan.2 k k1 k2))
  have hset := c_settleN E hz hx4 hcq (fun c hc => hze.2 c (by omega)) hze.1
  rw [← hx] at hset
  generalize hp : jfin e v (jcpL (fun _ => 0) gr (jmany (zR z r).1), (false, nI 0)) (jmany (zR z r).1) = p at hset
  clear hze
  dsimp only
  generalize jfin e v ((zR z r).2, (false, nI 0)) (jmany (zR z r).1) = q at *
  generalize hΦ : xPost h _ _ = Φ
  refine jrun2 (js_X11_fundamental _) rfl rfl rfl (fun G hG hW hB => ?_)
  refine hG [] 300 _ _ _ _ _ _ ?_
  conv => whnf
  refine ⟨⟨_, e1⟩, jcall (hN) ?_⟩
  rintro r' h' ⟨rfl, he⟩
  obtain rfl := he.symm
  clear he
  conv => whnf
  refine ⟨fun _ => ?_, fun c1 => absurd c1 nI_10⟩
  conv => whnf
  refine jcall (c_X3_init (jget_new h _)) ?_
  rintro r h' ⟨rfl, rfl⟩
  conv => whnf
  rw [← oL0]
  refine ⟨_, jget_app e1, ?_⟩
  conv => whnf
  refine ⟨_, _, _, _, _, jget_app h1, hx, hx4, h2, ?_⟩
  conv => whnf
  rw [hy]
  refine ⟨⟨_, jget_app h5⟩, jcall (c_X8_withFundamental (q := (false, nI 0)) (jget_app h5) (jget_app h6) (jget_new h _) hcan.1 e v) ?_⟩
  rintro r' h' ⟨rfl, rfl⟩
  rw [hp]
  conv => whnf
  refine ⟨⟨_, jNw_o h2l (jget_app e1)⟩, jcall hset ?_⟩
  rintro r' h' ⟨rfl, hE, hF⟩
  conv => whnf
  by_cases hq : q.2.1 = true
  · rw [zstl, if_pos hq] at hE
    rw [if_pos hq] at hΦ
    refine ⟨fun c3 => absurd (if_pos hq) c3, fun _ => ?_⟩
    conv => whnf
    rw [← hΦ]
    exact ⟨rfl, hE, hF⟩
  · rw [zstl, if_neg hq] at hE
    rw [if_neg hq] at hΦ
    refine ⟨fun _ => ?_, fun c3 => ?_⟩
    · conv => whnf
      rw [← hΦ]
      exact ⟨rfl, hE, hF⟩
    · rw [if_neg hq] at c3
      have := hcan.1
      exact absurd c3 (jnot9 _ (by omega))

theorem q_sum {τ : jTg} {h : List jC} {z : zS} (E : EncX τ h z) (hz : zWF z) (x y w : Int32) : jCt jy_X11_sum [.ref 2, .int x, .int y, .int w] h (xPost h (zsum z x y w).1 (zsum z x y w).2) := by
  obtain ⟨ρ, ω, κ, π, n, t, k, H⟩ := id E
  have e1 := H.1
  by_cases c : ¬ (isReg x ∧ isReg y ∧ isReg w)
  · rw [zsum, if_neg c]
    refine jrun2 (js_X11_sum _) rfl rfl rfl (fun G hG hW hB => ?_)
    refine hG [] 300 _ _ _ _ _ _ ?_
    conv => whnf
    refine jcall (c_wi x 4 (by decide) h) ?_
    rintro r' h' ⟨rfl, he⟩
    obtain rfl := he.symm
    clear he
    conv => whnf
    refine ⟨fun c1 => ?_, fun c1 => ?_⟩ <;> rw [jbi_0, ← isReg_iff] at c1
    · conv => whnf
      exact xsame E _
    conv => whnf
    refine jcall (c_wi y 4 (by decide) h) ?_
    rintro r' h' ⟨rfl, he⟩
    obtain rfl := he.symm
    clear he
    conv => whnf
    refine ⟨fun c2 => ?_, fun c2 => ?_⟩ <;> rw [jbi_0, ← isReg_iff] at c2
    · conv => whnf
      exact xsame E _
    conv => whnf
    refine jcall (c_wi w 4 (by decide) h) ?_
    rintro r' h' ⟨rfl, he⟩
    obtain rfl := he.symm
    clear he
    conv => whnf
    refine ⟨fun c3 => ?_, fun c3 => ?_⟩ <;> rw [jbi_0, ← isReg_iff] at c3
    · exact absurd ⟨Decidable.not_not.mp c1, Decidable.not_not.mp c2, Decidable.not_not.mp c3⟩ c
    · conv => whnf
      exact xsame E _
  have c := Decidable.not_not.mp c
  rw [zsum, if_pos c]
  obtain ⟨cx, cy, cw⟩ := c
  obtain ⟨hx, hx4⟩ := isReg_nI cx
  obtain ⟨hy, hy4⟩ := isReg_nI cy
  obtain ⟨hw, hw4⟩ := isReg_nI cw
  generalize tn x = r at *
  generalize tn y = a at *
  generalize tn w = b at *
  obtain ⟨fR, kr, ar, gr, h1, h2, h3, h4, h5, h6, h7⟩ := H.reg hy4
  obtain ⟨fR2, kr2, ar2, gr2, g1, g2, g3, g4, g5, g6, g7⟩ := H.reg hw4
  have hca := hz.1 a hy4
  have hcb := hz.1 b hw4
  have hm := jmany_le hca.1
  have h2l : h.length ≠ 2 := by have := E.B.1; omega
  generalize hΦ : xPost h _ _ = Φ
  refine jrun2 (js_X11_sum _) rfl rfl rfl (fun G hG hW hB => ?_)
  refine hG [] 300 _ _ _ _ _ _ ?_
  conv => whnf
  refine jcall (c_wi x 4 (by decide) h) ?_
  rintro r' h' ⟨rfl, he⟩
  obtain rfl := he.symm
  clear he
  conv => whnf
  refine ⟨fun c1 => absurd ((isReg_iff x).mp cx) (jbi_0.mp c1), fun _ => ?_⟩
  conv => whnf
  refine jcall (c_wi y 4 (by decide) h) ?_
  rintro r' h' ⟨rfl, he⟩
  obtain rfl := he.symm
  clear he
  conv => whnf
  refine ⟨fun c1 => absurd ((isReg_iff y).mp cy) (jbi_0.mp c1), fun _ => ?_⟩
  conv => whnf
  refine jcall (c_wi w 4 (by decide) h) ?_
  rintro r' h' ⟨rfl, he⟩
  obtain rfl := he.symm
  clear he
  conv => whnf
  refine ⟨fun _ => ?_, fun c1 => absurd ((isReg_iff w).mp cw) (jbi_0.mp c1)⟩
  conv => whnf
  refine ⟨_, e1, ?_⟩
  conv => whnf
  refine ⟨_, _, _, _, _, h1, hy, hy4, h2, ?_⟩
  conv => whnf
  refine ⟨_, h5, ?_⟩
  conv => whnf
  refine ⟨_, e1, ?_⟩
  conv => whnf
  refine ⟨_, _, _, _, _, g1, hw, hw4, g2, ?_⟩
  conv => whnf
  refine ⟨_, g5, ?_⟩
  conv => whnf
  refine ⟨fun c1 => ?_, fun c1 => ?_⟩ <;> rw [nI_eq (by have := hca.1; omega) (by have := hcb.1; omega)] at c1
  case refine_2 =>
    rw [if_neg c1] at hΦ
    conv => whnf
    rw [← hΦ]
    exact xsame E _
  rw [if_pos c1] at hΦ
  rw [← c1] at g5 g6 g7
  obtain ⟨j1, j2⟩ := jpl_jsm (jcpL (fun _ => 0) gr (jmany (zR z a).1)) (zR z a).2 gr2 (zR z b).2 (fun _ => 0) (nI 0) rfl (jmany (zR z a).1) (fun c hc => jcp_can hca h7 c (by omega)) g7
  have hcq : zcan ((zR z a).1, (jsm (zR z a).2 (zR z b).2 (fun _ => 0) (jmany (zR z a).1)).1) := zcan_mk hca.1 (fun k k1 k2 => jsm_hi _ _ _ _ k k2)
  have hset := c_settleN E hz hx4 hcq j2 j1
  rw [← hx] at hset
  clear j1 j2
  generalize hp : jpl (jcpL (fun _ => 0) gr (jmany (zR z a).1), (false, nI 0)) gr2 (jmany (zR z a).1) = p at hset
  generalize jsm (zR z a).2 (zR z b).2 (fun _ => 0) (jmany (zR z a).1) = q at *
  conv => whnf
  refine jcall (c_X3_init (jget_new h _)) ?_
  rintro r h' ⟨rfl, rfl⟩
  conv => whnf
  rw [← oL0]
  refine ⟨_, jget_app e1, ?_⟩
  conv => whnf
  refine ⟨_, _, _, _, _, jget_app h1, hy, hy4, h2, ?_⟩
  conv => whnf
  refine ⟨_, jget_app e1, ?_⟩
  conv => whnf
  refine ⟨_, _, _, _, _, jget_app g1, hw, hw4, g2, ?_⟩
  conv => whnf
  refine ⟨⟨_, jget_app h5⟩, jcall (c_X8_plus (q := (false, nI 0)) (jget_app h5) (jget_app h6) (jget_app g5) (jget_app g6) (jget_new h _) hca.1) ?_⟩
  rintro r' h' ⟨rfl, rfl⟩
  rw [hp]
  conv => whnf
  refine ⟨⟨_, jNw_o h2l (jget_app e1)⟩, jcall hset ?_⟩
  rintro r' h' ⟨rfl, hE, hF⟩
  conv => whnf
  rw [← hΦ]
  exact ⟨by rw [zstl_1], hE, hF⟩
theorem jeven : ∀ a, a < 8 → ¬ a % 2 = 1 → (nI a - nI a / nI 2 * nI 2 = nI 0) := by decide +kernel
theorem c_X8_antipodal {h : List jC} {s w a l : Nat} {f : Nat → Int64} (hs : h[s]? = some (oS w a)) (ha : h[a]? = some (aL (jmany w) f)) (hl : h[l]? = some (oL (false, nI 0))) (hw : w ≤ 6) : jCt jy_X8_antipodal [.ref s, .ref l] h (fun r h' => r = some (.ref h.length) ∧ h' = jNw h l w (jan f w (jmany w) (fun _ => 0) (jmany w))) := by
  have hm := jmany_le hw
  have n1 : l ≠ s := jne hl hs (fun z => by cases z)
  have n2 : l ≠ a := jne hl ha (fun z => by cases z)
  refine jrun2 (js_X8_antipodal _) rfl rfl rfl (fun G hG hW hB => ?_)
  have inner : ∀ c, c < 32 → ∀ (v : Int64) (x4 : Option Value) (q : (Nat → Int64) × jLs), (∀ x8, G 118 [some (.ref s), some (.ref l), some (.ref h.length), some (.int (nI c)), x4, some (.long v), none, some (.int (nI (jtu w c))), x8] [] (jNw h l w (jco (jtu w c) v q (jmany w))) 2 34) → ∀ k e, jmany w = e + k → G 83 [some (.ref s), some (.ref l), some (.ref h.length), some (.int (nI c)), x4, some (.long v), none, some (.int (nI (jtu w c))), some (.int (nI e))] [] (jNw h l w (jco (jtu w c) v q e)) 2 34 := by
    intro c hc v x4 q hend k
    induction k with
    | zero =>
      intro e he
      refine hG [83, 118] 300 _ _ _ _ _ _ ?_
      conv => whnf
      refine ⟨_, jNw_o n1 hs, ?_⟩
      conv => whnf
      refine ⟨_, _, _, jNw_o n2 ha, ?_⟩
      conv => whnf
      refine ⟨fun qb => ?_, fun qb => ?_⟩ <;> rw [nI_leI (by omega) (by omega)] at qb
      · rw [Nat.add_zero] at he
        rw [← he]
        exact hend _
      · omega
    | succ k ih =>
      intro e he
      have i1 := ih (e + 1) (by omega)
      simp only [jco] at i1
      refine hG [83, 118] 300 _ _ _ _ _ _ ?_
      conv => whnf
      refine ⟨_, jNw_o n1 hs, ?_⟩
      conv => whnf
      refine ⟨_, _, _, jNw_o n2 ha, ?_⟩
      conv => whnf
      refine ⟨fun qb => ?_, fun qb => ?_⟩ <;> rw [nI_leI (by omega) (by omega)] at qb
      · omega
      conv => whnf
      refine jcall (c_X0_isFiner _ e _) ?_
      rintro r h' ⟨rfl, rfl⟩
      conv => whnf
      refine ⟨fun d => ?_, fun d => ?_⟩ <;> rw [jbi_0] at d
      · rw [if_neg d] at i1
        conv => whnf
        rw [nI_add]
        exact i1
      · rw [if_pos (Decidable.not_not.mp d)] at i1
        conv => whnf
        refine ⟨⟨_, jNw_s⟩, jcall (c_X8_comes (q := jco (jtu w c) v q e) jNw_s jNw_a (jNw_l hl) (c := e) (by omega) hm.2 v) ?_⟩
        rintro r h' ⟨rfl, rfl⟩
        rw [jNw_LA hl]
        conv => whnf
        rw [nI_add]
        exact i1
  have loop : ∀ k c, jmany w = c + k → ∀ x4 x5 x7 x8 : Option Value, G 14 [some (.ref s), some (.ref l), some (.ref h.length), some (.int (nI c)), x4, x5, none, x7, x8] [] (jNw h l w (jan f w (jmany w) (fun _ => 0) c)) 2 34 := by
    intro k
    induction k with
    | zero =>
      intro c he x4 x5 x7 x8
      refine hG [14] 300 _ _ _ _ _ _ ?_
      conv => whnf
      refine ⟨_, jNw_o n1 hs, ?_⟩
      conv => whnf
      refine ⟨_, _, _, jNw_o n2 ha, ?_⟩
      conv => whnf
      refine ⟨fun qb => ?_, fun qb => ?_⟩ <;> rw [nI_leI (by omega) (by omega)] at qb
      · conv => whnf
        rw [he, Nat.add_zero]
        exact ⟨rfl, rfl⟩
      · omega
    | succ k ih =>
      intro c he x4 x5 x7 x8
      have i1 := ih (c + 1) (by omega)
      simp only [jan] at i1
      have hlc := jlen_le w c
      refine hG [14, 43, 83] 300 _ _ _ _ _ _ ?_
      conv => whnf
      refine ⟨_, jNw_o n1 hs, ?_⟩
      conv => whnf
      refine ⟨_, _, _, jNw_o n2 ha, ?_⟩
      conv => whnf
      refine ⟨fun qb => ?_, fun qb => ?_⟩ <;> rw [nI_leI (by omega) (by omega)] at qb
      · omega
      conv => whnf
      refine ⟨_, jNw_o n1 hs, ?_⟩
      conv => whnf
      refine jcall (c_X0_lengthOf w c hw (by omega) _) ?_
      rintro r h' ⟨rfl, rfl⟩
      conv => whnf
      refine ⟨jnz2, ?_⟩
      conv => whnf
      have g43 : ∀ v q, (∀ x4 x5 x7 x8, G 14 [some (.ref s), some (.ref l), some (.ref h.length), some (.int (nI (c + 1))), x4, x5, none, x7, x8] [] (jNw h l w (jco (jtu w c) v q (jmany w))) 2 34) → ∀ x4, G 83 [some (.ref s), some (.ref l), some (.ref h.length), some (.int (nI c)), x4, some (.long v), none, some (.int (nI (jtu w c))), some (.int (nI 0))] [] (jNw h l w q) 2 34 := by
        intro v q hh x4
        refine inner c (by omega) v x4 q (fun x8 => ?_) (jmany w) 0 (by omega)
        refine hG [14] 300 _ _ _ _ _ _ ?_
        conv => whnf
        rw [nI_add]
        exact hh _ _ _ _
      refine ⟨fun p => ?_, fun p => ?_⟩
      · have p2 : ¬ jlen w c % 2 = 1 := fun e => by
          have := (jodd1 _ (show jlen w c < 8 by omega)).mpr e
          rw [p] at this
          exact absurd this (by decide)
        rw [if_neg p2] at i1
        conv => whnf
        refine hG [83] 300 _ _ _ _ _ _ ?_
        conv => whnf
        refine ⟨fun _ => ?_, fun c2 => absurd rfl c2⟩
        conv => whnf
        refine ⟨_, jNw_o n1 hs, ?_⟩
        conv => whnf
        refine ⟨_, _, _, jNw_o n2 ha, rfl, (show c < jmany w by omega), ?_⟩
        conv => whnf
        refine ⟨_, jNw_o n1 hs, ?_⟩
        conv => whnf
        refine jcall (c_X0_turned w c hw (by omega) _) ?_
        rintro r h' ⟨rfl, rfl⟩
        conv => whnf
        exact g43 (f c) _ i1 _
      · have p2 : jlen w c % 2 = 1 := by
          refine Decidable.byContradiction (fun e => p ?_)
          have h8 : jlen w c < 8 := by omega
          exact jeven _ h8 e
        rw [if_pos p2] at i1
        conv => whnf
        refine hG [83] 300 _ _ _ _ _ _ ?_
        conv => whnf
        refine ⟨fun c2 => absurd c2 nI_10, fun _ => ?_⟩
        conv => whnf
        refine ⟨_, jNw_o n1 hs, ?_⟩
        conv => whnf
        refine ⟨_, _, _, jNw_o n2 ha, rfl, (show c < jmany w by omega), ?_⟩
        conv => whnf
        refine ⟨⟨_, jNw_l hl⟩, jcall (c_X3_otherSign (jNw_l hl) (f c) (nI c)) ?_⟩
        rintro r h' ⟨rfl, rfl⟩
        have hset : (jNw h l w (jan f w (jmany w) (fun _ => 0) c)).set l (oL (jbad1 (jan f w (jmany w) (fun _ => 0) c).2 (decide (f c = -9223372036854775808)) (nI c))) = jNw h l w ((jan f w (jmany w) (fun _ => 0) c).1, jbad1 (jan f w (jmany w) (fun _ => 0) c).2 (decide (f c = -9223372036854775808)) (nI c)) := by
          unfold jNw
          rw [jtwo_out (jget_set hl), List.set_set]
        rw [hset]
        conv => whnf
        refine ⟨_, jNw_o n1 hs, ?_⟩
        conv => whnf
        refine jcall (c_X0_turned w c hw (by omega) _) ?_
        rintro r h' ⟨rfl, rfl⟩
        conv => whnf
        exact g43 (-(f c)) _ i1 _
  refine hG [14] 300 _ _ _ _ _ _ ?_
  conv => whnf
  refine ⟨_, jget_app hs, ?_⟩
  conv => whnf
  refine jcall (c_X8_init hw (jget_new _ _)) ?_
  rintro r h' ⟨rfl, rfl⟩
  rw [List.length_append, List.length_singleton, jnew2]
  conv => whnf
  have l0 := loop (jmany w) 0 (by omega) none none none none
  rw [show jan f w (jmany w) (fun _ => 0) 0 = ((fun _ => 0), (false, nI 0)) from rfl, jNw_0 hl] at l0
  exact l0
