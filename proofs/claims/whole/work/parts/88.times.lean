/-! the class: quasi-shuffles and products -/
theorem c_J7_fill {h : List jC} {a n : Nat} {f : Nat → Int32} (ha : h[a]? = some (aI n f)) (hn : n ≤ 1000) (v : Int32) : jCt jy_J7_fill_53178 [.ref a, .int v] h (fun r h' => r = none ∧ h' = h.set a (aI n (fun j => if j < n then v else f j))) := by
  refine jrun2 (js_J7_fill_53178 _) (by decide +kernel) rfl rfl (fun G hG hWW hBB => ?_)
  have loop : ∀ k e, n = e + k → G 5 [some (.ref a), some (.int v), some (.int (nI e)), some (.int (nI n))] [] (h.set a (aI n (fun j => if j < e then v else f j))) 0 0 := by
    intro k
    induction k with
    | zero =>
      intro e he
      refine hG [5] 300 _ _ _ _ _ _ ?_
      conv => whnf
      refine ⟨fun qb => ?_, fun qb => ?_⟩ <;> rw [nI_leI (by omega) (by omega)] at qb
      · conv => whnf
        rw [he, Nat.add_zero]
        exact ⟨rfl, rfl⟩
      · omega
    | succ k ih =>
      intro e he
      have i1 := ih (e + 1) (by omega)
      refine hG [5] 300 _ _ _ _ _ _ ?_
      conv => whnf
      refine ⟨fun qb => ?_, fun qb => ?_⟩ <;> rw [nI_leI (by omega) (by omega)] at qb
      · omega
      conv => whnf
      refine ⟨_, _, _, jget_set ha, rfl, (show e < n by omega), ?_⟩
      conv => whnf
      rw [nI_add, List.set_set]
      have e1 : upd (fun j => if j < e then v else f j) e v = fun j => if j < e + 1 then v else f j := by
        funext j
        unfold upd
        by_cases hj : j = e
        · rw [if_pos hj, if_pos (by omega)]
        · rw [if_neg hj]
          dsimp only
          by_cases h1 : j < e
          · rw [if_pos h1, if_pos (by omega)]
          · rw [if_neg h1, if_neg (by omega)]
      erw [e1]
      exact i1
  refine hG [5] 300 _ _ _ _ _ _ ?_
  conv => whnf
  refine ⟨_, _, _, ha, ?_⟩
  conv => whnf
  have l0 := loop n 0 (by omega)
  rw [show (fun j => if j < 0 then v else f j) = f from funext fun j => if_neg (Nat.not_lt_zero j), jset_same ha] at l0
  exact l0
theorem jpt_okb : ∀ n, n < 7 → ∀ c, c < 32 → (Nat.blt c (jmany n) && Nat.blt 0 n && !(decide (jparts n c = jfst n c :: jparts (n - jfst n c) (c / 2 ^ jfst n c)) && Nat.blt (c / 2 ^ jfst n c) (jmany (n - jfst n c)))) = false := by decide +kernel
theorem jpt_cons {n c : Nat} (hn : n ≤ 6) (hc : c < jmany n) (h0 : 0 < n) : jparts n c = jfst n c :: jparts (n - jfst n c) (c / 2 ^ jfst n c) ∧ c / 2 ^ jfst n c < jmany (n - jfst n c) ∧ 1 ≤ jfst n c ∧ jfst n c ≤ n := by
  have hm := jmany_le hn
  have := jpt_okb n (by omega) c (by omega)
  rw [show Nat.blt c (jmany n) = true from (Nat.blt_eq).mpr hc, show Nat.blt 0 n = true from (Nat.blt_eq).mpr h0, Bool.true_and, Bool.true_and, Bool.not_eq_eq_eq_not, Bool.not_false, Bool.and_eq_true, decide_eq_true_eq] at this
  have hf := jfstF_le n c 6 1 (Nat.le_refl _)
  exact ⟨this.1, Nat.blt_eq.mp this.2, hf.1 h0, hf.2⟩
theorem jpt_nil (c : Nat) : jparts 0 c = [] := rfl
theorem jlt0 {n : Nat} (hn : n < 1000) : nI 0 < nI n ↔ 0 < n := by rw [jlt, j0, nI_toInt (by omega)]; omega
theorem c_X8_shuffle (N : Nat) (hN : N ≤ 32) (a : Nat) : ∀ (D m c n d e t : Nat) (w : Nat → Int32) (h : List jC) (xc xm xd xn xe xt : Int32), xc = nI c → xm = nI m → xd = nI d → xn = nI n → xe = nI e → xt = nI t → h[a]? = some (aI N w) → t + m + n ≤ 6 → jmany (t + m + n) = N → c < jmany m → d < jmany n → e < jmany t → m + n ≤ D →
    jCt (jy_X8_shuffle (D + 1)) [.int xc, .int xm, .int xd, .int xn, .int xe, .int xt, .ref a] h (fun r h' => r = none ∧ h' = h.set a (aI N (jgsh D (jparts m c) (jparts n d) e t w))) := by
  intro D
  induction D with
  | zero =>
    intro m c n d e t w h xc xm xd xn xe xt ec em ed en ee et ha h6 hNt hc hd he hD
    have hm0 : m = 0 := by omega
    have hn0 : n = 0 := by omega
    subst hm0 hn0
    have heN : e < N := by rw [← hNt]; exact he
    refine jrun2 (js_X8_shuffle _ _) rfl rfl rfl (fun G hG hWW hBB => ?_)
    refine hG [] 300 _ _ _ _ _ _ ?_
    conv => whnf
    refine ⟨fun q => ?_, fun _ => ?_⟩
    · rw [et, jlt, nI_toInt (by omega), nI_toInt (by omega)] at q
      omega
    conv => whnf
    refine ⟨_, _, _, ha, ?_⟩
    conv => whnf
    refine jcall (c_wi xe N (by omega) h) ?_
    rintro r' h' ⟨rfl, he⟩
    obtain rfl := he.symm
    clear he
    conv => whnf
    rw [jbi_t (by rw [ee, nI_toInt (by omega)]; omega)]
    refine ⟨fun _ => ?_, fun q => absurd q nI_10⟩
    conv => whnf
    refine ⟨fun q => absurd (em ▸ q) (by decide), fun _ => ?_⟩
    conv => whnf
    refine ⟨fun q => absurd (en ▸ q) (by decide), fun _ => ?_⟩
    conv => whnf
    refine ⟨_, _, _, ha, ee, heN, ?_⟩
    conv => whnf
    refine ⟨_, _, _, ha, ee, heN, ?_⟩
    conv => whnf
    exact ⟨rfl, rfl⟩
  | succ D ih =>
    intro m c n d e t w h xc xm xd xn xe xt ec em ed en ee et ha h6 hNt hc hd he hD
    have hmm := jmany_le (w := m) (by omega)
    have hmn := jmany_le (w := n) (by omega)
    have hmt := jmany_le (w := t) (by omega)
    have hf := jfstF_le m c 6 1 (Nat.le_refl _)
    have hg := jfstF_le n d 6 1 (Nat.le_refl _)
    have hf2 : jfst m c ≤ m := hf.2
    have hg2 : jfst n d ≤ n := hg.2
    have heN : e < N := by
      rw [← hNt]
      by_cases h0 : t = 0
      · have := (jmany_le (w := t + m + n) h6).1
        subst h0
        rw [show jmany 0 = 1 from rfl] at he
        omega
      · exact Nat.lt_of_lt_of_le he (jmany_mono (by omega) (by omega))
    have hc1 := c_X0_firstNumber m c (by omega) (by omega)
    have hd1 := c_X0_firstNumber n d (by omega) (by omega)
    rw [← em, ← ec] at hc1
    rw [← en, ← ed] at hd1
    generalize hΦ : (fun (r : Option Value) (h' : List jC) => r = none ∧ h' = h.set a (aI N (jgsh (D + 1) (jparts m c) (jparts n d) e t w))) = Φ
    refine jrun2 (js_X8_shuffle _ _) rfl rfl rfl (fun G hG hWW hBB => ?_)
    have g72 : ∀ xe' xf xg, xe' = nI (jend e t) → xf = nI (jfst m c) → xg = nI (jfst n d) → 0 < m + n → G 72 [some (.int xc), some (.int xm), some (.int xd), some (.int xn), some (.int xe), some (.int xt), some (.ref a), some (.int xe'), some (.int xf), some (.int xg)] [] h 0 0 := by
      intro xe' xf xg ee' ef eg h0
      have wm : 0 < m → (xc >>> (xf &&& 31) = nI (c / 2 ^ jfst m c)) ∧ xm - xf = nI (m - jfst m c) ∧ xt + xf = nI (t + jfst m c) := fun _ => ⟨by rw [ec, ef, jI_shr (by omega) (by omega)], by rw [em, ef, pk_sub hf2], by rw [et, ef, nI_add]⟩
      have wn : 0 < n → (xd >>> (xg &&& 31) = nI (d / 2 ^ jfst n d)) ∧ xn - xg = nI (n - jfst n d) ∧ xt + xg = nI (t + jfst n d) := fun _ => ⟨by rw [ed, eg, jI_shr (by omega) (by omega)], by rw [en, eg, pk_sub hg2], by rw [et, eg, nI_add]⟩
      by_cases m0 : 0 < m
      · obtain ⟨p1, p2, p3, p4⟩ := jpt_cons (by omega) hc m0
        obtain ⟨v1, v2, v3⟩ := wm m0
        have K1 := ih (m - jfst m c) (c / 2 ^ jfst m c) n d (jend e t) (t + jfst m c) w h _ _ xd xn xe' _ v1 v2 ed en ee' v3 ha (by omega) (by rw [← hNt]; congr 1; omega) p2 hd (jend_many (by omega) he (by omega)) (by omega)
        by_cases n0 : 0 < n
        · obtain ⟨r1, r2, r3, r4⟩ := jpt_cons (by omega) hd n0
          obtain ⟨u1, u2, u3⟩ := wn n0
          rw [p1, r1] at hΦ
          rw [r1] at K1
          rw [← p1, ← r1] at hΦ
          rw [← r1] at K1
          have hsp : jgsh (D + 1) (jparts m c) (jparts n d) e t w = jgsh D (jparts (m - jfst m c) (c / 2 ^ jfst m c)) (jparts (n - jfst n d) (d / 2 ^ jfst n d)) (jend e t) (t + jfst m c + jfst n d) (jgsh D (jparts m c) (jparts (n - jfst n d) (d / 2 ^ jfst n d)) (jend e t) (t + jfst n d) (jgsh D (jparts (m - jfst m c) (c / 2 ^ jfst m c)) (jparts n d) (jend e t) (t + jfst m c) w)) := by
            conv => lhs; rw [p1, r1]
            rw [jgsh, ← p1, ← r1]
          rw [hsp] at hΦ
          generalize jgsh D (jparts (m - jfst m c) (c / 2 ^ jfst m c)) (jparts n d) (jend e t) (t + jfst m c) w = w1 at *
          have K2 := ih m c (n - jfst n d) (d / 2 ^ jfst n d) (jend e t) (t + jfst n d) w1 (h.set a (aI N w1)) xc xm _ _ xe' _ ec em u1 u2 ee' u3 (jget_set ha) (by omega) (by rw [← hNt]; congr 1; omega) hc r2 (jend_many (by omega) he (by omega)) (by omega)
          rw [List.set_set] at K2
          generalize jgsh D (jparts m c) (jparts (n - jfst n d) (d / 2 ^ jfst n d)) (jend e t) (t + jfst n d) w1 = w2 at *
          have K3 := ih (m - jfst m c) (c / 2 ^ jfst m c) (n - jfst n d) (d / 2 ^ jfst n d) (jend e t) (t + jfst m c + jfst n d) w2 (h.set a (aI N w2)) _ _ _ _ xe' _ v1 v2 u1 u2 ee' (show xt + xf + xg = _ by rw [v3, eg, nI_add]) (jget_set ha) (by omega) (by rw [← hNt]; congr 1; omega) p2 r2 (jend_many (by omega) he (by omega)) (by omega)
          rw [List.set_set] at K3
          generalize jgsh D (jparts (m - jfst m c) (c / 2 ^ jfst m c)) (jparts (n - jfst n d) (d / 2 ^ jfst n d)) (jend e t) (t + jfst m c + jfst n d) w2 = w3 at *
          refine hG [] 300 _ _ _ _ _ _ ?_
          conv => whnf
          refine ⟨fun q => absurd q (by rw [em, jleI, j0, nI_toInt (by omega)]; omega), fun _ => ?_⟩
          conv => whnf
          refine jcall (K1) ?_
          rintro r h' ⟨rfl, rfl⟩
          conv => whnf
          refine ⟨fun q => absurd q (by rw [en, jleI, j0, nI_toInt (by omega)]; omega), fun _ => ?_⟩
          conv => whnf
          refine jcall (K2) ?_
          rintro r h' ⟨rfl, rfl⟩
          conv => whnf
          refine ⟨fun q => absurd q (by rw [em, jleI, j0, nI_toInt (by omega)]; omega), fun _ => ?_⟩
          conv => whnf
          refine ⟨fun q => absurd q (by rw [en, jleI, j0, nI_toInt (by omega)]; omega), fun _ => ?_⟩
          conv => whnf
          refine jcall (K3) ?_
          rintro r h' ⟨rfl, rfl⟩
          conv => whnf
          rw [← hΦ]
          exact ⟨rfl, rfl⟩
        · have n00 : n = 0 := by omega
          subst n00
          have hsp : jgsh (D + 1) (jparts m c) (jparts 0 d) e t w = jgsh D (jparts (m - jfst m c) (c / 2 ^ jfst m c)) (jparts 0 d) (jend e t) (t + jfst m c) w := by
            conv => lhs; rw [p1, jpt_nil]
            rw [jgsh, jpt_nil]
          rw [hsp] at hΦ
          generalize jgsh D (jparts (m - jfst m c) (c / 2 ^ jfst m c)) (jparts 0 d) (jend e t) (t + jfst m c) w = w1 at *
          refine hG [] 300 _ _ _ _ _ _ ?_
          conv => whnf
          refine ⟨fun q => absurd q (by rw [em, jleI, j0, nI_toInt (by omega)]; omega), fun _ => ?_⟩
          conv => whnf
          refine jcall (K1) ?_
          rintro r h' ⟨rfl, rfl⟩
          conv => whnf
          refine ⟨fun _ => ?_, fun q => absurd (show xn ≤ nI 0 by rw [en]; decide) q⟩
          conv => whnf
          refine ⟨fun q => absurd q (by rw [em, jleI, j0, nI_toInt (by omega)]; omega), fun _ => ?_⟩
          conv => whnf
          refine ⟨fun _ => ?_, fun q => absurd (show xn ≤ nI 0 by rw [en]; decide) q⟩
          conv => whnf
          rw [← hΦ]
          exact ⟨rfl, rfl⟩
      · have m00 : m = 0 := by omega
        have n0 : 0 < n := by omega
        subst m00
        obtain ⟨r1, r2, r3, r4⟩ := jpt_cons (by omega) hd n0
        obtain ⟨u1, u2, u3⟩ := wn n0
        have K2 := ih 0 c (n - jfst n d) (d / 2 ^ jfst n d) (jend e t) (t + jfst n d) w h xc xm _ _ xe' _ ec em u1 u2 ee' u3 ha (by omega) (by rw [← hNt]; congr 1; omega) hc r2 (jend_many (by omega) he (by omega)) (by omega)
        have hsp : jgsh (D + 1) (jparts 0 c) (jparts n d) e t w = jgsh D (jparts 0 c) (jparts (n - jfst n d) (d / 2 ^ jfst n d)) (jend e t) (t + jfst n d) w := by
          conv => lhs; rw [jpt_nil, r1]
          rw [jgsh, jpt_nil]
        rw [hsp] at hΦ
        generalize jgsh D (jparts 0 c) (jparts (n - jfst n d) (d / 2 ^ jfst n d)) (jend e t) (t + jfst n d) w = w1 at *
        refine hG [] 300 _ _ _ _ _ _ ?_
        conv => whnf
        refine ⟨fun _ => ?_, fun q => absurd (show xm ≤ nI 0 by rw [em]; decide) q⟩
        conv => whnf
        refine ⟨fun q => absurd q (by rw [en, jleI, j0, nI_toInt (by omega)]; omega), fun _ => ?_⟩
        conv => whnf
        refine jcall (K2) ?_
        rintro r h' ⟨rfl, rfl⟩
        conv => whnf
        refine ⟨fun _ => ?_, fun q => absurd (show xm ≤ nI 0 by rw [em]; decide) q⟩
        conv => whnf
        rw [← hΦ]
        exact ⟨rfl, rfl⟩
    have g37 : 0 < m + n → G 37 [some (.int xc), some (.int xm), some (.int xd), some (.int xn), some (.int xe), some (.int xt), some (.ref a), none, none, none] [] h 0 0 := by
      intro h0
      refine hG [72] 300 _ _ _ _ _ _ ?_
      conv => whnf
      refine ⟨fun q => ?_, fun q => ?_⟩
      · have ht0 : t = 0 := by
          rw [et, jleI, j0, nI_toInt (by omega)] at q
          omega
        conv => whnf
        refine jcall (hc1 h) ?_
        rintro r' h' ⟨rfl, he⟩
        obtain rfl := he.symm
        clear he
        conv => whnf
        refine jcall (hd1 h) ?_
        rintro r' h' ⟨rfl, he⟩
        obtain rfl := he.symm
        clear he
        conv => whnf
        exact g72 _ _ _ (by rw [ee, jend, if_neg (by omega)]) rfl rfl h0
      · have ht0 : 0 < t := by
          rw [et, jleI, j0, nI_toInt (by omega)] at q
          omega
        conv => whnf
        refine jcall (hc1 h) ?_
        rintro r' h' ⟨rfl, he⟩
        obtain rfl := he.symm
        clear he
        conv => whnf
        refine jcall (hd1 h) ?_
        rintro r' h' ⟨rfl, he⟩
        obtain rfl := he.symm
        clear he
        conv => whnf
        exact g72 _ _ _ (jend_I ee et (by omega) ht0) rfl rfl h0
    refine hG [37] 300 _ _ _ _ _ _ ?_
    conv => whnf
    refine ⟨fun q => ?_, fun _ => ?_⟩
    · rw [et, jlt, nI_toInt (by omega), nI_toInt (by omega)] at q
      omega
    conv => whnf
    refine ⟨_, _, _, ha, ?_⟩
    conv => whnf
    refine jcall (c_wi xe N (by omega) h) ?_
    rintro r' h' ⟨rfl, he⟩
    obtain rfl := he.symm
    clear he
    conv => whnf
    rw [jbi_t (by rw [ee, nI_toInt (by omega)]; omega)]
    refine ⟨fun _ => ?_, fun q => absurd q nI_10⟩
    conv => whnf
    refine ⟨fun q => ?_, fun q => ?_⟩
    · rw [em, jlt0 (by omega)] at q
      exact g37 (by omega)
    conv => whnf
    refine ⟨fun q2 => ?_, fun q2 => ?_⟩
    · rw [en, jlt0 (by omega)] at q2
      exact g37 (by omega)
    · rw [em, jlt0 (by omega)] at q
      rw [en, jlt0 (by omega)] at q2
      have hm0 : m = 0 := by omega
      have hn0 : n = 0 := by omega
      subst hm0 hn0
      conv => whnf
      refine ⟨_, _, _, ha, ee, heN, ?_⟩
      conv => whnf
      refine ⟨_, _, _, ha, ee, heN, ?_⟩
      conv => whnf
      rw [← hΦ, jpt_nil, jpt_nil, jgsh]
      exact ⟨rfl, rfl⟩
