/-! the class: refuseTerm, addTerms -/
theorem japI (h ap : List jC) (i : Nat) : (h ++ ap)[h.length + i]? = ap[i]? := by rw [List.getElem?_append_right (by omega), Nat.add_sub_cancel_left]
theorem japS (h ap : List jC) (i : Nat) (v : jC) : (h ++ ap).set (h.length + i) v = h ++ ap.set i v := by rw [List.set_append_right _ _ (by omega), Nat.add_sub_cancel_left]
theorem jap2 (h : List jC) (x y : jC) : h ++ [x] ++ [y] = h ++ [x, y] := by rw [List.append_assoc]; rfl
theorem jap3 (h : List jC) (x y z : jC) : h ++ [x, y] ++ [z] = h ++ [x, y, z] := by rw [List.append_assoc]; rfl
theorem jlen1 (h : List jC) (x : jC) : (h ++ [x]).length = h.length + 1 := by rw [List.length_append]; rfl
theorem jlen2 (h : List jC) (x y : jC) : (h ++ [x, y]).length = h.length + 2 := by rw [List.length_append]; rfl
abbrev oX (a b : Int32) (w : Value) : jC := .inr (9, [.int a, .int b, w])
theorem c_X11_refuseTerm {τ : jTg} {h : List jC} {z : zS} (E : EncX τ h z) (i s n v : Int32) : jCt jy_X11_refuseTerm [.ref 2, .int i, .int s, .int n, .int v] h (yPost τ h (some (.int v)) (zset z [(nI 2, i), (s, n)])) := by
  obtain ⟨ρ, ω, κ, π, m, t, k, H⟩ := id E
  have e1 := H.1
  have B := E.B
  have s0 : ∀ x y w : jC, (h ++ [x, y]).set h.length w = h ++ [w, y] := fun x y w => japS h [x, y] 0 w
  generalize hΦ : yPost τ h (some (.int v)) (zset z [(nI 2, i), (s, n)]) = Φ
  refine jrun2 (js_X11_refuseTerm _) rfl rfl rfl (fun G hG hW hB => ?_)
  refine hG [] 300 _ _ _ _ _ _ ?_
  conv => whnf
  rw [jap2, jlen1]
  refine jcall (c_X10_init (jtwo_a h _ _) s n (Or.inl rfl)) ?_
  rintro r h' ⟨rfl, rfl⟩
  rw [jtwo_set]
  conv => whnf
  refine jcall (c_X10_init (jtwo_s h _ _) (nI 2) i (Or.inr ⟨_, rfl⟩)) ?_
  rintro r h' ⟨rfl, rfl⟩
  rw [s0]
  have Ha := H.app [oX (nI 2) i (.ref (h.length + 1)), oX s n .null]
  conv => whnf
  refine ⟨trivial, _, jget_apl e1, ?_⟩
  conv => whnf
  rw [← hΦ]
  refine ⟨rfl, τ, ⟨ρ, ω, κ, π, m, _, k, Ha.trb (t' := .ref h.length) (x := [(nI 2, i), (s, n)]) ⟨h.length, .ref (h.length + 1), rfl, B.2.2.2 _ (Nat.le_refl _), jtwo_s h _ _, h.length + 1, .null, rfl, B.2.2.2 _ (by omega), jtwo_a h _ _, rfl⟩⟩, ?_⟩
  exact (((KT.refl (S := fun t => t != 1)).app _).set _ (Or.inr (by rw [B.2.1]; rfl))).mono t09_1
/-- a new sum of any weight: one that is too heavy is one of weight 6 -/
theorem c_X8_initG {h : List jC} {s w : Nat} (hw : w < 1000) (hs : h[s]? = some (.inr (7, [.int (nI 0), .null]))) : jCt jy_X8_init [.ref s, .int (nI w)] h (fun r h' => r = none ∧ h' = h.set s (oS (min w 6) h.length) ++ [aL (jmany (min w 6)) (fun _ => 0)]) := by
  have hm := jmany_le (w := min w 6) (Nat.min_le_right _ _)
  refine jrun2 (js_X8_init _) rfl rfl rfl (fun G hG hW hB => ?_)
  refine hG [28] 300 _ _ _ _ _ _ ?_
  conv => whnf
  refine jcall (c_X2_init h s) ?_
  rintro r h' ⟨rfl, rfl⟩
  conv => whnf
  refine jcall (c_J9_max _ _ _) ?_
  rintro r h' ⟨rfl, rfl⟩
  rw [if_neg (show ¬ nI w < nI 0 from nI_nlt (by omega) (by omega))]
  conv => whnf
  refine jcall (c_J9_min _ _ _) ?_
  rintro r h' ⟨rfl, rfl⟩
  have hx : (if nI 6 < nI w then nI 6 else nI w) = nI (min w 6) := by
    by_cases c : 6 < w
    · rw [if_pos (nI_lt c (by omega)), Nat.min_eq_right (by omega)]
    · rw [if_neg (nI_nlt (by omega) (by omega)), Nat.min_eq_left (by omega)]
  rw [hx]
  generalize hv : min w 6 = v at *
  have hv6 : v ≤ 6 := by omega
  conv => whnf
  refine ⟨trivial, _, hs, ?_⟩
  conv => whnf
  refine ⟨_, jget_set hs, ?_⟩
  conv => whnf
  refine jcall (c_X0_howMany v hv6 _) ?_
  rintro r h' ⟨rfl, rfl⟩
  conv => whnf
  refine ⟨jmany v, rfl, by omega, (show 0 + jmany v ≤ 32 from by omega), ?_⟩
  conv => whnf
  refine hB 1 32 (Nat.le_refl 1) (show 0 + jmany v ≤ 32 from by omega) ?_
  refine hG [] 300 _ _ _ _ _ _ ?_
  conv => whnf
  refine ⟨trivial, _, jget_app (jget_set hs), ?_⟩
  conv => whnf
  refine ⟨rfl, ?_⟩
  rw [jset_app (jget_set hs), List.set_set, List.length_set]
  rfl
theorem c_X9_comesTo {h : List jC} {e s w a n l : Nat} {y : Int32} {fF : Bool} {u cb : Nat} {q : (Nat → Int64) × jLs} (he : h[e]? = some (oTm y fF u (nI cb))) (hs : h[s]? = some (oS w a)) (ha : h[a]? = some (aL n q.1)) (hl : h[l]? = some (oL q.2)) (hc : cb < n) (hn : n ≤ 32) : jCt jy_X9_comesTo [.ref e, .ref s, .ref l] h (fun r h' => r = none ∧ h' = jLA h l a n (if fF = true then jfin cb y.toInt64 q n else jcm q cb y.toInt64)) := by
  refine jrun2 (js_X9_comesTo _) rfl rfl rfl (fun G hG hW hB => ?_)
  refine hG [] 300 _ _ _ _ _ _ ?_
  conv => whnf
  refine ⟨_, he, ?_⟩
  conv => whnf
  refine ⟨fun c => ?_, fun c => ?_⟩ <;> rw [jbi_0] at c
  · rw [if_neg c] at hG ⊢
    conv => whnf
    refine ⟨_, he, ?_⟩
    conv => whnf
    refine ⟨_, he, ?_⟩
    conv => whnf
    refine ⟨⟨_, hs⟩, jcall (c_X8_comes hs ha hl hc hn y.toInt64) ?_⟩
    rintro r h' ⟨rfl, rfl⟩
    conv => whnf
    exact ⟨rfl, rfl⟩
  · rw [if_pos (Decidable.not_not.mp c)] at hG ⊢
    conv => whnf
    refine ⟨_, he, ?_⟩
    conv => whnf
    refine ⟨_, he, ?_⟩
    conv => whnf
    refine ⟨⟨_, hs⟩, jcall (c_X8_comesToFiner hs ha hl cb hn y.toInt64) ?_⟩
    rintro r h' ⟨rfl, rfl⟩
    conv => whnf
    exact ⟨rfl, rfl⟩
theorem jcm_ok (q : (Nat → Int64) × jLs) (c : Nat) (v : Int64) (h : (jcm q c v).2.1 = false) : (jcm q c v).2 = q.2 := by
  unfold jcm jbad1 at *
  dsimp only at *
  by_cases c1 : q.2.1 = true
  · rw [if_pos c1] at h ⊢
  · rw [if_neg c1] at h ⊢
    by_cases c2 : jov (q.1 c) v = true
    · rw [if_pos c2] at h
      cases h
    · rw [if_neg c2]
theorem jcm_bad (q : (Nat → Int64) × jLs) (c : Nat) (v : Int64) (h : (jcm q c v).2.1 = false) : q.2.1 = false := by
  rw [jcm_ok q c v h] at h
  exact h
theorem jfin_ok (c : Nat) (v : Int64) (q : (Nat → Int64) × jLs) : ∀ e, (jfin c v q e).2.1 = false → (jfin c v q e).2 = q.2
  | 0, _ => rfl
  | e + 1, h => by
    rw [jfin] at h ⊢
    split at h
    · rename_i c1
      rw [if_pos c1, jcm_ok _ _ _ h]
      exact jfin_ok c v q e (jcm_bad _ _ _ h)
    · rename_i c1
      rw [if_neg c1]
      exact jfin_ok c v q e h
theorem jstp_ok (n : Nat) (x : zTm) (f : Nat → Int64) (h : (jstp n x f).2.1 = false) : (jstp n x f).2 = (false, nI 0) := by
  unfold jstp at *
  split at h
  · rename_i c
    rw [if_pos c]
    exact jfin_ok _ _ _ _ h
  · rename_i c
    rw [if_neg c]
    exact jcm_ok _ _ _ h
/-- what comes of a text's terms -/
def zadd (z : zS) (r n : Nat) (w : Option (Value × List (Int32 × Int32)) × (Nat → Int64)) : Value × zS := match w.1 with
  | some p => (p.1, zset z p.2)
  | none => (.int (nI n), zbecS z r (n, w.2))
theorem c_X11_addTerms {τ : jTg} {h : List jC} {z : zS} (E : EncX τ h z) (hz : zWF z) {r : Nat} (hr : r < 4) {b0 l : Nat} {ts : List zTm} (hL : rLs b0 h l ts) (hpos : 0 < ts.length) (h20 : ts.length ≤ 80) (hts : ∀ x ∈ ts, x.2.1 ≤ 480 ∧ jtok x.2) {n : Nat} (hn : n = (ts.headD ((0, false), (0, 0))).2.1) : jCt jy_X11_addTerms [.ref 2, .int (nI r), .ref l] h (yPost τ h (some (zadd z r n (jrd n ts 0 (fun _ => 0))).1) (zadd z r n (jrd n ts 0 (fun _ => 0))).2) := by
  obtain ⟨ρ, ω, κ, π, m0, t, k0, H⟩ := id E
  have e1 := H.1
  have B := E.B
  obtain ⟨mc, β, hl, hL2⟩ := hL
  obtain ⟨a1, m, fT, a2, a3, a4, a5⟩ : b0 ≤ β ∧ ∃ m f, h[β]? = some (aB m f) ∧ ts.length ≤ m ∧ (m = 10 ∨ m = 15 ∨ m = 22) ∧ rEl b0 h f ts := by
    rcases hL2 with ⟨-, -, rfl⟩ | w
    · exact absurd hpos (Nat.not_lt_zero _)
    · exact w
  obtain ⟨w, hw⟩ : ∃ w, w = jrd n ts 0 (fun _ => 0) := ⟨_, rfl⟩
  rw [← hw]
  generalize hΦ : yPost τ h (some (zadd z r n w).1) (zadd z r n w).2 = Φ
  have hx0 : ts[0]? = some (ts[0]) := List.getElem?_eq_getElem hpos
  have hn0 : n = (ts[0]).2.1 := by
    rw [hn]
    cases ts with
    | nil => cases hpos
    | cons a b => rfl
  obtain ⟨k1, k2⟩ := hts _ (List.mem_of_getElem? hx0)
  rw [← hn0] at k1
  obtain ⟨e0, b0', c1, c2, c3, c4⟩ := a5 0 _ hx0
  rw [← hn0] at c3
  obtain ⟨n6, hn6⟩ : ∃ n6, n6 = min n 6 := ⟨_, rfl⟩
  have hn66 : n6 ≤ 6 := by omega
  have hm := jmany_le hn66
  have hm1000 : m < 1000 := by omega
  refine jrun2 (js_X11_addTerms _) rfl rfl rfl (fun G hG hWW hB => ?_)
  have loop : ∀ u T (f : Nat → Int64) (x7 : Option Value), ts.length = T + u → w = jrd n (ts.drop T) T f → (0 < T → n ≤ 6) → (∀ k, jmany n6 ≤ k → f k = 0) → G 45 [some (.ref 2), some (.int (nI r)), some (.ref l), some (.int (nI n)), some (.ref h.length), some (.ref (h.length + 2)), some (.int (nI T)), x7] [] (h ++ [oS n6 (h.length + 1), aL (jmany n6) f, oL (false, nI 0)]) 3 36 := by
    intro u
    induction u with
    | zero =>
      intro T f x7 hu hj hT hf0
      have hnle := hT (by omega)
      have hnn : n6 = n := by omega
      rw [List.drop_eq_nil_of_le (by omega), jrd] at hj
      have hΦ2 : yPost τ h (some (.int (nI n))) (zbecS z r (n, f)) = Φ := by
        rw [← hΦ, zadd, hj]
      rw [hnn] at hf0
      have hE2 := E.app [oS n (h.length + 1), aL (jmany n) f, oL (false, nI 0)]
      have hc := c_X11_become hE2 hz hr (b := h.length) (x := (n, f)) ⟨B.2.2.2 _ (Nat.le_refl _), h.length + 1, f, B.2.2.2 _ (by omega), japI h _ 0, japI h _ 1, fun _ _ => rfl⟩ ⟨hnle, fun k _ hk => hf0 k hk⟩
      rw [hnn]
      refine hG [45] 300 _ _ _ _ _ _ ?_
      conv => whnf
      refine ⟨⟨_, jget_apl hl⟩, jcall (c_AL_size (jget_apl hl)) ?_⟩
      rintro r h' ⟨rfl, rfl⟩
      conv => whnf
      refine ⟨fun c => ?_, fun c => ?_⟩ <;> rw [nI_leI (by omega) (by omega)] at c
      · conv => whnf
        refine ⟨⟨_, jget_apl e1⟩, jcall hc ?_⟩
        rintro r' h' ⟨rfl, τ', E', K'⟩
        conv => whnf
        rw [← hΦ2]
        exact ⟨rfl, τ', E', ((KT.refl).app _).trans K'⟩
      · omega
    | succ u ih =>
      intro T f x7 hu hj hT hf0
      have hlt : T < ts.length := by omega
      obtain ⟨y, hy⟩ : ∃ y, y = ts[T] := ⟨_, rfl⟩
      have hyT : ts[T]? = some y := by rw [hy]; exact List.getElem?_eq_getElem hlt
      rw [List.drop_eq_getElem_cons hlt, ← hy, jrd] at hj
      obtain ⟨j1, j2⟩ := hts y (List.mem_of_getElem? hyT)
      obtain ⟨ey, by_, d1, d2, d3, d4⟩ := a5 T y hyT
      have bad : ∀ res rs τ' h', w.1 = some (.int res, rs) → EncX τ' h' (zset z rs) → KT t09 τ h τ' h' → Φ (some (.int res)) h' := by
        intro res rs τ' h' hw1 hE2 hK2
        rw [← hΦ, zadd, hw1]
        exact ⟨rfl, τ', hE2, hK2⟩
      have g84 : (6 < y.2.1 ∨ ¬ y.2.1 = n) → G 84 [some (.ref 2), some (.int (nI r)), some (.ref l), some (.int (nI n)), some (.ref h.length), some (.ref (h.length + 2)), some (.int (nI T)), some (.ref ey)] [] (h ++ [oS n6 (h.length + 1), aL (jmany n6) f, oL (false, nI 0)]) 3 36 := by
        intro cc
        rw [if_pos cc] at hj
        have hrf := c_X11_refuseTerm (E.app [oS n6 (h.length + 1), aL (jmany n6) f, oL (false, nI 0)]) (nI T) (nI 3) (nI y.2.1) (-5)
        refine hG [] 300 _ _ _ _ _ _ ?_
        conv => whnf
        refine ⟨_, jget_apl d3, ?_⟩
        conv => whnf
        refine ⟨⟨_, jget_apl e1⟩, jcall hrf ?_⟩
        rintro r' h' ⟨rfl, τ', E', K'⟩
        conv => whnf
        exact bad _ _ τ' _ (by rw [hj]) E' (((KT.refl).app _).trans K')
      have g99 : ¬ (6 < y.2.1 ∨ ¬ y.2.1 = n) → G 99 [some (.ref 2), some (.int (nI r)), some (.ref l), some (.int (nI n)), some (.ref h.length), some (.ref (h.length + 2)), some (.int (nI T)), some (.ref ey)] [] (h ++ [oS n6 (h.length + 1), aL (jmany n6) f, oL (false, nI 0)]) 3 36 := by
        intro cc
        have hnn : n6 = n := by omega
        rw [if_neg cc] at hj
        obtain ⟨b1, b2⟩ := jbq_ok j2 (by omega)
        rw [show y.2.1 = n by omega] at b2
        have hby : by_ = nI (jbq y) := by rw [d4 (by omega), b1]
        rw [hby] at d3
        rw [hnn] at hf0 hm ih ⊢
        have hct := c_X9_comesTo (q := (f, (false, nI 0))) (jget_apl (ap := [oS n (h.length + 1), aL (jmany n) f, oL (false, nI 0)]) d3) (japI h _ 0) (japI h _ 1) (japI h _ 2) b2 hm.2
        have hst : (if y.1.2 = true then jfin (jbq y) y.1.1.toInt64 (f, (false, nI 0)) (jmany n) else jcm (f, (false, nI 0)) (jbq y) y.1.1.toInt64) = jstp n y f := rfl
        rw [hst] at hct
        obtain ⟨p, hp⟩ : ∃ p, p = jstp n y f := ⟨_, rfl⟩
        have hpok := jstp_ok n y f
        have hphi : ∀ k, jmany n ≤ k → (jstp n y f).1 k = f k := fun k hk => jstp_hi y f b2 hk
        rw [← hp] at hct hj hpok hphi
        have hLA : jLA (h ++ [oS n (h.length + 1), aL (jmany n) f, oL (false, nI 0)]) (h.length + 2) (h.length + 1) (jmany n) p = h ++ [oS n (h.length + 1), aL (jmany n) p.1, oL p.2] := by
          unfold jLA
          rw [japS, japS]
          rfl
        rw [hLA] at hct
        have h2L : (h ++ [oS n (h.length + 1), aL (jmany n) p.1, oL p.2])[h.length + 2]? = some (oL p.2) := japI h _ 2
        refine hG [45] 300 _ _ _ _ _ _ ?_
        conv => whnf
        refine ⟨⟨_, jget_apl d3⟩, jcall hct ?_⟩
        rintro r' h' ⟨rfl, rfl⟩
        conv => whnf
        refine ⟨_, h2L, ?_⟩
        conv => whnf
        refine ⟨fun c => ?_, fun c => ?_⟩ <;> rw [jbi_0] at c
        · rw [if_neg c] at hj
          have hp2 := hpok (Bool.not_eq_true _ |>.mp c)
          rw [hp2]
          conv => whnf
          rw [nI_add]
          exact ih (T + 1) p.1 _ (by omega) hj (fun _ => by omega) (fun k hk => by rw [hphi k hk]; exact hf0 k hk)
        · rw [if_pos (Decidable.not_not.mp c)] at hj
          have hrf := c_X11_refuseTerm (E.app [oS n (h.length + 1), aL (jmany n) p.1, oL p.2]) (nI T) (nI 4) p.2.2 (-9)
          conv => whnf
          refine ⟨_, h2L, ?_⟩
          conv => whnf
          refine ⟨⟨_, jget_apl e1⟩, jcall hrf ?_⟩
          rintro r' h' ⟨rfl, τ', E', K'⟩
          conv => whnf
          exact bad _ _ τ' _ (by rw [hj]) E' (((KT.refl).app _).trans K')
      refine hG [45, 84, 99] 300 _ _ _ _ _ _ ?_
      conv => whnf
      refine ⟨⟨_, jget_apl hl⟩, jcall (c_AL_size (jget_apl hl)) ?_⟩
      rintro r h' ⟨rfl, rfl⟩
      conv => whnf
      refine ⟨fun c => ?_, fun c => ?_⟩ <;> rw [nI_leI (by omega) (by omega)] at c
      · omega
      conv => whnf
      refine ⟨⟨_, jget_apl hl⟩, jcall (c_AL_get (jget_apl hl) (jget_apl a2) hlt a3 hm1000 d1) ?_⟩
      rintro r h' ⟨rfl, rfl⟩
      conv => whnf
      refine ⟨_, _, jget_apl d3, rfl, ?_⟩
      conv => whnf
      refine ⟨_, jget_apl d3, ?_⟩
      conv => whnf
      refine ⟨fun qb => ?_, fun qb => ?_⟩ <;> rw [nI_ltI (by omega) (by omega)] at qb
      · exact g84 (Or.inl qb)
      conv => whnf
      refine ⟨_, jget_apl d3, ?_⟩
      conv => whnf
      refine ⟨fun c3 => ?_, fun c3 => ?_⟩ <;> rw [nI_eq (by omega) (by omega)] at c3
      · exact g99 (fun w => w.elim qb (fun w => w c3))
      · exact g84 (Or.inr c3)
  refine hG [23, 45] 300 _ _ _ _ _ _ ?_
  conv => whnf
  refine ⟨⟨_, hl⟩, jcall (c_AL_isEmpty hl (by omega)) ?_⟩
  rintro r' h' ⟨rfl, he⟩
  obtain rfl := he.symm
  clear he
  conv => whnf
  rw [jbi_f (by omega)]
  refine ⟨fun _ => ?_, fun c => absurd rfl c⟩
  conv => whnf
  refine ⟨⟨_, hl⟩, jcall (c_AL_get hl a2 (i := 0) hpos a3 hm1000 c1) ?_⟩
  rintro r' h' ⟨rfl, he⟩
  obtain rfl := he.symm
  clear he
  conv => whnf
  refine ⟨_, _, c3, rfl, ?_⟩
  conv => whnf
  refine ⟨_, c3, ?_⟩
  conv => whnf
  refine hG [45] 300 _ _ _ _ _ _ ?_
  conv => whnf
  refine jcall (c_X8_initG (by omega) (jget_new h _)) ?_
  rintro r' h' ⟨rfl, rfl⟩
  rw [← hn6, jlen1, jnew2]
  conv => whnf
  rw [jlen2, jap3]
  refine jcall (c_X3_init (japI h _ 2)) ?_
  rintro r' h' ⟨rfl, rfl⟩
  have l0 := fun x7 => loop ts.length 0 (fun _ => 0) x7 (by omega) (by rw [List.drop_zero]; exact hw) (fun w => absurd w (by decide)) (fun _ _ => rfl)
  conv => whnf
  exact l0 none
