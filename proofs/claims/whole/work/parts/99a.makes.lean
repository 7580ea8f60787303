/-! the class: what an order makes -/
theorem i64_add (a b : Nat) : Int64.ofNat a + Int64.ofNat b = Int64.ofNat (a + b) := (Int64.ofNat_add a b).symm
abbrev jfn (e c : Nat) : Prop := nI (e &&& c) = nI c
theorem jfin_val (c : Nat) (v : Int64) (q : (Nat → Int64) × jLs) : ∀ E e, (jfin c v q E).1 e = if e < E ∧ jfn e c then q.1 e + v else q.1 e
  | 0, e => by rw [if_neg (fun w => absurd w.1 (Nat.not_lt_zero e))]; rfl
  | E + 1, e => by
    have ih := jfin_val c v q E
    rw [jfin]
    by_cases hf : jfn E c
    · rw [if_pos hf]
      unfold jcm vp_updL
      dsimp only
      by_cases he : e = E
      · rw [if_pos he, ih E, if_neg (fun w => Nat.lt_irrefl E w.1), if_pos ⟨by omega, by rw [he]; exact hf⟩, he]
      · rw [if_neg he, ih e]
        by_cases h1 : e < E ∧ jfn e c
        · rw [if_pos h1, if_pos ⟨by omega, h1.2⟩]
        · rw [if_neg h1, if_neg (fun w => h1 ⟨by omega, w.2⟩)]
    · rw [if_neg hf, ih e]
      by_cases h1 : e < E ∧ jfn e c
      · rw [if_pos h1, if_pos ⟨by omega, h1.2⟩]
      · rw [if_neg h1, if_neg (fun w => h1 ⟨by
          by_cases he : e = E
          · rw [he] at w; exact absurd w.2 hf
          · omega, w.2⟩)]
theorem jadF_val (c : Nat) (f : Nat → Int64) : ∀ E e, jadF c f E e = if e < E ∧ jfn e c then f e + 1 else f e
  | 0, e => by rw [if_neg (fun w => absurd w.1 (Nat.not_lt_zero e))]; rfl
  | E + 1, e => by
    have ih := jadF_val c f E
    rw [jadF]
    by_cases hf : jfn E c
    · rw [if_pos hf]
      unfold vp_updL
      by_cases he : e = E
      · rw [if_pos he, ih E, if_neg (fun w => Nat.lt_irrefl E w.1), if_pos ⟨by omega, by rw [he]; exact hf⟩, he]
      · rw [if_neg he, ih e]
        by_cases h1 : e < E ∧ jfn e c
        · rw [if_pos h1, if_pos ⟨by omega, h1.2⟩]
        · rw [if_neg h1, if_neg (fun w => h1 ⟨by omega, w.2⟩)]
    · rw [if_neg hf, ih e]
      by_cases h1 : e < E ∧ jfn e c
      · rw [if_pos h1, if_pos ⟨by omega, h1.2⟩]
      · rw [if_neg h1, if_neg (fun w => h1 ⟨by
          by_cases he : e = E
          · rw [he] at w; exact absurd w.2 hf
          · omega, w.2⟩)]
/-- how many of the first rows have these descents; how many come to a number -/
def jct (n : Nat) (rs : List (List Nat)) : Nat → Nat → Nat
  | 0, _ => 0
  | k + 1, c => jct n rs k c + (if jdes (rs.getD k []) (n - 1) = c then 1 else 0)
def jNn (n : Nat) (rs : List (List Nat)) : Nat → Nat → Nat
  | 0, _ => 0
  | k + 1, e => jNn n rs k e + (if jfn e (jdes (rs.getD k []) (n - 1)) then 1 else 0)
theorem jmk_val {n : Nat} (rs : List (List Nat)) : ∀ k e, e < jmany n → jmk n rs (fun _ => 0) k e = Int64.ofNat (jNn n rs k e)
  | 0, e, _ => rfl
  | k + 1, e, he => by
    rw [jmk, jadF_val, jmk_val rs k e he, jNn]
    by_cases h : jfn e (jdes (rs.getD k []) (n - 1))
    · rw [if_pos ⟨he, h⟩, if_pos h, ← i64_add]
      rfl
    · rw [if_neg (fun w => h w.2), if_neg h, Nat.add_zero]
theorem jmk_hi {n : Nat} (rs : List (List Nat)) : ∀ k e, jmany n ≤ e → jmk n rs (fun _ => 0) k e = 0
  | 0, e, _ => rfl
  | k + 1, e, he => by rw [jmk, jadF_val, if_neg (fun w => by omega), jmk_hi rs k e he]
def jsmN (g : Nat → Nat) : Nat → Nat
  | 0 => 0
  | c + 1 => jsmN g c + g c
theorem jsmN_add (f g : Nat → Nat) : ∀ M, jsmN (fun c => f c + g c) M = jsmN f M + jsmN g M
  | 0 => rfl
  | M + 1 => by simp only [jsmN]; rw [jsmN_add f g M]; omega
theorem jsmN_0 : ∀ M, jsmN (fun _ => 0) M = 0
  | 0 => rfl
  | M + 1 => by rw [jsmN, jsmN_0 M]
theorem jsmN_c {f g : Nat → Nat} : ∀ M, (∀ c, c < M → f c = g c) → jsmN f M = jsmN g M
  | 0, _ => rfl
  | M + 1, h => by rw [jsmN, jsmN, jsmN_c M (fun c hc => h c (by omega)), h M (by omega)]
theorem jsmN_one (d v : Nat) : ∀ M, jsmN (fun c => if c = d then v else 0) M = if d < M then v else 0
  | 0 => by rw [if_neg (Nat.not_lt_zero d)]; rfl
  | M + 1 => by
    rw [jsmN, jsmN_one d v M]
    by_cases h1 : M = d
    · rw [if_pos h1, if_neg (by omega), if_pos (by omega), Nat.zero_add]
    · rw [if_neg h1, Nat.add_zero]
      by_cases h2 : d < M
      · rw [if_pos h2, if_pos (by omega)]
      · rw [if_neg h2, if_neg (by omega)]
theorem jct_sum {n : Nat} (rs : List (List Nat)) (e M : Nat) : ∀ k, (∀ i, i < k → jdes (rs.getD i []) (n - 1) < M) → jsmN (fun c => if jfn e c then jct n rs k c else 0) M = jNn n rs k e
  | 0, _ => by
    rw [jNn, jsmN_c (g := fun _ => 0) M (fun c _ => by unfold jct; split <;> rfl), jsmN_0]
  | k + 1, h => by
    have ih := jct_sum rs e M k (fun i hi => h i (by omega))
    have hd := h k (by omega)
    rw [jNn, ← ih]
    have : jsmN (fun c => if jfn e c then jct n rs (k + 1) c else 0) M = jsmN (fun c => (if jfn e c then jct n rs k c else 0) + (if c = jdes (rs.getD k []) (n - 1) then (if jfn e (jdes (rs.getD k []) (n - 1)) then 1 else 0) else 0)) M := by
      refine jsmN_c M (fun c _ => ?_)
      rw [jct]
      by_cases hc : c = jdes (rs.getD k []) (n - 1)
      · subst hc
        rw [if_pos rfl, if_pos rfl]
        split
        · rfl
        · rfl
      · rw [show (if jdes (rs.getD k []) (n - 1) = c then 1 else 0) = 0 from if_neg (fun w => hc w.symm), if_neg hc]
        rfl
    rw [this, jsmN_add, jsmN_one, if_pos hd]
/-- the class's sum, number by number -/
def jmq (tf : Nat → Int64) (M : Nat) : Nat → (Nat → Int64) × jLs
  | 0 => (fun _ => 0, (false, nI 0))
  | c + 1 => jfin c (tf c) (jmq tf M c) M
theorem jmq_val {tf : Nat → Int64} {t : Nat → Nat} {M : Nat} (ht : ∀ c, c < M → tf c = Int64.ofNat (t c)) {e : Nat} (he : e < M) : ∀ c, c ≤ M → (jmq tf M c).1 e = Int64.ofNat (jsmN (fun c => if jfn e c then t c else 0) c)
  | 0, _ => rfl
  | c + 1, hc => by
    rw [jmq, jfin_val, jmq_val ht he c (by omega), jsmN]
    by_cases h : jfn e c
    · rw [if_pos ⟨he, h⟩, ht c (by omega), if_pos h, i64_add]
    · rw [if_neg (fun w => h w.2), if_neg h, Nat.add_zero]
theorem jdes_lt (l : List Nat) : ∀ m, jdes l m < 2 ^ m
  | 0 => Nat.one_pos
  | m + 1 => by
    rw [jdes]
    have ih := jdes_lt l m
    have h1 : jdes l m < 2 ^ (m + 1) := Nat.lt_trans ih (Nat.pow_lt_pow_right (by decide) (by omega))
    refine Nat.or_lt_two_pow h1 ?_
    split
    · exact Nat.pow_lt_pow_right (by decide) (by omega)
    · exact Nat.pow_pos (by decide)
theorem jdes_many (l : List Nat) (n : Nat) : jdes l (n - 1) < jmany n := by
  unfold jmany
  by_cases h : n = 0
  · subst h; exact Nat.one_pos
  · rw [if_neg h]
    exact jdes_lt l (n - 1)
abbrev j5 (L M p : Nat) (tf : Nat → Int64) (w : Nat → Int32) (q : (Nat → Int64) × jLs) : List jC := [aL M tf, aI p w, oS p (L + 3), aL M q.1, oL q.2]
/-- how many of these rows, behind what stands, have these descents -/
def jcd (p c : Nat) (pre : List Nat) : List (List Nat) → Nat
  | [] => 0
  | r :: l => (if jdes (pre ++ r) (p - 1) = c then 1 else 0) + jcd p c pre l
theorem jcd_app (p c : Nat) (pre : List Nat) : ∀ l l2, jcd p c pre (l ++ l2) = jcd p c pre l + jcd p c pre l2
  | [], l2 => (Nat.zero_add _).symm
  | r :: l, l2 => by rw [List.cons_append, jcd, jcd, jcd_app p c pre l l2, Nat.add_assoc]
theorem jcd_map (p c : Nat) (pre : List Nat) (v : Nat) : ∀ l, jcd p c pre (l.map (fun r => v :: r)) = jcd p c (pre ++ [v]) l
  | [] => rfl
  | r :: l => by
    rw [List.map_cons, jcd, jcd, jcd_map p c pre v l, List.append_assoc]
    rfl
theorem jct_jcd (n : Nat) (rs : List (List Nat)) (c : Nat) : ∀ k, k ≤ rs.length → jct n rs k c = jcd n c [] (rs.take k)
  | 0, _ => rfl
  | k + 1, h => by
    have hg := List.getElem?_eq_getElem (l := rs) (i := k) (by omega)
    rw [jct, jct_jcd n rs c k (by omega), List.take_succ, jcd_app, List.getD, hg]
    rfl
theorem jsas2 {h : List jC} {a s : Nat} (n : a ≠ s) (x y x2 : jC) : ((h.set a x).set s y).set a x2 = (h.set a x2).set s y := by
  rw [List.set_comm _ _ n, List.set_set, List.set_comm _ _ (Ne.symm n)]
theorem jsas3 {h : List jC} {a s : Nat} (n : a ≠ s) (x y x2 y2 : jC) : (((h.set a x).set s y).set a x2).set s y2 = (h.set a x2).set s y2 := by
  rw [jsas2 n, List.set_set]
theorem c_X4_countDescents {b lo a s : Nat} {en cv : Value} {lf : Nat → Int32} {o : zOrd} (hp : o.1 ≤ 6) (hl : ∀ j, j < 7 → lf j = nI (o.2 j)) (ho : ∀ j, j < 7 → o.2 j < 64) (nal : a ≠ lo) : ∀ (u m t D : Nat) (pre : List Nat) (w : Nat → Int32) (tf : Nat → Int64) (h : List jC) (xt xm : Int32), xt = nI t → xm = nI m → o.1 = m + u → u ≤ D → jpop t = m → t < 2 ^ o.1 → h[b]? = some (oO o.1 lo en cv) → h[lo]? = some (aI 7 lf) → h[a]? = some (aI o.1 w) → h[s]? = some (aL (jmany o.1) tf) → (∀ j, j < m → w j = nI (pre.getD j 0)) → pre.length = m → (∀ j, pre.getD j 0 ≤ 6) →
    jCt (jy_X4_countDescents (D + 1)) [.ref b, .int xt, .int xm, .ref a, .ref s] h (fun r h' => r = none ∧ ∃ w2 tf2, h' = (h.set a (aI o.1 w2)).set s (aL (jmany o.1) tf2) ∧ (∀ j, j < m → w2 j = nI (pre.getD j 0)) ∧ ∀ c, c < jmany o.1 → tf2 c = tf c + Int64.ofNat (jcd o.1 c pre (rws o (o.1 - jpop t) (2 * t)))) := by
  have hm := jmany_le hp
  intro u
  induction u with
  | zero =>
    intro m t D pre w tf h xt xm et em hu hD hj ht hb hlo ha hs hw hpl hp6
    have hdl := jdes_many pre o.1
    have nas : a ≠ s := jne ha hs (fun z => by cases z)
    generalize hΦ : (fun (r : Option Value) (h' : List jC) => r = none ∧ ∃ w2 tf2, h' = (h.set a (aI o.1 w2)).set s (aL (jmany o.1) tf2) ∧ (∀ j, j < m → w2 j = nI (pre.getD j 0)) ∧ ∀ c, c < jmany o.1 → tf2 c = tf c + Int64.ofNat (jcd o.1 c pre (rws o (o.1 - jpop t) (2 * t)))) = Φ
    refine jrun2 (js_X4_countDescents _ _) rfl rfl rfl (fun G hG hWW hBB => ?_)
    refine hG [] 300 _ _ _ _ _ _ ?_
    conv => whnf
    refine ⟨_, _, _, ha, ?_⟩
    conv => whnf
    refine ⟨fun q => ?_, fun _ => ?_⟩
    · rw [em, nI_ltI (by omega) (by omega)] at q
      omega
    conv => whnf
    refine jcall (c_X4_descents ha hp (l := pre) (fun j hj2 => hw j (by omega)) (fun j _ => hp6 j)) ?_
    rintro r' h' ⟨rfl, he⟩
    obtain rfl := he.symm
    clear he
    conv => whnf
    refine ⟨_, _, _, hs, ?_⟩
    conv => whnf
    refine jcall (c_wi (nI (jdes pre (o.1 - 1))) (jmany o.1) (by omega) h) ?_
    rintro r' h' ⟨rfl, he⟩
    obtain rfl := he.symm
    clear he
    conv => whnf
    rw [jbi_t (by rw [nI_toInt (by omega)]; omega)]
    refine ⟨fun c => absurd c nI_10, fun _ => ?_⟩
    conv => whnf
    refine ⟨_, _, _, hs, rfl, hdl, ?_⟩
    conv => whnf
    refine ⟨_, _, _, hs, rfl, hdl, ?_⟩
    conv => whnf
    rw [← hΦ]
    refine ⟨rfl, w, vp_updL tf (jdes pre (o.1 - 1)) (tf (jdes pre (o.1 - 1)) + 1), (by rw [jset_same ha]), hw, fun c hc => ?_⟩
    rw [show o.1 - jpop t = 0 by omega, rws, jcd, jcd, List.append_nil, Nat.add_zero]
    unfold vp_updL
    by_cases hcd : c = jdes pre (o.1 - 1)
    · rw [if_pos hcd, if_pos hcd.symm, hcd]
      rfl
    · rw [if_neg hcd, if_neg (fun q => hcd q.symm)]
      exact (Int64.add_zero _).symm
  | succ u ih =>
    intro m t D pre w tf h xt xm et em hu hD hj ht hb hlo ha hs hw hpl hp6
    have hp2 : 2 ^ o.1 ≤ 64 := Nat.pow_le_pow_right (by decide) hp
    have nas : a ≠ s := jne ha hs (fun z => by cases z)
    have nab : a ≠ b := jne ha hb (fun z => by cases z)
    have nsb : s ≠ b := jne hs hb (fun z => by cases z)
    have nsl : s ≠ lo := jne hs hlo (fun z => by cases z)
    have hnl : ¬ t = 2 ^ o.1 - 1 := fun e => by
      have := (jpop_full2 hp ht).2.mpr e
      omega
    obtain ⟨D, rfl⟩ : ∃ D', D = D' + 1 := ⟨D - 1, by omega⟩
    have hB : ∀ x y, ((h.set a x).set s y)[b]? = some (oO o.1 lo en cv) := fun x y => jget_ne nsb (jget_ne nab hb)
    have hLo : ∀ x y, ((h.set a x).set s y)[lo]? = some (aI 7 lf) := fun x y => jget_ne nsl (jget_ne nal hlo)
    have hA : ∀ x y, ((h.set a x).set s y)[a]? = some x := fun x y => jget_ne (Ne.symm nas) (jget_set ha)
    have hS : ∀ x y, ((h.set a x).set s y)[s]? = some y := fun x y => jget_set (jget_ne nas hs)
    have hrw : rws o (o.1 - jpop t) (2 * t) = rwsL (jgb o t) o.1 := zrw_step hp ht hnl
    rw [hrw]
    generalize hΦ : (fun (r : Option Value) (h' : List jC) => r = none ∧ ∃ w2 tf2, h' = (h.set a (aI o.1 w2)).set s (aL (jmany o.1) tf2) ∧ (∀ j, j < m → w2 j = nI (pre.getD j 0)) ∧ ∀ c, c < jmany o.1 → tf2 c = tf c + Int64.ofNat (jcd o.1 c pre (rwsL (jgb o t) o.1))) = Φ
    refine jrun2 (js_X4_countDescents _ _) rfl rfl rfl (fun G hG hWW hBB => ?_)
    have loop : ∀ u2 v (w2 : Nat → Int32) (tf2 : Nat → Int64), o.1 = v + u2 → (∀ j, j < m → w2 j = nI (pre.getD j 0)) → (∀ c, c < jmany o.1 → tf2 c = tf c + Int64.ofNat (jcd o.1 c pre (rwsL (jgb o t) v))) → G 36 [some (.ref b), some (.int xt), some (.int xm), some (.ref a), some (.ref s), some (.int (nI (v + 1)))] [] ((h.set a (aI o.1 w2)).set s (aL (jmany o.1) tf2)) 0 0 := by
      intro u2
      induction u2 with
      | zero =>
        intro v w2 tf2 hv hw2 htf2
        refine hG [36] 300 _ _ _ _ _ _ ?_
        conv => whnf
        refine ⟨_, hB _ _, ?_⟩
        conv => whnf
        refine ⟨fun qb => ?_, fun qb => ?_⟩ <;> rw [nI_ltI (by omega) (by omega)] at qb
        case refine_2 => omega
        conv => whnf
        rw [← hΦ]
        refine ⟨rfl, w2, tf2, rfl, hw2, fun c hc => ?_⟩
        rw [show o.1 = v by omega] at htf2 hc ⊢
        exact htf2 c hc
      | succ u2 ih2 =>
        intro v w2 tf2 hv hw2 htf2
        have hth : isThg o (nI (v + 1)) := by
          unfold isThg
          rw [nI_toInt (by omega)]
          omega
        have hcc := c_X4_canCome (hB (aI o.1 w2) (aL (jmany o.1) tf2)) (hLo _ _) hp hl ho (nI (v + 1)) (t := t) (by omega)
        rw [tn_nI (by omega), jbi_c (show (isThg o (nI (v + 1)) ∧ okI o (2 * t) (v + 1)) ↔ okI o (2 * t) (v + 1) from ⟨fun q => q.2, fun q => ⟨hth, q⟩⟩), ← et] at hcc
        refine hG [36] 300 _ _ _ _ _ _ ?_
        conv => whnf
        refine ⟨_, hB _ _, ?_⟩
        conv => whnf
        refine ⟨fun qb => ?_, fun qb => ?_⟩ <;> rw [nI_ltI (by omega) (by omega)] at qb
        · omega
        conv => whnf
        refine ⟨⟨_, hB _ _⟩, jcall hcc ?_⟩
        rintro r' h' ⟨rfl, rfl⟩
        conv => whnf
        refine ⟨fun c => ?_, fun c => ?_⟩ <;> rw [jbi_0] at c
        · conv => whnf
          rw [nI_add]
          refine ih2 (v + 1) w2 tf2 (by omega) hw2 (fun c2 hc2 => ?_)
          rw [htf2 c2 hc2, rwsL, jcd_app, show jgb o t (v + 1) = [] from if_neg c, jcd, Nat.add_zero]
        · have c := Decidable.not_not.mp c
          have hbit := c.1
          rw [jzb t (v + 1) (by omega), Nat.add_sub_cancel] at hbit
          obtain ⟨p1, p2⟩ := jpop_or t (by omega) v (by omega) (by omega)
          have hjg : jgb o t (v + 1) = (rws o (o.1 - jpop (t ||| 2 ^ v)) (2 * (t ||| 2 ^ v))).map (fun l => (v + 1) :: l) := if_pos c
          have hgd : ∀ j, (pre ++ [v + 1]).getD j 0 = if j < m then pre.getD j 0 else if j = m then v + 1 else 0 := by
            intro j
            rw [List.getD, List.getD, List.getElem?_append, hpl]
            split
            · rfl
            · split
              · rw [show j - m = 0 by omega]
                rfl
              · rw [List.getElem?_eq_none (by rw [List.length_singleton]; omega)]
                rfl
          have i1 := ih (m + 1) (t ||| 2 ^ v) D (pre ++ [v + 1]) (upd w2 m (nI (v + 1))) tf2 ((h.set a (aI o.1 (upd w2 m (nI (v + 1))))).set s (aL (jmany o.1) tf2)) (xt ||| nI 1 <<< ((nI (v + 1) - nI 1) &&& 31)) (xm + nI 1) (by rw [et, jI_m1 (by omega), Nat.add_sub_cancel, jI_one (by omega), jI_or]) (by rw [em, nI_add]) (by omega) (by omega) (by omega) (jor_lt2 hp ht (by omega)) (hB _ _) (hLo _ _) (hA _ _) (hS _ _) (fun j hj2 => by
              rw [hgd]
              unfold upd
              by_cases hjm : j = m
              · rw [if_pos hjm, if_neg (by omega), if_pos hjm]
              · rw [if_neg hjm, if_pos (by omega)]
                exact hw2 j (by omega)) (by rw [List.length_append, List.length_singleton]; omega) (fun j => by
              rw [hgd]
              split
              · exact hp6 j
              · split <;> omega)
          conv => whnf
          refine ⟨_, _, _, hA _ _, em, (show m < o.1 by omega), ?_⟩
          conv => whnf
          rw [jsas2 nas]
          refine jcall i1 ?_
          rintro r' h' ⟨rfl, w3, tf3, rfl, hw3, htf3⟩
          rw [jsas3 nas]
          conv => whnf
          rw [nI_add]
          refine ih2 (v + 1) w3 tf3 (by omega) (fun j hj2 => ?_) (fun c2 hc2 => ?_)
          · rw [hw3 j (by omega), hgd, if_pos hj2]
          · rw [htf3 c2 hc2, htf2 c2 hc2, rwsL, jcd_app, hjg, jcd_map, Int64.add_assoc, i64_add]
    have l0 := loop o.1 0 w tf (by omega) hw (fun c _ => (Int64.add_zero _).symm)
    rw [jset_same ha, jset_same hs] at l0
    refine hG [36] 300 _ _ _ _ _ _ ?_
    conv => whnf
    refine ⟨_, _, _, ha, ?_⟩
    conv => whnf
    refine ⟨fun _ => ?_, fun q => ?_⟩
    · conv => whnf
      exact l0
    · rw [em, nI_ltI (by omega) (by omega)] at q
      omega
theorem c_X4_makes {h : List jC} {b lo : Nat} {en cv : Value} {lf : Nat → Int32} {o : zOrd} (hb : h[b]? = some (oO o.1 lo en cv)) (hcv : cv = .null ∨ ∃ k, cv = .ref k) (hlo : h[lo]? = some (aI 7 lf)) (hp : o.1 ≤ 6) (hl : ∀ j, j < 7 → lf j = nI (o.2 j)) (ho : ∀ j, j < 7 → o.2 j < 64) : jCt jy_X4_makes [.ref b] h (fun r h' => ∃ k, r = some (.ref k) ∧ ((cv = .ref k ∧ h' = h) ∨ (k = h.length + 2 ∧ ∃ tf w q, h' = h.set b (oO o.1 lo en (.ref k)) ++ j5 h.length (jmany o.1) o.1 tf w q ∧ ∀ e, e < jmany o.1 → q.1 e = jmk o.1 (zrows o) (fun _ => 0) (zrows o).length e))) := by
  have hm := jmany_le hp
  have hwl := (List.getElem?_eq_some_iff.mp hlo).1
  obtain ⟨rs, hrs⟩ : ∃ rs, rs = zrows o := ⟨_, rfl⟩
  generalize hΦ : (fun (r : Option Value) (h' : List jC) => ∃ k, r = some (Value.ref k) ∧ ((cv = .ref k ∧ h' = h) ∨ (k = h.length + 2 ∧ ∃ tf w q, h' = h.set b (oO o.1 lo en (.ref k)) ++ j5 h.length (jmany o.1) o.1 tf w q ∧ ∀ e, e < jmany o.1 → q.1 e = jmk o.1 (zrows o) (fun _ => 0) (zrows o).length e))) = Φ
  refine jrun2 (js_X4_makes _) rfl rfl rfl (fun G hG hWW hBB => ?_)
  rcases hcv with rfl | ⟨k, rfl⟩
  case inr =>
    refine hG [] 300 _ _ _ _ _ _ ?_
    conv => whnf
    refine ⟨_, hb, ?_⟩
    conv => whnf
    refine ⟨_, hb, ?_⟩
    conv => whnf
    rw [← hΦ]
    exact ⟨k, rfl, Or.inl ⟨rfl, rfl⟩⟩
  -- the second loop
  have l53 : ∀ (tf : Nat → Int64) (w : Nat → Int32), (∀ c, c < jmany o.1 → tf c = Int64.ofNat (jct o.1 rs rs.length c)) → ∀ u c, jmany o.1 = c + u → G 53 [some (.ref b), some (.ref h.length), some (.ref (h.length + 2)), some (.ref (h.length + 4)), some (.int (nI c))] [] (h ++ j5 h.length (jmany o.1) o.1 tf w (jmq tf (jmany o.1) c)) 5 74 := by
    intro tf w htf u
    induction u with
    | zero =>
      intro c hc
      have j0 := jidx h (j5 h.length (jmany o.1) o.1 tf w (jmq tf (jmany o.1) c)) 0
      rw [Nat.add_zero] at j0
      refine hG [53] 300 _ _ _ _ _ _ ?_
      conv => whnf
      refine ⟨_, _, _, j0, ?_⟩
      conv => whnf
      refine ⟨fun qb => ?_, fun qb => ?_⟩ <;> rw [nI_leI (by omega) (by omega)] at qb
      · conv => whnf
        refine ⟨trivial, _, jget_apl hb, ?_⟩
        conv => whnf
        erw [jset_apl hb]
        refine ⟨_, jget_apl (jget_set hb), ?_⟩
        conv => whnf
        rw [← hΦ]
        refine ⟨_, rfl, Or.inr ⟨rfl, tf, w, jmq tf (jmany o.1) c, rfl, fun e he => ?_⟩⟩
        rw [jmq_val htf he c (by omega), ← hrs, jmk_val _ _ _ he, show c = jmany o.1 by omega, jct_sum rs e (jmany o.1) rs.length (fun i _ => jdes_many _ _)]
      · omega
    | succ u ih =>
      intro c hc
      have j0 := jidx h (j5 h.length (jmany o.1) o.1 tf w (jmq tf (jmany o.1) c)) 0
      rw [Nat.add_zero] at j0
      have i1 := ih (c + 1) (by omega)
      rw [jmq] at i1
      refine hG [53] 300 _ _ _ _ _ _ ?_
      conv => whnf
      refine ⟨_, _, _, j0, ?_⟩
      conv => whnf
      refine ⟨fun qb => ?_, fun qb => ?_⟩ <;> rw [nI_leI (by omega) (by omega)] at qb
      · omega
      conv => whnf
      refine ⟨_, _, _, j0, rfl, (show c < jmany o.1 by omega), ?_⟩
      conv => whnf
      refine ⟨⟨_, jidx h _ 2⟩, jcall (c_X8_comesToFiner (q := jmq tf (jmany o.1) c) (jidx h _ 2) (jidx h _ 3) (jidx h _ 4) c hm.2 (tf c)) ?_⟩
      rintro r' h' ⟨rfl, rfl⟩
      unfold jLA
      rw [jsetA, jsetA]
      conv => whnf
      rw [nI_add]
      exact i1
  refine hG [16] 300 _ _ _ _ _ _ ?_
  conv => whnf
  refine ⟨_, hb, ?_⟩
  conv => whnf
  refine ⟨_, hb, ?_⟩
  conv => whnf
  have hmn := c_X0_howMany o.1 hp h
  refine jcall (hmn) ?_
  rintro r' h' ⟨rfl, he⟩
  obtain rfl := he.symm
  clear he
  conv => whnf
  rw [show (if o.1 = 0 then 1 else 2 ^ (o.1 - 1)) = jmany o.1 from rfl]
  refine ⟨jmany o.1, rfl, by omega, (show 0 + jmany o.1 ≤ 76 by omega), ?_⟩
  conv => whnf
  refine hBB 1 32 (by decide) (show 0 + jmany o.1 ≤ 32 by omega) ?_
  refine hG [26] 300 _ _ _ _ _ _ ?_
  conv => whnf
  refine ⟨_, jget_app hb, ?_⟩
  conv => whnf
  refine ⟨o.1, rfl, by omega, (show 32 + o.1 ≤ 76 by omega), ?_⟩
  rw [List.length_append, List.append_assoc]
  conv => whnf
  refine hBB 2 38 (by decide) (show 32 + o.1 ≤ 38 by omega) ?_
  refine hG [53] 300 _ _ _ _ _ _ ?_
  conv => whnf
  have j0 : ∀ x y : jC, (h ++ [x, y])[h.length]? = some x := fun x y => jtwo_s h _ _
  have j1 : ∀ x y : jC, (h ++ [x, y])[h.length + 1]? = some y := fun x y => jidx h _ 1
  have hcd := c_X4_countDescents (b := b) (lo := lo) (a := h.length + 1) (s := h.length) (en := en) (cv := .null) (lf := lf) (o := o) hp hl ho (by omega) o.1 0 0 6 [] (fun _ => nI 0) (fun _ => 0) (h ++ [aL (jmany o.1) (fun _ => 0), aI o.1 (fun _ => nI 0)]) (nI 0) (nI 0) rfl rfl (by omega) hp rfl (Nat.pow_pos (by decide)) (jget_apl hb) (jget_apl hlo) (j1 _ _) (j0 _ _) (fun j hj => absurd hj (Nat.not_lt_zero j)) rfl (fun j => Nat.zero_le _)
  refine jcall hcd ?_
  rintro r' h' ⟨rfl, w, tf, rfl, -, htf⟩
  have hs0 : ∀ x y x2 y2 : jC, ((h ++ [x, y]).set (h.length + 1) y2).set h.length x2 = h ++ [x2, y2] := by
    intro x y x2 y2
    rw [jtwo_set]
    have := jsetA h [x, y2] 0 x2
    rw [Nat.add_zero] at this
    exact this
  rw [hs0]
  have htf2 : ∀ c, c < jmany o.1 → tf c = Int64.ofNat (jct o.1 rs rs.length c) := by
    intro c hc
    rw [htf c hc, Int64.zero_add, jct_jcd _ _ _ _ (Nat.le_refl _), List.take_length, hrs]
    rfl
  conv => whnf
  refine ⟨_, jget_app (jget_apl hb), ?_⟩
  conv => whnf
  refine jcall (c_X8_init hp (jget_new _ _)) ?_
  rintro r h' ⟨rfl, rfl⟩
  have e1 : ∀ c x y : jC, ((h ++ [aL (jmany o.1) tf, aI o.1 w]) ++ [c]).set (h ++ [aL (jmany o.1) tf, aI o.1 w]).length x ++ [y] = h ++ [aL (jmany o.1) tf, aI o.1 w, x, y] := by
    intro c x y
    rw [jnew2, List.append_assoc]
    rfl
  rw [e1]
  have len2 : ((h ++ [aL (jmany o.1) tf, aI o.1 w]) ++ [(.inr (7, [.int (nI 0), .null]) : jC)]).length = h.length + 3 := by
    rw [List.length_append, List.length_append]
    rfl
  rw [len2]
  conv => whnf
  refine jcall (c_X3_init (jget_new _ _)) ?_
  rintro r h' ⟨rfl, rfl⟩
  rw [← oL0, japp h]
  have l0 := l53 tf w htf2 (jmany o.1) 0 (by omega)
  rw [show (h ++ [aL (jmany o.1) tf, aI o.1 w, oS o.1 (h.length + 3), aL (jmany o.1) (fun _ => 0)]).length = h.length + 4 by rw [List.length_append]; rfl, show (h ++ [aL (jmany o.1) tf, aI o.1 w]).length = h.length + 2 by rw [List.length_append]; rfl]
  conv => whnf
  exact l0
/-! what an order keeps -/
theorem rwsL_cc {g g2 : Nat → List (List Nat)} : ∀ n, (∀ v, 1 ≤ v → v ≤ n → g v = g2 v) → rwsL g n = rwsL g2 n
  | 0, _ => rfl
  | n + 1, h => by rw [rwsL, rwsL, rwsL_cc n (fun v a b => h v a (by omega)), h (n + 1) (by omega) (Nat.le_refl _)]
theorem rws_cc {o o2 : zOrd} (h1 : o2.1 = o.1) (h2 : ∀ j, 1 ≤ j → j ≤ o.1 → o2.2 j = o.2 j) : ∀ f t, rws o2 f t = rws o f t
  | 0, _ => rfl
  | f + 1, t => by
    rw [rws, rws, h1]
    refine rwsL_cc _ (fun i a b => ?_)
    have hk : okI o2 t i ↔ okI o t i := by
      unfold okI
      rw [h2 i a b]
    by_cases q : okI o t i
    · rw [if_pos q, if_pos (hk.mpr q), rws_cc h1 h2 f]
    · rw [if_neg q, if_neg (fun w => q (hk.mp w))]
theorem zmk_cc {o o2 : zOrd} (hp : o.1 ≤ 6) (h1 : o2.1 = o.1) (h2 : ∀ j, j < 7 → o2.2 j = o.2 j) : zmk o2 = zmk o := by
  have hz : zrows o2 = zrows o := by
    unfold zrows
    rw [h1]
    exact rws_cc h1 (fun j _ b => h2 j (by omega)) _ _
  show (o2.1, jmk o2.1 (zrows o2) (fun _ => 0) (zrows o2).length) = (o.1, jmk o.1 (zrows o) (fun _ => 0) (zrows o).length)
  rw [hz, h1]
theorem EncA.keep {τ : jTg} {h : List jC} {ρ ω κ π : Nat} {n : Int32} {t k : Value} {z : zS} (H : EncA τ h ρ ω κ π n t k z) (hz : zWF z) {lo en b : Nat} {cv : Value} {lf : Nat → Int32} (hω : h[ω]? = some (oO (zO z).1 lo (.ref en) cv)) (hlo : h[lo]? = some (aI 7 lf)) (hl : ∀ j, j < 7 → lf j = nI ((zO z).2 j)) (hs : xS (fz0 τ) h b (zmk (zO z))) : EncA τ (h.set ω (oO (zO z).1 lo (.ref en) (.ref b))) ρ ω κ π n t k z ∧ KT (fun t => t != 13) τ h τ (h.set ω (oO (zO z).1 lo (.ref en) (.ref b))) := by
  have hok := hz.2.2.1
  have tω : τ ω = 13 := H.2.2.1.1
  have K : KT (fun t => t != 13) τ h τ (h.set ω (oO (zO z).1 lo (.ref en) (.ref b))) := (KT.refl).set _ (Or.inr (by rw [tω]; rfl))
  have K0 := K.kp rfl
  have hO : ∀ w o2, zordOk o2 → xO τ h w o2 → xO τ (h.set ω (oO (zO z).1 lo (.ref en) (.ref b))) w o2 := by
    intro w o2 hok2 x
    obtain ⟨h1, lo2, en2, lf2, ef2, v2, h2, h3, h4, h5, h6, h7, h8, h9⟩ := x
    by_cases hw : w = ω
    · rw [hw] at h4 ⊢
      have e := hω.symm.trans h4
      injection e with e
      injection e with e
      injection e with _ e
      injection e with ea e
      injection ea with ea
      injection e with eb e
      injection eb with eb
      injection e with ec e
      injection ec with ec
      have e0 : (zO z).1 = o2.1 := (nI_eq (by have := hok.1; omega) (by have := hok2.1; omega)).mp ea
      subst eb ec
      have e5 := hlo.symm.trans h5
      injection e5 with e5
      injection e5 with e5
      injection e5 with _ e5
      injection e5 with _ e5
      injection e5 with e5
      have hz2 : zmk o2 = zmk (zO z) := zmk_cc hok.1 e0.symm (fun j hj => by
        have q1 := hl j hj
        have q2 := h7 j hj
        rw [e5, q2] at q1
        have r1 := zord64 hok j hj
        have r2 := zord64 hok2 j hj
        exact (nI_eq (by omega) (by omega)).mp q1)
      exact ⟨tω, lo, en, lf2, ef2, .ref b, h2, h3, by rw [← e0]; exact jget_set hω, (K.at1 h2 rfl h5).1, (K.at1 h3 rfl h6).1, h7, h8, Or.inr ⟨b, rfl, by rw [hz2]; exact hs.kp K0⟩⟩
    · exact ⟨h1, lo2, en2, lf2, ef2, v2, h2, h3, jget_ne (Ne.symm hw) h4, (K.at1 h2 rfl h5).1, (K.at1 h3 rfl h6).1, h7, h8, h9.kp K0⟩
  obtain ⟨e1, e2, e3, e4, e5, e6, e7, e8, e9, e10, e11⟩ := H
  exact ⟨⟨(K.at1 e11.2.1 rfl e1).1, e2.kt K rfl rfl, hO _ _ hok e3, e4.kt K rfl, e5.kt K rfl rfl, e6.kt K rfl rfl (t3_ok (S := fun t => t != 13) rfl rfl rfl), e7.kt K rfl, e8.kp K0, e9.kt K rfl rfl rfl, e10.kq K0 (fun w q hq x => hO w _ ((hz.2.2.2.2.2.2.2 q hq).2.1) x), e11.set _ _⟩, K⟩
theorem c_makesE {τ : jTg} {h : List jC} {ρ ω κ π : Nat} {n : Int32} {t k : Value} {z : zS} (H : EncA τ h ρ ω κ π n t k z) (hz : zWF z) : jCt jy_X4_makes [.ref ω] h (fun r h' => ∃ b, r = some (.ref b) ∧ EncA τ h' ρ ω κ π n t k z ∧ xS (fz0 τ) h' b (zmk (zO z)) ∧ KT (fun t => t != 13) τ h τ h') := by
  obtain ⟨lo, en, lf, ef, cv, -, -, -, hω, hlo, hen, hlf, hef, hca⟩ := H.ord
  have hok := hz.2.2.1
  have e11 := H.2.2.2.2.2.2.2.2.2.2
  refine jCt_mono (c_X4_makes hω (by rcases hca with q | ⟨b, e, -⟩; exact Or.inl q; exact Or.inr ⟨b, e⟩) hlo hok.1 hlf (zord64 hok)) ?_
  rintro r h' ⟨b, rfl, hc⟩
  rcases hc with ⟨hcv, rfl⟩ | ⟨rfl, tf, w, q, rfl, hq⟩
  · rcases hca with h0 | ⟨b2, hb2, hs⟩
    · rw [h0] at hcv
      cases hcv
    · rw [hb2] at hcv
      cases hcv
      exact ⟨b, rfl, H, hs, KT.refl⟩
  · have Ha := H.app (j5 h.length (jmany (zO z).1) (zO z).1 tf w q)
    have hxs : xS (fz0 τ) (h ++ j5 h.length (jmany (zO z).1) (zO z).1 tf w q) (h.length + 2) (zmk (zO z)) := ⟨e11.2.2.2 _ (by omega), h.length + 3, q.1, e11.2.2.2 _ (by omega), jidx h _ 2, jidx h _ 3, hq⟩
    obtain ⟨HE, HK⟩ := Ha.keep hz (jget_apl hω) (jget_apl hlo) hlf hxs
    rw [jset_apl hω] at HE HK
    exact ⟨h.length + 2, rfl, HE, hxs.kp (HK.kp rfl), ((KT.refl).app _).trans HK⟩
theorem t09_13 : ∀ t, t09 t = true → (fun t => t != 13) t = true := t09_of (S := fun t => t != 13) rfl rfl
theorem q_made {τ : jTg} {h : List jC} {z : zS} (E : EncX τ h z) (hz : zWF z) (x : Int32) : jCt jy_X11_made [.ref 2, .int x] h (xPost h (zmake z x).1 (zmake z x).2) := by
  obtain ⟨ρ, ω, κ, π, n, t, k, H⟩ := id E
  obtain ⟨lo, en, lf, ef, cv, -, -, -, hω, -⟩ := H.ord
  have e1 := H.1
  have e11 := E.B
  have hok := hz.2.2.1
  have hp := hok.1
  by_cases c : ¬ isReg x
  · rw [zmake, if_neg c]
    refine jrun2 (js_X11_made _) rfl rfl rfl (fun G hG hW hB => ?_)
    refine hG [] 300 _ _ _ _ _ _ ?_
    conv => whnf
    refine jcall (c_wi x 4 (by decide) h) ?_
    rintro r' h' ⟨rfl, he⟩
    obtain rfl := he.symm
    clear he
    conv => whnf
    refine ⟨fun c1 => ?_, fun _ => ?_⟩
    · rw [jbi_0, ← isReg_iff] at c1
      exact absurd (Decidable.not_not.mp c1) c
    · conv => whnf
      exact xsame E _
  have c := Decidable.not_not.mp c
  rw [zmake, if_pos c]
  obtain ⟨hx, hx4⟩ := isReg_nI c
  generalize tn x = r at *
  generalize hΦ : xPost h _ _ = Φ
  refine jrun2 (js_X11_made _) rfl rfl rfl (fun G hG hW hB => ?_)
  refine hG [] 300 _ _ _ _ _ _ ?_
  conv => whnf
  refine jcall (c_wi x 4 (by decide) h) ?_
  rintro r' h' ⟨rfl, he⟩
  obtain rfl := he.symm
  clear he
  conv => whnf
  refine ⟨fun _ => ?_, fun c1 => absurd ((isReg_iff x).mp c) (jbi_0.mp c1)⟩
  conv => whnf
  refine ⟨_, e1, ?_⟩
  conv => whnf
  refine ⟨⟨_, hω⟩, jcall (c_makesE H hz) ?_⟩
  rintro r' h1 ⟨b, rfl, H1, hxs, K1⟩
  have E1 : EncX τ h1 z := ⟨ρ, ω, κ, π, n, t, k, H1⟩
  have hc := c_X11_become E1 hz hx4 hxs (zcan_mk hp (fun c h1 h2 => jmk_hi _ _ _ h2))
  rw [← hx] at hc
  conv => whnf
  refine ⟨⟨_, H1.1⟩, jcall hc ?_⟩
  rintro r' h' ⟨rfl, τ', E', K'⟩
  obtain ⟨ρ', ω', κ', π', n', t', k', H'⟩ := id E'
  obtain ⟨lo', en', lf', ef', cv', -, -, -, hω', -⟩ := H'.ord
  conv => whnf
  refine ⟨_, H'.1, ?_⟩
  conv => whnf
  refine ⟨_, hω', ?_⟩
  conv => whnf
  rw [← hΦ]
  have hO : zO (zbecS z r (zmk (zO z))) = zO z := rfl
  rw [hO]
  exact xPost.of e11 E' ((K1.mono t09_13).trans K')
