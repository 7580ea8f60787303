/-! the class: what an order makes -/
theorem i64_add (a b : Nat) : Int64.ofNat a + Int64.ofNat b = Int64.ofNat (a + b) := (Int64.ofNat_add a b).symm
abbrev jfn (e c : Nat) : Prop := nI (e &&& c) = nI c
theorem jfin_val (c : Nat) (v : Int64) (q : (Nat → Int64) × jLs) : ∀ E e, (jfin c v q E).1 e = if e < E ∧ jfn e c then q.1 e + v else q.1 e
  | 0, e => by rw [if_neg (fun w => absurd w.1 (Nat.not_lt_zero e))]; rfl
  | E + 1, e => by
    have ih := jfin_val c v q E
    rw [jfin]
    by_cases hf : jfn E c
    · rw [if_pos hf]
      unfold jcm vp_updL
      dsimp only
      by_cases he : e = E
      · rw [if_pos he, ih E, if_neg (fun w => Nat.lt_irrefl E w.1), if_pos ⟨by omega, by rw [he]; exact hf⟩, he]
      · rw [if_neg he, ih e]
        by_cases h1 : e < E ∧ jfn e c
        · rw [if_pos h1, if_pos ⟨by omega, h1.2⟩]
        · rw [if_neg h1, if_neg (fun w => h1 ⟨by omega, w.2⟩)]
    · rw [if_neg hf, ih e]
      by_cases h1 : e < E ∧ jfn e c
      · rw [if_pos h1, if_pos ⟨by omega, h1.2⟩]
      · rw [if_neg h1, if_neg (fun w => h1 ⟨by
          by_cases he : e = E
          · rw [he] at w; exact absurd w.2 hf
          · omega, w.2⟩)]
theorem jadF_val (c : Nat) (f : Nat → Int64) : ∀ E e, jadF c f E e = if e < E ∧ jfn e c then f e + 1 else f e
  | 0, e => by rw [if_neg (fun w => absurd w.1 (Nat.not_lt_zero e))]; rfl
  | E + 1, e => by
    have ih := jadF_val c f E
    rw [jadF]
    by_cases hf : jfn E c
    · rw [if_pos hf]
      unfold vp_updL
      by_cases he : e = E
      · rw [if_pos he, ih E, if_neg (fun w => Nat.lt_irrefl E w.1), if_pos ⟨by omega, by rw [he]; exact hf⟩, he]
      · rw [if_neg he, ih e]
        by_cases h1 : e < E ∧ jfn e c
        · rw [if_pos h1, if_pos ⟨by omega, h1.2⟩]
        · rw [if_neg h1, if_neg (fun w => h1 ⟨by omega, w.2⟩)]
    · rw [if_neg hf, ih e]
      by_cases h1 : e < E ∧ jfn e c
      · rw [if_pos h1, if_pos ⟨by omega, h1.2⟩]
      · rw [if_neg h1, if_neg (fun w => h1 ⟨by
          by_cases he : e = E
          · rw [he] at w; exact absurd w.2 hf
          · omega, w.2⟩)]
/-- how many of the first rows have these descents; how many come to a number -/
def jct (n : Nat) (rs : List (List Nat)) : Nat → Nat → Nat
  | 0, _ => 0
  | k + 1, c => jct n rs k c + (if jdes (rs.getD k []) (n - 1) = c then 1 else 0)
def jNn (n : Nat) (rs : List (List Nat)) : Nat → Nat → Nat
  | 0, _ => 0
  | k + 1, e => jNn n rs k e + (if jfn e (jdes (rs.getD k []) (n - 1)) then 1 else 0)
theorem jmk_val {n : Nat} (rs : List (List Nat)) : ∀ k e, e < jmany n → jmk n rs (fun _ => 0) k e = Int64.ofNat (jNn n rs k e)
  | 0, e, _ => rfl
  | k + 1, e, he => by
    rw [jmk, jadF_val, jmk_val rs k e he, jNn]
    by_cases h : jfn e (jdes (rs.getD k []) (n - 1))
    · rw [if_pos ⟨he, h⟩, if_pos h, ← i64_add]
      rfl
    · rw [if_neg (fun w => h w.2), if_neg h, Nat.add_zero]
theorem jmk_hi {n : Nat} (rs : List (List Nat)) : ∀ k e, jmany n ≤ e → jmk n rs (fun _ => 0) k e = 0
  | 0, e, _ => rfl
  | k + 1, e, he => by rw [jmk, jadF_val, if_neg (fun w => by omega), jmk_hi rs k e he]
def jsmN (g : Nat → Nat) : Nat → Nat
  | 0 => 0
  | c + 1 => jsmN g c + g c
theorem jsmN_add (f g : Nat → Nat) : ∀ M, jsmN (fun c => f c + g c) M = jsmN f M + jsmN g M
  | 0 => rfl
  | M + 1 => by simp only [jsmN]; rw [jsmN_add f g M]; omega
theorem jsmN_0 : ∀ M, jsmN (fun _ => 0) M = 0
  | 0 => rfl
  | M + 1 => by rw [jsmN, jsmN_0 M]
theorem jsmN_c {f g : Nat → Nat} : ∀ M, (∀ c, c < M → f c = g c) → jsmN f M = jsmN g M
  | 0, _ => rfl
  | M + 1, h => by rw [jsmN, jsmN, jsmN_c M (fun c hc => h c (by omega)), h M (by omega)]
theorem jsmN_one (d v : Nat) : ∀ M, jsmN (fun c => if c = d then v else 0) M = if d < M then v else 0
  | 0 => by rw [if_neg (Nat.not_lt_zero d)]; rfl
  | M + 1 => by
    rw [jsmN, jsmN_one d v M]
    by_cases h1 : M = d
    · rw [if_pos h1, if_neg (by omega), if_pos (by omega), Nat.zero_add]
    · rw [if_neg h1, Nat.add_zero]
      by_cases h2 : d < M
      · rw [if_pos h2, if_pos (by omega)]
      · rw [if_neg h2, if_neg (by omega)]
theorem jct_sum {n : Nat} (rs : List (List Nat)) (e M : Nat) : ∀ k, (∀ i, i < k → jdes (rs.getD i []) (n - 1) < M) → jsmN (fun c => if jfn e c then jct n rs k c else 0) M = jNn n rs k e
  | 0, _ => by
    rw [jNn, jsmN_c (g := fun _ => 0) M (fun c _ => by unfold jct; split <;> rfl), jsmN_0]
  | k + 1, h => by
    have ih := jct_sum rs e M k (fun i hi => h i (by omega))
    have hd := h k (by omega)
    rw [jNn, ← ih]
    have : jsmN (fun c => if jfn e c then jct n rs (k + 1) c else 0) M = jsmN (fun c => (if jfn e c then jct n rs k c else 0) + (if c = jdes (rs.getD k []) (n - 1) then (if jfn e (jdes (rs.getD k []) (n - 1)) then 1 else 0) else 0)) M := by
      refine jsmN_c M (fun c _ => ?_)
      rw [jct]
      by_cases hc : c = jdes (rs.getD k []) (n - 1)
      · subst hc
        rw [if_pos rfl, if_pos rfl]
        split
        · rfl
        · rfl
      · rw [show (if jdes (rs.getD k []) (n - 1) = c then 1 else 0) = 0 from if_neg (fun w => hc w.symm), if_neg hc]
        rfl
    rw [this, jsmN_add, jsmN_one, if_pos hd]
/-- the class's sum, number by number -/
def jmq (tf : Nat → Int64) (M : Nat) : Nat → (Nat → Int64) × jLs
  | 0 => (fun _ => 0, (false, nI 0))
  | c + 1 => jfin c (tf c) (jmq tf M c) M
theorem jmq_val {tf : Nat → Int64} {t : Nat → Nat} {M : Nat} (ht : ∀ c, c < M → tf c = Int64.ofNat (t c)) {e : Nat} (he : e < M) : ∀ c, c ≤ M → (jmq tf M c).1 e = Int64.ofNat (jsmN (fun c => if jfn e c then t c else 0) c)
  | 0, _ => rfl
  | c + 1, hc => by
    rw [jmq, jfin_val, jmq_val ht he c (by omega), jsmN]
    by_cases h : jfn e c
    · rw [if_pos ⟨he, h⟩, ht c (by omega), if_pos h, i64_add]
    · rw [if_neg (fun w => h w.2), if_neg h, Nat.add_zero]
theorem jdes_lt (l : List Nat) : ∀ m, jdes l m < 2 ^ m
  | 0 => Nat.one_pos
  | m + 1 => by
    rw [jdes]
    have ih := jdes_lt l m
    have h1 : jdes l m < 2 ^ (m + 1) := Nat.lt_trans ih (Nat.pow_lt_pow_right (by decide) (by omega))
    refine Nat.or_lt_two_pow h1 ?_
    split
    · exact Nat.pow_lt_pow_right (by decide) (by omega)
    · exact Nat.pow_pos (by decide)
theorem jdes_many (l : List Nat) (n : Nat) : jdes l (n - 1) < jmany n := by
  unfold jmany
  by_cases h : n = 0
  · subst h; exact Nat.one_pos
  · rw [if_neg h]
    exact jdes_lt l (n - 1)
abbrev j5 (L M p : Nat) (tf : Nat → Int64) (w : Nat → Int32) (q : (Nat → Int64) × jLs) : List jC := [aL M tf, aI p w, oS p (L + 3), aL M q.1, oL q.2]
theorem c_X4_makes {h : List jC} {b lo en : Nat} {lf ef : Nat → Int32} {o : zOrd} (hb : h[b]? = some (oO o.1 lo (.ref en))) (hlo : h[lo]? = some (aI 7 lf)) (hen : h[en]? = some (aI (2 ^ o.1) ef)) (hp : o.1 ≤ 6) (hl : ∀ j, j < 7 → lf j = nI (o.2 j)) (ho : ∀ j, j < 7 → o.2 j < 64) (hef : ∀ t, t < 2 ^ o.1 → ef t = nI (zend o t)) : jCt jy_X4_makes [.ref b] h (fun r h' => r = some (.ref (h.length + 2)) ∧ ∃ tf w q, h' = h ++ j5 h.length (jmany o.1) o.1 tf w q ∧ ∀ e, e < jmany o.1 → q.1 e = jmk o.1 (zrows o) (fun _ => 0) (zrows o).length e) := by
  have hm := jmany_le hp
  have hzl := zrows_len hp
  have hwl := (List.getElem?_eq_some_iff.mp hlo).1
  have hwe := (List.getElem?_eq_some_iff.mp hen).1
  obtain ⟨rs, hrs⟩ : ∃ rs, rs = zrows o := ⟨_, rfl⟩
  have hrl : rs.length ≤ 46656 := by rw [hrs]; exact hzl
  generalize hΦ : (fun (r : Option Value) (h' : List jC) => r = some (.ref (h.length + 2)) ∧ ∃ tf w q, h' = h ++ j5 h.length (jmany o.1) o.1 tf w q ∧ ∀ e, e < jmany o.1 → q.1 e = jmk o.1 (zrows o) (fun _ => 0) (zrows o).length e) = Φ
  refine jrun2 (js_X4_makes _) rfl rfl rfl (fun G hG hWW hBB => ?_)
  -- the second loop
  have l87 : ∀ (tf : Nat → Int64) (w : Nat → Int32), (∀ c, c < jmany o.1 → tf c = Int64.ofNat (jct o.1 rs rs.length c)) → ∀ u c, jmany o.1 = c + u → G 87 [some (.ref b), some (.ref h.length), some (.ref (h.length + 1)), some (.ref (h.length + 2)), some (.ref (h.length + 4)), some (.int (nI c))] [] (h ++ j5 h.length (jmany o.1) o.1 tf w (jmq tf (jmany o.1) c)) 5 74 := by
    intro tf w htf u
    induction u with
    | zero =>
      intro c hc
      have j0 := jidx h (j5 h.length (jmany o.1) o.1 tf w (jmq tf (jmany o.1) c)) 0
      rw [Nat.add_zero] at j0
      refine hG [87] 300 _ _ _ _ _ _ ?_
      conv => whnf
      refine ⟨_, _, _, j0, ?_⟩
      conv => whnf
      refine ⟨fun qb => ?_, fun qb => ?_⟩ <;> rw [nI_leI (by omega) (by omega)] at qb
      · conv => whnf
        rw [← hΦ]
        refine ⟨rfl, tf, w, jmq tf (jmany o.1) c, rfl, fun e he => ?_⟩
        rw [jmq_val htf he c (by omega), ← hrs, jmk_val _ _ _ he, show c = jmany o.1 by omega, jct_sum rs e (jmany o.1) rs.length (fun i _ => jdes_many _ _)]
      · omega
    | succ u ih =>
      intro c hc
      have j0 := jidx h (j5 h.length (jmany o.1) o.1 tf w (jmq tf (jmany o.1) c)) 0
      rw [Nat.add_zero] at j0
      have i1 := ih (c + 1) (by omega)
      rw [jmq] at i1
      refine hG [87] 300 _ _ _ _ _ _ ?_
      conv => whnf
      refine ⟨_, _, _, j0, ?_⟩
      conv => whnf
      refine ⟨fun qb => ?_, fun qb => ?_⟩ <;> rw [nI_leI (by omega) (by omega)] at qb
      · omega
      conv => whnf
      refine ⟨_, _, _, j0, rfl, (show c < jmany o.1 by omega), ?_⟩
      conv => whnf
      refine ⟨⟨_, jidx h _ 2⟩, jcall (c_X8_comesToFiner (q := jmq tf (jmany o.1) c) (jidx h _ 2) (jidx h _ 3) (jidx h _ 4) c hm.2 (tf c)) ?_⟩
      rintro r' h' ⟨rfl, rfl⟩
      unfold jLA
      rw [jsetA, jsetA]
      conv => whnf
      rw [nI_add]
      exact i1
  -- the first loop
  have l19 : ∀ u k, rs.length = k + u → ∀ (tf : Nat → Int64) (w : Nat → Int32) (x4 : Option Value), (∀ c, c < jmany o.1 → tf c = Int64.ofNat (jct o.1 rs k c)) → G 19 [some (.ref b), some (.ref h.length), some (.ref (h.length + 1)), some (.int (nI k)), x4, none] [] (h ++ [aL (jmany o.1) tf, aI o.1 w]) 2 38 := by
    intro u
    induction u with
    | zero =>
      intro k hk tf w x4 htf
      refine hG [19, 87] 300 _ _ _ _ _ _ ?_
      conv => whnf
      refine ⟨⟨_, jget_apl hb⟩, jcall (c_X4_howMany (jget_apl hb) (jget_apl hen) hp hef) ?_⟩
      rintro r' h' ⟨rfl, rfl⟩
      rw [← hrs]
      conv => whnf
      refine ⟨fun _ => ?_, fun c => absurd (by rw [nI_leI (by omega) (by omega)]; omega) c⟩
      conv => whnf
      refine ⟨_, jget_app (jget_apl hb), ?_⟩
      conv => whnf
      refine jcall (c_X8_init hp (jget_new _ _)) ?_
      rintro r h' ⟨rfl, rfl⟩
      have e1 : ∀ c x y : jC, ((h ++ [aL (jmany o.1) tf, aI o.1 w]) ++ [c]).set (h ++ [aL (jmany o.1) tf, aI o.1 w]).length x ++ [y] = h ++ [aL (jmany o.1) tf, aI o.1 w, x, y] := by
        intro c x y
        rw [jnew2, List.append_assoc]
        rfl
      rw [e1]
      have len2 : ((h ++ [aL (jmany o.1) tf, aI o.1 w]) ++ [(.inr (7, [.int (nI 0), .null]) : jC)]).length = h.length + 3 := by
        rw [List.length_append, List.length_append]
        rfl
      rw [len2]
      conv => whnf
      refine jcall (c_X3_init (jget_new _ _)) ?_
      rintro r h' ⟨rfl, rfl⟩
      rw [← oL0, japp h]
      have l0 := l87 tf w (by rw [show rs.length = k by omega]; exact htf) (jmany o.1) 0 (by omega)
      rw [show (h ++ [aL (jmany o.1) tf, aI o.1 w, oS o.1 (h.length + 3), aL (jmany o.1) (fun _ => 0)]).length = h.length + 4 by rw [List.length_append]; rfl, show (h ++ [aL (jmany o.1) tf, aI o.1 w]).length = h.length + 2 by rw [List.length_append]; rfl]
      conv => whnf
      exact l0
    | succ u ih =>
      intro k hk tf w x4 htf
      have hkl : k < (zrows o).length := by rw [← hrs]; omega
      obtain ⟨l, hlk⟩ : ∃ l, (zrows o)[k]? = some l := ⟨_, List.getElem?_eq_getElem hkl⟩
      have hll := rws_each (show l ∈ rws o o.1 0 from List.mem_of_getElem? hlk)
      have hl6 : ∀ m, m < o.1 → l.getD m 0 ≤ 6 := by
        intro m hm2
        have hg := List.getElem?_eq_getElem (l := l) (i := m) (by omega)
        rw [List.getD, hg]
        have := (hll.2 _ (List.mem_of_getElem? hg)).2
        simp only [Option.getD_some]
        omega
      have hgd : rs.getD k [] = l := by rw [hrs, List.getD, hlk]; rfl
      have hdl := jdes_many l o.1
      have j1 : ∀ w2 : Nat → Int32, (h ++ [aL (jmany o.1) tf, aI o.1 w2])[h.length + 1]? = some (aI o.1 w2) := fun w2 => jidx h _ 1
      refine hG [19] 300 _ _ _ _ _ _ ?_
      conv => whnf
      refine ⟨⟨_, jget_apl hb⟩, jcall (c_X4_howMany (jget_apl hb) (jget_apl hen) hp hef) ?_⟩
      rintro r' h' ⟨rfl, rfl⟩
      rw [← hrs]
      conv => whnf
      refine ⟨fun c => absurd ((nI_leI (by omega) (by omega)).mp c) (by omega), fun _ => ?_⟩
      conv => whnf
      refine ⟨⟨_, jget_apl hb⟩, jcall (c_X4_tellRow (jget_apl hb) (jget_apl hlo) (jget_apl hen) (j1 w) (by omega) (by omega) hp hl ho hef hlk) ?_⟩
      rintro r' h' ⟨rfl, w2, rfl, hw2⟩
      rw [jsetA]
      conv => whnf
      refine jcall (c_X4_descents (j1 w2) hp hw2 hl6) ?_
      rintro r h' ⟨rfl, rfl⟩
      conv => whnf
      have j0 : (h ++ [aL (jmany o.1) tf, aI o.1 w2])[h.length]? = some (aL (jmany o.1) tf) := jtwo_s h _ _
      refine ⟨_, _, _, j0, ?_⟩
      conv => whnf
      refine jcall (c_wi (nI (jdes l (o.1 - 1))) (jmany o.1) (by omega) _) ?_
      rintro r h' ⟨rfl, rfl⟩
      conv => whnf
      rw [jbi_t (by rw [nI_toInt (by omega)]; omega)]
      refine ⟨fun c => absurd c nI_10, fun _ => ?_⟩
      conv => whnf
      refine ⟨_, _, _, j0, rfl, hdl, ?_⟩
      conv => whnf
      refine ⟨_, _, _, j0, rfl, hdl, ?_⟩
      conv => whnf
      have hs0 : ∀ x : jC, (h ++ [aL (jmany o.1) tf, aI o.1 w2]).set h.length x = h ++ [x, aI o.1 w2] := by
        intro x
        have := jsetA h [aL (jmany o.1) tf, aI o.1 w2] 0 x
        rw [Nat.add_zero] at this
        exact this
      erw [hs0]
      rw [nI_add]
      refine ih (k + 1) (by omega) _ w2 _ (fun c hc => ?_)
      rw [jct, hgd]
      unfold vp_updL
      by_cases hcd : c = jdes l (o.1 - 1)
      · rw [if_pos hcd, if_pos hcd.symm, ← hcd, htf c hc, ← i64_add]
        rfl
      · rw [if_neg hcd, if_neg (fun q => hcd q.symm), Nat.add_zero]
        exact htf c hc
  refine hG [19, 9, 16] 300 _ _ _ _ _ _ ?_
  conv => whnf
  refine ⟨_, hb, ?_⟩
  conv => whnf
  have hmn := c_X0_howMany o.1 hp h
  refine jcall (hmn) ?_
  rintro r' h' ⟨rfl, he⟩
  obtain rfl := he.symm
  clear he
  conv => whnf
  rw [show (if o.1 = 0 then 1 else 2 ^ (o.1 - 1)) = jmany o.1 from rfl]
  refine ⟨jmany o.1, rfl, by omega, (show 0 + jmany o.1 ≤ 76 by omega), ?_⟩
  conv => whnf
  refine hBB 1 32 (by decide) (show 0 + jmany o.1 ≤ 32 by omega) ?_
  refine hG [16] 300 _ _ _ _ _ _ ?_
  conv => whnf
  refine ⟨_, jget_app hb, ?_⟩
  conv => whnf
  refine ⟨o.1, rfl, by omega, (show 32 + o.1 ≤ 76 by omega), ?_⟩
  rw [List.length_append, List.append_assoc]
  conv => whnf
  refine hBB 2 38 (by decide) (show 32 + o.1 ≤ 38 by omega) ?_
  refine hG [19] 300 _ _ _ _ _ _ ?_
  conv => whnf
  exact l19 rs.length 0 (by omega) _ _ none (fun c hc => rfl)
theorem q_made {τ : jTg} {h : List jC} {z : zS} (E : EncX τ h z) (hz : zWF z) (x : Int32) : jCt jy_X11_made [.ref 2, .int x] h (xPost h (zmake z x).1 (zmake z x).2) := by
  obtain ⟨ρ, ω, κ, π, n, t, k, H⟩ := id E
  obtain ⟨lo, en, lf, ef, tω, -, -, hω, hlo, hen, hlf, hef⟩ := H.ord
  have e1 := H.1
  have e11 := E.B
  have hok := hz.2.2.1
  have h64 := zord64 hok
  have hp := hok.1
  by_cases c : ¬ isReg x
  · rw [zmake, if_neg c]
    refine jrun2 (js_X11_made _) rfl rfl rfl (fun G hG hW hB => ?_)
    refine hG [] 300 _ _ _ _ _ _ ?_
    conv => whnf
    refine jcall (c_wi x 4 (by decide) h) ?_
    rintro r' h' ⟨rfl, he⟩
    obtain rfl := he.symm
    clear he
    conv => whnf
    refine ⟨fun c1 => ?_, fun _ => ?_⟩
    · rw [jbi_0, ← isReg_iff] at c1
      exact absurd (Decidable.not_not.mp c1) c
    · conv => whnf
      exact xsame E _
  have c := Decidable.not_not.mp c
  rw [zmake, if_pos c]
  obtain ⟨hx, hx4⟩ := isReg_nI c
  generalize tn x = r at *
  generalize hΦ : xPost h _ _ = Φ
  refine jrun2 (js_X11_made _) rfl rfl rfl (fun G hG hW hB => ?_)
  refine hG [] 300 _ _ _ _ _ _ ?_
  conv => whnf
  refine jcall (c_wi x 4 (by decide) h) ?_
  rintro r' h' ⟨rfl, he⟩
  obtain rfl := he.symm
  clear he
  conv => whnf
  refine ⟨fun _ => ?_, fun c1 => absurd ((isReg_iff x).mp c) (jbi_0.mp c1)⟩
  conv => whnf
  refine ⟨_, e1, ?_⟩
  conv => whnf
  refine ⟨⟨_, hω⟩, jcall (c_X4_makes hω hlo hen hp hlf h64 hef) ?_⟩
  rintro r' h' ⟨rfl, tf, w, q, rfl, hq⟩
  have hxs : xS (fz0 τ) (h ++ j5 h.length (jmany (zO z).1) (zO z).1 tf w q) (h.length + 2) ((zO z).1, jmk (zO z).1 (zrows (zO z)) (fun _ => 0) (zrows (zO z)).length) := ⟨e11.2.2.2 _ (by omega), h.length + 3, q.1, e11.2.2.2 _ (by omega), jidx h _ 2, jidx h _ 3, hq⟩
  have hc := c_X11_become (E.app (j5 h.length (jmany (zO z).1) (zO z).1 tf w q)) hz hx4 hxs (zcan_mk hp (fun c h1 h2 => jmk_hi _ _ _ h2))
  rw [← hx] at hc
  conv => whnf
  refine ⟨⟨_, jget_apl e1⟩, jcall hc ?_⟩
  rintro r' h' ⟨rfl, τ', E', K'⟩
  obtain ⟨ρ', ω', κ', π', n', t', k', H'⟩ := id E'
  obtain ⟨lo', en', lf', ef', -, -, -, hω', -⟩ := H'.ord
  conv => whnf
  refine ⟨_, H'.1, ?_⟩
  conv => whnf
  refine ⟨_, hω', ?_⟩
  conv => whnf
  rw [← hΦ]
  have hO : zO (zbecS z r ((zO z).1, jmk (zO z).1 (zrows (zO z)) (fun _ => 0) (zrows (zO z)).length)) = zO z := rfl
  rw [hO]
  exact yx E ⟨rfl, τ', E', K'⟩
