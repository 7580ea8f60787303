/-! the class's orders: who stands below, who can come, how many rows go on -/
abbrev oO (p lo : Nat) (en cv : Value) : jC := .inr (3, [.int (nI p), .ref lo, en, cv])
theorem c_X4_has {h : List jC} {cv : Value} {b p lo : Nat} {en : Value} {lf : Nat → Int32} (hb : h[b]? = some (oO p lo en cv)) (hlo : h[lo]? = some (aI 7 lf)) (hp : p ≤ 6) (x : Int32) : jCt jy_X4_has [.ref b, .int x] h (fun r h' => r = some (.int (jbi (1 ≤ x.toInt ∧ x.toInt ≤ p))) ∧ h' = h) := by
  have j7 : (nI 7).toInt = 7 := by decide
  refine jrun2 (js_X4_has _) rfl rfl rfl (fun G hG hW hB => ?_)
  refine hG [] 300 _ _ _ _ _ _ ?_
  conv => whnf
  refine ⟨fun c => ?_, fun c => ?_⟩ <;> rw [jlt, j1] at c
  · conv => whnf
    refine ⟨Or.inl rfl, ?_, rfl⟩
    rw [jbi_f (by omega)]
  conv => whnf
  refine ⟨_, hb, ?_⟩
  conv => whnf
  refine ⟨fun c2 => ?_, fun c2 => ?_⟩ <;> rw [jlt, nI_toInt (by omega)] at c2
  · conv => whnf
    refine ⟨Or.inl rfl, ?_, rfl⟩
    rw [jbi_f (by omega)]
  conv => whnf
  refine ⟨_, hb, ?_⟩
  conv => whnf
  refine ⟨_, _, _, hlo, ?_⟩
  conv => whnf
  refine ⟨fun c3 => ?_, fun c3 => ?_⟩ <;> rw [jleI, j7] at c3
  · omega
  · conv => whnf
    refine ⟨Or.inr rfl, ?_, rfl⟩
    rw [jbi_t (by omega)]
theorem jzb (c a : Nat) (ha : 1 ≤ a) : 2 * c / 2 ^ a % 2 = c / 2 ^ (a - 1) % 2 := by
  obtain ⟨b, rfl⟩ : ∃ b, a = b + 1 := ⟨a - 1, by omega⟩
  rw [Nat.pow_succ, Nat.mul_comm (2 ^ b) 2, ← Nat.div_div_eq_div_mul, Nat.mul_div_cancel_left _ (by decide), Nat.add_sub_cancel]
theorem c_X4_stands {h : List jC} {cv : Value} {b lo : Nat} {en : Value} {lf : Nat → Int32} {o : zOrd} (hb : h[b]? = some (oO o.1 lo en cv)) (hlo : h[lo]? = some (aI 7 lf)) (hp : o.1 ≤ 6) (hl : ∀ j, j < 7 → lf j = nI (o.2 j)) (ho : ∀ j, j < 7 → o.2 j < 64) (x y : Int32) : jCt jy_X4_stands [.ref b, .int x, .int y] h (fun r h' => r = some (.int (jbi ((isThg o x ∧ isThg o y) ∧ zund o (tn x) (tn y)))) ∧ h' = h) := by
  refine jrun2 (js_X4_stands _) rfl rfl rfl (fun G hG hW hB => ?_)
  refine hG [] 300 _ _ _ _ _ _ ?_
  conv => whnf
  refine ⟨⟨_, hb⟩, jcall (c_X4_has hb hlo hp x) ?_⟩
  rintro r' h' ⟨rfl, he⟩
  obtain rfl := he.symm
  clear he
  conv => whnf
  refine ⟨fun c => ?_, fun c => ?_⟩ <;> rw [jbi_0] at c
  · conv => whnf
    refine ⟨Or.inl rfl, ?_, rfl⟩
    rw [jbi_f (fun q => c q.1.1)]
  have c := Decidable.not_not.mp c
  conv => whnf
  refine ⟨⟨_, hb⟩, jcall (c_X4_has hb hlo hp y) ?_⟩
  rintro r' h' ⟨rfl, he⟩
  obtain rfl := he.symm
  clear he
  conv => whnf
  refine ⟨fun c2 => ?_, fun c2 => ?_⟩ <;> rw [jbi_0] at c2
  · conv => whnf
    refine ⟨Or.inl rfl, ?_, rfl⟩
    rw [jbi_f (fun q => c2 q.1.2)]
  have c2 := Decidable.not_not.mp c2
  have hx := tn_eq (x := x) (by omega)
  have hy := tn_eq (x := y) (by omega)
  have hx1 : 1 ≤ tn x ∧ tn x ≤ 6 := by unfold tn; omega
  have hy7 : tn y < 7 := by unfold tn; omega
  have hbit : (lf (tn y) >>> ((x - nI 1) &&& 31) &&& nI 1) = nI (2 * o.2 (tn y) / 2 ^ tn x % 2) := by
    have e : x - nI 1 = nI (tn x - 1) := by
      have := jI_m1 hx1.1
      rw [← hx] at this
      exact this
    rw [hl _ hy7, e, jI_bit (by have := ho _ hy7; omega) (by omega), jzb _ _ hx1.1]
  conv => whnf
  refine ⟨_, hb, ?_⟩
  conv => whnf
  refine ⟨_, _, _, hlo, hy, hy7, ?_⟩
  conv => whnf
  rw [hbit]
  refine ⟨fun c3 => ?_, fun c3 => ?_⟩ <;> rw [nI_eq (by omega) (by decide)] at c3
  · conv => whnf
    refine ⟨Or.inl rfl, ?_, rfl⟩
    rw [jbi_f (fun q => c3 q.2)]
  · conv => whnf
    refine ⟨Or.inr rfl, ?_, rfl⟩
    rw [jbi_t ⟨⟨c, c2⟩, c3⟩]
theorem jnot_eq : ∀ a, a < 64 → ∀ t, t < 64 → ((nI a &&& (nI t ^^^ (-1)) = nI 0) ↔ (nI (2 * a) &&& (nI (2 * t) ^^^ (-1)) = nI 0)) := by decide +kernel
theorem c_X4_canCome {h : List jC} {cv : Value} {b lo : Nat} {en : Value} {lf : Nat → Int32} {o : zOrd} (hb : h[b]? = some (oO o.1 lo en cv)) (hlo : h[lo]? = some (aI 7 lf)) (hp : o.1 ≤ 6) (hl : ∀ j, j < 7 → lf j = nI (o.2 j)) (ho : ∀ j, j < 7 → o.2 j < 64) (x : Int32) {t : Nat} (ht : t < 64) : jCt jy_X4_canCome [.ref b, .int x, .int (nI t)] h (fun r h' => r = some (.int (jbi (isThg o x ∧ okI o (2 * t) (tn x)))) ∧ h' = h) := by
  refine jrun2 (js_X4_canCome _) rfl rfl rfl (fun G hG hW hB => ?_)
  refine hG [] 300 _ _ _ _ _ _ ?_
  conv => whnf
  refine ⟨⟨_, hb⟩, jcall (c_X4_has hb hlo hp x) ?_⟩
  rintro r' h' ⟨rfl, he⟩
  obtain rfl := he.symm
  clear he
  conv => whnf
  refine ⟨fun c => ?_, fun c => ?_⟩ <;> rw [jbi_0] at c
  · conv => whnf
    refine ⟨Or.inl rfl, ?_, rfl⟩
    rw [jbi_f (fun q => c q.1)]
  have c := Decidable.not_not.mp c
  have hx := tn_eq (x := x) (by omega)
  have hx1 : 1 ≤ tn x ∧ tn x ≤ 6 := by unfold tn; omega
  have hbit : (nI t >>> ((x - nI 1) &&& 31) &&& nI 1) = nI (2 * t / 2 ^ tn x % 2) := by
    have e : x - nI 1 = nI (tn x - 1) := by
      have := jI_m1 hx1.1
      rw [← hx] at this
      exact this
    rw [e, jI_bit (by omega) (by omega), jzb _ _ hx1.1]
  conv => whnf
  rw [hbit]
  refine ⟨fun c2 => ?_, fun c2 => ?_⟩ <;> rw [nI_eq (by omega) (by decide)] at c2
  · conv => whnf
    refine ⟨Or.inl rfl, ?_, rfl⟩
    rw [jbi_f (fun q => q.2.1 (by omega))]
  conv => whnf
  refine ⟨_, hb, ?_⟩
  conv => whnf
  refine ⟨_, _, _, hlo, hx, (show tn x < 7 by omega), ?_⟩
  conv => whnf
  rw [hl _ (by omega)]
  have hq := jnot_eq _ (ho (tn x) (by omega)) t ht
  refine ⟨fun c3 => ?_, fun c3 => ?_⟩ <;> rw [hq] at c3
  · conv => whnf
    refine ⟨Or.inl rfl, ?_, rfl⟩
    rw [jbi_f (fun q => c3 q.2.2)]
  · conv => whnf
    refine ⟨Or.inr rfl, ?_, rfl⟩
    rw [jbi_t ⟨c, by omega, c3⟩]
theorem jor_lt : ∀ p, p < 7 → ∀ t, t < 64 → ∀ i, i < 6 → (Nat.blt t (2 ^ p) && Nat.blt i p && !(Nat.blt (t ||| 2 ^ i) (2 ^ p))) = false := by decide +kernel
theorem jor_lt2 {p t i : Nat} (hp : p ≤ 6) (ht : t < 2 ^ p) (hi : i < p) : t ||| 2 ^ i < 2 ^ p := Nat.or_lt_two_pow ht (Nat.pow_lt_pow_right (by decide) hi)
/-- how many rows go on behind a set and a thing -/
abbrev zwb (o : zOrd) (ef : Nat → Int32) (t v : Nat) : Int32 := if okI o (2 * t) v then ef (t ||| 2 ^ (v - 1)) else nI 0
theorem c_X4_waysBehind {h : List jC} {cv : Value} {b lo en : Nat} {lf ef : Nat → Int32} {o : zOrd} (hb : h[b]? = some (oO o.1 lo (.ref en) cv)) (hlo : h[lo]? = some (aI 7 lf)) (hen : h[en]? = some (aI (2 ^ o.1) ef)) (hp : o.1 ≤ 6) (hl : ∀ j, j < 7 → lf j = nI (o.2 j)) (ho : ∀ j, j < 7 → o.2 j < 64) {t v : Nat} (ht : t < 2 ^ o.1) (hv : 1 ≤ v ∧ v ≤ o.1) : jCt jy_X4_waysBehind [.ref b, .int (nI t), .int (nI v)] h (fun r h' => r = some (.int (zwb o ef t v)) ∧ h' = h) := by
  have hp2 : 2 ^ o.1 ≤ 64 := Nat.pow_le_pow_right (by decide) hp
  have hnx := jor_lt2 hp ht (show v - 1 < o.1 by omega)
  have hcc := c_X4_canCome hb hlo hp hl ho (nI v) (t := t) (by omega)
  have hth : isThg o (nI v) := by
    unfold isThg
    rw [nI_toInt (by omega)]
    omega
  rw [tn_nI (by omega), jbi_c (show (isThg o (nI v) ∧ okI o (2 * t) v) ↔ okI o (2 * t) v from ⟨fun q => q.2, fun q => ⟨hth, q⟩⟩)] at hcc
  generalize hΦ : (fun (r : Option Value) (h' : List jC) => r = some (Value.int (zwb o ef t v)) ∧ h' = h) = Φ
  refine jrun2 (js_X4_waysBehind _) rfl rfl rfl (fun G hG hW hB => ?_)
  refine hG [] 300 _ _ _ _ _ _ ?_
  conv => whnf
  rw [jI_m1 hv.1, jI_one (by omega), jI_or]
  conv => whnf
  refine ⟨⟨_, hb⟩, jcall (hcc) ?_⟩
  rintro r' h' ⟨rfl, he⟩
  obtain rfl := he.symm
  clear he
  conv => whnf
  refine ⟨fun c => ?_, fun c => ?_⟩ <;> rw [jbi_0] at c
  · conv => whnf
    rw [← hΦ, zwb, if_neg c]
    exact ⟨rfl, rfl⟩
  have c := Decidable.not_not.mp c
  conv => whnf
  refine ⟨_, hb, ?_⟩
  conv => whnf
  refine ⟨_, _, _, hen, ?_⟩
  conv => whnf
  refine jcall (c_wi _ (2 ^ o.1) (by omega) h) ?_
  rintro r' h' ⟨rfl, he⟩
  obtain rfl := he.symm
  clear he
  conv => whnf
  rw [jbi_t (by rw [nI_toInt (by omega)]; omega)]
  refine ⟨fun q => absurd q nI_10, fun _ => ?_⟩
  conv => whnf
  refine ⟨_, hb, ?_⟩
  conv => whnf
  refine ⟨_, _, _, hen, rfl, hnx, ?_⟩
  conv => whnf
  rw [← hΦ, zwb, if_pos c]
  exact ⟨rfl, rfl⟩
theorem jpop_full : ∀ p, p < 7 → ∀ t, t < 64 → (Nat.blt t (2 ^ p) && !(Nat.ble (jpop t) p && decide (jpop t = p ↔ t = 2 ^ p - 1))) = false := by decide +kernel
theorem jpop_full2 {p t : Nat} (hp : p ≤ 6) (ht : t < 2 ^ p) : jpop t ≤ p ∧ (jpop t = p ↔ t = 2 ^ p - 1) := by
  have hp2 : 2 ^ p ≤ 64 := Nat.pow_le_pow_right (by decide) hp
  have := jpop_full p (by omega) t (by omega)
  rw [show Nat.blt t (2 ^ p) = true from (Nat.blt_eq).mpr ht, Bool.true_and, Bool.not_eq_eq_eq_not, Bool.not_false, Bool.and_eq_true, decide_eq_true_eq] at this
  exact ⟨Nat.le_of_ble_eq_true this.1, this.2⟩
theorem jpop_or : ∀ t, t < 64 → ∀ i, i < 6 → (t / 2 ^ i % 2 = 0 → jpop (t ||| 2 ^ i) = jpop t + 1 ∧ 2 * t ||| 2 ^ (i + 1) = 2 * (t ||| 2 ^ i)) := by decide +kernel
theorem rwsL_sum (g : Nat → List (List Nat)) : ∀ n, (rwsL g n).length = jgvL (fun v => (g v).length) n
  | 0 => rfl
  | n + 1 => by rw [rwsL, List.length_append, jgvL, rwsL_sum g n]
theorem jgvL_c {g g2 : Nat → Nat} : ∀ n, (∀ v, 1 ≤ v → v ≤ n → g v = g2 v) → jgvL g n = jgvL g2 n
  | 0, _ => rfl
  | n + 1, h => by rw [jgvL, jgvL, jgvL_c n (fun v h1 h2 => h v h1 (by omega)), h (n + 1) (by omega) (Nat.le_refl _)]
theorem jgvL_0 : ∀ n, jgvL (fun _ => 0) n = 0
  | 0 => rfl
  | n + 1 => by rw [jgvL, jgvL_0 n]
/-- rows behind a set: one thing comes first -/
theorem zrw_step {o : zOrd} (hp : o.1 ≤ 6) {t : Nat} (ht : t < 2 ^ o.1) (hn : ¬ t = 2 ^ o.1 - 1) : rws o (o.1 - jpop t) (2 * t) = rwsL (fun v => if okI o (2 * t) v then (rws o (o.1 - jpop (t ||| 2 ^ (v - 1))) (2 * (t ||| 2 ^ (v - 1)))).map (fun l => v :: l) else []) o.1 := by
  have hp2 : 2 ^ o.1 ≤ 64 := Nat.pow_le_pow_right (by decide) hp
  obtain ⟨h1, h2⟩ := jpop_full2 hp ht
  obtain ⟨f, hf⟩ : ∃ f, o.1 - jpop t = f + 1 := ⟨o.1 - jpop t - 1, by
    have : ¬ jpop t = o.1 := fun e => hn (h2.mp e)
    omega⟩
  rw [hf, rws]
  have : ∀ n, n ≤ o.1 → rwsL (fun i => if okI o (2 * t) i then (rws o f (2 * t ||| 2 ^ i)).map (fun l => i :: l) else []) n = rwsL (fun v => if okI o (2 * t) v then (rws o (o.1 - jpop (t ||| 2 ^ (v - 1))) (2 * (t ||| 2 ^ (v - 1)))).map (fun l => v :: l) else []) n := by
    intro n
    induction n with
    | zero => intro _; rfl
    | succ n ih =>
      intro hn2
      rw [rwsL, rwsL, ih (by omega)]
      congr 1
      by_cases ho : okI o (2 * t) (n + 1)
      · rw [if_pos ho, if_pos ho]
        have hb := ho.1
        rw [jzb t (n + 1) (by omega), Nat.add_sub_cancel] at hb
        obtain ⟨g1, g2⟩ := jpop_or t (by omega) n (by omega) (by omega)
        rw [Nat.add_sub_cancel, g1, g2]
        congr 2
        omega
      · rw [if_neg ho, if_neg ho]
  exact this o.1 (Nat.le_refl _)
theorem zend_last {o : zOrd} (hp : o.1 ≤ 6) : zend o (2 ^ o.1 - 1) = 1 ∧ ∀ v, 1 ≤ v → v ≤ o.1 → ¬ okI o (2 * (2 ^ o.1 - 1)) v := by
  have hpos : 0 < 2 ^ o.1 := Nat.pow_pos (by decide)
  have := (jpop_full2 (t := 2 ^ o.1 - 1) hp (by omega)).2.mpr rfl
  refine ⟨?_, fun v h1 h2 hok => ?_⟩
  · unfold zend
    rw [this, Nat.sub_self]
    rfl
  · have hb := hok.1
    rw [jzb _ v h1] at hb
    have h3 : ∀ p, p < 7 → ∀ v, v < 7 → (1 ≤ v → v ≤ p → (2 ^ p - 1) / 2 ^ (v - 1) % 2 = 1) := by decide +kernel
    exact hb (h3 o.1 (by omega) v (by omega) h1 h2)
theorem zend_rec {o : zOrd} (hp : o.1 ≤ 6) {t : Nat} (ht : t < 2 ^ o.1) : zend o t = (if t = 2 ^ o.1 - 1 then 1 else 0) + jgvL (fun v => if okI o (2 * t) v then zend o (t ||| 2 ^ (v - 1)) else 0) o.1 := by
  by_cases hn : t = 2 ^ o.1 - 1
  · obtain ⟨h1, h2⟩ := zend_last hp
    rw [if_pos hn, hn, h1]
    have : jgvL (fun v => if okI o (2 * (2 ^ o.1 - 1)) v then zend o ((2 ^ o.1 - 1) ||| 2 ^ (v - 1)) else 0) o.1 = 0 := by
      rw [jgvL_c (g2 := fun _ => 0) o.1 (fun v a b => if_neg (h2 v a b)), jgvL_0]
    rw [this]
  · rw [if_neg hn, Nat.zero_add]
    unfold zend
    rw [zrw_step hp ht hn, rwsL_sum]
    refine jgvL_c _ (fun v a b => ?_)
    split
    · rw [List.length_map]
    · rfl
theorem c_X4_countEndings {h : List jC} {cv : Value} {b lo en : Nat} {lf ef0 : Nat → Int32} {o : zOrd} (hb : h[b]? = some (oO o.1 lo (.ref en) cv)) (hlo : h[lo]? = some (aI 7 lf)) (hen : h[en]? = some (aI (2 ^ o.1) ef0)) (hle : en ≠ lo) (hp : o.1 ≤ 6) (hl : ∀ j, j < 7 → lf j = nI (o.2 j)) (ho : ∀ j, j < 7 → o.2 j < 64) : jCt jy_X4_countEndings [.ref b] h (fun r h' => r = none ∧ ∃ ef, h' = h.set en (aI (2 ^ o.1) ef) ∧ ∀ t, t < 2 ^ o.1 → ef t = nI (zend o t)) := by
  have hp2 : 2 ^ o.1 ≤ 64 := Nat.pow_le_pow_right (by decide) hp
  have hpos : 0 < 2 ^ o.1 := Nat.pow_pos (by decide)
  have hbe : en ≠ b := jne hen hb (fun z => by cases z)
  generalize hN : 2 ^ o.1 = N at *
  refine jrun2 (js_X4_countEndings _) rfl rfl rfl (fun G hG hW hB => ?_)
  have jm0 : (-1 : Int32) < nI 0 := by decide
  have outer : ∀ e, e ≤ N → ∀ (x3 x4 : Option Value) (ef : Nat → Int32), (∀ t, e ≤ t → t < N → ef t = nI (zend o t)) → G 10 [some (.ref b), some (.int (nI (N - 1))), some (.int (if e = 0 then -1 else nI (e - 1))), x3, x4] [] (h.set en (aI N ef)) 0 0 := by
    intro e
    induction e with
    | zero =>
      intro he x3 x4 ef hef
      rw [if_pos rfl]
      refine hG [10] 300 _ _ _ _ _ _ ?_
      conv => whnf
      refine ⟨fun _ => ?_, fun c => absurd jm0 c⟩
      conv => whnf
      exact ⟨rfl, ef, rfl, fun t ht => hef t (Nat.zero_le _) ht⟩
    | succ e ih =>
      intro he x3 x4 ef hef
      rw [if_neg (by omega), Nat.add_sub_cancel]
      have inner : ∀ u v, o.1 = v + u → G 28 [some (.ref b), some (.int (nI (N - 1))), some (.int (nI e)), some (.int (nI ((if e = N - 1 then 1 else 0) + jgvL (fun v => if okI o (2 * e) v then zend o (e ||| 2 ^ (v - 1)) else 0) v))), some (.int (nI (v + 1)))] [] (h.set en (aI N ef)) 0 0 := by
        intro u
        induction u with
        | zero =>
          intro v hv
          refine hG [28, 10] 300 _ _ _ _ _ _ ?_
          conv => whnf
          refine ⟨_, jget_ne hbe hb, ?_⟩
          conv => whnf
          refine ⟨fun qb => ?_, fun qb => ?_⟩ <;> rw [nI_ltI (by omega) (by omega)] at qb
          case refine_2 => omega
          conv => whnf
          refine ⟨_, jget_ne hbe hb, ?_⟩
          conv => whnf
          refine ⟨_, _, _, jget_set hen, rfl, (show e < N by omega), ?_⟩
          conv => whnf
          rw [List.set_set]
          have hs : nI e + -1 = (if e = 0 then -1 else nI (e - 1)) := by
            by_cases h0 : e = 0
            · rw [if_pos h0, h0]; rfl
            · rw [if_neg h0, ← jI_m1 (by omega), show (-1 : Int32) = - nI 1 from rfl, ← Int32.sub_eq_add_neg]
          rw [hs]
          refine ih (by omega) _ _ _ (fun t h1 h2 => ?_)
          unfold upd
          by_cases hte : t = e
          · rw [if_pos hte, hte, zend_rec hp (by rw [hN]; omega), hN, show o.1 = v by omega]
          · rw [if_neg hte]
            exact hef t (by omega) h2
        | succ u ih2 =>
          intro v hv
          have i1 := ih2 (v + 1) (by omega)
          rw [jgvL] at i1
          have hwb := c_X4_waysBehind (h := h.set en (aI N ef)) (t := e) (v := v + 1) (ef := ef) (jget_ne hbe hb) (jget_ne hle hlo) (by rw [hN]; exact jget_set hen) hp hl ho (by rw [hN]; omega) (by omega)
          have hz : zwb o ef e (v + 1) = nI (if okI o (2 * e) (v + 1) then zend o (e ||| 2 ^ (v + 1 - 1)) else 0) := by
            unfold zwb
            by_cases hok : okI o (2 * e) (v + 1)
            · rw [if_pos hok, if_pos hok]
              have hlt : e ||| 2 ^ (v + 1 - 1) < N := by
                rw [← hN]
                exact jor_lt2 hp (by rw [hN]; omega) (by omega)
              have hgt : e + 1 ≤ e ||| 2 ^ (v + 1 - 1) := by
                have hb2 := hok.1
                rw [jzb e (v + 1) (by omega)] at hb2
                have hge : e ≤ e ||| 2 ^ (v + 1 - 1) := Nat.left_le_or
                have hne : e ≠ e ||| 2 ^ (v + 1 - 1) := by
                  intro eq
                  have h3 : ∀ t, t < 64 → ∀ i, i < 6 → (t = t ||| 2 ^ i → t / 2 ^ i % 2 = 1) := by decide +kernel
                  exact hb2 (h3 e (by omega) (v + 1 - 1) (by omega) eq)
                omega
              exact hef _ hgt hlt
            · rw [if_neg hok, if_neg hok]
          rw [hz] at hwb
          refine hG [28, 10] 300 _ _ _ _ _ _ ?_
          conv => whnf
          refine ⟨_, jget_ne hbe hb, ?_⟩
          conv => whnf
          refine ⟨fun qb => ?_, fun qb => ?_⟩ <;> rw [nI_ltI (by omega) (by omega)] at qb
          · omega
          conv => whnf
          refine ⟨⟨_, jget_ne hbe hb⟩, jcall hwb ?_⟩
          rintro r' h' ⟨rfl, rfl⟩
          conv => whnf
          rw [nI_add, nI_add]
          rw [← Nat.add_assoc] at i1
          exact i1
      have i0 := inner o.1 0 (by omega)
      rw [jgvL, Nat.add_zero] at i0
      refine hG [10, 28] 300 _ _ _ _ _ _ ?_
      conv => whnf
      refine ⟨fun c => absurd c (nI_nlt (by omega) (by omega)), fun _ => ?_⟩
      conv => whnf
      refine ⟨fun c => ?_, fun c => ?_⟩ <;> rw [nI_eq (by omega) (by omega)] at c
      · rw [if_neg c] at i0
        conv => whnf
        exact i0
      · rw [if_pos c] at i0
        conv => whnf
        exact i0
  refine hG [10] 300 _ _ _ _ _ _ ?_
  conv => whnf
  refine ⟨_, hb, ?_⟩
  conv => whnf
  refine ⟨_, _, _, hen, ?_⟩
  conv => whnf
  rw [jI_m1 (by omega)]
  have l0 := outer N (Nat.le_refl _) none none ef0 (fun t h1 h2 => by omega)
  rw [if_neg (by omega), jset_same hen] at l0
  exact l0
