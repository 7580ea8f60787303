/-! the class: a row told, rowOf, marks, film, judge -/
theorem rwsL_at (g : Nat → List (List Nat)) (p v r : Nat) (hv : v < p) (hr : r < (g (v + 1)).length) : (rwsL g p)[(rwsL g v).length + r]? = (g (v + 1))[r]? := by
  have h1 : (rwsL g (v + 1))[(rwsL g v).length + r]? = (g (v + 1))[r]? := by
    rw [rwsL, List.getElem?_append_right (by omega), Nat.add_sub_cancel_left]
  have h2 := rwsL_pre g (v + 1) (p - (v + 1)) ((rwsL g v).length + r) (by rw [rwsL, List.length_append]; omega)
  rw [show v + 1 + (p - (v + 1)) = p by omega] at h2
  rw [h2, h1]
/-- the rows behind a set that begin with a thing -/
abbrev jgb (o : zOrd) (t v : Nat) : List (List Nat) := if okI o (2 * t) v then (rws o (o.1 - jpop (t ||| 2 ^ (v - 1))) (2 * (t ||| 2 ^ (v - 1)))).map (fun l => v :: l) else []
theorem zwb_len {o : zOrd} (hp : o.1 ≤ 6) {ef : Nat → Int32} (hef : ∀ t, t < 2 ^ o.1 → ef t = nI (zend o t)) {t v : Nat} (ht : t < 2 ^ o.1) (hv : 1 ≤ v ∧ v ≤ o.1) : zwb o ef t v = nI (jgb o t v).length := by
  unfold zwb jgb
  split
  · rw [hef _ (jor_lt2 hp ht (by omega)), List.length_map]
    rfl
  · rfl
theorem jgb_small {o : zOrd} (hp : o.1 ≤ 6) (t v : Nat) : (jgb o t v).length < 1000000 := by
  unfold jgb
  split
  · rw [List.length_map]
    have h1 := rws_len o hp (o.1 - jpop (t ||| 2 ^ (v - 1))) (2 * (t ||| 2 ^ (v - 1)))
    have h2 : 6 ^ (o.1 - jpop (t ||| 2 ^ (v - 1))) ≤ 6 ^ 6 := Nat.pow_le_pow_right (by decide) (by omega)
    omega
  · exact Nat.succ_pos _
theorem c_X4_tellRow {h : List jC} {cv : Value} {b lo en a : Nat} {lf ef w : Nat → Int32} {o : zOrd} (hb : h[b]? = some (oO o.1 lo (.ref en) cv)) (hlo : h[lo]? = some (aI 7 lf)) (hen : h[en]? = some (aI (2 ^ o.1) ef)) (ha : h[a]? = some (aI o.1 w)) (nlo : a ≠ lo) (nen : a ≠ en) (hp : o.1 ≤ 6) (hl : ∀ j, j < 7 → lf j = nI (o.2 j)) (ho : ∀ j, j < 7 → o.2 j < 64) (hef : ∀ t, t < 2 ^ o.1 → ef t = nI (zend o t)) {k : Nat} {l : List Nat} (hk : (zrows o)[k]? = some l) : jCt jy_X4_tellRow [.ref b, .int (nI k), .ref a] h (fun r h' => r = none ∧ ∃ w', h' = h.set a (aI o.1 w') ∧ ∀ m, m < o.1 → w' m = nI (l.getD m 0)) := by
  have nb : a ≠ b := jne ha hb (fun z => by cases z)
  have hp2 : 2 ^ o.1 ≤ 64 := Nat.pow_le_pow_right (by decide) hp
  have hpos : 0 < 2 ^ o.1 := Nat.pow_pos (by decide)
  obtain ⟨hl1, hl2⟩ := rws_each (show l ∈ rws o o.1 0 from List.mem_of_getElem? hk)
  have hkl := (List.getElem?_eq_some_iff.mp hk).1
  have hzl := zrows_len hp
  have getd : ∀ i v l2, l.drop i = v :: l2 → l.getD i 0 = v := by
    intro i v l2 he
    have : (l.drop i)[0]? = some v := by rw [he]; rfl
    rw [List.getElem?_drop, Nat.add_zero] at this
    rw [List.getD, this]
    rfl
  generalize hΦ : (fun (r : Option Value) (h' : List jC) => r = none ∧ ∃ w', h' = h.set a (aI o.1 w') ∧ ∀ m, m < o.1 → w' m = nI (l.getD m 0)) = Φ
  refine jrun2 (js_X4_tellRow _) rfl rfl rfl (fun G hG hW hB => ?_)
  have outer : ∀ u i t left (w : Nat → Int32) (x6 x7 : Option Value), o.1 = i + u → jpop t = i → t < 2 ^ o.1 → left < 100000 → (rws o (o.1 - jpop t) (2 * t))[left]? = some (l.drop i) → (∀ m, m < i → w m = nI (l.getD m 0)) → G 8 [some (.ref b), some (.int (nI k)), some (.ref a), some (.int (nI t)), some (.int (nI left)), some (.int (nI i)), x6, x7] [] (h.set a (aI o.1 w)) 0 0 := by
    intro u
    induction u with
    | zero =>
      intro i t left w x6 x7 hu hi ht hle hr hw
      refine hG [8] 300 _ _ _ _ _ _ ?_
      conv => whnf
      refine ⟨_, _, _, jget_set ha, ?_⟩
      conv => whnf
      refine ⟨fun qb => ?_, fun qb => ?_⟩ <;> rw [nI_leI (by omega) (by omega)] at qb
      · conv => whnf
        rw [← hΦ]
        exact ⟨rfl, w, rfl, fun m hm => hw m (by omega)⟩
      · omega
    | succ u ih =>
      intro i t left w x6 x7 hu hi ht hle hr hw
      have hnl : ¬ t = 2 ^ o.1 - 1 := fun e => by
        have := (jpop_full2 hp ht).2.mpr e
        omega
      rw [zrw_step hp ht hnl] at hr
      have hlt := (List.getElem?_eq_some_iff.mp hr).1
      have inner : ∀ u2 v r (x7 : Option Value), o.1 = v + u2 → (rwsL (jgb o t) v).length + r = left → G 18 [some (.ref b), some (.int (nI k)), some (.ref a), some (.int (nI t)), some (.int (nI r)), some (.int (nI i)), some (.int (nI (v + 1))), x7] [] (h.set a (aI o.1 w)) 0 0 := by
        intro u2
        induction u2 with
        | zero =>
          intro v r x7 hv hvr
          exfalso
          rw [show v = o.1 by omega] at hvr
          have : (rwsL (fun v => if okI o (2 * t) v then (rws o (o.1 - jpop (t ||| 2 ^ (v - 1))) (2 * (t ||| 2 ^ (v - 1)))).map (fun l => v :: l) else []) o.1).length = (rwsL (jgb o t) o.1).length := rfl
          omega
        | succ u2 ih2 =>
          intro v r x7 hv hvr
          have hwb := c_X4_waysBehind (h := h.set a (aI o.1 w)) (t := t) (v := v + 1) (ef := ef) (jget_ne nb hb) (jget_ne nlo hlo) (jget_ne nen hen) hp hl ho ht (by omega)
          rw [zwb_len hp hef ht (by omega)] at hwb
          have hsm := jgb_small hp t (v + 1)
          refine hG [18, 74] 300 _ _ _ _ _ _ ?_
          conv => whnf
          refine ⟨_, jget_ne nb hb, ?_⟩
          conv => whnf
          refine ⟨fun qb => ?_, fun qb => ?_⟩ <;> rw [nI_ltI (by omega) (by omega)] at qb
          · omega
          conv => whnf
          refine ⟨⟨_, jget_ne nb hb⟩, jcall hwb ?_⟩
          rintro r' h' ⟨rfl, rfl⟩
          conv => whnf
          refine ⟨fun qb => ?_, fun qb => ?_⟩ <;> rw [nI_leI (by omega) (by omega)] at qb
          · have hlen2 : (rwsL (jgb o t) (v + 1)).length = (rwsL (jgb o t) v).length + (jgb o t (v + 1)).length := by rw [rwsL, List.length_append]
            conv => whnf
            rw [pk_sub qb, nI_add]
            exact ih2 (v + 1) (r - (jgb o t (v + 1)).length) _ (by omega) (by omega)
          · have hr2 := rwsL_at (jgb o t) o.1 v r (by omega) (by omega)
            rw [hvr] at hr2
            have hr3 : (jgb o t (v + 1))[r]? = some (l.drop i) := hr2.symm.trans hr
            have hok : okI o (2 * t) (v + 1) := by
              refine Decidable.byContradiction (fun q => ?_)
              unfold jgb at hr3
              rw [if_neg q] at hr3
              simp at hr3
            unfold jgb at hr3
            rw [if_pos hok, List.getElem?_map, Option.map_eq_some_iff] at hr3
            obtain ⟨l2, e1, e2⟩ := hr3
            rw [Nat.add_sub_cancel] at e1
            have hbit := hok.1
            rw [jzb t (v + 1) (by omega), Nat.add_sub_cancel] at hbit
            obtain ⟨p1, p2⟩ := jpop_or t (by omega) v (by omega) (by omega)
            have hdr : l.drop (i + 1) = l2 := by
              have : (l.drop i).drop 1 = l2 := by rw [← e2]; rfl
              rw [List.drop_drop] at this
              exact this
            conv => whnf
            refine ⟨_, _, _, jget_set ha, rfl, (show i < o.1 by omega), ?_⟩
            conv => whnf
            rw [List.set_set, jI_m1 (by omega), Nat.add_sub_cancel, jI_one (by omega), jI_or]
            refine hG [8] 300 _ _ _ _ _ _ ?_
            conv => whnf
            rw [nI_add]
            refine ih (i + 1) (t ||| 2 ^ v) r _ _ _ (by omega) (by omega) (jor_lt2 hp ht (by omega)) (by omega) (by rw [hdr]; exact e1) (fun m hm => ?_)
            unfold upd
            by_cases hmi : m = i
            · rw [if_pos hmi, hmi, getd i (v + 1) l2 e2.symm]
            · rw [if_neg hmi]
              exact hw m (by omega)
      refine hG [8, 18] 300 _ _ _ _ _ _ ?_
      conv => whnf
      refine ⟨_, _, _, jget_set ha, ?_⟩
      conv => whnf
      refine ⟨fun qb => ?_, fun qb => ?_⟩ <;> rw [nI_leI (by omega) (by omega)] at qb
      · omega
      conv => whnf
      exact inner o.1 0 left x7 (by omega) (by rw [rwsL, List.length_nil, Nat.zero_add])
  refine hG [8] 300 _ _ _ _ _ _ ?_
  conv => whnf
  have l0 := outer o.1 0 0 k w none none (by omega) rfl hpos (by omega) (by rw [show jpop 0 = 0 from rfl, Nat.sub_zero, Nat.mul_zero, List.drop_zero]; exact hk) (fun m hm => absurd hm (Nat.not_lt_zero m))
  rw [jset_same ha] at l0
  exact l0
theorem zend_0 (o : zOrd) : zend o 0 = (zrows o).length := by
  unfold zend zrows
  rw [show jpop 0 = 0 from rfl, Nat.sub_zero, Nat.mul_zero]
theorem c_X4_howMany {h : List jC} {cv : Value} {b lo en : Nat} {ef : Nat → Int32} {o : zOrd} (hb : h[b]? = some (oO o.1 lo (.ref en) cv)) (hen : h[en]? = some (aI (2 ^ o.1) ef)) (hp : o.1 ≤ 6) (hef : ∀ t, t < 2 ^ o.1 → ef t = nI (zend o t)) : jCt jy_X4_howManyRows [.ref b] h (fun r h' => r = some (.int (nI (zrows o).length)) ∧ h' = h) := by
  have hp2 : 2 ^ o.1 ≤ 64 := Nat.pow_le_pow_right (by decide) hp
  have hpos : 0 < 2 ^ o.1 := Nat.pow_pos (by decide)
  refine jrun2 (js_X4_howManyRows _) rfl rfl rfl (fun G hG hW hB => ?_)
  refine hG [] 300 _ _ _ _ _ _ ?_
  conv => whnf
  refine ⟨_, hb, ?_⟩
  conv => whnf
  refine ⟨_, _, _, hen, ?_⟩
  conv => whnf
  refine ⟨fun c => ?_, fun _ => ?_⟩
  · rw [nI_leI (by omega) (by omega)] at c
    omega
  conv => whnf
  refine ⟨_, hb, ?_⟩
  conv => whnf
  refine ⟨_, _, _, hen, rfl, hpos, ?_⟩
  conv => whnf
  rw [hef 0 hpos, zend_0]
  exact ⟨rfl, rfl⟩
theorem c_X4_descents {h : List jC} {a p : Nat} {w : Nat → Int32} {l : List Nat} (ha : h[a]? = some (aI p w)) (hp : p ≤ 6) (hw : ∀ m, m < p → w m = nI (l.getD m 0)) (hl : ∀ m, m < p → l.getD m 0 ≤ 6) : jCt jy_X4_descents [.ref a] h (fun r h' => r = some (.int (nI (jdes l (p - 1)))) ∧ h' = h) := by
  refine jrun2 (js_X4_descents _) rfl rfl rfl (fun G hG hW hB => ?_)
  have loop : ∀ u e, p ≤ e + 1 + u → e ≤ p - 1 → G 4 [some (.ref a), some (.int (nI (jdes l e))), some (.int (nI (e + 1)))] [] h 0 0 := by
    intro u
    induction u with
    | zero =>
      intro e he h1
      refine hG [4] 300 _ _ _ _ _ _ ?_
      conv => whnf
      refine ⟨_, _, _, ha, ?_⟩
      conv => whnf
      refine ⟨fun qb => ?_, fun qb => ?_⟩ <;> rw [nI_leI (by omega) (by omega)] at qb
      · conv => whnf
        rw [show e = p - 1 by omega]
        exact ⟨rfl, rfl⟩
      · omega
    | succ u ih =>
      intro e he h1
      refine hG [4] 300 _ _ _ _ _ _ ?_
      conv => whnf
      refine ⟨_, _, _, ha, ?_⟩
      conv => whnf
      refine ⟨fun qb => ?_, fun qb => ?_⟩ <;> rw [nI_leI (by omega) (by omega)] at qb
      · conv => whnf
        rw [show e = p - 1 by omega]
        exact ⟨rfl, rfl⟩
      have i1 := ih (e + 1) (by omega) (by omega)
      rw [jdes] at i1
      have h2 := hl e (by omega)
      have h3 := hl (e + 1) (by omega)
      conv => whnf
      refine ⟨_, _, _, ha, (by rw [jI_m1 (by omega), Nat.add_sub_cancel]), (show e < p by omega), ?_⟩
      conv => whnf
      refine ⟨_, _, _, ha, rfl, (show e + 1 < p by omega), ?_⟩
      conv => whnf
      rw [hw e (by omega), hw (e + 1) (by omega)]
      refine ⟨fun c => ?_, fun c => ?_⟩ <;> rw [nI_leI (by omega) (by omega)] at c
      · rw [if_neg (by omega), Nat.or_zero] at i1
        conv => whnf
        rw [nI_add]
        exact i1
      · rw [if_pos (by omega)] at i1
        conv => whnf
        rw [nI_add, jI_m1 (by omega), Nat.add_sub_cancel, jI_one (by omega), jI_or]
        exact i1
  refine hG [4] 300 _ _ _ _ _ _ ?_
  conv => whnf
  exact loop 6 0 (by omega) (by omega)
theorem c_X4_peaks {h : List jC} {a p : Nat} {w : Nat → Int32} {l : List Nat} (ha : h[a]? = some (aI p w)) (hp : p ≤ 6) (hw : ∀ m, m < p → w m = nI (l.getD m 0)) (hl : ∀ m, m < p → l.getD m 0 ≤ 6) : jCt jy_X4_peaks [.ref a] h (fun r h' => r = some (.int (nI (jpk l (p - 2)))) ∧ h' = h) := by
  refine jrun2 (js_X4_peaks _) rfl rfl rfl (fun G hG hW hB => ?_)
  have loop : ∀ u e, p ≤ e + 2 + u → e ≤ p - 2 → G 4 [some (.ref a), some (.int (nI (jpk l e))), some (.int (nI (e + 2)))] [] h 0 0 := by
    intro u
    induction u with
    | zero =>
      intro e he h1
      refine hG [4] 300 _ _ _ _ _ _ ?_
      conv => whnf
      refine ⟨_, _, _, ha, ?_⟩
      conv => whnf
      refine ⟨fun qb => ?_, fun qb => ?_⟩ <;> rw [nI_leI (by omega) (by omega)] at qb
      · conv => whnf
        rw [show e = p - 2 by omega]
        exact ⟨rfl, rfl⟩
      · omega
    | succ u ih =>
      intro e he h1
      refine hG [4, 42] 300 _ _ _ _ _ _ ?_
      conv => whnf
      refine ⟨_, _, _, ha, ?_⟩
      conv => whnf
      refine ⟨fun qb => ?_, fun qb => ?_⟩ <;> rw [nI_leI (by omega) (by omega)] at qb
      · conv => whnf
        rw [show e = p - 2 by omega]
        exact ⟨rfl, rfl⟩
      have i1 := ih (e + 1) (by omega) (by omega)
      rw [jpk] at i1
      have h2 := hl e (by omega)
      have h3 := hl (e + 1) (by omega)
      have h4 := hl (e + 2) (by omega)
      have g42 : ∀ x, x = (jpk l e ||| if l.getD e 0 < l.getD (e + 1) 0 ∧ l.getD (e + 2) 0 < l.getD (e + 1) 0 then 2 ^ (e + 1) else 0) → G 42 [some (.ref a), some (.int (nI x)), some (.int (nI (e + 2)))] [] h 0 0 := by
        intro x hx
        rw [← hx] at i1
        refine hG [4] 300 _ _ _ _ _ _ ?_
        conv => whnf
        rw [nI_add]
        exact i1
      conv => whnf
      refine ⟨_, _, _, ha, (by rw [jI_m1 (by omega)]; rfl), (show e + 1 < p by omega), ?_⟩
      conv => whnf
      refine ⟨_, _, _, ha, (by rw [pk_sub (by omega), Nat.add_sub_cancel]), (show e < p by omega), ?_⟩
      conv => whnf
      rw [hw e (by omega), hw (e + 1) (by omega)]
      refine ⟨fun c => ?_, fun c => ?_⟩ <;> rw [nI_leI (by omega) (by omega)] at c
      · exact g42 _ (by rw [if_neg (by omega), Nat.or_zero])
      conv => whnf
      refine ⟨_, _, _, ha, (by rw [jI_m1 (by omega)]; rfl), (show e + 1 < p by omega), ?_⟩
      conv => whnf
      refine ⟨_, _, _, ha, rfl, (show e + 2 < p by omega), ?_⟩
      conv => whnf
      rw [hw (e + 2) (by omega), hw (e + 1) (by omega)]
      refine ⟨fun c2 => ?_, fun c2 => ?_⟩ <;> rw [nI_leI (by omega) (by omega)] at c2
      · exact g42 _ (by rw [if_neg (by omega), Nat.or_zero])
      · conv => whnf
        rw [jI_m1 (by omega), jI_one (by omega), jI_or]
        exact g42 _ (by rw [if_pos (by omega)]; rfl)
  refine hG [4] 300 _ _ _ _ _ _ ?_
  conv => whnf
  exact loop 6 0 (by omega) (by omega)
