/-! the class: rowOf, marks, film, judge -/
theorem q_rowOf {τ : jTg} {h : List jC} {z : zS} (E : EncX τ h z) (hz : zWF z) (x y : Int32) : jCt jy_X11_rowOf [.ref 2, .int x, .int y] h (xPost h (zrowOf z x y) z) := by
  obtain ⟨ρ, ω, κ, π, n, t, k, H⟩ := id E
  obtain ⟨lo, en, lf, ef, cv, -, -, -, hω, hlo, hen, hlf, hef, -⟩ := H.ord
  have e1 := H.1
  have hok := hz.2.2.1
  have h64 := zord64 hok
  have hp := hok.1
  have hzl := zrows_len hp
  have jm : (-1 : Int32).toInt = -1 := by decide
  have hwl := (List.getElem?_eq_some_iff.mp hlo).1
  have hwe := (List.getElem?_eq_some_iff.mp hen).1
  generalize hΦ : xPost h _ _ = Φ
  refine jrun2 (js_X11_rowOf _) rfl rfl rfl (fun G hG hW hB => ?_)
  refine hG [57] 300 _ _ _ _ _ _ ?_
  conv => whnf
  refine ⟨fun c => ?_, fun c => ?_⟩ <;> rw [jeq, jm] at c
  case refine_2 =>
    rw [zrowOf, if_neg (by omega), if_pos c] at hΦ
    conv => whnf
    refine ⟨_, e1, ?_⟩
    conv => whnf
    refine ⟨⟨_, hω⟩, jcall (c_X4_howMany hω hen hp hef) ?_⟩
    rintro r' h' ⟨rfl, he⟩
    obtain rfl := he.symm
    clear he
    conv => whnf
    rw [← hΦ]
    exact xsame E _
  conv => whnf
  refine ⟨fun c2 => ?_, fun c2 => ?_⟩ <;> rw [jlt, jm] at c2
  · rw [zrowOf, if_pos (Or.inl c2)] at hΦ
    conv => whnf
    rw [← hΦ]
    exact xsame E _
  conv => whnf
  refine ⟨_, e1, ?_⟩
  conv => whnf
  refine ⟨_, hω, ?_⟩
  conv => whnf
  refine jcall (c_wi y _ (by omega) h) ?_
  rintro r' h' ⟨rfl, he⟩
  obtain rfl := he.symm
  clear he
  conv => whnf
  refine ⟨fun c3 => ?_, fun c3 => ?_⟩ <;> rw [jbi_0] at c3
  case refine_2 =>
    rw [zrowOf, if_pos (Or.inr ⟨by omega, by omega⟩)] at hΦ
    conv => whnf
    rw [← hΦ]
    exact xsame E _
  have c3 := Decidable.not_not.mp c3
  rw [zrowOf, if_neg (by omega), if_neg (by omega)] at hΦ
  have hx := tn_eq (x := x) (by omega)
  have hxl : x.toInt < 2147483648 := Int32.toInt_lt x
  have hy := tn_eq c3.1
  have hyl : tn y < (zO z).1 := tn_lt c3.1 c3.2
  have hcmp : x < nI (zrows (zO z)).length ↔ tn x < (zrows (zO z)).length := by
    rw [jlt, nI_toInt (by omega)]
    unfold tn
    omega
  conv => whnf
  refine ⟨_, e1, ?_⟩
  conv => whnf
  refine ⟨⟨_, hω⟩, jcall (c_X4_howMany hω hen hp hef) ?_⟩
  rintro r' h' ⟨rfl, he⟩
  obtain rfl := he.symm
  clear he
  conv => whnf
  refine ⟨fun c4 => ?_, fun c4 => ?_⟩ <;> rw [hcmp] at c4
  case refine_2 =>
    rw [List.getElem?_eq_none (by omega)] at hΦ
    conv => whnf
    rw [← hΦ]
    exact xsame E _
  obtain ⟨l, hl⟩ : ∃ l, (zrows (zO z))[tn x]? = some l := ⟨_, List.getElem?_eq_getElem c4⟩
  rw [hl] at hΦ
  dsimp only at hΦ
  have hte := c_X4_tellRow (h := h ++ [aI (zO z).1 (fun _ => nI 0)]) (jget_app hω) (jget_app hlo) (jget_app hen) (jget_new h _) (by omega) (by omega) hp hlf h64 hef hl
  rw [← hx] at hte
  conv => whnf
  refine ⟨_, e1, ?_⟩
  conv => whnf
  refine ⟨_, hω, ?_⟩
  conv => whnf
  refine ⟨(zO z).1, rfl, by omega, (show 0 + (zO z).1 ≤ 6 by omega), ?_⟩
  conv => whnf
  refine hB 1 6 (by decide) (show 0 + (zO z).1 ≤ 6 by omega) ?_
  refine hG [] 300 _ _ _ _ _ _ ?_
  conv => whnf
  refine ⟨_, jget_app e1, ?_⟩
  conv => whnf
  refine ⟨⟨_, jget_app hω⟩, jcall hte ?_⟩
  rintro r' h' ⟨rfl, w, rfl, hw⟩
  have hsn : (h ++ [aI (zO z).1 (fun _ => nI 0)]).set h.length (aI (zO z).1 w) = h ++ [aI (zO z).1 w] := by
    rw [List.set_append_right _ _ (Nat.le_refl _), Nat.sub_self]
    rfl
  rw [hsn]
  conv => whnf
  refine ⟨_, _, _, jget_new h _, hy, hyl, ?_⟩
  conv => whnf
  rw [hw _ hyl, ← hΦ]
  exact xapp E _ _
theorem q_marks {τ : jTg} {h : List jC} {z : zS} (E : EncX τ h z) (hz : zWF z) (x y : Int32) : jCt jy_X11_marks [.ref 2, .int x, .int y] h (xPost h (zmarks z x y) z) := by
  obtain ⟨ρ, ω, κ, π, n, t, k, H⟩ := id E
  obtain ⟨lo, en, lf, ef, cv, -, -, -, hω, hlo, hen, hlf, hef, -⟩ := H.ord
  have e1 := H.1
  have hok := hz.2.2.1
  have h64 := zord64 hok
  have hp := hok.1
  have hzl := zrows_len hp
  have hwl := (List.getElem?_eq_some_iff.mp hlo).1
  have hwe := (List.getElem?_eq_some_iff.mp hen).1
  generalize hΦ : xPost h _ _ = Φ
  have hno : ¬ (0 ≤ x.toInt ∧ 0 ≤ y.toInt ∧ y.toInt ≤ 1) → Φ (some (.int (-1))) h := by
    intro hn
    rw [zmarks, if_neg hn] at hΦ
    rw [← hΦ]
    exact xsame E _
  refine jrun2 (js_X11_marks _) rfl rfl rfl (fun G hG hW hB => ?_)
  refine hG [37] 300 _ _ _ _ _ _ ?_
  conv => whnf
  refine ⟨fun c => ?_, fun c => ?_⟩ <;> rw [jlt, j0] at c
  · conv => whnf
    exact hno (by omega)
  conv => whnf
  refine jcall (c_wi y 2 (by decide) h) ?_
  rintro r' h' ⟨rfl, he⟩
  obtain rfl := he.symm
  clear he
  conv => whnf
  refine ⟨fun c3 => ?_, fun c3 => ?_⟩ <;> rw [jbi_0] at c3
  case refine_2 =>
    conv => whnf
    exact hno (by omega)
  have c3 := Decidable.not_not.mp c3
  rw [zmarks, if_pos (by omega)] at hΦ
  have hx := tn_eq (x := x) (by omega)
  have hxl : x.toInt < 2147483648 := Int32.toInt_lt x
  have hcmp : x < nI (zrows (zO z)).length ↔ tn x < (zrows (zO z)).length := by
    rw [jlt, nI_toInt (by omega)]
    unfold tn
    omega
  conv => whnf
  refine ⟨_, e1, ?_⟩
  conv => whnf
  refine ⟨⟨_, hω⟩, jcall (c_X4_howMany hω hen hp hef) ?_⟩
  rintro r' h' ⟨rfl, he⟩
  obtain rfl := he.symm
  clear he
  conv => whnf
  refine ⟨fun c4 => ?_, fun c4 => ?_⟩ <;> rw [hcmp] at c4
  case refine_2 =>
    rw [List.getElem?_eq_none (by omega)] at hΦ
    conv => whnf
    rw [← hΦ]
    exact xsame E _
  obtain ⟨l, hl⟩ : ∃ l, (zrows (zO z))[tn x]? = some l := ⟨_, List.getElem?_eq_getElem c4⟩
  rw [hl] at hΦ
  dsimp only at hΦ
  have hll := rws_each (show l ∈ rws (zO z) (zO z).1 0 from List.mem_of_getElem? hl)
  have hl6 : ∀ m, m < (zO z).1 → l.getD m 0 ≤ 6 := by
    intro m hm
    have hg := List.getElem?_eq_getElem (l := l) (i := m) (by omega)
    rw [List.getD, hg]
    have := (hll.2 _ (List.mem_of_getElem? hg)).2
    simp only [Option.getD_some]
    omega
  have hte := c_X4_tellRow (h := h ++ [aI (zO z).1 (fun _ => nI 0)]) (jget_app hω) (jget_app hlo) (jget_app hen) (jget_new h _) (by omega) (by omega) hp hlf h64 hef hl
  rw [← hx] at hte
  conv => whnf
  refine ⟨_, e1, ?_⟩
  conv => whnf
  refine ⟨_, hω, ?_⟩
  conv => whnf
  refine ⟨(zO z).1, rfl, by omega, (show 0 + (zO z).1 ≤ 6 by omega), ?_⟩
  conv => whnf
  refine hB 1 6 (by decide) (show 0 + (zO z).1 ≤ 6 by omega) ?_
  refine hG [] 300 _ _ _ _ _ _ ?_
  conv => whnf
  refine ⟨_, jget_app e1, ?_⟩
  conv => whnf
  refine ⟨⟨_, jget_app hω⟩, jcall hte ?_⟩
  rintro r' h' ⟨rfl, w, rfl, hw⟩
  have hsn : (h ++ [aI (zO z).1 (fun _ => nI 0)]).set h.length (aI (zO z).1 w) = h ++ [aI (zO z).1 w] := by
    rw [List.set_append_right _ _ (Nat.le_refl _), Nat.sub_self]
    rfl
  rw [hsn]
  conv => whnf
  refine ⟨fun c5 => ?_, fun c5 => ?_⟩
  · rw [if_neg c5] at hΦ
    conv => whnf
    refine jcall (c_X4_peaks (jget_new h _) hp hw hl6) ?_
    rintro r h' ⟨rfl, rfl⟩
    conv => whnf
    rw [← hΦ]
    exact xapp E _ _
  · rw [if_pos c5] at hΦ
    conv => whnf
    refine jcall (c_X4_descents (jget_new h _) hp hw hl6) ?_
    rintro r h' ⟨rfl, rfl⟩
    conv => whnf
    rw [← hΦ]
    exact xapp E _ _
theorem q_film {τ : jTg} {h : List jC} {z : zS} (E : EncX τ h z) (hz : zWF z) (x y : Int32) : jCt jy_X11_film [.ref 2, .int x, .int y] h (xPost h (zfilm z x y).1 (zfilm z x y).2) := by
  obtain ⟨ρ, ω, κ, π, n, t, k, H⟩ := id E
  obtain ⟨lo, en, lf, ef, cv, -, -, -, hω, hlo, hen, hlf, hef, -⟩ := H.ord
  obtain ⟨t9, f, hf, hwr⟩ := H.2.2.2.2.2.1
  have e1 := H.1
  have e11 := E.B
  have hlen := e11.1
  have hok := hz.2.2.1
  have h64 := zord64 hok
  have hp := hok.1
  have hzl := zrows_len hp
  have hwl := (List.getElem?_eq_some_iff.mp hlo).1
  have hwe := (List.getElem?_eq_some_iff.mp hen).1
  generalize hΦ : xPost h _ _ = Φ
  have hno : ¬ (isRow x ∧ 0 ≤ y.toInt) → Φ (some (.int (-1))) h := by
    intro hn
    rw [zfilm, if_neg hn] at hΦ
    rw [← hΦ]
    exact xsame E _
  refine jrun2 (js_X11_film _) rfl rfl rfl (fun G hG hW hB => ?_)
  refine hG [37] 300 _ _ _ _ _ _ ?_
  conv => whnf
  refine jcall (c_wi x 3 (by decide) h) ?_
  rintro r' h' ⟨rfl, he⟩
  obtain rfl := he.symm
  clear he
  conv => whnf
  refine ⟨fun c1 => ?_, fun c1 => ?_⟩ <;> rw [jbi_0, ← isRow_iff] at c1
  · conv => whnf
    exact hno (fun q => c1 q.1)
  have c1 := Decidable.not_not.mp c1
  conv => whnf
  refine ⟨fun c => ?_, fun c => ?_⟩ <;> rw [jleI, j0] at c
  case refine_2 =>
    conv => whnf
    exact hno (fun q => c q.2)
  rw [zfilm, if_pos ⟨c1, c⟩] at hΦ
  have hx := tn_eq c1.1
  have hx3 : tn x < 3 := by have := c1.2; unfold tn; omega
  have hy := tn_eq (x := y) (by omega)
  have hyl : y.toInt < 2147483648 := Int32.toInt_lt y
  have hcmp : y < nI (zrows (zO z)).length ↔ tn y < (zrows (zO z)).length := by
    rw [jlt, nI_toInt (by omega)]
    unfold tn
    omega
  generalize tn x = r at *
  conv => whnf
  refine ⟨_, e1, ?_⟩
  conv => whnf
  refine ⟨⟨_, hω⟩, jcall (c_X4_howMany hω hen hp hef) ?_⟩
  rintro r' h' ⟨rfl, he⟩
  obtain rfl := he.symm
  clear he
  conv => whnf
  refine ⟨fun c4 => ?_, fun c4 => ?_⟩ <;> rw [hcmp] at c4
  case refine_2 =>
    rw [List.getElem?_eq_none (by omega)] at hΦ
    conv => whnf
    rw [← hΦ]
    exact xsame E _
  obtain ⟨l, hl⟩ : ∃ l, (zrows (zO z))[tn y]? = some l := ⟨_, List.getElem?_eq_getElem c4⟩
  rw [hl] at hΦ
  dsimp only at hΦ
  have hte := c_X4_tellRow (h := h ++ [aI (zO z).1 (fun _ => nI 0)]) (jget_app hω) (jget_app hlo) (jget_app hen) (jget_new h _) (by omega) (by omega) hp hlf h64 hef hl
  rw [← hy] at hte
  conv => whnf
  refine ⟨_, e1, ?_⟩
  conv => whnf
  refine ⟨_, hω, ?_⟩
  conv => whnf
  refine ⟨(zO z).1, rfl, by omega, (show 0 + (zO z).1 ≤ 7 by omega), ?_⟩
  conv => whnf
  refine hB 1 6 (by decide) (show 0 + (zO z).1 ≤ 6 by omega) ?_
  refine hG [] 300 _ _ _ _ _ _ ?_
  conv => whnf
  refine ⟨_, jget_app e1, ?_⟩
  conv => whnf
  refine ⟨⟨_, jget_app hω⟩, jcall hte ?_⟩
  rintro r' h' ⟨rfl, w, rfl, hw⟩
  have hsn : (h ++ [aI (zO z).1 (fun _ => nI 0)]).set h.length (aI (zO z).1 w) = h ++ [aI (zO z).1 w] := by
    rw [List.set_append_right _ _ (Nat.le_refl _), Nat.sub_self]
    rfl
  rw [hsn]
  have hl1 : (h ++ [aI (zO z).1 w]).length = h.length + 1 := by rw [List.length_append]; rfl
  conv => whnf
  refine ⟨_, jget_app e1, ?_⟩
  conv => whnf
  refine jcall (c_X6_init (jget_new (h ++ [aI (zO z).1 w]) _) h.length) ?_
  rintro r h' ⟨rfl, rfl⟩
  have hst : ((h ++ [aI (zO z).1 w]) ++ [(.inr (5, [.null]) : jC)]).set (h ++ [aI (zO z).1 w]).length (.inr (5, [.ref h.length])) = h ++ [aI (zO z).1 w, .inr (5, [.ref h.length])] := by
    rw [List.set_append_right _ _ (Nat.le_refl _), Nat.sub_self, List.append_assoc]
    rfl
  rw [hst, hl1]
  conv => whnf
  refine ⟨_, _, _, _, 5, _, jget_apl hf, hx, hx3, jtwo_a h _ _, rfl, ?_⟩
  conv => whnf
  refine ⟨_, jget_ne (show (9 : Nat) ≠ 2 by decide) (jget_apl e1), ?_⟩
  conv => whnf
  have n9ω : (9 : Nat) ≠ ω := jne hf hω (fun z => by cases z)
  refine ⟨_, jget_ne n9ω (jget_apl hω), ?_⟩
  conv => whnf
  have K : KT (fun t => t != 5 && t != 10 + r) τ h (va_up τ h.length (10 + r)) ((h ++ [aI (zO z).1 w, (.inr (5, [.ref h.length]) : jC)]).set 9 (aO "QuasiSums$Row" 3 (va_up f r (some (h.length + 1))))) := (((KT.refl).app _).set _ (Or.inr (by rw [t9]; rfl))).tag (Nat.le_refl _)
  have hl2 : ((h ++ [aI (zO z).1 w, (.inr (5, [.ref h.length]) : jC)]).set 9 (aO "QuasiSums$Row" 3 (va_up f r (some (h.length + 1))))).length = h.length + 2 := by rw [List.length_set, List.length_append]; rfl
  rw [← hΦ]
  refine xput E K (by simp; omega) ⟨ρ, ω, κ, π, n, t, k, H.rowset K hx3 (((e11.app _).set _ _).tag (by omega) (by omega)) (by unfold va_up; rw [if_neg (by omega)]; exact t9) hf (jget_set (jget_apl hf)) (fun r2 h2 => by unfold va_up; rw [if_neg h2]) (x := some ((zO z).1, fun k => nI (l.getD k 0))) ⟨h.length + 1, h.length, w, by simp [va_up], ?_, by simp [va_up], jget_ne (by omega) (jtwo_a h _ _), jget_ne (by omega) (jtwo_s h _ _), hw⟩⟩ _
  unfold va_up
  rw [if_neg (by omega)]
  exact e11.2.2.2 _ (by omega)
theorem jjd_bnd (o : zOrd) (q : zRow) : True := trivial
/-- the first wrong place, by the class's bits -/
theorem c_X4_firstWrong {h : List jC} {cv : Value} {b lo a : Nat} {en : Value} {lf : Nat → Int32} {o : zOrd} {q : zRow} {g : Nat → Int32} (hb : h[b]? = some (oO o.1 lo en cv)) (hlo : h[lo]? = some (aI 7 lf)) (hp : o.1 ≤ 6) (hl : ∀ j, j < 7 → lf j = nI (o.2 j)) (ho : ∀ j, j < 7 → o.2 j < 64) (ha : h[a]? = some (aI q.1 g)) (hq : q.1 ≤ 40) (hg : ∀ j, j < q.1 → g j = q.2 j) : jCt jy_X4_firstWrong [.ref b, .ref a] h (fun r h' => h' = h ∧ ((∃ m, m < o.1 ∧ m < q.1 ∧ r = some (.int (nI m)) ∧ jjd o q o.1 0 0 = nI m) ∨ (r = some (.int (-1)) ∧ jjd o q o.1 0 0 = if q.1 < o.1 then nI (100 + q.1) else -2))) := by
  have hp2 : 2 ^ o.1 ≤ 64 := Nat.pow_le_pow_right (by decide) hp
  generalize hΦ : (fun (r : Option Value) (h' : List jC) => h' = h ∧ ((∃ m, m < o.1 ∧ m < q.1 ∧ r = some (.int (nI m)) ∧ jjd o q o.1 0 0 = nI m) ∨ (r = some (.int (-1)) ∧ jjd o q o.1 0 0 = if q.1 < o.1 then nI (100 + q.1) else -2))) = Φ
  refine jrun2 (js_X4_firstWrong _) rfl rfl rfl (fun G hG hW hB => ?_)
  have loop : ∀ u i t, o.1 = i + u → i ≤ q.1 → t < 2 ^ o.1 → jjd o q o.1 0 0 = jjd o q u i (2 * t) → G 4 [some (.ref b), some (.ref a), some (.int (nI t)), some (.int (nI i))] [] h 0 0 := by
    intro u
    induction u with
    | zero =>
      intro i t hu hi ht he
      have fin : Φ (some (.int (-1))) h := by
        rw [← hΦ]
        refine ⟨rfl, Or.inr ⟨rfl, ?_⟩⟩
        rw [he, if_neg (by omega)]
        rfl
      refine hG [4] 300 _ _ _ _ _ _ ?_
      conv => whnf
      refine ⟨_, _, _, ha, ?_⟩
      conv => whnf
      refine ⟨fun qb => ?_, fun qb => ?_⟩ <;> rw [nI_leI (by omega) (by omega)] at qb
      · conv => whnf
        exact fin
      conv => whnf
      refine ⟨_, hb, ?_⟩
      conv => whnf
      refine ⟨fun qb => ?_, fun qb => ?_⟩ <;> rw [nI_leI (by omega) (by omega)] at qb
      · conv => whnf
        exact fin
      · omega
    | succ u ih =>
      intro i t hu hi ht he
      rw [jjd] at he
      refine hG [4] 300 _ _ _ _ _ _ ?_
      conv => whnf
      refine ⟨_, _, _, ha, ?_⟩
      conv => whnf
      refine ⟨fun qb => ?_, fun qb => ?_⟩ <;> rw [nI_leI (by omega) (by omega)] at qb
      · rw [if_pos (by omega)] at he
        conv => whnf
        rw [← hΦ]
        refine ⟨rfl, Or.inr ⟨rfl, ?_⟩⟩
        rw [he, if_pos (by omega), show i = q.1 by omega]
      rw [if_neg (by omega)] at he
      conv => whnf
      refine ⟨_, hb, ?_⟩
      conv => whnf
      refine ⟨fun qb => ?_, fun qb => ?_⟩ <;> rw [nI_leI (by omega) (by omega)] at qb
      · omega
      conv => whnf
      refine ⟨_, _, _, ha, rfl, (show i < q.1 by omega), ?_⟩
      conv => whnf
      rw [hg i (by omega)]
      refine ⟨⟨_, hb⟩, jcall (c_X4_canCome hb hlo hp hl ho (q.2 i) (t := t) (by omega)) ?_⟩
      rintro r' h' ⟨rfl, he⟩
      obtain rfl := he.symm
      clear he
      conv => whnf
      refine ⟨fun c => ?_, fun c => ?_⟩ <;> rw [jbi_0] at c
      · have c := Decidable.not_not.mp c
        rw [if_pos c] at he
        have hv := tn_eq (x := q.2 i) (by have := c.1.1; omega)
        have hv1 : 1 ≤ tn (q.2 i) ∧ tn (q.2 i) ≤ o.1 := by have := c.1; unfold isThg at this; unfold tn; omega
        have hbit := c.2.1
        rw [jzb t _ hv1.1] at hbit
        obtain ⟨p1, p2⟩ := jpop_or t (by omega) (tn (q.2 i) - 1) (by omega) (by omega)
        rw [show tn (q.2 i) - 1 + 1 = tn (q.2 i) by omega] at p2
        rw [p2] at he
        have hsub : q.2 i - nI 1 = nI (tn (q.2 i) - 1) := by
          have := jI_m1 hv1.1
          rw [← hv] at this
          exact this
        conv => whnf
        refine ⟨_, _, _, ha, rfl, (show i < q.1 by omega), ?_⟩
        conv => whnf
        rw [hg i (by omega), hsub, jI_one (by omega), jI_or, nI_add]
        exact ih (i + 1) (t ||| 2 ^ (tn (q.2 i) - 1)) (by omega) (by omega) (jor_lt2 hp ht (by omega)) he
      · rw [if_neg c] at he
        conv => whnf
        rw [← hΦ]
        exact ⟨rfl, Or.inl ⟨i, by omega, by omega, rfl, he⟩⟩
  refine hG [4] 300 _ _ _ _ _ _ ?_
  conv => whnf
  exact loop o.1 0 0 (by omega) (Nat.zero_le _) (Nat.pow_pos (by decide)) rfl
theorem q_judge {τ : jTg} {h : List jC} {z : zS} (E : EncX τ h z) (hz : zWF z) (x : Int32) : jCt jy_X11_judge [.ref 2, .int x] h (xPost h (zjudge z x) z) := by
  obtain ⟨ρ, ω, κ, π, n, t, k, H⟩ := id E
  obtain ⟨lo, en, lf, ef, cv, -, -, -, hω, hlo, hen, hlf, hef, -⟩ := H.ord
  obtain ⟨t9, f, hf, hw⟩ := H.2.2.2.2.2.1
  have e1 := H.1
  have hok := hz.2.2.1
  have h64 := zord64 hok
  have hp := hok.1
  generalize hΦ : xPost h _ _ = Φ
  refine jrun2 (js_X11_judge _) rfl rfl rfl (fun G hG hW hB => ?_)
  refine hG [] 300 _ _ _ _ _ _ ?_
  conv => whnf
  refine jcall (c_wi x 3 (by decide) h) ?_
  rintro r' h' ⟨rfl, he⟩
  obtain rfl := he.symm
  clear he
  conv => whnf
  refine ⟨fun c1 => ?_, fun c1 => ?_⟩ <;> rw [jbi_0, ← isRow_iff] at c1
  case refine_2 =>
    rw [zjudge, if_neg c1] at hΦ
    conv => whnf
    rw [← hΦ]
    exact xsame E _
  have c1 := Decidable.not_not.mp c1
  rw [zjudge, if_pos c1] at hΦ
  have hx := tn_eq c1.1
  have hx3 : tn x < 3 := by unfold tn; omega
  have hwx := hw _ hx3
  have hq40 := hz.2.2.2.2.1 _ hx3
  generalize tn x = r at *
  conv => whnf
  refine ⟨_, e1, ?_⟩
  conv => whnf
  refine ⟨_, _, _, _, _, hf, hx, hx3, rfl, ?_⟩
  conv => whnf
  match hW : zW z r, hwx with
  | none, hwx =>
    rw [hW] at hΦ
    dsimp only at hΦ
    rw [show f r = none from hwx]
    conv => whnf
    rw [← hΦ]
    exact xsame E _
  | some q, hwx =>
    rw [hW] at hΦ
    dsimp only at hΦ
    obtain ⟨k2, a, g, hk, -, -, hk1, ha, hg⟩ := hwx
    have hq := hq40 q hW
    rw [hk]
    conv => whnf
    refine ⟨_, e1, ?_⟩
    conv => whnf
    refine ⟨_, _, _, _, _, hf, hx, hx3, hk, ?_⟩
    conv => whnf
    refine ⟨_, hk1, ?_⟩
    conv => whnf
    refine ⟨_, e1, ?_⟩
    conv => whnf
    refine ⟨⟨_, hω⟩, jcall (c_X4_firstWrong hω hlo hp hlf h64 ha hq hg) ?_⟩
    rintro r' h' ⟨he, hcase⟩
    obtain rfl := he.symm
    clear he
    rcases hcase with ⟨m, hm1, hm2, rfl, hm3⟩ | ⟨rfl, hm3⟩
    · rw [hm3] at hΦ
      conv => whnf
      refine ⟨fun c => absurd c (nI_nlt (by omega) (by omega)), fun _ => ?_⟩
      conv => whnf
      rw [← hΦ]
      exact xsame E _
    · rw [hm3] at hΦ
      conv => whnf
      refine ⟨fun _ => ?_, fun c => absurd (by decide) c⟩
      conv => whnf
      refine ⟨_, _, _, ha, ?_⟩
      conv => whnf
      refine ⟨_, e1, ?_⟩
      conv => whnf
      refine ⟨_, hω, ?_⟩
      conv => whnf
      refine ⟨fun qb => ?_, fun qb => ?_⟩ <;> rw [nI_leI (by omega) (by omega)] at qb
      · rw [if_neg (by omega)] at hΦ
        conv => whnf
        rw [← hΦ]
        exact xsame E _
      · rw [if_pos (by omega)] at hΦ
        conv => whnf
        refine ⟨_, _, _, ha, ?_⟩
        conv => whnf
        rw [nI_add, ← hΦ]
        exact xsame E _
