/-! the class: rows of ints, racks -/
theorem EncA.rowset {τ τ' : jTg} {h h' : List jC} {ρ ω κ π : Nat} {n : Int32} {t k : Value} {z : zS} (H : EncA τ h ρ ω κ π n t k z) {r : Nat} {x : Option zRow} (K : KT (fun t => t != 5 && t != 10 + r) τ h τ' h') (hr3 : r < 3) (B : xB τ' h') (h9 : τ' 9 = 5) {f f' : Nat → Option Nat} (hf : h[9]? = some (aO "QuasiSums$Row" 3 f)) (hf' : h'[9]? = some (aO "QuasiSums$Row" 3 f')) (hne : ∀ r2, r2 ≠ r → f' r2 = f r2) (hr : xw τ' h' r (f' r) x) : EncA τ' h' ρ ω κ π n t k (zsW z r x) := by
  obtain ⟨e1, e2, e3, e4, e5, e6, e7, e8, e9, e10, e11⟩ := H
  have hS : ∀ t, t ≠ 5 → t < 10 → (fun t => t != 5 && t != 10 + r) t = true := fun t h1 h2 => by simp; omega
  have s13 : (fun t => t != 5 && t != 10 + r) 13 = true := by simp; omega
  have K0 := K.kp (hS 0 (by decide) (by decide))
  refine ⟨(K.at1 e11.2.1 (hS 1 (by decide) (by decide)) e1).1, e2.kt K (hS 0 (by decide) (by decide)) (hS 2 (by decide) (by decide)), e3.kt K (hS 0 (by decide) (by decide)) s13, e4.kt K (hS 3 (by decide) (by decide)), e5.kt K (hS 0 (by decide) (by decide)) (hS 4 (by decide) (by decide)), ⟨h9, f', hf', fun r2 hr2 => ?_⟩, e7.kt K (hS 6 (by decide) (by decide)), e8.kp K0, e9.kt K (hS 0 (by decide) (by decide)) (hS 7 (by decide) (by decide)) (hS 8 (by decide) (by decide)), e10.kt K (hS 0 (by decide) (by decide)) s13, B⟩
  by_cases hrr : r2 = r
  · subst hrr
    show xw τ' h' r2 (f' r2) (va_up (zW z) r2 x r2)
    rw [show va_up (zW z) r2 x r2 = x by simp [va_up]]
    exact hr
  · show xw τ' h' r2 (f' r2) (va_up (zW z) r x r2)
    rw [show va_up (zW z) r x r2 = zW z r2 by simp [va_up, hrr], hne r2 hrr]
    obtain ⟨-, f2, hf2, hw⟩ := e6
    rw [hf] at hf2
    cases hf2
    exact (hw r2 hr2).kt K (hS 0 (by decide) (by decide)) (by simp; omega)
theorem EncA.rckset {τ : jTg} {h : List jC} {ρ ω κ π : Nat} {n : Int32} {t k : Value} {z : zS} (H : EncA τ h ρ ω κ π n t k z) {p : Nat} {f : Nat → Option Nat} (hf : h[π]? = some (aO "QuasiSums$Item" 12 f)) {s : Option Nat} {x : Option zItm} (hx : xit (fz0 τ) h s x) (hp : ∀ q, q < 12 → xit (fz0 τ) h (f q) (zK z q)) : EncA τ (h.set π (aO "QuasiSums$Item" 12 (va_up f p s))) ρ ω κ π n t k (zsK z p x) := by
  obtain ⟨e1, e2, e3, e4, e5, e6, e7, e8, e9, e10, e11⟩ := H
  have K : KT (fun t => t != 4) τ h τ (h.set π (aO "QuasiSums$Item" 12 (va_up f p s))) := (KT.refl).set _ (Or.inr (by rw [e5.1]; rfl))
  have K0 := K.kp rfl
  refine ⟨(K.at1 e11.2.1 rfl e1).1, e2.kt K rfl rfl, e3.kt K rfl rfl, e4.kt K rfl, ⟨e5.1, _, jget_set hf, fun q hq => ?_⟩, e6.kt K rfl rfl (t3_ok (S := fun t => t != 4) rfl rfl rfl), e7.kt K rfl, e8.kp K0, e9.kt K rfl rfl rfl, e10.kt K rfl rfl, e11.set _ _⟩
  show xit (fz0 τ) _ (va_up f p s q) (va_up (zK z) p x q)
  by_cases hqp : q = p
  · subst hqp
    rw [show va_up f q s q = s by simp [va_up], show va_up (zK z) q x q = x by simp [va_up]]
    exact hx.kp K0
  · rw [show va_up f p s q = f q by simp [va_up, hqp], show va_up (zK z) p x q = zK z q by simp [va_up, hqp]]
    exact (hp q hq).kp K0
theorem jrow2 (h : List jC) (c x d : jC) : ((h ++ [c]) ++ [d]).set h.length x = h ++ [x, d] := by
  rw [List.append_assoc, List.set_append_right _ _ (Nat.le_refl _), Nat.sub_self]
  rfl
theorem jrow_0 (h : List jC) (c d : jC) : ((h ++ [c]) ++ [d])[h.length]? = some c := by
  rw [List.append_assoc, List.getElem?_append_right (Nat.le_refl _), Nat.sub_self]
  rfl
theorem c_X6_init {h : List jC} {s : Nat} {x : Value} (hs : h[s]? = some (.inr (5, [x]))) (a : Nat) : jCt jy_X6_init [.ref s, .ref a] h (fun r' h' => r' = none ∧ h' = h.set s (.inr (5, [.ref a]))) := by
  refine jrun2 (js_X6_init _) rfl rfl rfl (fun G hG hW hB => ?_)
  refine hG [] 300 _ _ _ _ _ _ ?_
  conv => whnf
  refine jcall (c_X2_init h s) ?_
  rintro r h' ⟨rfl, rfl⟩
  conv => whnf
  refine ⟨trivial, _, hs, ?_⟩
  conv => whnf
  exact ⟨rfl, rfl⟩
theorem q_get {τ : jTg} {h : List jC} {z : zS} (E : EncX τ h z) (hz : zWF z) (x y : Int32) : jCt jy_X11_get [.ref 2, .int x, .int y] h (xPost h (zget z x y) z) := by
  obtain ⟨ρ, ω, κ, π, n, t, k, H⟩ := id E
  have e1 := H.1
  obtain ⟨t9, f, hf, hw⟩ := H.2.2.2.2.2.1
  generalize hΦ : xPost h _ _ = Φ
  refine jrun2 (js_X11_get _) rfl rfl rfl (fun G hG hW hB => ?_)
  refine hG [] 300 _ _ _ _ _ _ ?_
  conv => whnf
  refine jcall (c_wi x 3 (by decide) h) ?_
  rintro r' h' ⟨rfl, he⟩
  obtain rfl := he.symm
  clear he
  conv => whnf
  refine ⟨fun c1 => ?_, fun c1 => ?_⟩ <;> rw [jbi_0, ← isRow_iff] at c1
  · rw [zget, if_neg c1] at hΦ
    conv => whnf
    rw [← hΦ]
    exact xsame E _
  have c1 := Decidable.not_not.mp c1
  rw [zget, if_pos c1] at hΦ
  have hx := tn_eq c1.1
  have hx3 : tn x < 3 := by unfold tn; omega
  have hwx := hw _ hx3
  have hq40 := hz.2.2.2.2.1 _ hx3
  generalize tn x = r at *
  conv => whnf
  refine ⟨_, e1, ?_⟩
  conv => whnf
  refine ⟨_, _, _, _, _, hf, hx, hx3, rfl, ?_⟩
  conv => whnf
  match hW : zW z r, hwx with
  | none, hwx =>
    rw [hW] at hΦ
    dsimp only at hΦ
    rw [show f r = none from hwx]
    conv => whnf
    rw [← hΦ]
    exact xsame E _
  | some q, hwx =>
    rw [hW] at hΦ
    dsimp only at hΦ
    obtain ⟨k2, a, g, hk, -, -, hk1, ha, hg⟩ := hwx
    have hq := hq40 q hW
    rw [hk]
    conv => whnf
    refine ⟨_, e1, ?_⟩
    conv => whnf
    refine ⟨_, _, _, _, _, hf, hx, hx3, hk, ?_⟩
    conv => whnf
    refine ⟨_, hk1, ?_⟩
    conv => whnf
    refine ⟨_, _, _, ha, ?_⟩
    conv => whnf
    refine jcall (c_wi y _ (by omega) h) ?_
    rintro r' h' ⟨rfl, he⟩
    obtain rfl := he.symm
    clear he
    conv => whnf
    refine ⟨fun c2 => ?_, fun c2 => ?_⟩ <;> rw [jbi_0] at c2
    · rw [if_neg c2] at hΦ
      conv => whnf
      rw [← hΦ]
      exact xsame E _
    · have c2 := Decidable.not_not.mp c2
      rw [if_pos c2] at hΦ
      have hy := tn_eq c2.1
      have hyl : tn y < q.1 := tn_lt c2.1 c2.2
      conv => whnf
      refine ⟨_, _, _, ha, hy, hyl, ?_⟩
      conv => whnf
      rw [hg _ hyl, ← hΦ]
      exact xsame E _
theorem q_lay {τ : jTg} {h : List jC} {z : zS} (E : EncX τ h z) (hz : zWF z) (x y v : Int32) : jCt jy_X11_lay [.ref 2, .int x, .int y, .int v] h (xPost h (zlay z x y v).1 (zlay z x y v).2) := by
  obtain ⟨ρ, ω, κ, π, n, t, k, H⟩ := id E
  have e1 := H.1
  have e11 := E.B
  obtain ⟨t9, f, hf, hw⟩ := H.2.2.2.2.2.1
  generalize hΦ : xPost h _ _ = Φ
  refine jrun2 (js_X11_lay _) rfl rfl rfl (fun G hG hW hB => ?_)
  refine hG [] 300 _ _ _ _ _ _ ?_
  conv => whnf
  refine jcall (c_wi x 3 (by decide) h) ?_
  rintro r' h' ⟨rfl, he⟩
  obtain rfl := he.symm
  clear he
  conv => whnf
  refine ⟨fun c1 => ?_, fun c1 => ?_⟩ <;> rw [jbi_0, ← isRow_iff] at c1
  case refine_2 =>
    rw [zlay, if_neg c1] at hΦ
    conv => whnf
    rw [← hΦ]
    exact xsame E _
  have c1 := Decidable.not_not.mp c1
  rw [zlay, if_pos c1] at hΦ
  have hx := tn_eq c1.1
  have hx3 : tn x < 3 := by unfold tn; omega
  have hwx := hw _ hx3
  have hq40 := hz.2.2.2.2.1 _ hx3
  generalize tn x = r at *
  conv => whnf
  refine ⟨_, e1, ?_⟩
  conv => whnf
  refine ⟨_, _, _, _, _, hf, hx, hx3, rfl, ?_⟩
  conv => whnf
  match hW : zW z r, hwx with
  | none, hwx =>
    rw [hW] at hΦ
    dsimp only at hΦ
    rw [show f r = none from hwx]
    conv => whnf
    rw [← hΦ]
    exact xsame E _
  | some q, hwx =>
    rw [hW] at hΦ
    dsimp only at hΦ
    obtain ⟨k2, a, g, hk, tk, ta, hk1, ha, hg⟩ := hwx
    have hq := hq40 q hW
    rw [hk]
    conv => whnf
    refine ⟨_, e1, ?_⟩
    conv => whnf
    refine ⟨_, _, _, _, _, hf, hx, hx3, hk, ?_⟩
    conv => whnf
    refine ⟨_, hk1, ?_⟩
    conv => whnf
    refine ⟨_, _, _, ha, ?_⟩
    conv => whnf
    refine jcall (c_wi y _ (by omega) h) ?_
    rintro r' h' ⟨rfl, he⟩
    obtain rfl := he.symm
    clear he
    conv => whnf
    refine ⟨fun c2 => ?_, fun c2 => ?_⟩ <;> rw [jbi_0] at c2
    case refine_2 =>
      rw [if_neg c2] at hΦ
      conv => whnf
      rw [← hΦ]
      exact xsame E _
    · have c2 := Decidable.not_not.mp c2
      rw [if_pos c2] at hΦ
      have hy := tn_eq c2.1
      have hyl : tn y < q.1 := tn_lt c2.1 c2.2
      conv => whnf
      refine ⟨_, _, _, ha, hy, hyl, ?_⟩
      conv => whnf
      have K : KT (fun t => t != 5 && t != 10 + r) τ h τ (h.set a (aI q.1 (upd g (tn y) v))) := (KT.refl).set _ (Or.inr (by rw [ta]; simp))
      have n9 : a ≠ 9 := jne ha hf (fun z => by cases z)
      have nk : a ≠ k2 := jne ha hk1 (fun z => by cases z)
      rw [← hΦ]
      refine xput E K (by simp; omega) ⟨ρ, ω, κ, π, n, t, k, H.rowset K hx3 (e11.set _ _) t9 hf (jget_ne n9 hf) (fun _ _ => rfl) (x := some (q.1, upd q.2 (tn y) v)) ⟨k2, a, _, hk, tk, ta, jget_ne nk hk1, jget_set ha, fun j hj => ?_⟩⟩ _
      dsimp only at hj ⊢
      unfold upd
      split
      · rfl
      · exact hg j hj
theorem q_row {τ : jTg} {h : List jC} {z : zS} (E : EncX τ h z) (x y : Int32) : jCt jy_X11_row [.ref 2, .int x, .int y] h (xPost h (zrow z x y).1 (zrow z x y).2) := by
  obtain ⟨ρ, ω, κ, π, n, t, k, H⟩ := id E
  have e1 := H.1
  have e11 := E.B
  have hlen := e11.1
  obtain ⟨t9, f, hf, hw⟩ := H.2.2.2.2.2.1
  have j40 : (nI 40).toInt = 40 := by decide
  have jm : (-1 : Int32).toInt = -1 := by decide
  generalize hΦ : xPost h _ _ = Φ
  refine jrun2 (js_X11_row _) rfl rfl rfl (fun G hG hW hB => ?_)
  refine hG [45] 300 _ _ _ _ _ _ ?_
  conv => whnf
  refine jcall (c_wi x 3 (by decide) h) ?_
  rintro r' h' ⟨rfl, he⟩
  obtain rfl := he.symm
  clear he
  conv => whnf
  refine ⟨fun c1 => ?_, fun c1 => ?_⟩ <;> rw [jbi_0, ← isRow_iff] at c1
  · rw [zrow, if_neg (fun q => c1 q.1)] at hΦ
    conv => whnf
    rw [← hΦ]
    exact xsame E _
  have c1 := Decidable.not_not.mp c1
  have hx := tn_eq c1.1
  have hx3 : tn x < 3 := by unfold tn; omega
  conv => whnf
  refine ⟨fun c2 => ?_, fun c2 => ?_⟩ <;> rw [jleI, j40] at c2
  case refine_2 =>
    rw [zrow, if_neg (fun q => c2 q.2)] at hΦ
    conv => whnf
    rw [← hΦ]
    exact xsame E _
  rw [zrow, if_pos ⟨c1, c2⟩] at hΦ
  generalize tn x = r at *
  conv => whnf
  refine ⟨fun c3 => ?_, fun c3 => ?_⟩ <;> rw [jleI, jm] at c3
  case refine_2 =>
    rw [if_pos (by omega)] at hΦ
    conv => whnf
    rw [← hΦ]
    exact xsame E _
  rw [if_neg (by omega)] at hΦ
  conv => whnf
  refine ⟨_, e1, ?_⟩
  conv => whnf
  refine ⟨fun c4 => ?_, fun c4 => ?_⟩ <;> rw [jeq, jm] at c4
  · have hy := tn_eq (x := y) (by omega)
    have hy40 : tn y ≤ 40 := by unfold tn; omega
    rw [if_pos (by omega)] at hΦ
    generalize tn y = m at *
    conv => whnf
    refine ⟨m, hy, by omega, (show 0 + 1 + m ≤ 41 by omega), ?_⟩
    have hl1 : (h ++ [(.inr (5, [.null]) : jC)]).length = h.length + 1 := by rw [List.length_append]; rfl
    rw [hl1]
    conv => whnf
    refine hB 2 41 (by decide) (show 0 + 1 + m ≤ 41 by omega) ?_
    refine hG [] 300 _ _ _ _ _ _ ?_
    conv => whnf
    refine jcall (c_X6_init (jrow_0 h _ _) (h.length + 1)) ?_
    rintro r h' ⟨rfl, rfl⟩
    rw [jrow2]
    conv => whnf
    refine ⟨_, _, _, _, 5, _, jget_apl hf, hx, hx3, jtwo_s h _ _, rfl, ?_⟩
    conv => whnf
    have K : KT (fun t => t != 5 && t != 10 + r) τ h (va_up τ (h.length + 1) (10 + r)) ((h ++ [(.inr (5, [.ref (h.length + 1)]) : jC), aI m (fun _ => nI 0)]).set 9 (aO "QuasiSums$Row" 3 (va_up f r (some h.length)))) := (((KT.refl).app _).set _ (Or.inr (by rw [t9]; rfl))).tag (by omega)
    have hl2 : ((h ++ [(.inr (5, [.ref (h.length + 1)]) : jC), aI m (fun _ => nI 0)]).set 9 (aO "QuasiSums$Row" 3 (va_up f r (some h.length)))).length = h.length + 2 := by rw [List.length_set, List.length_append]; rfl
    rw [← hΦ]
    refine xput E K (by simp; omega) ⟨ρ, ω, κ, π, n, t, k, H.rowset K hx3 (((e11.app _).set _ _).tag (by omega) (by omega)) (by unfold va_up; rw [if_neg (by omega)]; exact t9) hf (jget_set (jget_apl hf)) (fun r2 h2 => by unfold va_up; rw [if_neg h2]) (x := some (m, fun _ => nI 0)) ⟨h.length, h.length + 1, fun _ => nI 0, by simp [va_up], ?_, by simp [va_up], jget_ne (by omega) (jtwo_s h _ _), jget_ne (by omega) (jtwo_a h _ _), fun _ _ => rfl⟩⟩ _
    unfold va_up
    rw [if_neg (by omega)]
    exact e11.2.2.2 _ (Nat.le_refl _)
  · rw [if_neg (by omega)] at hΦ
    conv => whnf
    refine ⟨_, _, _, _, hf, hx, hx3, ?_⟩
    conv => whnf
    have K : KT (fun t => t != 5 && t != 10 + r) τ h τ (h.set 9 (aO "QuasiSums$Row" 3 (va_up f r none))) := (KT.refl).set _ (Or.inr (by rw [t9]; rfl))
    rw [← hΦ]
    refine xput E K (by simp; omega) ⟨ρ, ω, κ, π, n, t, k, H.rowset K hx3 (e11.set _ _) t9 hf (jget_set hf) (fun r2 h2 => by unfold va_up; rw [if_neg h2]) (x := none) ?_⟩ _
    show va_up f r none r = none
    simp [va_up]
