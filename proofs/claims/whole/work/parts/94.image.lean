/-! the class: copy, image, restore -/
theorem jsubI (p : Nat) (n : Int32) (hp : p ≤ 1000) (hn : 0 ≤ n.toInt) : (nI p - n).toInt = p - n.toInt := by
  have := Int32.toInt_lt n
  rw [Int32.toInt_sub, nI_toInt (by omega), Int.bmod_eq_of_le (by omega) (by omega)]
theorem q_copy {τ : jTg} {h : List jC} {z : zS} (E : EncX τ h z) (hz : zWF z) (x i o j n : Int32) : jCt jy_X11_copy [.ref 2, .int x, .int i, .int o, .int j, .int n] h (xPost h (zcopy z x i o j n).1 (zcopy z x i o j n).2) := by
  obtain ⟨ρ, ω, κ, π, nn, t, k, H⟩ := id E
  have e1 := H.1
  have e11 := E.B
  obtain ⟨t9, f, hf, hw⟩ := H.2.2.2.2.2.1
  generalize hΦ : xPost h _ _ = Φ
  have hno : ¬ (isRow x ∧ isRow o) → Φ (some (.int (-1))) h := by
    intro hn
    rw [zcopy, if_neg hn] at hΦ
    rw [← hΦ]
    exact xsame E _
  refine jrun2 (js_X11_copy _) rfl rfl rfl (fun G hG hW hB => ?_)
  refine hG [] 300 _ _ _ _ _ _ ?_
  conv => whnf
  refine jcall (c_wi x 3 (by decide) h) ?_
  rintro r' h' ⟨rfl, he⟩
  obtain rfl := he.symm
  clear he
  conv => whnf
  refine ⟨fun c1 => ?_, fun c1 => ?_⟩ <;> rw [jbi_0, ← isRow_iff] at c1
  · conv => whnf
    exact hno (fun q => c1 q.1)
  have c1 := Decidable.not_not.mp c1
  conv => whnf
  refine jcall (c_wi o 3 (by decide) h) ?_
  rintro r' h' ⟨rfl, he⟩
  obtain rfl := he.symm
  clear he
  conv => whnf
  refine ⟨fun c2 => ?_, fun c2 => ?_⟩ <;> rw [jbi_0, ← isRow_iff] at c2
  case refine_2 =>
    conv => whnf
    exact hno (fun q => c2 q.2)
  have c2 := Decidable.not_not.mp c2
  have hx := tn_eq c1.1
  have hx3 : tn x < 3 := by have := c1.2; unfold tn; omega
  have ho := tn_eq c2.1
  have ho3 : tn o < 3 := by have := c2.2; unfold tn; omega
  rw [zcopy, if_pos ⟨c1, c2⟩] at hΦ
  have hwx := hw _ hx3
  have hwo := hw _ ho3
  have hqx := hz.2.2.2.2.1 _ hx3
  have hqo := hz.2.2.2.2.1 _ ho3
  generalize tn x = r at *
  generalize tn o = s at *
  conv => whnf
  refine ⟨_, e1, ?_⟩
  conv => whnf
  refine ⟨_, _, _, _, _, hf, hx, hx3, rfl, ?_⟩
  conv => whnf
  match hX : zW z r, hwx with
  | none, hwx =>
    rw [hX] at hΦ
    dsimp only at hΦ
    rw [show f r = none from hwx]
    conv => whnf
    rw [← hΦ]
    exact xsame E _
  | some p, ⟨kp, a, g, hk, tk, ta, hk1, ha, hg⟩ =>
    rw [hX] at hΦ
    rw [hk]
    conv => whnf
    refine ⟨_, e1, ?_⟩
    conv => whnf
    refine ⟨_, _, _, _, _, hf, ho, ho3, rfl, ?_⟩
    conv => whnf
    match hO : zW z s, hwo with
    | none, hwo =>
      rw [hO] at hΦ
      dsimp only at hΦ
      rw [show f s = none from hwo]
      conv => whnf
      rw [← hΦ]
      exact xsame E _
    | some q, ⟨kq, b, g2, hk2, tk2, tb, hk3, hb, hg2⟩ =>
      rw [hO] at hΦ
      dsimp only at hΦ
      have hp40 := hqx p hX
      have hq40 := hqo q hO
      have bad : ¬ (0 ≤ n.toInt ∧ 0 ≤ i.toInt ∧ 0 ≤ j.toInt ∧ i.toInt + n.toInt ≤ p.1 ∧ j.toInt + n.toInt ≤ q.1) → Φ (some (.int (-13))) h := by
        intro hn
        rw [if_neg hn] at hΦ
        rw [← hΦ]
        exact xsame E _
      rw [hk2]
      conv => whnf
      refine ⟨_, e1, ?_⟩
      conv => whnf
      refine ⟨_, _, _, _, _, hf, hx, hx3, hk, ?_⟩
      conv => whnf
      refine ⟨_, hk1, ?_⟩
      conv => whnf
      refine ⟨_, e1, ?_⟩
      conv => whnf
      refine ⟨_, _, _, _, _, hf, ho, ho3, hk2, ?_⟩
      conv => whnf
      refine ⟨_, hk3, ?_⟩
      conv => whnf
      refine ⟨fun d1 => ?_, fun d1 => ?_⟩ <;> rw [jlt, j0] at d1
      · conv => whnf
        exact bad (by omega)
      conv => whnf
      refine ⟨fun d2 => ?_, fun d2 => ?_⟩ <;> rw [jlt, j0] at d2
      · conv => whnf
        exact bad (by omega)
      conv => whnf
      refine ⟨fun d3 => ?_, fun d3 => ?_⟩ <;> rw [jlt, j0] at d3
      · conv => whnf
        exact bad (by omega)
      conv => whnf
      refine ⟨_, _, _, ha, ?_⟩
      conv => whnf
      refine ⟨fun d4 => ?_, fun d4 => ?_⟩ <;> rw [jlt, jsubI _ _ (by omega) (by omega)] at d4
      · conv => whnf
        exact bad (by omega)
      conv => whnf
      refine ⟨_, _, _, hb, ?_⟩
      conv => whnf
      refine ⟨fun d5 => ?_, fun d5 => ?_⟩ <;> rw [jleI, jsubI _ _ (by omega) (by omega)] at d5
      case refine_2 =>
        conv => whnf
        exact bad (by omega)
      rw [if_pos ⟨by omega, by omega, by omega, by omega, by omega⟩] at hΦ
      have hnn := tn_eq (x := n) (by omega)
      have hii := tn_eq (x := i) (by omega)
      have hjj := tn_eq (x := j) (by omega)
      have hb1 : tn i + tn n ≤ p.1 := by unfold tn; omega
      have hb2 : tn j + tn n ≤ q.1 := by unfold tn; omega
      conv => whnf
      refine ⟨p.1, g, q.1, g2, tn i, tn j, tn n, ha, hb, hnn, hjj, hii, hb1, hb2, (show 0 ≤ 4 by decide), ?_⟩
      conv => whnf
      have K : KT (fun t => t != 5 && t != 10 + s) τ h τ (h.set b (aI q.1 (va_cpy g g2 (tn i) (tn j) (tn n)))) := (KT.refl).set _ (Or.inr (by rw [tb]; simp))
      have n9 : b ≠ 9 := jne hb hf (fun z => by cases z)
      have nk : b ≠ kq := jne hb hk3 (fun z => by cases z)
      rw [← hΦ]
      refine xput E K (by simp; omega) ⟨ρ, ω, κ, π, nn, t, k, H.rowset K ho3 (e11.set _ _) t9 hf (jget_ne n9 hf) (fun _ _ => rfl) (x := some (q.1, fun k => if tn j ≤ k ∧ k < tn j + tn n then p.2 (tn i + (k - tn j)) else q.2 k)) ⟨kq, b, _, hk2, tk2, tb, jget_ne nk hk3, jget_set hb, fun l hl => ?_⟩⟩ _
      dsimp only at hl ⊢
      unfold va_cpy
      split
      · exact hg _ (by omega)
      · exact hg2 l hl
theorem jsmW4 (R : Nat → zReg) : jsmW R 4 0 = zall R := by
  show (R 0).1 + ((R 1).1 + ((R 2).1 + ((R 3).1 + 0))) = (R 0).1 + (R 1).1 + (R 2).1 + (R 3).1
  omega
theorem c_X11_allWeights {τ : jTg} {h : List jC} {ρ ω κ π : Nat} {n : Int32} {t k : Value} {z : zS} (H : EncA τ h ρ ω κ π n t k z) : jCt jy_X11_allWeights [.ref 2] h (fun r h' => r = some (.int (nI (zall (zR z)))) ∧ h' = h) := by
  have e1 := H.1
  obtain ⟨-, f, hf, hp⟩ := H.2.1
  refine jrun2 (js_X11_allWeights _) rfl rfl rfl (fun G hG hW hB => ?_)
  have loop : ∀ u e acc, 4 = e + u → acc + jsmW (zR z) u e = zall (zR z) → G 4 [some (.ref 2), some (.int (nI acc)), some (.int (nI e))] [] h 0 0 := by
    intro u
    induction u with
    | zero =>
      intro e acc he ha
      refine hG [4] 300 _ _ _ _ _ _ ?_
      conv => whnf
      refine ⟨_, e1, ?_⟩
      conv => whnf
      refine ⟨_, _, _, hf, ?_⟩
      conv => whnf
      refine ⟨fun qb => ?_, fun qb => ?_⟩ <;> rw [nI_leI (by omega) (by omega)] at qb
      · conv => whnf
        rw [← ha]
        exact ⟨rfl, rfl⟩
      · omega
    | succ u ih =>
      intro e acc he ha
      obtain ⟨k2, hk, h1, a2, g2, h2, hs, h3⟩ := hp e (by omega)
      refine hG [4] 300 _ _ _ _ _ _ ?_
      conv => whnf
      refine ⟨_, e1, ?_⟩
      conv => whnf
      refine ⟨_, _, _, hf, ?_⟩
      conv => whnf
      refine ⟨fun qb => ?_, fun qb => ?_⟩ <;> rw [nI_leI (by omega) (by omega)] at qb
      · omega
      conv => whnf
      refine ⟨_, e1, ?_⟩
      conv => whnf
      refine ⟨_, _, _, _, _, hf, rfl, (show e < 4 by omega), hk, ?_⟩
      conv => whnf
      refine ⟨_, hs, ?_⟩
      conv => whnf
      rw [nI_add, nI_add]
      refine ih (e + 1) (acc + (zR z e).1) (by omega) ?_
      rw [← ha, jsmW]
      omega
  refine hG [4] 300 _ _ _ _ _ _ ?_
  conv => whnf
  exact loop 4 0 0 (by omega) (by rw [Nat.zero_add]; exact jsmW4 _)
theorem japp (h l : List jC) (x : jC) : (h ++ l) ++ [x] = h ++ (l ++ [x]) := List.append_assoc ..
theorem jlenA (h l : List jC) : (h ++ l).length = h.length + l.length := List.length_append
theorem jidx (h l : List jC) (i : Nat) : (h ++ l)[h.length + i]? = l[i]? := by rw [List.getElem?_append_right (by omega), Nat.add_sub_cancel_left]
theorem jsetA (h l : List jC) (i : Nat) (x : jC) : (h ++ l).set (h.length + i) x = h ++ l.set i x := by rw [List.set_append_right _ _ (by omega), Nat.add_sub_cancel_left]
theorem c_X1_init {h : List jC} {s : Nat} {a b c d : Value} (hs : h[s]? = some (.inr (1, [a, b, c, d]))) (w x y v : Nat) : jCt jy_X1_init [.ref s, .ref w, .ref x, .ref y, .ref v] h (fun r' h' => r' = none ∧ h' = h.set s (.inr (1, [.ref w, .ref x, .ref y, .ref v]))) := by
  refine jrun2 (js_X1_init _) rfl rfl rfl (fun G hG hW hB => ?_)
  refine hG [] 300 _ _ _ _ _ _ ?_
  conv => whnf
  refine ⟨trivial, _, hs, ?_⟩
  conv => whnf
  refine ⟨trivial, _, jget_set hs, ?_⟩
  conv => whnf
  refine ⟨trivial, _, jget_set (jget_set hs), ?_⟩
  conv => whnf
  refine ⟨trivial, _, jget_set (jget_set (jget_set hs)), ?_⟩
  conv => whnf
  rw [List.set_set, List.set_set, List.set_set]
  exact ⟨rfl, rfl⟩
theorem q_image {τ : jTg} {h : List jC} {z : zS} (E : EncX τ h z) : jCt jy_X11_image [.ref 2] h (xPost h (zimage z).1 (zimage z).2) := by
  obtain ⟨ρ, ω, κ, π, n, t, k, H⟩ := id E
  obtain ⟨e1, e2, e3, e4, e5, e6, e7, e8, e9, e10, e11⟩ := id H
  have hlen := e11.1
  obtain ⟨tρ, fR, hρ, hR⟩ := id e2
  obtain ⟨tκ, fC, hκ, hC⟩ := id e4
  obtain ⟨tπ, fK, hπ, hK⟩ := id e5
  generalize hΦ : xPost h _ _ = Φ
  refine jrun2 (js_X11_image _) rfl rfl rfl (fun G hG hW hB => ?_)
  refine hG [] 300 _ _ _ _ _ _ ?_
  conv => whnf
  refine ⟨_, jget_app e1, ?_⟩
  conv => whnf
  refine ⟨_, _, jget_app hρ, by decide, ?_⟩
  rw [jlenA, japp h]
  conv => whnf
  refine ⟨_, _, (show 2 ≤ h.length + 1 by omega), jidx h _ 1, ?_⟩
  conv => whnf
  refine ⟨_, jget_apl e1, ?_⟩
  conv => whnf
  refine ⟨_, jget_apl e1, ?_⟩
  conv => whnf
  refine ⟨_, _, jget_apl hκ, by decide, ?_⟩
  rw [jlenA, japp h]
  conv => whnf
  refine ⟨_, _, (show 2 ≤ h.length + 2 by omega), jidx h _ 2, ?_⟩
  conv => whnf
  refine ⟨_, jget_apl e1, ?_⟩
  conv => whnf
  refine ⟨_, _, jget_apl hπ, by decide, ?_⟩
  rw [jlenA, japp h]
  conv => whnf
  refine ⟨_, _, (show 2 ≤ h.length + 3 by omega), jidx h _ 3, ?_⟩
  conv => whnf
  refine jcall (c_X1_init (s := h.length) (jidx h _ 0) _ _ _ _) ?_
  rintro r h' ⟨rfl, rfl⟩
  have hsA := fun l x => jsetA h l 0 x
  rw [Nat.add_zero] at hsA
  rw [hsA]
  obtain ⟨l, hl⟩ : ∃ l : List jC, l = [(.inr (1, [.ref (h.length + 1), .ref ω, .ref (h.length + 2), .ref (h.length + 3)])), aO "QuasiSums$Sum" 4 fR, aF 6 fC, aO "QuasiSums$Item" 12 fK] := ⟨_, rfl⟩
  have Ha := H.app l
  obtain ⟨a1, a2, a3, a4, a5, a6, a7, a8, a9, a10, a11⟩ := Ha
  have K := KT_app τ h l
  have K0 := K.kp rfl
  have τ0 : ∀ i, fz0 τ (h.length + i) := fun i => e11.2.2.2 _ (by omega)
  have i0 := jidx h l 0
  rw [Nat.add_zero] at i0
  have Hn := EncA.mk2 (k := .ref h.length) (I := some (zR z, zO z, zC z, zK z)) a1 a2 a3 a4 a5 a6 a7 a8 a9 ⟨h.length, h.length + 1, ω, h.length + 2, h.length + 3, rfl, τ0 0, τ0 1, τ0 2, τ0 3, i0.trans (by rw [hl]; rfl), ⟨fR, (jidx h l 1).trans (by rw [hl]; rfl), fun r hr => by obtain ⟨k2, f1, f2⟩ := hR r hr; exact ⟨k2, f1, f2.kp K0⟩⟩, a3, ⟨fC, (jidx h l 2).trans (by rw [hl]; rfl), hC⟩, ⟨fK, (jidx h l 3).trans (by rw [hl]; rfl), fun p hp => (hK p hp).kp K0⟩⟩ a11
  have hl2 : h ++ ([(.inr (1, [.null, .null, .null, .null]) : jC)] ++ [aO "QuasiSums$Sum" 4 fR] ++ [aF 6 fC] ++ [aO "QuasiSums$Item" 12 fK]).set 0 (.inr (1, [.ref (h.length + 1), .ref ω, .ref (h.length + 2), .ref (h.length + 3)])) = h ++ l := by rw [hl]; rfl
  erw [hl2]
  conv => whnf
  refine ⟨trivial, _, jget_apl e1, ?_⟩
  conv => whnf
  refine ⟨⟨_, Hn.1⟩, jcall (c_X11_allWeights Hn) ?_⟩
  rintro r' h' ⟨rfl, rfl⟩
  conv => whnf
  rw [← hΦ]
  refine xput (z' := (zimage z).2) E (S := fun t => t != 1) (((KT.refl).app l).set _ (Or.inr (by rw [e11.2.1]; rfl))) rfl ⟨ρ, ω, κ, π, n, t, .ref h.length, Hn⟩ _
theorem EncA.steps {τ : jTg} {h h' : List jC} {ρ ω κ π : Nat} {n : Int32} {t k : Value} {z : zS} (H : EncA τ h ρ ω κ π n t k z) (K : KT (fun t => t != 7 && t != 8) τ h τ h') (B : xB τ h') {T : List (Nat × zReg)} (hT : xT τ h' T) : EncA τ h' ρ ω κ π n t k (zR z, T, z.2.2) := by
  obtain ⟨e1, e2, e3, e4, e5, e6, e7, e8, e9, e10, e11⟩ := H
  have K0 := K.kp rfl
  exact ⟨(K.at1 e11.2.1 rfl e1).1, e2.kt K rfl rfl, e3.kt K rfl rfl, e4.kt K rfl, e5.kt K rfl rfl, e6.kt K rfl rfl (t3_ok (S := fun t => t != 7 && t != 8) rfl rfl rfl), e7.kt K rfl, e8.kp K0, hT, e10.kt K rfl rfl, B⟩
theorem jset_apl {h l : List jC} {k : Nat} {c x : jC} (hk : h[k]? = some c) : (h ++ l).set k x = h.set k x ++ l := List.set_append_left _ _ (List.getElem?_eq_some_iff.mp hk).1
theorem q_restore {τ : jTg} {h : List jC} {z : zS} (E : EncX τ h z) (hz : zWF z) : jCt jy_X11_restore [.ref 2] h (xPost h (zrestore z).1 (zrestore z).2) := by
  obtain ⟨ρ, ω, κ, π, n, t, k, H⟩ := id E
  obtain ⟨e1, e2, e3, e4, e5, e6, e7, e8, e9, e10, e11⟩ := id H
  have hlen := e11.1
  have hT8 := hz.2.1.1
  generalize hΦ : xPost h _ _ = Φ
  refine jrun2 (js_X11_restore _) rfl rfl rfl (fun G hG hW hB => ?_)
  match hI : zI z, e10 with
  | none, e10 =>
    have hk : k = .null := e10
    subst hk
    have hsp : zrestore z = (.int (-5), z) := by unfold zrestore; rw [hI]
    rw [hsp] at hΦ
    refine hG [] 300 _ _ _ _ _ _ ?_
    conv => whnf
    refine ⟨_, e1, ?_⟩
    conv => whnf
    rw [← hΦ]
    exact xsame E _
  | some q, ⟨i, ρi, ωi, κi, πi, hk, ti, tρi, tκi, tπi, hi, ⟨fR, hρi, hR⟩, hoi, ⟨fC, hκi, hC⟩, ⟨fK, hπi, hK⟩⟩ =>
    have hsp : zrestore z = (.int (nI (zall q.1)), (q.1, [], q.2.1, q.2.2.1, q.2.2.2, zW z, zP z, zX z, zI z)) := by unfold zrestore; rw [hI]
    rw [hsp] at hΦ
    subst hk
    have hset : ∀ (l : List jC) (m : jC), (h.set 2 (mx ρ ω κ π n t (.ref i)) ++ l).set 2 m = h.set 2 m ++ l := fun l m => by
      rw [List.set_append_left _ _ (by rw [List.length_set]; omega), List.set_set]
    have hset2 : ∀ (m1 : jC) (l : List jC) (m : jC), (h.set 2 m1 ++ l).set 2 m = h.set 2 m ++ l := fun m1 l m => by
      rw [List.set_append_left _ _ (by rw [List.length_set]; omega), List.set_set]
    have n2 : ∀ {j : Nat} {c : jC} (m : jC) (l : List jC), 2 ≠ j → h[j]? = some c → (h.set 2 m ++ l)[j]? = some c := fun m l hj hc => jget_apl (jget_ne hj hc)
    have m2 : ∀ (m : jC) (l : List jC), (h.set 2 m ++ l)[2]? = some m := fun m l => jget_apl (jget_set e1)
    have lenS : ∀ m : jC, (h.set 2 m).length = h.length := fun m => List.length_set
    have i2 : 2 ≠ i := jne e1 hi (fun z => by cases z)
    have ρi2 : 2 ≠ ρi := jne e1 hρi (fun z => by cases z)
    have κi2 : 2 ≠ κi := jne e1 hκi (fun z => by cases z)
    have πi2 : 2 ≠ πi := jne e1 hπi (fun z => by cases z)
    refine hG [] 300 _ _ _ _ _ _ ?_
    conv => whnf
    refine ⟨_, e1, ?_⟩
    conv => whnf
    refine ⟨_, e1, ?_⟩
    conv => whnf
    refine ⟨_, hi, ?_⟩
    conv => whnf
    refine ⟨_, _, hρi, by decide, ?_⟩
    conv => whnf
    refine ⟨_, _, (show 2 ≤ h.length by omega), jget_new h _, ?_⟩
    conv => whnf
    refine ⟨trivial, _, jget_app e1, ?_⟩
    conv => whnf
    rw [jset_app e1]
    refine ⟨_, m2 _ _, ?_⟩
    conv => whnf
    refine ⟨_, n2 _ _ i2 hi, ?_⟩
    conv => whnf
    refine ⟨trivial, _, m2 _ _, ?_⟩
    conv => whnf
    rw [hset2]
    refine ⟨_, m2 _ _, ?_⟩
    conv => whnf
    refine ⟨_, n2 _ _ i2 hi, ?_⟩
    conv => whnf
    refine ⟨_, _, n2 _ _ κi2 hκi, by decide, ?_⟩
    rw [jlenA, lenS, japp (h.set 2 _)]
    conv => whnf
    have idx : ∀ (m : jC) (l : List jC) (j : Nat), (h.set 2 m ++ l)[h.length + j]? = l[j]? := fun m l j => by
      have := jidx (h.set 2 m) l j
      rw [lenS] at this
      exact this
    refine ⟨_, _, (show 2 ≤ h.length + 1 by omega), idx _ _ 1, ?_⟩
    conv => whnf
    refine ⟨trivial, _, m2 _ _, ?_⟩
    conv => whnf
    rw [hset2]
    refine ⟨_, m2 _ _, ?_⟩
    conv => whnf
    refine ⟨_, n2 _ _ i2 hi, ?_⟩
    conv => whnf
    refine ⟨_, _, n2 _ _ πi2 hπi, by decide, ?_⟩
    rw [jlenA, lenS, japp (h.set 2 _)]
    conv => whnf
    refine ⟨_, _, (show 2 ≤ h.length + 2 by omega), idx _ _ 2, ?_⟩
    conv => whnf
    refine ⟨trivial, _, m2 _ _, ?_⟩
    conv => whnf
    rw [hset2]
    obtain ⟨l, hl⟩ : ∃ l : List jC, l = [aO "QuasiSums$Sum" 4 fR, aF 6 fC, aO "QuasiSums$Item" 12 fK] := ⟨_, rfl⟩
    rw [show ([aO "QuasiSums$Sum" 4 fR] ++ [aF 6 fC] ++ [aO "QuasiSums$Item" 12 fK] : List jC) = l by rw [hl]; rfl]
    -- the state with the image's parts
    obtain ⟨τ', hτ'⟩ : ∃ τ' : jTg, τ' = va_up (va_up (va_up τ h.length 2) (h.length + 1) 3) (h.length + 2) 4 := ⟨_, rfl⟩
    have ll : (h ++ l).length = h.length + 3 := by rw [jlenA, hl]; rfl
    have K : KT (fun _ => true) τ h τ' (h ++ l) := by
      rw [hτ']
      exact ((((KT.refl).app l).tag (by omega)).tag (by omega)).tag (by omega)
    have B : xB τ' (h ++ l) := by
      rw [hτ']
      exact (((e11.app l).tag (by omega) (by omega)).tag (by omega) (by omega)).tag (by omega) (by omega)
    have K0 := K.kp rfl
    have j0 := jidx h l 0
    rw [Nat.add_zero] at j0
    have Hn := EncA.mk2 (τ := τ') (h := h ++ l) (ρ := h.length) (ω := ωi) (κ := h.length + 1) (π := h.length + 2) (n := n) (t := t) (k := .ref i) (R := q.1) (T := zT z) (o := q.2.1) (C := q.2.2.1) (K := q.2.2.2) (W := zW z) (P := zP z) (X := zX z) (I := zI z) (jget_apl e1)
      ⟨by rw [hτ']; simp [va_up], fR, j0.trans (by rw [hl]; rfl), fun r hr => by obtain ⟨k2, f1, f2⟩ := hR r hr; exact ⟨k2, f1, f2.kp K0⟩⟩
      (hoi.kt K rfl rfl)
      ⟨by rw [hτ']; simp [va_up], fC, (jidx h l 1).trans (by rw [hl]; rfl), hC⟩
      ⟨by rw [hτ']; simp [va_up], fK, (jidx h l 2).trans (by rw [hl]; rfl), fun p hp => (hK p hp).kp K0⟩
      (e6.kt K rfl rfl (fun _ _ => rfl)) (e7.kt K rfl) (e8.kp K0) (e9.kt K rfl rfl rfl)
      (by rw [hI]; exact ⟨i, ρi, ωi, κi, πi, rfl, (K0 _ _ hi ti).2, (K0 _ _ hρi tρi).2, (K0 _ _ hκi tκi).2, (K0 _ _ hπi tπi).2, jget_apl hi, ⟨fR, jget_apl hρi, fun r hr => by obtain ⟨k2, f1, f2⟩ := hR r hr; exact ⟨k2, f1, f2.kp K0⟩⟩, hoi.kt K rfl rfl, ⟨fC, jget_apl hκi, hC⟩, ⟨fK, jget_apl hπi, fun p hp => (hK p hp).kp K0⟩⟩) B
    have hH : (h ++ l).set 2 (mx h.length ωi (h.length + 1) (h.length + 2) n t (.ref i)) = h.set 2 (mx h.length ωi (h.length + 1) (h.length + 2) n t (.ref i)) ++ l := jset_apl e1
    rw [hH] at Hn
    have Kn : KT (fun t => t != 1) τ h τ' (h.set 2 (mx h.length ωi (h.length + 1) (h.length + 2) n t (.ref i)) ++ l) := by
      rw [← hH]
      exact (K.mono (fun _ _ => rfl)).set _ (Or.inr (by rw [e11.2.1]; rfl))
    obtain ⟨h2, hh2⟩ : ∃ h2, h2 = h.set 2 (mx h.length ωi (h.length + 1) (h.length + 2) n t (.ref i)) ++ l := ⟨_, rfl⟩
    have hgoal : h.set 2 (mx h.length ωi (h.length + 1) (h.length + 2) n t (.ref i)) ++ l = h2 := hh2.symm
    rw [hgoal] at Hn Kn
    obtain ⟨t11, mc, β, h11, hL⟩ := id Hn.2.2.2.2.2.2.2.2.1
    have hL2 : (zT z).length = 0 ∨ ∃ f, h2[β]? = some (aB 10 f) ∧ (zT z).length ≤ 10 := by
      rcases hL with ⟨-, -, -, hT0⟩ | ⟨-, f, hf, -⟩
      · left
        rw [show zT z = [] from hT0]
        rfl
      · exact Or.inr ⟨f, hf, by omega⟩
    have fin : ∀ h3, ((zT z).length = 0 ∧ h3 = h2.set 11 (oA (mc + nI 1) β 0)) ∨ (∃ f, h2[β]? = some (aB 10 f) ∧ h3 = (h2.set 11 (oA (mc + nI 1) β 0)).set β (aB 10 (fun j => if j < (zT z).length then none else f j))) → EncA τ' h3 h.length ωi (h.length + 1) (h.length + 2) n t (.ref i) (q.1, [], q.2.1, q.2.2.1, q.2.2.2, zW z, zP z, zX z, zI z) ∧ KT (fun t => t != 1 && t != 7 && t != 8) τ h τ' h3 := by
      intro h3 h3c
      have B2 := Hn.2.2.2.2.2.2.2.2.2.2
      have Kn2 : KT (fun t => t != 1 && t != 7 && t != 8) τ h τ' h2 := Kn.mono (fun t ht => by simp at ht; simp; omega)
      rcases h3c with ⟨hT0, rfl⟩ | ⟨f, hf, rfl⟩
      · have Ka : KT (fun t => t != 7 && t != 8) τ' h2 τ' (h2.set 11 (oA (mc + nI 1) β 0)) := (KT.refl).set _ (Or.inr (by rw [t11]; rfl))
        refine ⟨Hn.steps Ka (B2.set _ _) (T := []) ⟨t11, _, β, jget_set h11, ?_⟩, ?_⟩
        · rcases hL with ⟨b0, b1, b2, -⟩ | ⟨b0, f, b1, -⟩
          · exact Or.inl ⟨b0, b1, jget_ne (by decide) b2, rfl⟩
          · exact Or.inr ⟨b0, f, jget_ne (jne h11 b1 (fun z => by cases z)) b1, fun i q hi => by cases hi⟩
        · refine fun k c hk hs => ?_
          obtain ⟨a, b⟩ := Kn2 k c hk hs
          refine ⟨?_, b⟩
          rw [List.getElem?_set_ne]
          · exact a
          · intro e
            rw [← e] at b hs
            rw [t11] at b
            rw [← b] at hs
            cases hs
      · have tβ : τ' β = 8 := by
          rcases hL with ⟨b0, -, b2, -⟩ | ⟨b0, -⟩
          · rw [b0] at hf
            rw [hf] at b2
            cases b2
          · exact b0
        have hβ11 : (11 : Nat) ≠ β := jne h11 hf (fun z => by cases z)
        have Ka : KT (fun t => t != 7 && t != 8) τ' h2 τ' ((h2.set 11 (oA (mc + nI 1) β 0)).set β (aB 10 (fun j => if j < (zT z).length then none else f j))) := ((KT.refl).set _ (Or.inr (by rw [t11]; rfl))).set _ (Or.inr (by rw [tβ]; rfl))
        refine ⟨Hn.steps Ka ((B2.set _ _).set _ _) (T := []) ⟨t11, _, β, jget_ne (Ne.symm hβ11) (jget_set h11), Or.inr ⟨tβ, _, jget_set (jget_ne hβ11 hf), fun i q hi => by cases hi⟩⟩, ?_⟩
        refine fun k c hk hs => ?_
        obtain ⟨a, b⟩ := Kn2 k c hk hs
        refine ⟨?_, b⟩
        rw [List.getElem?_set_ne, List.getElem?_set_ne]
        · exact a
        · intro e
          rw [← e] at b hs
          rw [t11] at b
          rw [← b] at hs
          cases hs
        · intro e
          rw [← e] at b hs
          rw [tβ] at b
          rw [← b] at hs
          cases hs
    erw [hgoal]
    refine ⟨_, Hn.1, ?_⟩
    conv => whnf
    refine ⟨⟨_, h11⟩, jcall (c_AL_clear h11 hL2) ?_⟩
    rintro r' h3 ⟨rfl, h3c⟩
    obtain ⟨Hf, Kf⟩ := fin h3 h3c
    conv => whnf
    refine ⟨⟨_, Hf.1⟩, jcall (c_X11_allWeights Hf) ?_⟩
    rintro r' h' ⟨rfl, he⟩
    obtain rfl := he.symm
    clear he
    conv => whnf
    rw [← hΦ]
    exact xput E Kf rfl ⟨_, _, _, _, _, _, _, Hf⟩ _
