/-! the class: back, why, count, holds -/
theorem q_back {τ : jTg} {h : List jC} {z : zS} (E : EncX τ h z) (hz : zWF z) : jCt jy_X11_back [.ref 2] h (xPost h (zback z).1 (zback z).2) := by
  obtain ⟨ρ, ω, κ, π, n, t, k, H⟩ := id E
  obtain ⟨e1, e2, e3, e4, e5, e6, e7, e8, e9, e10, e11⟩ := id H
  obtain ⟨eρ, fR, hρ, hfR⟩ := id e2
  obtain ⟨t11, mc, β, h11, hL⟩ := id e9
  have hT8 := hz.2.1.1
  generalize hΦ : xPost h _ _ = Φ
  refine jrun2 (js_X11_back _) rfl rfl rfl (fun G hG hW hB => ?_)
  refine hG [] 300 _ _ _ _ _ _ ?_
  conv => whnf
  refine ⟨_, e1, ?_⟩
  conv => whnf
  refine ⟨⟨_, h11⟩, jcall (c_AL_isEmpty h11 (by omega)) ?_⟩
  rintro r' h' ⟨rfl, he⟩
  obtain rfl := he.symm
  clear he
  conv => whnf
  refine ⟨fun c => ?_, fun c => ?_⟩ <;> rw [jbi_0] at c
  case refine_2 =>
    have hT : zT z = [] := List.length_eq_zero_iff.mp (Decidable.not_not.mp c)
    have hsp : zback z = (.int (-5), z) := by unfold zback; rw [hT]; rfl
    rw [hsp] at hΦ
    conv => whnf
    rw [← hΦ]
    exact xsame E _
  have hlast : (zT z)[(zT z).length - 1]? = some ((zT z)[(zT z).length - 1]'(by omega)) := List.getElem?_eq_getElem (by omega)
  generalize hq : (zT z)[(zT z).length - 1]'(by omega) = q at hlast
  have hg : (zT z).getLast? = some q := by rw [List.getLast?_eq_getElem?]; exact hlast
  have hsp : zback z = (.int (nI ((zT z).length - 1)), (va_up (zR z) q.1 q.2, (zT z).dropLast, z.2.2)) := by unfold zback; rw [hg]
  rw [hsp] at hΦ
  clear hq
  have hmem : q ∈ zT z := List.mem_of_getElem? hlast
  have hqr := (hz.2.1.2 q hmem).1
  rcases hL with ⟨-, -, -, hT0⟩ | ⟨hτβ, f, hβ, hf⟩
  · exact absurd (by rw [hT0]; rfl) c
  obtain ⟨s, b, hs, ts, hss, hSb⟩ := hf _ _ hlast
  obtain ⟨m, hm⟩ : ∃ m, (zT z).length = m + 1 := ⟨(zT z).length - 1, by omega⟩
  rw [show (zT z).length - 1 = m by omega] at hs hlast hΦ
  rw [hm] at h11
  have h112 : (11 : Nat) ≠ 2 := by decide
  have β11 : (11 : Nat) ≠ β := jne h11 hβ (fun z => by cases z)
  have β2 : β ≠ 2 := jne hβ e1 (fun z => by cases z)
  have ρ11 : (11 : Nat) ≠ ρ := fun e => by rw [← e, t11] at eρ; cases eρ
  have βρ : β ≠ ρ := fun e => by rw [e, eρ] at hτβ; cases hτβ
  have βs : β ≠ s := jne hβ hss (fun z => by cases z)
  have s11 : (11 : Nat) ≠ s := jne h11 hss (fun z => by cases z)
  obtain ⟨hb0, ab, gb, hb1, hbs, hba, hbg⟩ := id hSb
  have βb : β ≠ b := jne hβ hbs (fun z => by cases z)
  have b11 : (11 : Nat) ≠ b := jne h11 hbs (fun z => by cases z)
  have hβd : h.length ≤ β ∨ (fun t => t != 2 && t != 7 && t != 8) (τ β) = false := Or.inr (by rw [hτβ]; rfl)
  have h11d : h.length ≤ 11 ∨ (fun t => t != 2 && t != 7 && t != 8) (τ 11) = false := Or.inr (by rw [t11]; rfl)
  have hρd : h.length ≤ ρ ∨ (fun t => t != 2 && t != 7 && t != 8) (τ ρ) = false := Or.inr (by rw [eρ]; rfl)
  conv => whnf
  refine ⟨_, e1, ?_⟩
  conv => whnf
  refine ⟨_, e1, ?_⟩
  conv => whnf
  refine ⟨⟨_, h11⟩, jcall (c_AL_size h11) ?_⟩
  rintro r' h' ⟨rfl, he⟩
  obtain rfl := he.symm
  clear he
  conv => whnf
  rw [jI_m1 (by omega), Nat.add_sub_cancel]
  refine ⟨⟨_, h11⟩, jcall (c_AL_pop h11 hβ (by omega) (by decide) hs) ?_⟩
  rintro r' h' ⟨rfl, rfl⟩
  obtain ⟨h2, hh2⟩ : ∃ h2, h2 = (h.set β (aB 10 (va_up f m none))).set 11 (oA (mc + nI 1) β m) := ⟨_, rfl⟩
  rw [← hh2]
  have g : ∀ {j : Nat} {x : jC}, β ≠ j → 11 ≠ j → h[j]? = some x → h2[j]? = some x := fun a b c => by rw [hh2]; exact jget_ne b (jget_ne a c)
  have x11 : h2[11]? = some (oA (mc + nI 1) β m) := by rw [hh2]; exact jget_set (jget_ne (Ne.symm β11) h11)
  have xβ : h2[β]? = some (aB 10 (va_up f m none)) := by rw [hh2]; exact jget_ne β11 (jget_set hβ)
  have K2 : KT (fun t => t != 2 && t != 7 && t != 8) τ h τ h2 := by rw [hh2]; exact ((KT.refl).set _ hβd).set _ h11d
  have B2 : xB τ h2 := by rw [hh2]; exact (e11.set _ _).set _ _
  conv => whnf
  refine ⟨6, _, g βs s11 hss, rfl, ?_⟩
  conv => whnf
  refine ⟨_, g β2 h112 e1, ?_⟩
  conv => whnf
  refine ⟨_, g βs s11 hss, ?_⟩
  conv => whnf
  refine ⟨_, g βs s11 hss, ?_⟩
  conv => whnf
  refine ⟨_, _, _, _, 7, _, g βρ ρ11 hρ, rfl, hqr, g βb b11 hbs, rfl, ?_⟩
  conv => whnf
  have ρ2 : ρ ≠ 2 := jne hρ e1 (fun z => by cases z)
  have ρb : ρ ≠ b := jne hρ hbs (fun z => by cases z)
  have x11b : (h2.set ρ (aO "QuasiSums$Sum" 4 (va_up fR q.1 (some b))))[11]? = some (oA (mc + nI 1) β m) := jget_ne (Ne.symm ρ11) x11
  refine ⟨_, jget_ne ρ2 (g β2 h112 e1), ?_⟩
  conv => whnf
  refine ⟨⟨_, x11b⟩, jcall (c_AL_size x11b) ?_⟩
  rintro r' h' ⟨rfl, he⟩
  obtain rfl := he.symm
  clear he
  conv => whnf
  rw [← hΦ]
  have K3 := K2.set (aO "QuasiSums$Sum" 4 (va_up fR q.1 (some b))) hρd
  have K0 := K3.kp rfl
  refine xput (z' := (va_up (zR z) q.1 q.2, (zT z).dropLast, z.2.2)) E K3 rfl ⟨ρ, ω, κ, π, n, t, k, jget_ne ρ2 (g β2 h112 e1), ⟨eρ, _, jget_set (g βρ ρ11 hρ), fun r hr => ?_⟩, e3.kt K3 rfl rfl, e4.kt K3 rfl, e5.kt K3 rfl rfl, e6.kt K3 rfl rfl (t3_ok (S := fun t => t != 2 && t != 7 && t != 8) rfl rfl rfl), e7.kt K3 rfl, e8.kp K0, ⟨t11, mc + nI 1, β, ?_, Or.inr ⟨hτβ, _, jget_ne (Ne.symm βρ) xβ, fun i p hi => ?_⟩⟩, e10.kt K3 rfl rfl, B2.set _ _⟩ _
  · by_cases hrq : r = q.1
    · refine ⟨b, by rw [hrq]; simp [va_up], ?_⟩
      show xS (fz0 τ) _ b (va_up (zR z) q.1 q.2 r)
      rw [hrq, show va_up (zR z) q.1 q.2 q.1 = q.2 by simp [va_up]]
      exact hSb.kp K0
    · obtain ⟨k2, f1, f2⟩ := hfR r hr
      refine ⟨k2, by simp [va_up, hrq]; exact f1, ?_⟩
      show xS (fz0 τ) _ k2 (va_up (zR z) q.1 q.2 r)
      rw [show va_up (zR z) q.1 q.2 r = zR z r by simp [va_up, hrq]]
      exact f2.kp K0
  · show _ = some (oA (mc + nI 1) β (zT z).dropLast.length)
    rw [List.length_dropLast, hm, Nat.add_sub_cancel]
    exact x11b
  · have hi0 : (zT z).dropLast[i]? = some p := hi
    rw [List.getElem?_dropLast] at hi0
    split at hi0
    · rename_i hlt
      have := (hf i p hi0).kt K3 rfl
      rw [show va_up f m none i = f i by unfold va_up; rw [if_neg (by omega)]]
      exact this
    · cases hi0
theorem xX_ref {fz : Nat → Prop} {h : List jC} {v : Value} {l : List (Int32 × Int32)} (H : xX fz h v l) : v = .null ∨ ∃ b, v = .ref b := by
  match l, H with
  | [], H => exact Or.inl H
  | _ :: _, ⟨b, _, H, _⟩ => exact Or.inr ⟨b, H⟩
theorem q_why {τ : jTg} {h : List jC} {z : zS} (E : EncX τ h z) (hz : zWF z) (x y : Int32) : jCt jy_X11_why [.ref 2, .int x, .int y] h (xPost h (zwhy z x y) z) := by
  obtain ⟨ρ, ω, κ, π, n, t, k, H⟩ := id E
  have e1 := H.1
  have e8 := H.2.2.2.2.2.2.2.1
  generalize hΦ : xPost h _ _ = Φ
  refine jrun2 (js_X11_why _) rfl rfl rfl (fun G hG hW hB => ?_)
  have fin : ∀ (v : Value) (l : List (Int32 × Int32)) (x4 : Option Value), 0 ≤ x.toInt → 0 ≤ y.toInt ∧ y.toInt < (2 : Nat) → xX (fz0 τ) h v l → (zX z)[tn x]? = l[0]? → G 43 [some (.ref 2), some (.int x), some (.int y), some v, x4] [] h 0 0 := by
    intro v l x4 h0 h2 hX he
    have hy := tn_eq h2.1
    have hsp : zwhy z x y = match l[0]? with
      | none => .int (-2)
      | some q => if tn y = 0 then .int q.1 else .int q.2 := by
      unfold zwhy
      rw [if_pos (by omega), he]
      rfl
    rw [hsp] at hΦ
    match l, hX with
    | [], hX =>
      subst hX
      dsimp only [List.getElem?_nil] at hΦ
      refine hG [] 300 _ _ _ _ _ _ ?_
      conv => whnf
      rw [← hΦ]
      exact xsame E _
    | q :: l, ⟨b, w, hv, hb, hc, hw⟩ =>
      subst hv
      dsimp only [List.getElem?_cons_zero] at hΦ
      have hy2 : tn y < 2 := by unfold tn; omega
      refine hG [] 300 _ _ _ _ _ _ ?_
      conv => whnf
      refine ⟨fun c => ?_, fun c => ?_⟩ <;> rw [hy, nI_eq (by omega) (by omega)] at c
      · rw [if_neg c] at hΦ
        conv => whnf
        refine ⟨_, hc, ?_⟩
        conv => whnf
        rw [← hΦ]
        exact xsame E _
      · rw [if_pos c] at hΦ
        conv => whnf
        refine ⟨_, hc, ?_⟩
        conv => whnf
        rw [← hΦ]
        exact xsame E _
  have loop : 0 ≤ x.toInt → 0 ≤ y.toInt ∧ y.toInt < (2 : Nat) → ∀ (l : List (Int32 × Int32)) (i : Nat) (v : Value), xX (fz0 τ) h v l → i ≤ tn x → i + l.length < 1000 → (zX z)[tn x]? = l[tn x - i]? → G 22 [some (.ref 2), some (.int x), some (.int y), some v, some (.int (nI i))] [] h 0 0 := by
    intro h0 h2 l
    have hcmp : ∀ i, i < 2 ^ 31 → (x ≤ nI i ↔ tn x ≤ i) := by
      intro i hi
      rw [jleI, nI_toInt hi]
      unfold tn
      omega
    induction l with
    | nil =>
      intro i v hX hi hl he
      rw [List.getElem?_nil] at he
      have hv : v = .null := hX
      refine hG [22, 43] 300 _ _ _ _ _ _ ?_
      conv => whnf
      refine ⟨fun c => fin v [] _ h0 h2 hX (by rw [he]; rfl), fun c => ?_⟩
      subst hv
      conv => whnf
      exact fin .null [] _ h0 h2 rfl (by rw [he]; rfl)
    | cons q l ih =>
      intro i v hX hi hl he
      obtain ⟨b, w, rfl, hb, hc, hw⟩ := id hX
      refine hG [22, 43] 300 _ _ _ _ _ _ ?_
      conv => whnf
      refine ⟨fun c => ?_, fun c => ?_⟩
      · rw [hcmp i (by omega)] at c
        refine fin (.ref b) (q :: l) _ h0 h2 hX ?_
        rw [he, show tn x - i = 0 by omega]
      · rw [hcmp i (by omega)] at c
        conv => whnf
        refine ⟨_, hc, ?_⟩
        conv => whnf
        rw [List.length_cons] at hl
        have hwc := xX_ref hw
        have i1 : G 22 [some (.ref 2), some (.int x), some (.int y), some w, some (.int (nI (i + 1)))] [] h 0 0 := by
          refine ih (i + 1) w hw (by omega) (by omega) ?_
          rw [he, show tn x - i = (tn x - (i + 1)) + 1 by omega, List.getElem?_cons_succ]
        rcases hwc with rfl | ⟨b2, rfl⟩
        · conv => whnf
          rw [nI_add]
          exact i1
        · conv => whnf
          rw [nI_add]
          exact i1
  have hno : ¬ (0 ≤ x.toInt ∧ 0 ≤ y.toInt ∧ y.toInt ≤ 1) → Φ (some (.int (-1))) h := by
    intro hn
    rw [zwhy, if_neg hn] at hΦ
    rw [← hΦ]
    exact xsame E _
  refine hG [22] 300 _ _ _ _ _ _ ?_
  conv => whnf
  refine ⟨fun c => ?_, fun c => ?_⟩ <;> rw [jlt, j0] at c
  · conv => whnf
    exact hno (by omega)
  conv => whnf
  refine jcall (c_wi y 2 (by decide) h) ?_
  rintro r' h' ⟨rfl, he⟩
  obtain rfl := he.symm
  clear he
  conv => whnf
  refine ⟨fun c2 => ?_, fun c2 => ?_⟩ <;> rw [jbi_0] at c2
  case refine_2 =>
    conv => whnf
    exact hno (by omega)
  have c2 := Decidable.not_not.mp c2
  conv => whnf
  refine ⟨_, e1, ?_⟩
  conv => whnf
  have hlx := hz.2.2.2.2.2.2.1
  have l0 := loop (by omega) c2 (zX z) 0 t e8 (Nat.zero_le _) (by omega) (by rw [Nat.sub_zero])
  rcases xX_ref e8 with rfl | ⟨b2, rfl⟩
  · conv => whnf
    exact l0
  · conv => whnf
    exact l0
theorem c_X10_howMany {fz : Nat → Prop} {h : List jC} {v : Value} {l : List (Int32 × Int32)} (H : xX fz h v l) (hl : l.length < 1000) : jCt jy_X10_howMany [v] h (fun r h' => r = some (.int (nI l.length)) ∧ h' = h) := by
  generalize hΦ : (fun (r : Option Value) (h' : List jC) => r = some (.int (nI l.length)) ∧ h' = h) = Φ
  have fin : Φ (some (.int (nI l.length))) h := by rw [← hΦ]; exact ⟨rfl, rfl⟩
  have loop : ∀ G : jKt, (∀ (C : List Nat) (n pc : Nat) lv st h a b, jw (jp_X10_howMany Φ) G C n pc lv st h a b → G pc lv st h a b) → ∀ (l2 : List (Int32 × Int32)) (i : Nat) (v0 v2 : Value), (v0 = .null ∨ ∃ b, v0 = .ref b) → xX fz h v2 l2 → i + l2.length = l.length → G 4 [some v0, some (.int (nI i)), some v2] [] h 0 0 := by
    intro G hG l2
    induction l2 with
    | nil =>
      intro i v0 v2 h0 hX he
      have hv : v2 = .null := hX
      subst hv
      rw [List.length_nil, Nat.add_zero] at he
      rw [← he] at fin
      refine hG [4] 300 _ _ _ _ _ _ ?_
      conv => whnf
      exact fin
    | cons q l2 ih =>
      intro i v0 v2 h0 hX he
      obtain ⟨b, w, rfl, hb, hc, hw⟩ := id hX
      rw [List.length_cons] at he
      have i1 := ih (i + 1) v0 w h0 hw (by omega)
      have hw2 := xX_ref hw
      rcases h0 with rfl | ⟨b0, rfl⟩
      · refine hG [4] 300 _ _ _ _ _ _ ?_
        conv => whnf
        refine ⟨_, hc, ?_⟩
        conv => whnf
        rw [← nI_add] at i1
        rcases hw2 with rfl | ⟨b2, rfl⟩
        · conv => whnf
          exact i1
        · conv => whnf
          exact i1
      · refine hG [4] 300 _ _ _ _ _ _ ?_
        conv => whnf
        refine ⟨_, hc, ?_⟩
        conv => whnf
        rw [← nI_add] at i1
        rcases hw2 with rfl | ⟨b2, rfl⟩
        · conv => whnf
          exact i1
        · conv => whnf
          exact i1
  rcases xX_ref H with rfl | ⟨b2, rfl⟩
  · refine jrun2 (js_X10_howMany _) rfl rfl rfl (fun G hG hW hB => ?_)
    have l0 := loop G hG l 0 .null _ (Or.inl rfl) H (by omega)
    refine hG [4] 300 _ _ _ _ _ _ ?_
    conv => whnf
    exact l0
  · refine jrun2 (js_X10_howMany _) rfl rfl rfl (fun G hG hW hB => ?_)
    have l0 := loop G hG l 0 (.ref b2) _ (Or.inr ⟨b2, rfl⟩) H (by omega)
    refine hG [4] 300 _ _ _ _ _ _ ?_
    conv => whnf
    exact l0
theorem c_X11_held {τ : jTg} {h : List jC} {ρ ω κ π : Nat} {n : Int32} {t k : Value} {z : zS} (H : EncA τ h ρ ω κ π n t k z) : jCt jy_X11_howManyHeld [.ref 2] h (fun r h' => r = some (.int (nI (jcnt (fun p => (zK z p).isSome) 12))) ∧ h' = h) := by
  have e1 := H.1
  obtain ⟨-, f, hf, hp⟩ := H.2.2.2.2.1
  refine jrun2 (js_X11_howManyHeld _) rfl rfl rfl (fun G hG hW hB => ?_)
  have loop : ∀ u e, 12 = e + u → G 4 [some (.ref 2), some (.int (nI (jcnt (fun p => (zK z p).isSome) e))), some (.int (nI e))] [] h 0 0 := by
    intro u
    induction u with
    | zero =>
      intro e he
      refine hG [4] 300 _ _ _ _ _ _ ?_
      conv => whnf
      refine ⟨_, e1, ?_⟩
      conv => whnf
      refine ⟨_, _, _, hf, ?_⟩
      conv => whnf
      refine ⟨fun qb => ?_, fun qb => ?_⟩ <;> rw [nI_leI (by omega) (by omega)] at qb
      · conv => whnf
        rw [show e = 12 by omega]
        exact ⟨rfl, rfl⟩
      · omega
    | succ u ih =>
      intro e he
      have i1 := ih (e + 1) (by omega)
      rw [jcnt] at i1
      have hx := hp e (by omega)
      refine hG [4] 300 _ _ _ _ _ _ ?_
      conv => whnf
      refine ⟨_, e1, ?_⟩
      conv => whnf
      refine ⟨_, _, _, hf, ?_⟩
      conv => whnf
      refine ⟨fun qb => ?_, fun qb => ?_⟩ <;> rw [nI_leI (by omega) (by omega)] at qb
      · omega
      conv => whnf
      refine ⟨_, e1, ?_⟩
      conv => whnf
      refine ⟨_, _, _, _, _, hf, rfl, (show e < 12 by omega), rfl, ?_⟩
      conv => whnf
      match hK : zK z e, hx with
      | none, hx =>
        rw [hK] at i1
        rw [show f e = none from hx]
        conv => whnf
        rw [nI_add, nI_add]
        exact i1
      | some (.inl q), hx =>
        rw [hK] at i1
        obtain ⟨k2, hk2, -⟩ := hx
        rw [hk2]
        conv => whnf
        rw [nI_add, nI_add]
        exact i1
      | some (.inr q), hx =>
        rw [hK] at i1
        obtain ⟨k2, hk2, -⟩ := hx
        rw [hk2]
        conv => whnf
        rw [nI_add, nI_add]
        exact i1
  refine hG [4] 300 _ _ _ _ _ _ ?_
  conv => whnf
  exact loop 12 0 (by omega)
theorem c_X11_rowsHeld {τ : jTg} {h : List jC} {ρ ω κ π : Nat} {n : Int32} {t k : Value} {z : zS} (H : EncA τ h ρ ω κ π n t k z) : jCt jy_X11_howManyRowsHeld [.ref 2] h (fun r h' => r = some (.int (nI (jcnt (fun r => (zW z r).isSome) 3))) ∧ h' = h) := by
  have e1 := H.1
  obtain ⟨-, f, hf, hp⟩ := H.2.2.2.2.2.1
  refine jrun2 (js_X11_howManyRowsHeld _) rfl rfl rfl (fun G hG hW hB => ?_)
  have loop : ∀ u e, 3 = e + u → G 4 [some (.ref 2), some (.int (nI (jcnt (fun p => (zW z p).isSome) e))), some (.int (nI e))] [] h 0 0 := by
    intro u
    induction u with
    | zero =>
      intro e he
      refine hG [4] 300 _ _ _ _ _ _ ?_
      conv => whnf
      refine ⟨_, e1, ?_⟩
      conv => whnf
      refine ⟨_, _, _, hf, ?_⟩
      conv => whnf
      refine ⟨fun qb => ?_, fun qb => ?_⟩ <;> rw [nI_leI (by omega) (by omega)] at qb
      · conv => whnf
        rw [show e = 3 by omega]
        exact ⟨rfl, rfl⟩
      · omega
    | succ u ih =>
      intro e he
      have i1 := ih (e + 1) (by omega)
      rw [jcnt] at i1
      have hx := hp e (by omega)
      refine hG [4] 300 _ _ _ _ _ _ ?_
      conv => whnf
      refine ⟨_, e1, ?_⟩
      conv => whnf
      refine ⟨_, _, _, hf, ?_⟩
      conv => whnf
      refine ⟨fun qb => ?_, fun qb => ?_⟩ <;> rw [nI_leI (by omega) (by omega)] at qb
      · omega
      conv => whnf
      refine ⟨_, e1, ?_⟩
      conv => whnf
      refine ⟨_, _, _, _, _, hf, rfl, (show e < 3 by omega), rfl, ?_⟩
      conv => whnf
      match hK : zW z e, hx with
      | none, hx =>
        rw [hK] at i1
        rw [show f e = none from hx]
        conv => whnf
        rw [nI_add, nI_add]
        exact i1
      | some q, hx =>
        rw [hK] at i1
        obtain ⟨k2, a2, g2, hk2, -⟩ := hx
        rw [hk2]
        conv => whnf
        rw [nI_add, nI_add]
        exact i1
  refine hG [4] 300 _ _ _ _ _ _ ?_
  conv => whnf
  exact loop 3 0 (by omega)
theorem q_count {τ : jTg} {h : List jC} {z : zS} (E : EncX τ h z) (hz : zWF z) (x : Int32) : jCt jy_X11_count [.ref 2, .int x] h (xPost h (zcount z x) z) := by
  obtain ⟨ρ, ω, κ, π, n, t, k, H⟩ := id E
  obtain ⟨e1, e2, e3, e4, e5, e6, e7, e8, e9, e10, e11⟩ := id H
  obtain ⟨t11, mc, β, h11, hL⟩ := id e9
  have hlx := hz.2.2.2.2.2.2.1
  have hc10 := c_X10_howMany e8 (by omega)
  obtain ⟨hw0, lo, en, lf, ef, cv, -, -, hoo, -⟩ := id e3
  generalize hΦ : xPost h _ _ = Φ
  refine jrun2 (js_X11_count _) rfl rfl rfl (fun G hG hW hB => ?_)
  refine hG [] 300 _ _ _ _ _ _ ?_
  conv => whnf
  refine ⟨fun c => ?_, fun c => ?_, fun c => ?_, fun c => ?_, fun c => ?_, fun c => ?_, fun c => ?_⟩
  · rw [zcount, if_pos c] at hΦ
    conv => whnf
    refine ⟨_, e1, ?_⟩
    conv => whnf
    refine ⟨⟨_, h11⟩, jcall (c_AL_size h11) ?_⟩
    rintro r' h' ⟨rfl, he⟩
    obtain rfl := he.symm
    clear he
    conv => whnf
    rw [← hΦ]
    exact xsame E _
  · rw [zcount, if_neg (by rw [c]; decide), if_pos c] at hΦ
    conv => whnf
    refine ⟨_, e1, ?_⟩
    conv => whnf
    rw [e7.2.1, ← hΦ]
    exact xsame E _
  · rw [zcount, if_neg (by rw [c]; decide), if_neg (by rw [c]; decide), if_pos c] at hΦ
    rcases xX_ref e8 with rfl | ⟨b2, rfl⟩
    · conv => whnf
      refine ⟨_, e1, ?_⟩
      conv => whnf
      refine jcall (hc10) ?_
      rintro r' h' ⟨rfl, he⟩
      obtain rfl := he.symm
      clear he
      conv => whnf
      rw [← hΦ]
      exact xsame E _
    · conv => whnf
      refine ⟨_, e1, ?_⟩
      conv => whnf
      refine jcall (hc10) ?_
      rintro r' h' ⟨rfl, he⟩
      obtain rfl := he.symm
      clear he
      conv => whnf
      rw [← hΦ]
      exact xsame E _
  · rw [zcount, if_neg (by rw [c]; decide), if_neg (by rw [c]; decide), if_neg (by rw [c]; decide), if_pos c] at hΦ
    conv => whnf
    refine ⟨⟨_, e1⟩, jcall (c_X11_held H) ?_⟩
    rintro r' h' ⟨rfl, he⟩
    obtain rfl := he.symm
    clear he
    conv => whnf
    rw [← hΦ]
    exact xsame E _
  · rw [zcount, if_neg (by rw [c]; decide), if_neg (by rw [c]; decide), if_neg (by rw [c]; decide), if_neg (by rw [c]; decide), if_pos c] at hΦ
    conv => whnf
    refine ⟨_, e1, ?_⟩
    conv => whnf
    refine ⟨_, hoo, ?_⟩
    conv => whnf
    rw [← hΦ]
    exact xsame E _
  · rw [zcount, if_neg (by rw [c]; decide), if_neg (by rw [c]; decide), if_neg (by rw [c]; decide), if_neg (by rw [c]; decide), if_neg (by rw [c]; decide), if_pos c] at hΦ
    conv => whnf
    refine ⟨⟨_, e1⟩, jcall (c_X11_rowsHeld H) ?_⟩
    rintro r' h' ⟨rfl, he⟩
    obtain rfl := he.symm
    clear he
    conv => whnf
    rw [← hΦ]
    exact xsame E _
  · have hno : ∀ m : Nat, m < 6 → ¬ x = nI m := by
      intro m hm e
      rw [e, nI_toInt (by omega)] at c
      omega
    rw [zcount, if_neg (hno 0 (by decide)), if_neg (hno 1 (by decide)), if_neg (hno 2 (by decide)), if_neg (hno 3 (by decide)), if_neg (hno 4 (by decide)), if_neg (hno 5 (by decide))] at hΦ
    conv => whnf
    rw [← hΦ]
    exact xsame E _
theorem isPl_iff (y : Int32) : (0 ≤ y.toInt ∧ y.toInt ≤ 3) ↔ (0 ≤ y.toInt ∧ y.toInt < (4 : Nat)) := by omega
theorem c_X11_holds {τ : jTg} {h : List jC} {ρ ω κ π : Nat} {n : Int32} {t k : Value} {z : zS} (H : EncA τ h ρ ω κ π n t k z) (x y : Int32) : jCt jy_X11_holds [.ref 2, .int x, .int y] h (fun r h' => r = some (zholds z x y) ∧ h' = h) := by
  have e1 := H.1
  obtain ⟨-, f, hf, hp⟩ := H.2.2.2.2.1
  generalize hΦ : (fun (r : Option Value) (h' : List jC) => r = some (zholds z x y) ∧ h' = h) = Φ
  refine jrun2 (js_X11_holds _) rfl rfl rfl (fun G hG hW hB => ?_)
  refine hG [] 300 _ _ _ _ _ _ ?_
  conv => whnf
  refine jcall (c_wi x 3 (by decide) h) ?_
  rintro r' h' ⟨rfl, he⟩
  obtain rfl := he.symm
  clear he
  conv => whnf
  refine ⟨fun c1 => ?_, fun c1 => ?_⟩ <;> rw [jbi_0] at c1
  case refine_2 =>
    rw [zholds, if_neg (by omega)] at hΦ
    conv => whnf
    rw [← hΦ]
    exact ⟨rfl, rfl⟩
  have c1 := Decidable.not_not.mp c1
  rw [zholds, if_pos (by omega)] at hΦ
  conv => whnf
  refine jcall (c_wi y 4 (by decide) h) ?_
  rintro r' h' ⟨rfl, he⟩
  obtain rfl := he.symm
  clear he
  conv => whnf
  refine ⟨fun c2 => ?_, fun c2 => ?_⟩ <;> rw [jbi_0] at c2
  case refine_2 =>
    rw [if_neg (by omega)] at hΦ
    conv => whnf
    rw [← hΦ]
    exact ⟨rfl, rfl⟩
  have c2 := Decidable.not_not.mp c2
  rw [if_pos (by omega)] at hΦ
  have hx := tn_eq c1.1
  have hy := tn_eq c2.1
  have hp12 : 4 * tn x + tn y < 12 := by unfold tn; omega
  have hidx : x * nI 4 + y = nI (4 * tn x + tn y) := by
    have e : nI (tn x) * nI 4 + nI (tn y) = nI (4 * tn x + tn y) := by rw [pk_mul, nI_add, Nat.mul_comm]
    rw [← hx, ← hy] at e
    exact e
  have hit := hp _ hp12
  generalize 4 * tn x + tn y = p at *
  conv => whnf
  refine ⟨_, e1, ?_⟩
  conv => whnf
  refine ⟨_, _, _, _, _, hf, hidx, hp12, rfl, ?_⟩
  conv => whnf
  match hK : zK z p, hit with
  | none, hit =>
    rw [hK] at hΦ
    dsimp only at hΦ
    rw [show f p = none from hit]
    conv => whnf
    rw [← hΦ]
    exact ⟨rfl, rfl⟩
  | some (.inl q), hit =>
    rw [hK] at hΦ
    dsimp only at hΦ
    obtain ⟨k2, hk2, hs⟩ := hit
    obtain ⟨-, ab, gb, -, hbs, -⟩ := hs
    rw [hk2]
    conv => whnf
    refine ⟨7, _, hbs, ?_⟩
    conv => whnf
    refine ⟨fun c => absurd c nI_10, fun _ => ?_⟩
    conv => whnf
    rw [← hΦ]
    exact ⟨rfl, rfl⟩
  | some (.inr q), hit =>
    rw [hK] at hΦ
    dsimp only at hΦ
    obtain ⟨k2, hk2, hs⟩ := hit
    obtain ⟨-, ab, gb, -, hbs, -⟩ := hs
    rw [hk2]
    conv => whnf
    refine ⟨5, _, hbs, ?_⟩
    conv => whnf
    refine ⟨fun _ => ?_, fun c => absurd rfl c⟩
    conv => whnf
    rw [← hΦ]
    exact ⟨rfl, rfl⟩
theorem q_holds {τ : jTg} {h : List jC} {z : zS} (E : EncX τ h z) (x y : Int32) : jCt jy_X11_holds [.ref 2, .int x, .int y] h (xPost h (zholds z x y) z) := by
  obtain ⟨ρ, ω, κ, π, n, t, k, H⟩ := id E
  refine jCt_mono (c_X11_holds H x y) ?_
  rintro r h' ⟨rfl, rfl⟩
  exact xsame E _
