/-! the class: read -/
theorem jCt_0 {Y : jY} {As : List Value} {h : List jC} {Φ : jPost} (H : h[0]? = some jD → jCt Y As h Φ) : jCt Y As h Φ := by
  intro l g p e ha hc hk s m args below hf happ hP ht
  exact H hP.2.1.2.1 l g p e ha hc hk s m args below hf happ hP ht
theorem c_X5_init {h : List jC} {s n : Nat} {f : Nat → Int32} {a b c d e : Value} (hs : h[s]? = some (.inr (4, [a, b, c, d, e]))) (h10 : h[10]? = some (aI 80 f)) (hn : n ≤ 80) : jCt jy_X5_init [.ref s, .ref 10, .int (nI n)] h (fun r h' => r = none ∧ h' = h.set s (oRd n h.length 0 0) ++ [oA (nI 0) 0 0]) := by
  have hs10 : s ≠ 10 := jne hs h10 (fun z => by cases z)
  have hsl := (List.getElem?_eq_some_iff.mp hs).1
  have hset : ∀ (g : List jC) (x : jC), g.length = h.length → (g ++ [x]).set h.length (oA (nI 0) 0 0) = g ++ [oA (nI 0) 0 0] := fun g x hg => by
    rw [← hg]
    exact japS g [x] 0 _
  refine jrun2 (js_X5_init _) rfl rfl rfl (fun G hG hW hB => ?_)
  refine hG [] 300 _ _ _ _ _ _ ?_
  conv => whnf
  refine jcall (c_AL_init (jget_new h _)) ?_
  rintro r h' ⟨rfl, rfl⟩
  rw [hset h _ rfl]
  conv => whnf
  refine ⟨trivial, _, jget_app hs, ?_⟩
  conv => whnf
  rw [jset_app hs]
  have g1 : ∀ x : jC, (h.set s x ++ [oA (nI 0) 0 0])[s]? = some x := fun x => jget_app (jget_set hs)
  have g2 : ∀ x y : jC, (h.set s x ++ [oA (nI 0) 0 0]).set s y = h.set s y ++ [oA (nI 0) 0 0] := fun x y => by
    rw [jset_app (jget_set hs), List.set_set]
  refine ⟨trivial, _, g1 _, ?_⟩
  conv => whnf
  erw [g2]
  refine ⟨trivial, _, g1 _, ?_⟩
  conv => whnf
  erw [g2]
  refine ⟨trivial, _, g1 _, ?_⟩
  conv => whnf
  erw [g2]
  refine ⟨_, _, _, jget_app (jget_ne hs10 h10), ?_⟩
  conv => whnf
  refine jcall (c_J9_min _ _ _) ?_
  rintro r h' ⟨rfl, rfl⟩
  rw [show (if nI 80 < nI n then nI 80 else nI n) = nI n from if_neg (nI_nlt (by omega) (by omega))]
  conv => whnf
  refine ⟨trivial, _, g1 _, ?_⟩
  conv => whnf
  erw [g2]
  exact ⟨rfl, rfl⟩
theorem zread_eq (z : zS) (x : Int32) (c : isReg x) : zread z x = (if (jtx (zP z) 82 0 (nI 1)).2.2 = true ∨ (jtx (zP z) 82 0 (nI 1)).2.1 < (zP z).1 then (.int (-100 - nI (jtx (zP z) 82 0 (nI 1)).2.1), zset (zstP z (0, (zP z).2)) [(nI 2, nI ((jtx (zP z) 82 0 (nI 1)).1.length - 1)), (nI 1, nI (jtx (zP z) 82 0 (nI 1)).2.1)])
    else zadd (zstP z (0, (zP z).2)) (tn x) ((jtx (zP z) 82 0 (nI 1)).1.headD ((0, false), (0, 0))).2.1 (jrd ((jtx (zP z) 82 0 (nI 1)).1.headD ((0, false), (0, 0))).2.1 (jtx (zP z) 82 0 (nI 1)).1 0 (fun _ => 0))) := by
  rw [zread, if_pos c]
  dsimp only
  split
  · rfl
  · unfold zadd
    rfl
theorem jrd_int (n : Nat) : ∀ (xs : List zTm) (i : Nat) (f : Nat → Int64) (p : Value × List (Int32 × Int32)), (jrd n xs i f).1 = some p → ∃ v, p.1 = .int v
  | [], _, _, _, h => by cases h
  | x :: xs, i, f, p, h => by
    rw [jrd] at h
    split at h
    · cases h
      exact ⟨_, rfl⟩
    · split at h
      · cases h
        exact ⟨_, rfl⟩
      · exact jrd_int n xs _ _ _ h
theorem zadd_int {z : zS} {r n : Nat} {w : Option (Value × List (Int32 × Int32)) × (Nat → Int64)} (hw : ∀ p, w.1 = some p → ∃ v, p.1 = .int v) : ∃ v, (zadd z r n w).1 = .int v := by
  unfold zadd
  cases h : w.1 with
  | none => exact ⟨_, rfl⟩
  | some p => exact hw p h
theorem rFr_split {h h' : List jC} (H : rFr h.length h h') : h' = h ++ h'.drop h.length := by
  apply List.ext_getElem?
  intro k
  by_cases hk : k < h.length
  · rw [List.getElem?_append_left hk]
    exact H.2 k hk
  · rw [List.getElem?_append_right (by omega), List.getElem?_drop]
    congr 1
    omega
theorem q_read {τ : jTg} {h : List jC} {z : zS} (E : EncX τ h z) (hz : zWF z) (x : Int32) : jCt jy_X11_read [.ref 2, .int x] h (xPost h (zread z x).1 (zread z x).2) := by
  refine jCt_0 (fun h0 => ?_)
  obtain ⟨ρ, ω, κ, π, m0, t, k0, H⟩ := id E
  obtain ⟨e1, e2, e3, e4, e5, e6, e7, e8, e9, e10, e11⟩ := id H
  have B := E.B
  by_cases c : ¬ isReg x
  · rw [zread, if_neg c]
    refine jrun2 (js_X11_read _) rfl rfl rfl (fun G hG hW hB => ?_)
    refine hG [] 300 _ _ _ _ _ _ ?_
    conv => whnf
    refine jcall (c_wi x 4 (by decide) h) ?_
    rintro r' h' ⟨rfl, he⟩
    obtain rfl := he.symm
    clear he
    conv => whnf
    refine ⟨fun c1 => absurd ((isReg_iff x).mpr (Decidable.not_not.mp (fun w => c1 (jbi_0.mpr w)))) c, fun _ => ?_⟩
    conv => whnf
    exact xsame E _
  have c := Decidable.not_not.mp c
  obtain ⟨hx, hx4⟩ := isReg_nI c
  obtain ⟨t10, hn, f, hf, hg⟩ := id e7
  have ht80 := hz.2.2.2.2.2.1.1
  have htl := hz.2.2.2.2.2.1.2
  obtain ⟨ok1, ok2, ok3⟩ := jtx_ok ht80 82 0 (nI 1) (Nat.zero_le _)
  have ok4 := jtx_pos (zP z) 81 0 (nI 1)
  have hz1 : zWF (zstP z (0, (zP z).2)) := ⟨hz.1, hz.2.1, hz.2.2.1, hz.2.2.2.1, hz.2.2.2.2.1, ⟨Nat.zero_le _, hz.2.2.2.2.2.1.2⟩, hz.2.2.2.2.2.2⟩
  rw [zread_eq z x c]
  have hE1 : EncA τ (h.set 2 (mx ρ ω κ π (nI 0) t k0)) ρ ω κ π (nI 0) t k0 (zstP z (0, (zP z).2)) := EncA.mk2 e1 e2 e3 e4 e5 e6 ⟨t10, rfl, f, hf, fun j hj => absurd hj (Nat.not_lt_zero j)⟩ e8 e9 e10 e11
  obtain ⟨h1, hh1⟩ : ∃ h1, h1 = h.set 2 (mx ρ ω κ π (nI 0) t k0) := ⟨_, rfl⟩
  have h1l : h1.length = h.length := by rw [hh1]; exact List.length_set
  have h10 : h1[0]? = some jD := by rw [hh1]; exact jget_ne (by decide) h0
  have h1t : h1[10]? = some (aI 80 f) := by rw [hh1]; exact jget_ne (by decide) hf
  have hset : ∀ ap, (h ++ ap).set 2 (mx ρ ω κ π (nI 0) t k0) = h1 ++ ap := fun ap => by
    rw [hh1]
    exact List.set_append_left _ _ (by have := B.1; omega)
  rw [← hh1] at hE1
  have h53 := B.1
  have hS : rSt h1.length (h1 ++ [oRd (zP z).1 (h1.length + 1) 0 0, oA (nI 0) 0 0]) h1.length (zP z) (h1.length + 1) 0 0 [] := ⟨by omega, Nat.le_refl _, by omega, japI h1 _ 0, ⟨ht80, htl, f, jget_apl h1t, hg⟩, nI 0, 0, japI h1 _ 1, Or.inl ⟨rfl, jget_apl h10, rfl⟩⟩
  have hrt := c_X5_readText hS
  have hw2 : ∀ k, 20 ≤ k → k < 53 → h1[k]? = h[k]? := fun k k1 k2 => by
    rw [hh1]
    exact List.getElem?_set_ne (by omega)
  have fin : ∀ (z2 : zS) (res : Value) ap r' h', EncX τ (h1 ++ ap) (zstP z (0, (zP z).2)) → yPost τ (h1 ++ ap) (some res) z2 r' h' → xPost h res z2 r' h' := by
    intro z2 res ap r' h' hE2 hy
    obtain ⟨p1, τ', E', K⟩ := hy
    refine ⟨p1, ⟨τ', E'⟩, fun k k1 k2 => ?_⟩
    rw [K.nine hE2.B k1 k2, ← hw2 k k1 k2]
    exact List.getElem?_append_left (by omega)
  generalize hz1d : zstP z (0, (zP z).2) = z1 at *
  generalize jtx (zP z) 82 0 (nI 1) = w at *
  obtain ⟨ts, q⟩ := w
  dsimp only at *
  have hEap : ∀ ap, EncX τ (h1 ++ ap) z1 := fun ap => ⟨ρ, ω, κ, π, _, t, k0, hE1.app ap⟩
  generalize hΦ : xPost h _ _ = Φ
  have s0 : ∀ (x y w : jC), (h ++ [x]).set h.length w ++ [y] = h ++ [w, y] := fun x y w => jnew2 h x w y
  refine jrun2 (js_X11_read _) rfl rfl rfl (fun G hG hW hB => ?_)
  refine hG [] 300 _ _ _ _ _ _ ?_
  conv => whnf
  refine jcall (c_wi x 4 (by decide) h) ?_
  rintro r' h' ⟨rfl, he⟩
  obtain rfl := he.symm
  clear he
  conv => whnf
  refine ⟨fun _ => ?_, fun c1 => absurd ((isReg_iff x).mp c) (jbi_0.mp c1)⟩
  conv => whnf
  refine ⟨_, jget_app e1, ?_⟩
  conv => whnf
  refine ⟨_, jget_app e1, ?_⟩
  conv => whnf
  rw [hn]
  refine jcall (c_X5_init (jget_new h _) (jget_app hf) ht80) ?_
  rintro r' h' ⟨rfl, rfl⟩
  rw [s0, jlen1]
  conv => whnf
  refine ⟨trivial, _, jget_apl e1, ?_⟩
  conv => whnf
  erw [hset]
  rw [← h1l]
  have hR1 : (h1 ++ [oRd (zP z).1 (h1.length + 1) 0 0, oA (nI 0) 0 0])[h1.length]? = some (oRd (zP z).1 (h1.length + 1) 0 0) := japI h1 _ 0
  refine ⟨⟨_, hR1⟩, jcall hrt ?_⟩
  rintro r' h' ⟨rfl, k1, k2, k3⟩
  have hfr : rFr h1.length h1 h' := (rFr_app h1 _ (Nat.le_refl _)).trans k1
  have hsp := rFr_split hfr
  obtain ⟨ap, hap⟩ : ∃ ap, ap = h'.drop h1.length := ⟨_, rfl⟩
  rw [← hap] at hsp
  subst hsp
  have e1' : (h1 ++ ap)[2]? = some (mx ρ ω κ π (nI 0) t k0) := jget_apl (by rw [hh1]; exact jget_set e1)
  by_cases cf : q.2 = true ∨ q.1 < (zP z).1
  · rw [if_pos cf] at hΦ
    rw [jbi_f (fun w => w cf)]
    have hrf := c_X11_refuseTerm (hEap ap) (nI (ts.length - 1)) (nI 1) (nI q.1) (-100 - nI q.1)
    conv => whnf
    refine ⟨fun w => absurd rfl w, fun _ => ?_⟩
    conv => whnf
    refine ⟨_, k2, ?_⟩
    conv => whnf
    refine ⟨_, k2, ?_⟩
    conv => whnf
    refine ⟨_, k2, ?_⟩
    conv => whnf
    refine ⟨⟨_, e1'⟩, jcall hrf ?_⟩
    intro r' h' hy
    have hy2 := fin _ _ ap r' h' (hEap ap) hy
    obtain ⟨rfl, -, -⟩ := id hy2
    conv => whnf
    rw [← hΦ]
    exact hy2
  · rw [if_neg cf] at hΦ
    rw [jbi_t cf]
    have hat := c_X11_addTerms (hEap ap) hz1 hx4 (k3 cf) ok4 (by omega) ok3 rfl
    rw [← hx] at hat
    conv => whnf
    refine ⟨fun _ => ?_, fun w => absurd w nI_10⟩
    conv => whnf
    refine ⟨_, k2, ?_⟩
    conv => whnf
    refine ⟨⟨_, e1'⟩, jcall hat ?_⟩
    intro r' h' hy
    have hy2 := fin _ _ ap r' h' (hEap ap) hy
    obtain ⟨rfl, -, -⟩ := id hy2
    have hi : ∃ v, (zadd z1 (tn x) (ts.headD ((0, false), (0, 0))).2.1 (jrd (ts.headD ((0, false), (0, 0))).2.1 ts 0 (fun _ => 0))).1 = .int v := zadd_int (jrd_int _ _ _ _)
    obtain ⟨v, hv⟩ := hi
    rw [hv] at hy2 hΦ ⊢
    conv => whnf
    rw [← hΦ]
    exact hy2
