/-! the class: warmth -/
theorem c_X11_allF {τ : jTg} {h : List jC} {ρ ω κ π : Nat} {n : Int32} {t k : Value} {z : zS} (H : EncA τ h ρ ω κ π n t k z) (hf : zFF z) : jCt jy_X11_allInFloats [.ref 2] h (fun r h' => r = some (.float (jallF (zC z) 6)) ∧ h' = h) := by
  have e1 := H.1
  obtain ⟨t3, g, hg, hc⟩ := H.2.2.2.1
  have hF : ∀ k, k < 6 → fok 194 (g k) := fun k hk => by rw [hc k hk]; exact hf.1 k hk
  rw [← jallF_ext 6 hc]
  refine jrun2 (js_X11_allInFloats _) rfl rfl rfl (fun G hG hW hB => ?_)
  have loop : ∀ f e, e + f = 6 → G 4 [some (.ref 2), some (.float (jallF g e)), some (.int (nI e))] [] h 0 0 := by
    intro f
    induction f with
    | zero =>
      intro e he
      obtain rfl : e = 6 := by omega
      refine hG [] 300 _ _ _ _ _ _ ?_
      conv => whnf
      refine ⟨_, e1, ?_⟩
      conv => whnf
      refine ⟨_, _, _, hg, ?_⟩
      conv => whnf
      refine ⟨fun qb => ?_, fun qb => ?_⟩ <;> rw [nI_leI (by omega) (by omega)] at qb
      case refine_2 => omega
      conv => whnf
      exact ⟨rfl, rfl⟩
    | succ f ih =>
      intro e he
      have ff := fmg_fin (hF e (by omega)).1 (by decide)
      refine hG [4] 300 _ _ _ _ _ _ ?_
      conv => whnf
      refine ⟨_, e1, ?_⟩
      conv => whnf
      refine ⟨_, _, _, hg, ?_⟩
      conv => whnf
      refine ⟨fun qb => ?_, fun qb => ?_⟩ <;> rw [nI_leI (by omega) (by omega)] at qb
      · omega
      conv => whnf
      refine ⟨_, e1, ?_⟩
      conv => whnf
      refine ⟨_, _, _, hg, rfl, (show e < 6 by omega), ?_⟩
      conv => whnf
      refine ⟨vf_fadd (allF_fin hF (by omega)) ff, ?_⟩
      conv => whnf
      rw [nI_add]
      exact ih (e + 1) (by omega)
  refine hG [4] 300 _ _ _ _ _ _ ?_
  conv => whnf
  exact loop 6 0 rfl
theorem c_X11_allD {τ : jTg} {h : List jC} {ρ ω κ π : Nat} {n : Int32} {t k : Value} {z : zS} (H : EncA τ h ρ ω κ π n t k z) (hf : zFF z) : jCt jy_X11_allInDoubles [.ref 2] h (fun r h' => r = some (.double (jallD (zC z) 6)) ∧ h' = h) := by
  have e1 := H.1
  obtain ⟨t3, g, hg, hc⟩ := H.2.2.2.1
  have hF : ∀ k, k < 6 → fok 194 (g k) := fun k hk => by rw [hc k hk]; exact hf.1 k hk
  rw [← jallD_ext 6 hc]
  refine jrun2 (js_X11_allInDoubles _) rfl rfl rfl (fun G hG hW hB => ?_)
  have loop : ∀ f e, e + f = 6 → G 4 [some (.ref 2), some (.double (jallD g e)), none, some (.int (nI e))] [] h 0 0 := by
    intro f
    induction f with
    | zero =>
      intro e he
      obtain rfl : e = 6 := by omega
      refine hG [] 300 _ _ _ _ _ _ ?_
      conv => whnf
      refine ⟨_, e1, ?_⟩
      conv => whnf
      refine ⟨_, _, _, hg, ?_⟩
      conv => whnf
      refine ⟨fun qb => ?_, fun qb => ?_⟩ <;> rw [nI_leI (by omega) (by omega)] at qb
      case refine_2 => omega
      conv => whnf
      exact ⟨rfl, rfl⟩
    | succ f ih =>
      intro e he
      have ff := fmg_fin (hF e (by omega)).1 (by decide)
      have dd := f2d_mg ff
      refine hG [4] 300 _ _ _ _ _ _ ?_
      conv => whnf
      refine ⟨_, e1, ?_⟩
      conv => whnf
      refine ⟨_, _, _, hg, ?_⟩
      conv => whnf
      refine ⟨fun qb => ?_, fun qb => ?_⟩ <;> rw [nI_leI (by omega) (by omega)] at qb
      · omega
      conv => whnf
      refine ⟨_, e1, ?_⟩
      conv => whnf
      refine ⟨_, _, _, hg, rfl, (show e < 6 by omega), ?_⟩
      conv => whnf
      refine ⟨dd.2, ?_⟩
      conv => whnf
      refine ⟨vd_dadd (allD_fin hF (by omega)) (dfin_of (by have := dd.1; omega)), ?_⟩
      conv => whnf
      rw [nI_add]
      exact ih (e + 1) (by omega)
  refine hG [4] 300 _ _ _ _ _ _ ?_
  conv => whnf
  exact loop 6 0 rfl
theorem q_warmth {τ : jTg} {h : List jC} {z : zS} (E : EncX τ h z) (hf : zFF z) (x : Int32) : jCt jy_X11_warmth [.ref 2, .int x] h (xPost h (zwarmth z x) z) := by
  obtain ⟨ρ, ω, κ, π, n, t, k, H⟩ := id E
  have e1 := H.1
  have n0 : (nI 0).toInt = 0 := by decide
  have n1 : (nI 1).toInt = 1 := by decide
  have a1 := allF_ok hf.1 6 (Nat.le_refl 6)
  have a2 := allD_ok hf.1 6 (Nat.le_refl 6)
  generalize hΦ : xPost h _ _ = Φ
  refine jrun2 (js_X11_warmth _) rfl rfl rfl (fun G hG hW hB => ?_)
  refine hG [] 300 _ _ _ _ _ _ ?_
  conv => whnf
  refine ⟨fun c => ?_, fun c => ?_⟩
  · have hx : x.toInt ≠ 0 := fun q => c ((jeq _ _).mpr (by rw [n0]; exact q))
    rw [zwarmth, if_neg hx] at hΦ
    conv => whnf
    refine ⟨fun c2 => ?_, fun c2 => ?_⟩
    · have hx1 : x.toInt ≠ 1 := fun q => c2 ((jeq _ _).mpr (by rw [n1]; exact q))
      rw [if_neg hx1] at hΦ
      conv => whnf
      rw [← hΦ]
      exact xsame E _
    · have hx1 : x.toInt = 1 := (jeq _ _).mp c2
      rw [if_pos hx1] at hΦ
      conv => whnf
      refine ⟨⟨_, e1⟩, jcall (c_X11_allD H hf) ?_⟩
      rintro r' h' ⟨rfl, he⟩
      obtain rfl := he.symm
      clear he
      conv => whnf
      refine jcall (c_X11_doubleBits (allD_fin hf.1 (Nat.le_refl 6)) a2.2 h) ?_
      rintro r' h' ⟨rfl, he⟩
      obtain rfl := he.symm
      clear he
      conv => whnf
      rw [← hΦ]
      exact xsame E _
  · have hx : x.toInt = 0 := (jeq _ _).mp c
    rw [zwarmth, if_pos hx] at hΦ
    conv => whnf
    refine ⟨⟨_, e1⟩, jcall (c_X11_allF H hf) ?_⟩
    rintro r' h' ⟨rfl, he⟩
    obtain rfl := he.symm
    clear he
    conv => whnf
    refine jcall (c_X11_floatBits (allF_fin hf.1 (Nat.le_refl 6)) a1.2 h) ?_
    rintro r' h' ⟨rfl, he⟩
    obtain rfl := he.symm
    clear he
    conv => whnf
    rw [← hΦ]
    exact xsame E _
