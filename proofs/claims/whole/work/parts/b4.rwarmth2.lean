theorem jallF_ext {f g : Nat → UInt32} : ∀ n, (∀ c, c < n → f c = g c) → jallF f n = jallF g n
  | 0, _ => rfl
  | n + 1, h => by
    show FP.fadd (jallF f n) _ = FP.fadd (jallF g n) _
    rw [jallF_ext n (fun c hc => h c (by omega)), h n (by omega)]
theorem jallD_ext {f g : Nat → UInt32} : ∀ n, (∀ c, c < n → f c = g c) → jallD f n = jallD g n
  | 0, _ => rfl
  | n + 1, h => by
    show FP.dadd (jallD f n) _ = FP.dadd (jallD g n) _
    rw [jallD_ext n (fun c hc => h c (by omega)), h n (by omega)]
theorem r_warmth {h : List jC} (hh : 53 ≤ h.length) {s : Nat → Int32} {I : jIs} {L : jLss} {F : jFs} {z : zS} (hE : EncR s I L F z) (hf : zFF z) (x : Int32) : jCt jy_X12_warmth [.ref 20, .int x] (jR h s I L F) (zPost h (zwarmth z x) z) := by
  have cell : ∀ k, k < 6 → F 13 k = zC z k := hE.2.2.2.2.1
  have hF : ∀ k, k < 6 → fok 194 (F 13 k) := fun k hk => by rw [cell k hk]; exact hf.1 k hk
  have ef := jallF_ext 6 cell
  have ed := jallD_ext 6 cell
  refine jrun2 (js_X12_warmth _) rfl rfl rfl (fun G hG hW hB => ?_)
  refine hG [20] 300 _ _ _ _ _ _ ?_
  conv => whnf
  refine jcall (c_X12_in x (nI 0) (nI 1) _) ?_
  rintro r h' ⟨rfl, rfl⟩
  conv => whnf
  have n0 : (nI 0).toInt = 0 := by decide
  have n1 : (nI 1).toInt = 1 := by decide
  refine ⟨fun c => ?_, fun c => ?_⟩ <;> rw [jbi_0] at c
  case refine_2 =>
    conv => whnf
    refine ⟨?_, s, I, L, F, rfl, hE⟩
    rw [zwarmth, if_neg (by omega), if_neg (by omega)]
  have c := Decidable.not_not.mp c
  have loop : ∀ f e, e + f = 6 → G 20 [some (.ref 20), some (.int x), some (.float (jallF (F 13) e)), some (.double (jallD (F 13) e)), none, some (.int (nI e))] [] (jR h s I L F) 0 0 := by
    intro f
    induction f with
    | zero =>
      intro e he
      obtain rfl : e = 6 := by omega
      refine hG [] 300 _ _ _ _ _ _ ?_
      conv => whnf
      refine ⟨fun qb => ?_, fun qb => ?_⟩ <;> rw [nI_leI (by omega) (by omega)] at qb
      case refine_2 => omega
      conv => whnf
      refine ⟨fun c2 => ?_, fun c2 => ?_⟩
      · have hx : x.toInt = 1 := by
          have : x.toInt ≠ 0 := fun q => c2 ((jeq _ _).mpr (by rw [n0]; exact q))
          omega
        conv => whnf
        refine jcall (c_J_d2l (allD_fin hF (Nat.le_refl 6)) _) ?_
        rintro r h' ⟨rfl, rfl⟩
        conv => whnf
        refine ⟨?_, s, I, L, F, rfl, hE⟩
        rw [zwarmth, if_neg (by omega), if_pos hx, ed]
      · have hx : x.toInt = 0 := by
          have := (jeq _ _).mp c2
          omega
        conv => whnf
        refine jcall (c_J_f2i _ _) ?_
        rintro r h' ⟨rfl, rfl⟩
        conv => whnf
        refine ⟨?_, s, I, L, F, rfl, hE⟩
        rw [zwarmth, if_pos hx, f2i_fin (allF_fin hF (Nat.le_refl 6)), ef]
    | succ f ih =>
      intro e he
      have ff := fmg_fin (hF e (by omega)).1 (by decide)
      have dd := f2d_mg ff
      refine hG [20] 300 _ _ _ _ _ _ ?_
      conv => whnf
      refine ⟨fun qb => ?_, fun qb => ?_⟩ <;> rw [nI_leI (by omega) (by omega)] at qb
      · omega
      conv => whnf
      refine ⟨_, m_0 hh, ?_⟩
      conv => whnf
      refine ⟨_, _, _, m_13 hh, rfl, (show e < 6 by omega), ?_⟩
      conv => whnf
      refine ⟨vf_fadd (allF_fin hF (by omega)) ff, ?_⟩
      conv => whnf
      refine ⟨_, m_0 hh, ?_⟩
      conv => whnf
      refine ⟨_, _, _, m_13 hh, rfl, (show e < 6 by omega), ?_⟩
      conv => whnf
      refine ⟨dd.2, ?_⟩
      conv => whnf
      refine ⟨vd_dadd (allD_fin hF (by omega)) (dfin_of (by have := dd.1; omega)), ?_⟩
      conv => whnf
      rw [nI_add]
      exact ih (e + 1) (by omega)
  conv => whnf
  exact loop 6 0 rfl
