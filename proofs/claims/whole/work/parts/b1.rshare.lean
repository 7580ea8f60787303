/-! the reference: shareOf, share, warm, warmth -/
theorem f2i_fin {x : UInt32} (h : FP.Core.FFin x) : jf2i x = x.toInt32 := by
  unfold jf2i
  rw [if_pos ((cmp_eq h h .l).mpr rfl)]
theorem jtotF_ext {f g : Nat → Int64} : ∀ n, (∀ c, c < n → f c = g c) → jtotF f n = jtotF g n
  | 0, _ => rfl
  | n + 1, h => by
    show FP.fadd (jtotF f n) _ = FP.fadd (jtotF g n) _
    rw [jtotF_ext n (fun c hc => h c (by omega)), h n (by omega)]
theorem jshrF_ext {f g : Nat → Int64} {n i : Nat} (h : ∀ c, c < n → f c = g c) (hi : i < n) : jshrF n f i = jshrF n g i := by
  unfold jshrF
  rw [jtotF_ext n h, h i hi]
theorem c_X12_shareOf {h : List jC} (hh : 53 ≤ h.length) (s : Nat → Int32) (I : jIs) (L : jLss) (F : jFs) {r w i : Nat} (hr : r < 4) (hw : w ≤ 6) (hI : I 3 r = nI w) (hi : i < jmany w) : jCt jy_X12_shareOf [.ref 20, .int (nI r), .int (nI i)] (jR h s I L F) (fun r' h' => r' = some (.float (jshrF (jmany w) (fun c => L 4 (32 * r + c)) i)) ∧ h' = jR h s I L F) := by
  have hm := jmany_le hw
  generalize hg : (fun c => L 4 (32 * r + c)) = g
  have hL : ∀ c, L 4 (32 * r + c) = g c := fun c => by rw [← hg]
  refine jrun2 (js2_X12_shareOf _) rfl rfl rfl (fun G hG hW hB => ?_)
  have loop : ∀ f e, e + f = jmany w → G 5 [some (.ref 20), some (.int (nI r)), some (.int (nI i)), some (.float (jtotF g e)), some (.int (nI e))] [] (jR h s I L F) 0 0 := by
    intro f
    induction f with
    | zero =>
      intro e he
      have e0 : e = jmany w := by omega
      refine hG [] 300 _ _ _ _ _ _ ?_
      conv => whnf
      refine ⟨_, m_0 hh, ?_⟩
      conv => whnf
      refine ⟨_, _, _, m_3 hh, rfl, hr, ?_⟩
      conv => whnf
      rw [hI]
      refine jcall (c_X12_many w hw _) ?_
      rintro r h' ⟨rfl, rfl⟩
      conv => whnf
      refine ⟨fun qb => ?_, fun qb => ?_⟩ <;> rw [nI_leI (by omega) (by omega)] at qb
      case refine_2 => omega
      rw [e0]
      obtain ⟨t1, t2, -⟩ := tot_ok g (jmany w) (by omega)
      obtain ⟨k1, k2⟩ := shr_ok g (n := jmany w) (by omega) hi
      conv => whnf
      refine ⟨fun c => ?_, fun c => ?_⟩
      · conv => whnf
        refine ⟨_, m_0 hh, ?_⟩
        conv => whnf
        refine ⟨_, _, _, m_4 hh, (by rw [pk_mul, nI_add]), (show 32 * r + i < 128 by omega), ?_⟩
        conv => whnf
        rw [hL]
        refine ⟨k2 c, ?_⟩
        conv => whnf
        refine ⟨?_, rfl⟩
        unfold jshrF
        rw [if_neg c]
      · conv => whnf
        refine ⟨?_, rfl⟩
        unfold jshrF
        rw [if_pos c]
    | succ f ih =>
      intro e he
      refine hG [5] 300 _ _ _ _ _ _ ?_
      conv => whnf
      refine ⟨_, m_0 hh, ?_⟩
      conv => whnf
      refine ⟨_, _, _, m_3 hh, rfl, hr, ?_⟩
      conv => whnf
      rw [hI]
      refine jcall (c_X12_many w hw _) ?_
      rintro r h' ⟨rfl, rfl⟩
      conv => whnf
      refine ⟨fun qb => ?_, fun qb => ?_⟩ <;> rw [nI_leI (by omega) (by omega)] at qb
      · omega
      conv => whnf
      refine ⟨_, m_0 hh, ?_⟩
      conv => whnf
      refine ⟨_, _, _, m_4 hh, (by rw [pk_mul, nI_add]), (show 32 * r + e < 128 by omega), ?_⟩
      conv => whnf
      rw [hL]
      have lf : FP.Core.FFin (FP.l2f (g e)) := FP.Core.l2f_fin _
      refine ⟨Nat.le_refl _, Nat.le_refl _, Nat.le_of_ble_eq_true rfl, vf_of _ lf.notNaN, ?_⟩
      conv => whnf
      obtain ⟨t1, t2, -⟩ := tot_ok g e (by omega)
      refine ⟨vf_fadd t1 (ffin_of (by rw [fab_mg]; exact ffin_lt lf)), ?_⟩
      conv => whnf
      rw [nI_add]
      exact ih (e + 1) (by omega)
  refine hG [5] 300 _ _ _ _ _ _ ?_
  conv => whnf
  exact loop (jmany w) 0 (by omega)
def zshare (z : zS) (x c : Int32) : Value := if isNum z x c then .int (jshrF (jmany (zR z (tn x)).1) (zR z (tn x)).2 (tn c)).toInt32 else .int (-1)
theorem r_share {h : List jC} (hh : 53 ≤ h.length) {s : Nat → Int32} {I : jIs} {L : jLss} {F : jFs} {z : zS} (hE : EncR s I L F z) (hz : zWF z) (x y : Int32) : jCt jy_X12_share [.ref 20, .int x, .int y] (jR h s I L F) (zPost h (zshare z x y) z) := by
  have hbad : ¬ isNum z x y → zPost h (zshare z x y) z (some (.int (-1))) (jR h s I L F) := by
    intro hn
    rw [zshare, if_neg hn]
    exact ⟨rfl, s, I, L, F, rfl, hE⟩
  refine jrun2 (js_X12_share _) rfl rfl rfl (fun G hG hW hB => ?_)
  refine hG [] 300 _ _ _ _ _ _ ?_
  conv => whnf
  refine jcall (c_X12_isRegister x _) ?_
  rintro r h' ⟨rfl, rfl⟩
  conv => whnf
  refine ⟨fun c => ?_, fun c => ?_⟩ <;> rw [jbi_0] at c
  · conv => whnf
    exact hbad (fun q => c q.1)
  have c := Decidable.not_not.mp c
  obtain ⟨hx, hx4⟩ := isReg_nI c
  have hw := (hE.2.1 (tn x) hx4).1
  have hg := (hE.2.1 (tn x) hx4).2
  have hw6 := (hz.1 (tn x) hx4).1
  have hm := jmany_le hw6
  have hio := c_X12_isOf hh s I L F hx4 hw6 hw y
  rw [← hx] at hio
  conv => whnf
  refine ⟨⟨_, m_0 hh⟩, jcall (hio) ?_⟩
  rintro r h' ⟨rfl, rfl⟩
  conv => whnf
  refine ⟨fun c2 => ?_, fun c2 => ?_⟩ <;> rw [jbi_0] at c2
  · conv => whnf
    exact hbad (fun q => c2 q.2)
  · have c2 := Decidable.not_not.mp c2
    have hy := tn_eq c2.1
    have hyl : tn y < jmany (zR z (tn x)).1 := tn_lt c2.1 c2.2
    have hs := c_X12_shareOf hh s I L F hx4 hw6 hw hyl
    rw [← hx, ← hy] at hs
    conv => whnf
    refine ⟨⟨_, m_0 hh⟩, jcall (hs) ?_⟩
    rintro r h' ⟨rfl, rfl⟩
    conv => whnf
    refine jcall (c_J_f2i _ _) ?_
    rintro r h' ⟨rfl, rfl⟩
    conv => whnf
    refine ⟨?_, s, I, L, F, rfl, hE⟩
    rw [zshare, if_pos ⟨c, c2⟩, jshrF_ext (fun c hc => hg c (by omega)) hyl]
    have := shr_ok (zR z (tn x)).2 (n := jmany (zR z (tn x)).1) (by omega) hyl
    rw [f2i_fin (fmg_fin this.1.1 (by decide))]
