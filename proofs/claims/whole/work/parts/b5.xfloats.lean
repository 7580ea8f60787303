/-! the class: shareOf, share, warm, warmth -/
theorem l2f_abs1 (v : Int64) : (nI 0 ≤ Op.cmpValue (FP.fcmp (FP.l2f v) FP.fconst0) .g → FP.l2f v = fab (FP.l2f v)) ∧ (¬ nI 0 ≤ Op.cmpValue (FP.fcmp (FP.l2f v) FP.fconst0) .g → FP.fneg (FP.l2f v) = fab (FP.l2f v)) := by
  have lf : FP.Core.FFin (FP.l2f v) := FP.Core.l2f_fin _
  have nz := l2f_nz v
  rw [cmp_ge lf f_zero.2]
  have k := fk_lt0 nz
  refine ⟨fun c => ?_, fun c => ?_⟩
  · have : ¬ 2 ^ 31 ≤ (FP.l2f v).toNat := by rw [← k]; omega
    apply UInt32.toNat_inj.mp
    rw [fab_nat, fmg_fp (by omega)]
  · have : 2 ^ 31 ≤ (FP.l2f v).toNat := by rw [← k]; omega
    apply UInt32.toNat_inj.mp
    rw [fab_nat, fneg_nat this]
theorem c_X8_shareOf {h : List jC} {b w a i : Nat} {g : Nat → Int64} (hb : h[b]? = some (oS w a)) (ha : h[a]? = some (aL (jmany w) g)) (hw : w ≤ 6) (hi : i < jmany w) : jCt jy_X8_shareOf [.ref b, .int (nI i)] h (fun r' h' => r' = some (.float (jshrF (jmany w) g i)) ∧ h' = h) := by
  have hm := jmany_le hw
  have hat := c_X8_at hb ha hi hm.2
  refine jrun2 (js_X8_shareOf _) rfl rfl rfl (fun G hG hW hB => ?_)
  have loop : ∀ f e lv4, e + f = jmany w → G 4 [some (.ref b), some (.int (nI i)), some (.float (jtotF g e)), some (.int (nI e)), lv4] [] h 0 0 := by
    intro f
    induction f with
    | zero =>
      intro e lv4 he
      have e0 : e = jmany w := by omega
      refine hG [] 300 _ _ _ _ _ _ ?_
      conv => whnf
      refine ⟨_, hb, ?_⟩
      conv => whnf
      refine ⟨_, _, _, ha, ?_⟩
      conv => whnf
      refine ⟨fun qb => ?_, fun qb => ?_⟩ <;> rw [nI_leI (by omega) (by omega)] at qb
      case refine_2 => omega
      rw [e0]
      obtain ⟨t1, t2, -⟩ := tot_ok g (jmany w) (by omega)
      obtain ⟨k1, k2⟩ := shr_ok g (n := jmany w) (by omega) hi
      conv => whnf
      refine ⟨fun c => ?_, fun c => ?_⟩
      · conv => whnf
        refine ⟨⟨_, hb⟩, jcall (hat) ?_⟩
        rintro r' h' ⟨rfl, he⟩
        obtain rfl := he.symm
        clear he
        conv => whnf
        refine ⟨k2 c, ?_⟩
        conv => whnf
        refine ⟨?_, rfl⟩
        unfold jshrF
        rw [if_neg c]
      · conv => whnf
        refine ⟨?_, rfl⟩
        unfold jshrF
        rw [if_pos c]
    | succ f ih =>
      intro e lv4 he
      obtain ⟨t1, t2, -⟩ := tot_ok g e (by omega)
      have lf : FP.Core.FFin (FP.l2f (g e)) := FP.Core.l2f_fin _
      have af : FP.Core.FFin (fab (FP.l2f (g e))) := ffin_of (by rw [fab_mg]; exact ffin_lt lf)
      obtain ⟨a1, a2⟩ := l2f_abs1 (g e)
      refine hG [4] 300 _ _ _ _ _ _ ?_
      conv => whnf
      refine ⟨_, hb, ?_⟩
      conv => whnf
      refine ⟨_, _, _, ha, ?_⟩
      conv => whnf
      refine ⟨fun qb => ?_, fun qb => ?_⟩ <;> rw [nI_leI (by omega) (by omega)] at qb
      · omega
      conv => whnf
      refine ⟨_, hb, ?_⟩
      conv => whnf
      refine ⟨_, _, _, ha, rfl, (show e < jmany w by omega), ?_⟩
      conv => whnf
      refine ⟨fun c => ?_, fun c => ?_⟩
      · conv => whnf
        refine ⟨by rw [a1 c]; exact vf_fadd t1 af, ?_⟩
        conv => whnf
        rw [nI_add]
        have e2 : FP.fadd (jtotF g e) (FP.l2f (g e)) = jtotF g (e + 1) := by
          show _ = FP.fadd (jtotF g e) (fab (FP.l2f (g e)))
          rw [← a1 c]
        erw [e2]
        exact ih (e + 1) _ (by omega)
      · conv => whnf
        refine ⟨by rw [a2 c]; exact vf_fadd t1 af, ?_⟩
        conv => whnf
        rw [nI_add]
        have e2 : FP.fadd (jtotF g e) (FP.fneg (FP.l2f (g e))) = jtotF g (e + 1) := by
          show _ = FP.fadd (jtotF g e) (fab (FP.l2f (g e)))
          rw [a2 c]
        erw [e2]
        exact ih (e + 1) _ (by omega)
  refine hG [4] 300 _ _ _ _ _ _ ?_
  conv => whnf
  exact loop (jmany w) 0 _ (by omega)
