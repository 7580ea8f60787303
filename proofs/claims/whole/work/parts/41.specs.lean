/-! WHAT EACH METHOD ANSWERS AND LEAVES, of the state in plain values -/
def tn (x : Int32) : Nat := x.toInt.toNat
theorem tn_eq {x : Int32} (h : 0 ≤ x.toInt) : x = nI (tn x) := by
  have h2 : x.toInt < 2147483648 := Int32.toInt_lt x
  apply (jeq _ _).mpr
  unfold tn
  rw [nI_toInt (by omega)]
  omega
theorem tn_nI {n : Nat} (h : n < 2 ^ 31) : tn (nI n) = n := by unfold tn; rw [nI_toInt h]; rfl
theorem tn_lt {x : Int32} {n : Nat} (h : 0 ≤ x.toInt) (h2 : x.toInt < n) : tn x < n := by unfold tn; omega
abbrev isReg (x : Int32) : Prop := 0 ≤ x.toInt ∧ x.toInt ≤ 3
theorem isReg_nI {x : Int32} (h : isReg x) : x = nI (tn x) ∧ tn x < 4 := ⟨tn_eq h.1, tn_lt (n := 4) h.1 (by have := h.2; omega)⟩
abbrev isNum (z : zS) (x c : Int32) : Prop := isReg x ∧ 0 ≤ c.toInt ∧ c.toInt < jmany (zR z (tn x)).1
def zzero (z : zS) (x y : Int32) : Value × zS := if isReg x ∧ 0 ≤ y.toInt ∧ y.toInt ≤ 6 then (.int (nI (zR z (tn x)).1), zbecS z (tn x) (tn y, fun _ => 0)) else (.int (-1), z)
def zput (z : zS) (x c : Int32) (v : Int64) : Value × zS := if isNum z x c then (.int (nI 1), zbecS z (tn x) ((zR z (tn x)).1, vp_updL (zR z (tn x)).2 (tn c) v)) else (.int (-1), z)
def zof (z : zS) (x c : Int32) : Value := if isNum z x c then .long ((zR z (tn x)).2 (tn c)) else .long (-9223372036854775808)
def zset (z : zS) (x : List (Int32 × Int32)) : zS := (zR z, zT z, zO z, zC z, zK z, zW z, zP z, x, zI z)
def zfund (z : zS) (x c : Int32) (v : Int64) : Value × zS := if isNum z x c then
    (let q := jfin (tn c) v ((zR z (tn x)).2, (false, nI 0)) (jmany (zR z (tn x)).1)
     if q.2.1 = true then (.int (-9), zset z [(nI 4, q.2.2)]) else (.int (nI 1), zbecS z (tn x) ((zR z (tn x)).1, q.1)))
  else (.int (-1), z)
theorem zbec_w (R : Nat → zReg) (T : List (Nat × zReg)) (r : Nat) (x : zReg) : ((zbec R T r x).1 r).1 = x.1 := by
  unfold zbec
  split
  · rename_i h; exact (zsameb_iff.mp h).1
  · simp [va_up]
theorem c_becomes_z {h : List jC} (hh : 53 ≤ h.length) {s : Nat → Int32} {I : jIs} {L : jLss} {F : jFs} {z : zS} (hE : EncR s I L F z) (hz : zWF z) {r : Nat} (hr : r < 4) {x : zReg} (hx1 : x.1 ≤ 6) (hx : ∀ c, c < 32 → L 5 c = x.2 c) : jCt jy_X12_becomes [.ref 20, .int (nI r), .int (nI x.1)] (jR h s I L F) (fun r' h' => r' = none ∧ ∃ s' I' L', h' = jR h s' I' L' F ∧ EncR s' I' L' F (zbecS z r x)) := by
  obtain ⟨e1, e2, e3, e4, e5, e6, e7, e8, e9, e10⟩ := hE
  have hw := (e2 r hr).1
  have hw6 := (hz.1 r hr).1
  have hl := hz.2.1.1
  have hcond : (((zR z) r).1 = x.1 ∧ ∀ c, c < 32 → L 4 (32 * r + c) = L 5 c) ↔ zsame ((zR z) r) x := by
    constructor
    · intro q
      exact ⟨q.1, fun c hc => by rw [← (e2 r hr).2 c hc, q.2 c hc]; exact hx c hc⟩
    · intro q
      exact ⟨q.1, fun c hc => by rw [(e2 r hr).2 c hc, hx c hc]; exact q.2 c hc⟩
  have hc := c_X12_becomes hh s I L F (n := x.1) hr (by omega) e3.1 hl hw (by omega)
  refine jCt_mono hc ?_
  rintro r' h' ⟨rfl, hy, hn⟩
  refine ⟨rfl, ?_⟩
  by_cases hs : zsame ((zR z) r) x
  · refine ⟨s, I, L, hy (hcond.mpr hs), ?_⟩
    have : zbecS z r x = z := by
      unfold zbecS zbec
      rw [if_pos (zsameb_iff.mpr hs)]
    rw [this]
    exact ⟨e1, e2, e3, e4, e5, e6, e7, e8, e9, e10⟩
  · refine ⟨_, _, _, hn (fun q => hs (hcond.mp q)), ?_⟩
    obtain ⟨g1, g2⟩ := e_becomes e2 e3 hl hr hx hs
    exact ⟨e1, g1, g2, e4, e5, e6, e7, e8, e9, e10⟩
/-- a register's sum, as it may be set -/
theorem zmade {L : jLss} {r : Nat} {a : Nat → Int32} {R : Nat → zReg} (hR : eReg a (L 4) R) (hr : r < 4) : ∀ c, c < 32 → jcpL (L 5) (fun c => L 4 (32 * r + c)) 32 c = (R r).2 c := by
  intro c hc
  rw [jcpL_at, if_pos hc]
  exact (hR r hr).2 c hc
theorem r_zero {h : List jC} (hh : 53 ≤ h.length) {s : Nat → Int32} {I : jIs} {L : jLss} {F : jFs} {z : zS} (hE : EncR s I L F z) (hz : zWF z) (x y : Int32) : jCt jy_X12_zero [.ref 20, .int x, .int y] (jR h s I L F) (zPost h (zzero z x y).1 (zzero z x y).2) := by
  have hbad : ¬ (isReg x ∧ 0 ≤ y.toInt ∧ y.toInt ≤ 6) → zPost h (zzero z x y).1 (zzero z x y).2 (some (.int (-1))) (jR h s I L F) := by
    intro hn
    rw [zzero, if_neg hn]
    exact ⟨rfl, s, I, L, F, rfl, hE⟩
  refine jrun2 (js_X12_zero _) rfl rfl rfl (fun G hG hW hB => ?_)
  refine hG [] 300 _ _ _ _ _ _ ?_
  conv => whnf
  refine jcall (c_X12_isRegister x _) ?_
  rintro r h' ⟨rfl, rfl⟩
  conv => whnf
  refine ⟨fun c => ?_, fun c => ?_⟩ <;> rw [jbi_0] at c
  · conv => whnf
    exact hbad (fun q => c q.1)
  have c := Decidable.not_not.mp c
  conv => whnf
  refine jcall (c_X12_in y _ _ _) ?_
  rintro r h' ⟨rfl, rfl⟩
  conv => whnf
  refine ⟨fun c2 => ?_, fun c2 => ?_⟩ <;> rw [jbi_0] at c2
  · have c2 := Decidable.not_not.mp c2
    rw [j0] at c2
    obtain ⟨hx, hx4⟩ := isReg_nI c
    have hy := tn_eq c2.1
    have hy6 : tn y ≤ 6 := by have := tn_lt (n := 7) c2.1 (by have := c2.2; rw [show (nI 6).toInt = 6 by decide] at this; omega); omega
    have hsp : zzero z x y = (.int (nI (zR z (tn x)).1), zbecS z (tn x) (tn y, fun _ => 0)) := by
      rw [zzero, if_pos ⟨c, c2.1, by have := c2.2; rw [show (nI 6).toInt = 6 by decide] at this; exact this⟩]
    rw [hsp]
    generalize tn x = r at *
    generalize tn y = n at *
    subst hx
    subst hy
    have hw := (hE.2.1 r hx4).1
    conv => whnf
    refine ⟨_, m_0 hh, ?_⟩
    conv => whnf
    refine ⟨_, _, _, m_3 hh, rfl, hx4, ?_⟩
    conv => whnf
    refine ⟨⟨_, m_0 hh⟩, jcall (c_X12_empties hh s I L F) ?_⟩
    rintro r h' ⟨rfl, rfl⟩
    conv => whnf
    have hE2 : EncR s I (va_up L 5 (jzer (L 5) 32)) F z := hE
    have hc := c_becomes_z hh hE2 hz hx4 (x := (n, fun _ => 0)) hy6 (fun c hc => by
      show jzer (L 5) 32 c = 0
      rw [jzer_at, if_pos hc])
    refine ⟨⟨_, m_0 hh⟩, jcall hc ?_⟩
    rintro r' h' ⟨rfl, s', I', L', rfl, hE3⟩
    conv => whnf
    refine ⟨by rw [hw], s', I', L', F, rfl, hE3⟩
  · conv => whnf
    refine hbad (fun q => c2 ?_)
    rw [j0, show (nI 6).toInt = 6 by decide]
    exact q.2
theorem r_put {h : List jC} (hh : 53 ≤ h.length) {s : Nat → Int32} {I : jIs} {L : jLss} {F : jFs} {z : zS} (hE : EncR s I L F z) (hz : zWF z) (x y : Int32) (v : Int64) : jCt jy_X12_put [.ref 20, .int x, .int y, .long v] (jR h s I L F) (zPost h (zput z x y v).1 (zput z x y v).2) := by
  have hbad : ¬ isNum z x y → zPost h (zput z x y v).1 (zput z x y v).2 (some (.int (-1))) (jR h s I L F) := by
    intro hn
    rw [zput, if_neg hn]
    exact ⟨rfl, s, I, L, F, rfl, hE⟩
  refine jrun2 (js_X12_put _) rfl rfl rfl (fun G hG hW hB => ?_)
  refine hG [] 300 _ _ _ _ _ _ ?_
  conv => whnf
  refine jcall (c_X12_isRegister x _) ?_
  rintro r h' ⟨rfl, rfl⟩
  conv => whnf
  refine ⟨fun c => ?_, fun c => ?_⟩ <;> rw [jbi_0] at c
  · conv => whnf
    exact hbad (fun q => c q.1)
  have c := Decidable.not_not.mp c
  obtain ⟨hx, hx4⟩ := isReg_nI c
  have hw := (hE.2.1 (tn x) hx4).1
  have hw6 := (hz.1 (tn x) hx4).1
  have hm := jmany_le hw6
  conv => whnf
  rw [hx]
  refine ⟨⟨_, m_0 hh⟩, jcall (c_X12_isOf hh s I L F hx4 hw6 hw y) ?_⟩
  rintro r h' ⟨rfl, rfl⟩
  conv => whnf
  refine ⟨fun c2 => ?_, fun c2 => ?_⟩ <;> rw [jbi_0] at c2
  · have c2 := Decidable.not_not.mp c2
    have hy := tn_eq c2.1
    have hyl : tn y < jmany (zR z (tn x)).1 := tn_lt c2.1 c2.2
    have hsp : zput z x y v = (.int (nI 1), zbecS z (tn x) ((zR z (tn x)).1, vp_updL (zR z (tn x)).2 (tn y) v)) := by
      rw [zput, if_pos ⟨c, c2⟩]
    have hx' := hx
    rw [← hx', hsp]
    clear hbad hx' hsp
    generalize tn x = r at *
    generalize tn y = n at *
    subst hx
    subst hy
    conv => whnf
    refine ⟨⟨_, m_0 hh⟩, jcall (c_X12_takes hh s I L F hx4) ?_⟩
    rintro r h' ⟨rfl, rfl⟩
    conv => whnf
    refine ⟨_, m_0 hh, ?_⟩
    conv => whnf
    refine ⟨_, _, _, m_5 hh, rfl, (show n < 32 by omega), ?_⟩
    conv => whnf
    erw [ms_5 (vp_updL (jcpL (L 5) (fun c => L 4 (32 * r + c)) 32) n v)]
    rw [va_up_up]
    refine ⟨_, m_0 hh, ?_⟩
    conv => whnf
    refine ⟨_, _, _, m_3 hh, rfl, hx4, ?_⟩
    conv => whnf
    rw [hw]
    have hE2 : EncR s I (va_up L 5 (vp_updL (jcpL (L 5) (fun c => L 4 (32 * r + c)) 32) n v)) F z := hE
    have hc := c_becomes_z hh hE2 hz hx4 (x := ((zR z r).1, vp_updL (zR z r).2 n v)) hw6 (fun c hc => by
      show vp_updL (jcpL (L 5) (fun c => L 4 (32 * r + c)) 32) n v c = vp_updL (zR z r).2 n v c
      unfold vp_updL
      split
      · rfl
      · exact zmade hE.2.1 hx4 c hc)
    refine ⟨⟨_, m_0 hh⟩, jcall hc ?_⟩
    rintro r' h' ⟨rfl, s', I', L', rfl, hE3⟩
    conv => whnf
    exact ⟨rfl, s', I', L', F, rfl, hE3⟩
  · rw [← hx]
    conv => whnf
    exact hbad (fun q => c2 q.2)
