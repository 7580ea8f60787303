/-! made of the reference against the state -/
theorem jov_no {a b : Int64} (ha : 0 ≤ a.toInt) (hb : 0 ≤ b.toInt) (hs : a.toInt + b.toInt < 9223372036854775808) : jov a b = false := by
  have h1 : (a + b).toInt = a.toInt + b.toInt := by
    rw [Int64.toInt_add, Int.bmod_eq_of_le (by omega) (by omega)]
  unfold jov
  rw [decide_eq_false_iff_not, Int64.lt_iff_toInt_lt]
  intro h
  have h2 : ((a ^^^ (a + b)) &&& (b ^^^ (a + b))).toBitVec.msb = true := by
    rw [BitVec.msb_eq_toInt]
    exact decide_eq_true h
  have ma : a.toBitVec.msb = false := by
    rw [BitVec.msb_eq_toInt, decide_eq_false_iff_not]
    show ¬ a.toInt < 0
    omega
  have ms : (a + b).toBitVec.msb = false := by
    rw [BitVec.msb_eq_toInt, decide_eq_false_iff_not]
    show ¬ (a + b).toInt < 0
    omega
  rw [Int64.toBitVec_and, Int64.toBitVec_xor, BitVec.msb_and, BitVec.msb_xor, ma, ms] at h2
  simp at h2
def jadF (c : Nat) (f : Nat → Int64) : Nat → Nat → Int64
  | 0 => f
  | e + 1 => if nI (e &&& c) = nI c then vp_updL (jadF c f e) e (jadF c f e e + 1) else jadF c f e
abbrev jsml (f : Nat → Int64) (b : Nat) : Prop := ∀ c, c < 32 → 0 ≤ (f c).toInt ∧ (f c).toInt ≤ b
theorem jone : (1 : Int64).toInt = 1 := by decide
theorem jad1 {a : Int64} {b : Nat} (h : 0 ≤ a.toInt ∧ a.toInt ≤ b) (hb : b < 1000000) : 0 ≤ (a + 1).toInt ∧ (a + 1).toInt ≤ (b + 1 : Nat) ∧ (a + 1).toInt = a.toInt + 1 := by
  have h1 : (a + 1).toInt = a.toInt + 1 := by
    rw [Int64.toInt_add, jone, Int.bmod_eq_of_le (by omega) (by omega)]
  rw [h1]
  omega
theorem jadF_hi (c : Nat) (f : Nat → Int64) : ∀ e k, e ≤ k → jadF c f e k = f k
  | 0, _, _ => rfl
  | e + 1, k, h => by
    rw [jadF]
    split
    · unfold vp_updL; rw [if_neg (by omega)]; exact jadF_hi c f e k (by omega)
    · exact jadF_hi c f e k (by omega)
theorem jadF_ok (c : Nat) {f : Nat → Int64} {b : Nat} (hf : jsml f b) (hb : b < 1000000) (i : Int32) : ∀ e, e ≤ 32 → jfin c 1 (f, (false, i)) e = (jadF c f e, (false, i)) ∧ ∀ k, k < 32 → 0 ≤ (jadF c f e k).toInt ∧ (jadF c f e k).toInt ≤ (b + 1 : Nat)
  | 0, _ => ⟨rfl, fun k hk => by have := hf k hk; simp only [jadF]; omega⟩
  | e + 1, he => by
    obtain ⟨h1, h2⟩ := jadF_ok c hf hb i e (by omega)
    have h3 := hf e (by omega)
    have h4 := jadF_hi c f e e (Nat.le_refl _)
    rw [jfin, jadF]
    split
    · refine ⟨?_, fun k hk => ?_⟩
      · rw [h1]
        simp only [jcm]
        rw [h4, jov_no h3.1 (by rw [jone]; omega) (by rw [jone]; omega)]
        rfl
      · unfold vp_updL
        split
        · rw [h4]
          have := jad1 h3 hb
          omega
        · exact h2 k hk
    · exact ⟨h1, h2⟩
theorem jadF_c (c : Nat) {f g : Nat → Int64} (h : ∀ k, k < 32 → f k = g k) : ∀ e, e ≤ 32 → ∀ k, k < 32 → jadF c f e k = jadF c g e k
  | 0, _ => h
  | e + 1, he => by
    have ih := jadF_c c h e (by omega)
    intro k hk
    rw [jadF, jadF]
    split
    · unfold vp_updL
      split
      · rw [ih e (by omega)]
      · exact ih k hk
    · exact ih k hk
def jmk (n : Nat) (rs : List (List Nat)) (f0 : Nat → Int64) : Nat → Nat → Int64
  | 0 => f0
  | e + 1 => jadF (jdes (rs.getD e []) (n - 1)) (jmk n rs f0 e) (jmany n)
theorem jmk_ok {n : Nat} (hn : n ≤ 6) (rs : List (List Nat)) {f0 : Nat → Int64} (h0 : jsml f0 0) : ∀ e, e < 100000 → jsml (jmk n rs f0 e) e
  | 0, _ => h0
  | e + 1, he => fun k hk => (jadF_ok _ (jmk_ok hn rs h0 e (by omega)) (by omega) 0 (jmany n) (jmany_le hn).2).2 k hk
theorem jmk_c {n : Nat} (hn : n ≤ 6) (rs : List (List Nat)) {f0 g0 : Nat → Int64} (h0 : ∀ k, k < 32 → f0 k = g0 k) : ∀ e k, k < 32 → jmk n rs f0 e k = jmk n rs g0 e k
  | 0, k, hk => h0 k hk
  | e + 1, k, hk => jadF_c _ (jmk_c hn rs h0 e) (jmany n) (jmany_le hn).2 k hk
def zmake (z : zS) (x : Int32) : Value × zS := if isReg x then (.int (nI (zO z).1), zbecS z (tn x) ((zO z).1, jmk (zO z).1 (zrows (zO z)) (fun _ => 0) (zrows (zO z)).length)) else (.int (-1), z)
theorem r_made {h : List jC} (hh : 53 ≤ h.length) {s : Nat → Int32} {I : jIs} {L : jLss} {F : jFs} {z : zS} (hE : EncR s I L F z) (hz : zWF z) (x : Int32) : jCt jy_X12_made [.ref 20, .int x] (jR h s I L F) (zPost h (zmake z x).1 (zmake z x).2) := by
  obtain ⟨e1, e2, e3, e4, e5, e6, e7, e8, e9, e10⟩ := id hE
  have hok := hz.2.2.1
  have ho6 := hok.1
  by_cases c : ¬ isReg x
  · rw [zmake, if_neg c]
    refine jrun2 (js_X12_made _) rfl rfl rfl (fun G hG hW hB => ?_)
    refine hG [] 300 _ _ _ _ _ _ ?_
    conv => whnf
    refine jcall (c_X12_isRegister x _) ?_
    rintro r h' ⟨rfl, rfl⟩
    conv => whnf
    refine ⟨fun c1 => absurd (jbi_f c) c1, fun _ => ?_⟩
    conv => whnf
    exact ⟨rfl, s, I, L, F, rfl, hE⟩
  have c := Decidable.not_not.mp c
  obtain ⟨hx, hx4⟩ := isReg_nI c
  rw [zmake, if_pos c]
  generalize tn x = r at *
  generalize hΦ : zPost h _ _ = Φ
  obtain ⟨g0, hg0⟩ : ∃ g, g = jzer (L 5) 32 := ⟨_, rfl⟩
  have hgz : ∀ k, k < 32 → g0 k = 0 := fun k hk => by rw [hg0, jzer_at, if_pos hk]
  have hz0 : jsml g0 0 := fun k hk => by rw [hgz k hk]; decide
  have hzl := zrows_len ho6
  obtain ⟨rs, hrs⟩ : ∃ rs, rs = zrows (zO z) := ⟨_, rfl⟩
  rw [← hrs] at hzl hΦ
  generalize hn : (zO z).1 = n at *
  have hm := jmany_le ho6
  refine jrun2 (js_X12_made _) rfl rfl rfl (fun G hG hW hB => ?_)
  have loop : ∀ u k, rs.length = k + u → ∀ (s1 : Nat → Int32) (w : Nat → Int32), s1 0 = nI 0 → (∀ i, i ≠ 0 → i ≠ 4 → s1 i = s i) → G 20 [some (.ref 20), some (.int x), some (.int (nI k))] [] (jR h s1 (va_up I 11 w) (va_up L 5 (jmk n rs g0 k)) F) 0 0 := by
    intro u
    induction u with
    | zero =>
      intro k hk s1 w h0 h4
      have ho : eOrd (s1 3) (I 10) (zO z) := by rw [h4 3 (by decide) (by decide)]; exact e4
      have hE1 : ∀ sn w2, EncR (upd s1 4 sn) (va_up I 11 w2) (va_up L 5 (jmk n rs g0 k)) F z := by
        intro sn w2
        have hu : ∀ i, i ≠ 0 → i ≠ 4 → upd s1 4 sn i = s i := fun i a b => by unfold upd; rw [if_neg b]; exact h4 i a b
        refine ⟨⟨Or.inl h0, ?_⟩, e2, ?_, ?_, e5, e6, e7, ?_, ?_, ?_⟩
        · rw [hu 7 (by decide) (by decide)]; exact e1.2
        · rw [hu 2 (by decide) (by decide)]; exact e3
        · rw [hu 3 (by decide) (by decide)]; exact e4
        · rw [hu 5 (by decide) (by decide)]; exact e8
        · rw [hu 1 (by decide) (by decide)]; exact e9
        · rw [hu 9 (by decide) (by decide)]; exact e10
      refine hG [20] 300 _ _ _ _ _ _ ?_
      conv => whnf
      refine ⟨⟨_, m_0 hh⟩, jcall (c_X12_takesRow hh s1 (va_up I 11 w) _ F ho hok (nI k)) ?_⟩
      rintro r' h' ⟨w2, sn, rfl, hq⟩
      rw [← hrs] at hq
      rw [va_up_up]
      rcases hq with ⟨i, l, q1, q2, rfl, q5⟩ | ⟨q1, q2, rfl⟩
      · have hil := (List.getElem?_eq_some_iff.mp q1).1
        rw [nI_eq (by omega) (by omega)] at q2
        omega
      · conv => whnf
        refine ⟨fun _ => ?_, fun q => absurd rfl q⟩
        conv => whnf
        refine ⟨_, m_0 hh, ?_⟩
        conv => whnf
        rw [show upd s1 4 (nI sn) 3 = nI n by rw [← hn]; exact (hE1 (nI sn) w2).2.2.2.1.1]
        have hc := c_becomes_z hh (hE1 (nI sn) w2) hz hx4 (x := (n, jmk n rs (fun _ => 0) rs.length)) ho6 (fun c hc => by
          show jmk n rs g0 k c = jmk n rs (fun _ => 0) rs.length c
          rw [show rs.length = k by omega]
          exact jmk_c ho6 rs hgz k c hc)
        rw [← hx] at hc
        refine ⟨⟨_, m_0 hh⟩, jcall hc ?_⟩
        rintro r' h' ⟨rfl, s', I', L', rfl, hE3⟩
        conv => whnf
        refine ⟨_, m_0 hh, ?_⟩
        conv => whnf
        rw [← hΦ]
        refine ⟨?_, s', I', L', F, rfl, hE3⟩
        rw [hE3.2.2.2.1.1, ← hn]
        rfl
    | succ u ih =>
      intro k hk s1 w h0 h4
      have i1 := ih (k + 1) (by omega)
      have ho : eOrd (s1 3) (I 10) (zO z) := by rw [h4 3 (by decide) (by decide)]; exact e4
      refine hG [20] 300 _ _ _ _ _ _ ?_
      conv => whnf
      refine ⟨⟨_, m_0 hh⟩, jcall (c_X12_takesRow hh s1 (va_up I 11 w) _ F ho hok (nI k)) ?_⟩
      rintro r' h' ⟨w2, sn, rfl, hq⟩
      rw [← hrs] at hq
      rw [va_up_up]
      rcases hq with ⟨i, l, q1, q2, rfl, q5⟩ | ⟨q1, q2, rfl⟩
      case inr => exact absurd rfl (q1 k (by omega))
      have hil := (List.getElem?_eq_some_iff.mp q1).1
      rw [nI_eq (by omega) (by omega)] at q2
      subst q2
      obtain ⟨hl1, hl2⟩ := rws_each (show l ∈ rws (zO z) (zO z).1 0 by have := List.mem_of_getElem? q1; rw [hrs] at this; exact this)
      have hll : ∀ m, m < n → va_up I 11 w2 11 m = nI (l.getD m 0) ∧ l.getD m 0 ≤ 6 := by
        intro m hm
        have hg := List.getElem?_eq_getElem (l := l) (i := m) (by omega)
        rw [show va_up I 11 w2 11 m = w2 m by rw [va_up_self], q5 _ _ hg, List.getD, hg]
        refine ⟨rfl, ?_⟩
        have := (hl2 _ (List.mem_of_getElem? hg)).2
        simp only [Option.getD_some]
        omega
      have hs3 : upd s1 4 (nI sn) 3 = nI n := by rw [← hn]; exact ho.1
      have hs0 : upd s1 4 (nI sn) 0 = nI 0 := h0
      have hgd : rs.getD k [] = l := by rw [List.getD, q1]; rfl
      rw [jmk, hgd] at i1
      have had := c_X12_addsF hh hs0 (va_up I 11 w2) (va_up L 5 (jmk n rs g0 k)) F (false, nI 0) ho6 (jdes l (n - 1)) 1
      rw [rSf, rIf, va_up_self, (jadF_ok (jdes l (n - 1)) (jmk_ok ho6 rs hz0 k (by omega)) (by omega) (nI 0) (jmany n) hm.2).1] at had
      dsimp only at had
      rw [rSf, rIf, va_up_up] at had
      conv => whnf
      refine ⟨fun q => absurd q (by decide), fun _ => ?_⟩
      conv => whnf
      refine ⟨_, m_0 hh, ?_⟩
      conv => whnf
      rw [hs3]
      refine ⟨⟨_, m_0 hh⟩, jcall (c_X12_descents hh (upd s1 4 (nI sn)) (va_up I 11 w2) _ F hs3 ho6 hll) ?_⟩
      rintro r h' ⟨rfl, rfl⟩
      conv => whnf
      refine ⟨⟨_, m_0 hh⟩, jcall (had) ?_⟩
      rintro r h' ⟨rfl, rfl⟩
      conv => whnf
      rw [nI_add]
      exact i1 _ w2 h0 (fun i a b => by unfold upd; rw [if_neg b]; exact h4 i a b)
  refine hG [20] 300 _ _ _ _ _ _ ?_
  conv => whnf
  refine jcall (c_X12_isRegister x _) ?_
  rintro r h' ⟨rfl, rfl⟩
  conv => whnf
  refine ⟨fun _ => ?_, fun q => absurd c (jbi_0.mp q)⟩
  conv => whnf
  refine ⟨Or.inl rfl, _, m_0 hh, ?_⟩
  conv => whnf
  erw [ms_0 (upd s 0 (nI 0))]
  refine ⟨⟨_, m_0 hh⟩, jcall (c_X12_empties hh _ I L F) ?_⟩
  rintro r h' ⟨rfl, rfl⟩
  conv => whnf
  rw [← hg0]
  have l0 := loop rs.length 0 (by omega) (upd s 0 (nI 0)) (I 11) rfl (fun i a b => by unfold upd; rw [if_neg a])
  rw [va_up_same] at l0
  exact l0
