/-! read() of the reference against the state -/
def jfb (n b : Nat) : Nat := if n = 0 then b else b ||| 2 ^ (n - 1)
theorem jfb_or : ∀ n, n < 6 → ∀ b, b < 32 → Int64.ofNat b ||| jbt n = Int64.ofNat (jfb n b) := by decide +kernel
theorem jfb_lt : ∀ n, n < 6 → ∀ b, b < 32 → b < jmany n → jfb n b < 2 ^ n := by decide +kernel
theorem j64_32 : ∀ b, b < 64 → (Int64.ofNat b).toInt32 = nI b := by decide +kernel
/-- what a term's sum and bits keep to -/
def jtok (u : Nat × Int64) : Prop := u.1 ≤ 6 → ∃ b, b < jmany u.1 ∧ u.2 = Int64.ofNat b
theorem jmany_mono {n m : Nat} (h : n ≤ m) (h0 : 1 ≤ n) : jmany n ≤ jmany m := by
  unfold jmany
  rw [if_neg (by omega), if_neg (by omega)]
  exact Nat.pow_le_pow_right (by decide) (by omega)
theorem jtok_fig (t : zTap) (q : Nat × Bool) {u : Nat × Int64} (h : jtok u) (h6 : u.1 ≤ 6 * q.1) : jtok (jfig t q u).2 ∧ (jfig t q u).2.1 ≤ 6 * (jfig t q u).1.1 := by
  unfold jfig
  split
  · exact ⟨h, h6⟩
  · rename_i w
    have hf : 49 ≤ (jhere t q.1).toInt ∧ (jhere t q.1).toInt ≤ 54 := Decidable.byContradiction (fun z => w (Or.inr z))
    have hf2 : 49 ≤ tn (jhere t q.1) ∧ tn (jhere t q.1) ≤ 54 := by unfold tn; omega
    refine ⟨fun h2 => ?_, ?_⟩
    · dsimp only at h2 ⊢
      obtain ⟨b, hb1, hb2⟩ := h (by omega)
      have hm := (jmany_le (w := u.1) (by omega)).2
      refine ⟨jfb u.1 b, ?_, ?_⟩
      · refine Nat.lt_of_lt_of_le (jfb_lt u.1 (by omega) b (by omega) hb1) ?_
        unfold jmany
        rw [if_neg (by omega)]
        exact Nat.pow_le_pow_right (by decide) (by omega)
      · rw [hb2]
        exact jfb_or u.1 (by omega) b (by omega)
    · dsimp only
      omega
theorem jtok_fgs (t : zTap) : ∀ (n : Nat) (q : Nat × Bool) (u : Nat × Int64), jtok u → u.1 ≤ 6 * q.1 → jtok (jfgs t n q u).2 ∧ (jfgs t n q u).2.1 ≤ 6 * (jfgs t n q u).1.1
  | 0, q, u, h, h6 => ⟨h, h6⟩
  | n + 1, q, u, h, h6 => by
    rw [jfgs]
    split
    · obtain ⟨g1, g2⟩ := jtok_fig t (q.1 + 1, false) h (by dsimp only; omega)
      exact jtok_fgs t n _ _ g1 g2
    · exact ⟨h, h6⟩
theorem jtok_trm (t : zTap) {a : Nat} : jtok (jtrm t a).1.2 ∧ (jtrm t a).1.2.1 ≤ 6 * (jtrm t a).1.1.1 := by
  have h0 : jtok (0, 0) := fun _ => ⟨0, by decide, rfl⟩
  unfold jtrm
  dsimp only
  generalize jdig t a 4 = d
  split
  · exact ⟨h0, Nat.zero_le _⟩
  · generalize jmust t (nI 40) (a + d.2 + 1, false) = q
    have g : ∀ r : (Nat × Bool) × (Nat × Int64), jtok r.2 → r.2.1 ≤ 6 * r.1.1 → jtok r.2 ∧ r.2.1 ≤ 6 * (jmust t (nI 41) r.1).1 := by
      intro r h1 h2
      have := jmust_ge t (nI 41) r.1
      exact ⟨h1, by omega⟩
    split
    · obtain ⟨g1, g2⟩ := jtok_fig t q h0 (Nat.zero_le _)
      obtain ⟨g3, g4⟩ := jtok_fgs t 81 _ _ g1 g2
      exact g _ g3 g4
    · exact g (q, (0, 0)) h0 (Nat.zero_le _)
theorem jtx_ok {t : zTap} (ht : t.1 ≤ 80) : ∀ (n a : Nat) (x : Int32), a ≤ t.1 → (jtx t n a x).2.1 ≤ t.1 ∧ a + 2 * (jtx t n a x).1.length ≤ t.1 + 2 ∧ ∀ y ∈ (jtx t n a x).1, y.2.1 ≤ 480 ∧ jtok y.2
  | 0, a, x, ha => ⟨ha, by show a + 2 * 0 ≤ _; omega, fun y hy => by cases hy⟩
  | n + 1, a, x, ha => by
    have hti := (jtrm_in t ha).1
    have htk := jtok_trm t (a := a)
    have h1 : (jtm t a x).2.1 ≤ 480 ∧ jtok (jtm t a x).2 := ⟨by have := htk.2; show (jtrm t a).1.2.1 ≤ 480; omega, htk.1⟩
    rw [jtx]
    split
    · rename_i w
      have hlt : (jtrm t a).1.1.1 < t.1 := by
        rcases w.2 with e | e
        · exact jhere_in e (by decide)
        · exact jhere_in e (by decide)
      obtain ⟨i1, i2, i3⟩ := jtx_ok ht n ((jtrm t a).1.1.1 + 1) (jsgn t (jtrm t a).1.1.1) hlt
      have hgo := jtrm_go t a w.1
      refine ⟨i1, by rw [List.length_cons]; omega, fun y hy => ?_⟩
      rcases List.mem_cons.mp hy with rfl | hy
      · exact h1
      · exact i3 y hy
    · refine ⟨hti, by rw [List.length_singleton]; omega, fun y hy => ?_⟩
      rw [List.mem_singleton.mp hy]
      exact h1
theorem jtx_pos (t : zTap) (n a : Nat) (x : Int32) : 0 < (jtx t (n + 1) a x).1.length := by
  rw [jtx]
  split <;> simp
def jbq (x : zTm) : Nat := tn x.2.2.toInt32
theorem jbq_ok {x : zTm} (h : jtok x.2) (h6 : x.2.1 ≤ 6) : x.2.2.toInt32 = nI (jbq x) ∧ jbq x < jmany x.2.1 := by
  obtain ⟨b, hb1, hb2⟩ := h h6
  have hm := (jmany_le h6).2
  have he : x.2.2.toInt32 = nI b := by rw [hb2]; exact j64_32 b (by omega)
  have hb : jbq x = b := by unfold jbq; rw [he]; exact tn_nI (by omega)
  rw [hb]
  exact ⟨he, hb1⟩
def jstp (n : Nat) (x : zTm) (f : Nat → Int64) : (Nat → Int64) × jLs := if x.1.2 = true then jfin (jbq x) x.1.1.toInt64 (f, (false, nI 0)) (jmany n) else jcm (f, (false, nI 0)) (jbq x) x.1.1.toInt64
def jrd (n : Nat) : List zTm → Nat → (Nat → Int64) → Option (Value × List (Int32 × Int32)) × (Nat → Int64)
  | [], _, f => (none, f)
  | x :: xs, i, f => if 6 < x.2.1 ∨ ¬ x.2.1 = n then (some (.int (-5), [(nI 2, nI i), (nI 3, nI x.2.1)]), f) else if (jstp n x f).2.1 = true then (some (.int (-9), [(nI 2, nI i), (nI 4, (jstp n x f).2.2)]), f) else jrd n xs (i + 1) (jstp n x f).1
theorem zeq_jfin {q p : (Nat → Int64) × jLs} (h : zeq q p) (c : Nat) (v : Int64) : ∀ e, e ≤ 32 → zeq (jfin c v q e) (jfin c v p e)
  | 0, _ => h
  | e + 1, he => by
    have ih := zeq_jfin h c v e (by omega)
    simp only [jfin]
    split
    · exact zeq_jcm ih (by omega) v
    · exact ih
theorem zeq_jstp {f g : Nat → Int64} {n : Nat} (hn : n ≤ 6) (x : zTm) (hx : jbq x < 32) (h : ∀ c, c < 32 → f c = g c) : zeq (jstp n x f) (jstp n x g) := by
  unfold jstp
  have h0 : zeq (f, ((false, nI 0) : jLs)) (g, (false, nI 0)) := ⟨rfl, h⟩
  split
  · exact zeq_jfin h0 _ _ _ (jmany_le hn).2
  · exact zeq_jcm h0 hx _
theorem jrd_c {n : Nat} (hn : n ≤ 6) : ∀ (xs : List zTm) (i : Nat) (f g : Nat → Int64), (∀ x ∈ xs, jtok x.2) → (∀ c, c < 32 → f c = g c) → (jrd n xs i f).1 = (jrd n xs i g).1 ∧ ∀ c, c < 32 → (jrd n xs i f).2 c = (jrd n xs i g).2 c
  | [], _, _, _, _, h => ⟨rfl, h⟩
  | x :: xs, i, f, g, hk, h => by
    rw [jrd, jrd]
    by_cases c : 6 < x.2.1 ∨ ¬ x.2.1 = n
    · rw [if_pos c, if_pos c]
      exact ⟨rfl, h⟩
    · rw [if_neg c, if_neg c]
      have hb := (jbq_ok (hk x List.mem_cons_self) (by omega)).2
      have hm := (jmany_le (w := x.2.1) (by omega)).2
      have hz := zeq_jstp hn x (by omega) h
      rw [hz.1]
      split
      · exact ⟨rfl, h⟩
      · exact jrd_c hn xs (i + 1) _ _ (fun y hy => hk y (List.mem_cons_of_mem _ hy)) hz.2
def zstP (z : zS) (t : zTap) : zS := (zR z, zT z, zO z, zC z, zK z, zW z, t, zX z, zI z)
def zread (z : zS) (x : Int32) : Value × zS := if isReg x then
    (let w := jtx (zP z) 82 0 (nI 1)
     let z1 := zstP z (0, (zP z).2)
     let n := (w.1.headD ((0, false), (0, 0))).2.1
     if w.2.2 = true ∨ w.2.1 < (zP z).1 then (.int (-100 - nI w.2.1), zset z1 [(nI 2, nI (w.1.length - 1)), (nI 1, nI w.2.1)])
     else match (jrd n w.1 0 (fun _ => 0)).1 with
       | some r => (r.1, zset z1 r.2)
       | none => (.int (nI n), zbecS z1 (tn x) (n, (jrd n w.1 0 (fun _ => 0)).2)))
  else (.int (-1), z)
theorem e_because {n : Int32} {a b : Nat → Int32} (x y w : Int32) : eTrb (nI 2) (upd (upd a 0 (nI 2)) 1 x) (upd (upd b 0 w) 1 y) [(nI 2, w), (x, y)] := by
  refine ⟨rfl, fun i q hi => ?_⟩
  match i, hi with
  | 0, hi => cases hi; exact ⟨rfl, rfl⟩
  | 1, hi => cases hi; exact ⟨rfl, rfl⟩
  | i + 2, hi => simp at hi
theorem e_bec {s : Nat → Int32} {I : jIs} {L : jLss} {F : jFs} {z : zS} (hE : EncR s I L F z) (x y : Int32) : EncR (upd s 1 (nI 2)) (va_up (va_up I 1 (upd (upd (I 1) 0 (nI 2)) 1 x)) 2 (upd (upd (I 2) 0 (s 8)) 1 y)) L F (zset z [(nI 2, s 8), (x, y)]) := by
  obtain ⟨e1, e2, e3, e4, e5, e6, e7, e8, e9, e10⟩ := hE
  exact ⟨e1, e2, e3, e4, e5, e6, e7, e8, e_because (n := nI 2) x y (s 8), e10⟩
theorem e_terms {s s' : Nat → Int32} {I I' : jIs} {L L' : jLss} {F : jFs} {z : zS} (hE : EncR s I L F z) (hI : ∀ k, k ≠ 22 → k ≠ 23 → k ≠ 24 → I' k = I k) (hL : ∀ k, k ≠ 25 → L' k = L k) (h0 : s' 0 = nI 0 ∨ s' 0 = nI 1) (h7 : s' 7 = nI 0 ∨ s' 7 = nI 1) (h1 : s' 1 = s 1) (h2 : s' 2 = s 2) (h3 : s' 3 = s 3) (h5 : s' 5 = nI 0) (h9 : s' 9 = s 9) (f : Nat → Nat) : EncR s' I' L' F (zstP z (0, f)) := by
  obtain ⟨e1, e2, e3, e4, e5, e6, e7, e8, e9, e10⟩ := hE
  refine ⟨⟨h0, h7⟩, ?_, ?_, ?_, e5, ?_, ?_, ⟨h5, fun j hj => absurd hj (Nat.not_lt_zero j)⟩, ?_, ?_⟩
  · rw [hI 3 (by decide) (by decide) (by decide), hL 4 (by decide)]; exact e2
  · rw [hI 6 (by decide) (by decide) (by decide), hI 7 (by decide) (by decide) (by decide), hL 8 (by decide), h2]; exact e3
  · rw [hI 10 (by decide) (by decide) (by decide), h3]; exact e4
  · rw [hI 18 (by decide) (by decide) (by decide), hI 19 (by decide) (by decide) (by decide), hL 20 (by decide)]; exact e6
  · rw [hI 14 (by decide) (by decide) (by decide), hI 15 (by decide) (by decide) (by decide), hI 16 (by decide) (by decide) (by decide)]; exact e7
  · rw [hI 1 (by decide) (by decide) (by decide), hI 2 (by decide) (by decide) (by decide), h1]; exact e9
  · rw [hI 26 (by decide) (by decide) (by decide), hI 28 (by decide) (by decide) (by decide), hI 30 (by decide) (by decide) (by decide), hI 31 (by decide) (by decide) (by decide), hL 27 (by decide), hL 32 (by decide), h9]; exact e10
theorem r_read {h : List jC} (hh : 53 ≤ h.length) {s : Nat → Int32} {I : jIs} {L : jLss} {F : jFs} {z : zS} (hE : EncR s I L F z) (hz : zWF z) (x : Int32) : jCt jy_X12_read [.ref 20, .int x] (jR h s I L F) (zPost h (zread z x).1 (zread z x).2) := by
  obtain ⟨e1, e2, e3, e4, e5, e6, e7, e8, e9, e10⟩ := id hE
  have ht80 := hz.2.2.2.2.2.1.1
  by_cases c : ¬ isReg x
  · rw [zread, if_neg c]
    refine jrun2 (js_X12_read _) rfl rfl rfl (fun G hG hW hB => ?_)
    refine hG [] 300 _ _ _ _ _ _ ?_
    conv => whnf
    refine jcall (c_X12_isRegister x _) ?_
    rintro r h' ⟨rfl, rfl⟩
    conv => whnf
    refine ⟨fun c1 => absurd (jbi_f c) c1, fun _ => ?_⟩
    conv => whnf
    exact ⟨rfl, s, I, L, F, rfl, hE⟩
  have c := Decidable.not_not.mp c
  obtain ⟨hx, hx4⟩ := isReg_nI c
  obtain ⟨ok1, ok2, ok3⟩ := jtx_ok ht80 82 0 (nI 1) (Nat.zero_le _)
  have ok4 := jtx_pos (zP z) 81 0 (nI 1)
  have hflt := c_X12_isFault hh s I L F e8 ht80
  have hz1 : zWF (zstP z (0, (zP z).2)) := ⟨hz.1, hz.2.1, hz.2.2.1, hz.2.2.2.1, hz.2.2.2.2.1, ⟨Nat.zero_le _, hz.2.2.2.2.2.1.2⟩, hz.2.2.2.2.2.2⟩
  rw [zread, if_pos c]
  dsimp only
  generalize hz1d : zstP z (0, (zP z).2) = z1 at *
  generalize hw : jtx (zP z) 82 0 (nI 1) = w at *
  obtain ⟨ts, q⟩ := w
  dsimp only at *
  generalize tn x = r at *
  obtain ⟨n, hn⟩ : ∃ n, n = (ts.headD ((0, false), (0, 0))).2.1 := ⟨_, rfl⟩
  rw [← hn]
  generalize hΦ : zPost h _ _ = Φ
  refine jrun2 (js_X12_read _) rfl rfl rfl (fun G hG hW hB => ?_)
  refine hG [67] 300 _ _ _ _ _ _ ?_
  conv => whnf
  refine jcall (c_X12_isRegister x _) ?_
  rintro r h' ⟨rfl, rfl⟩
  conv => whnf
  refine ⟨fun _ => ?_, fun c1 => absurd c (jbi_0.mp c1)⟩
  conv => whnf
  refine ⟨⟨_, m_0 hh⟩, jcall hflt ?_⟩
  rintro r' h' ⟨I', L', rfl, rfl, hts, hI, hL⟩
  conv => whnf
  refine ⟨trivial, _, m_0 hh, ?_⟩
  conv => whnf
  erw [ms_0 (upd (jsR (upd s 8 (nI (ts.length - 1))) q) 5 (nI 0))]
  refine ⟨fun c2 => ?_, fun c2 => ?_⟩ <;> rw [jbi_0] at c2
  case refine_2 =>
    have c2 := Decidable.not_not.mp c2
    rw [if_pos c2] at hΦ
    have hEb := e_bec (e_terms (s' := upd (jsR (upd s 8 (nI (ts.length - 1))) q) 5 (nI 0)) hE hI hL e1.1 (jbi_01 _) rfl rfl rfl rfl rfl (zP z).2) (nI 1) (nI q.1)
    rw [hz1d] at hEb
    conv => whnf
    refine ⟨_, m_0 hh, ?_⟩
    conv => whnf
    rw [show upd (jsR (upd s 8 (nI (ts.length - 1))) q) 5 (nI 0) 6 = nI q.1 from rfl]
    refine ⟨⟨_, m_0 hh⟩, jcall (c_X12_because hh _ I' L' F (nI 1) (nI q.1)) ?_⟩
    rintro r h' ⟨rfl, rfl⟩
    conv => whnf
    refine ⟨_, m_0 hh, ?_⟩
    conv => whnf
    rw [← hΦ]
    exact ⟨rfl, _, _, _, F, rfl, hEb⟩
  rw [if_neg c2] at hΦ
  obtain ⟨S0, hS0⟩ : ∃ S0, S0 = upd (jsR (upd s 8 (nI (ts.length - 1))) q) 5 (nI 0) := ⟨_, rfl⟩
  have hS8 : S0 8 = nI (ts.length - 1) := by rw [hS0]; rfl
  have hEn : ∀ S : Nat → Int32, S 0 = nI 0 → (∀ k, k ≠ 0 → k ≠ 8 → S k = S0 k) → ∀ f, EncR S I' (va_up L' 5 f) F z1 := by
    intro S h0 hS f
    have := e_terms (s' := S) (L' := va_up L' 5 f) (L := va_up L 5 f) (s := s) (z := z) hE hI (fun k hk => by unfold va_up; split; rfl; exact hL k hk) (Or.inl h0) (by rw [hS 7 (by decide) (by decide), hS0]; exact jbi_01 _) (by rw [hS 1 (by decide) (by decide), hS0]; rfl) (by rw [hS 2 (by decide) (by decide), hS0]; rfl) (by rw [hS 3 (by decide) (by decide), hS0]; rfl) (by rw [hS 5 (by decide) (by decide), hS0]; rfl) (by rw [hS 9 (by decide) (by decide), hS0]; rfl) (zP z).2
    rw [hz1d] at this
    exact this
  rw [← hS0]
  have ht0 : ∃ x0, ts[0]? = some x0 := ⟨_, List.getElem?_eq_getElem ok4⟩
  obtain ⟨x0, hx0⟩ := ht0
  have hn0 : n = x0.2.1 := by
    rw [hn]
    cases ts with
    | nil => cases hx0
    | cons a b => cases hx0; rfl
  have hI24 : I' 24 0 = nI n := by rw [hn0]; exact (hts 0 x0 hx0).2.2.1
  have hn480 : n ≤ 480 := by rw [hn0]; exact (ok3 x0 (List.mem_of_getElem? hx0)).1
  obtain ⟨g0, hg0⟩ : ∃ g, g = jzer (L' 5) 32 := ⟨_, rfl⟩
  have hgz : ∀ c, c < 32 → g0 c = 0 := fun c hc => by rw [hg0, jzer_at, if_pos hc]
  obtain ⟨w, hw2⟩ : ∃ w, w = jrd n ts 0 g0 := ⟨_, rfl⟩
  have loop : ∀ u T, ts.length = T + u → ∀ (S : Nat → Int32) (f : Nat → Int64) (x5 : Option Value), S 0 = nI 0 → S 8 = nI T → (∀ k, k ≠ 0 → k ≠ 8 → S k = S0 k) → w = jrd n (ts.drop T) T f → (0 < T → n ≤ 6) → G 67 [some (.ref 20), some (.int x), some (.int (jbi (q.2 = true ∨ q.1 < (zP z).1))), some (.int (nI (ts.length - 1))), some (.int (nI n)), x5] [] (jR h S I' (va_up L' 5 f) F) 0 0 := by
    intro u
    induction u with
    | zero =>
      intro T hu S f x5 h0 h8 hS hj hT
      have hn6 := hT (by omega)
      rw [List.drop_eq_nil_of_le (by omega), jrd] at hj
      have hcc := jrd_c hn6 ts 0 g0 (fun _ => 0) (fun y hy => (ok3 y hy).2) hgz
      rw [← hw2, hj] at hcc
      dsimp only at hcc
      rw [← hcc.1] at hΦ
      dsimp only at hΦ
      have hc := c_becomes_z hh (hEn S h0 hS f) hz1 hx4 (x := (n, (jrd n ts 0 (fun _ => 0)).2)) hn6 (fun c hc => by
        show f c = _
        exact hcc.2 c hc)
      refine hG [67] 300 _ _ _ _ _ _ ?_
      conv => whnf
      refine ⟨_, m_0 hh, ?_⟩
      conv => whnf
      rw [h8]
      refine ⟨fun qb => ?_, fun qb => ?_⟩ <;> rw [nI_ltI (by omega) (by omega)] at qb
      · conv => whnf
        rw [hx]
        refine ⟨⟨_, m_0 hh⟩, jcall hc ?_⟩
        rintro r' h' ⟨rfl, s', I2, L2, rfl, hE3⟩
        conv => whnf
        rw [← hΦ]
        exact ⟨rfl, s', I2, L2, F, rfl, hE3⟩
      · omega
    | succ u ih =>
      intro T hu S f x5 h0 h8 hS hj hT
      have hT80 : T < 80 := by
        omega
      have hlt : T < ts.length := by omega
      obtain ⟨y, hy⟩ : ∃ y, y = ts[T] := ⟨_, rfl⟩
      have hyT : ts[T]? = some y := by rw [hy]; exact List.getElem?_eq_getElem hlt
      rw [List.drop_eq_getElem_cons hlt, ← hy, jrd] at hj
      obtain ⟨y1, y2, y3, y4⟩ := hts T y hyT
      obtain ⟨k1, k2⟩ := ok3 y (List.mem_of_getElem? hyT)
      have hbad : ∀ res rs S2 I2 L2, w.1 = some (res, rs) → n ≤ 6 ∨ T = 0 → EncR S2 I2 L2 F (zset z1 rs) → Φ (some res) (jR h S2 I2 L2 F) := by
        intro res rs S2 I2 L2 hw1 hor hE2
        have hcc : (jrd n ts 0 g0).1 = (jrd n ts 0 (fun _ => 0)).1 := by
          by_cases hn6 : n ≤ 6
          · exact (jrd_c hn6 ts 0 g0 (fun _ => 0) (fun y hy => (ok3 y hy).2) hgz).1
          · cases ts with
            | nil => cases hx0
            | cons a b =>
              cases hx0
              rw [jrd, jrd, if_pos (Or.inl (by omega)), if_pos (Or.inl (by omega))]
        rw [← hw2, hw1] at hcc
        rw [← hcc] at hΦ
        dsimp only at hΦ
        rw [← hΦ]
        exact ⟨rfl, S2, I2, L2, F, rfl, hE2⟩
      have g103 : (6 < y.2.1 ∨ ¬ y.2.1 = n) → G 103 [some (.ref 20), some (.int x), some (.int (jbi (q.2 = true ∨ q.1 < (zP z).1))), some (.int (nI (ts.length - 1))), some (.int (nI n)), x5] [] (jR h S I' (va_up L' 5 f) F) 0 0 := by
        intro cc
        rw [if_pos cc] at hj
        have hEb := e_bec (hEn S h0 hS f) (nI 3) (nI y.2.1)
        rw [h8] at hEb
        refine hG [] 300 _ _ _ _ _ _ ?_
        conv => whnf
        refine ⟨_, m_0 hh, ?_⟩
        conv => whnf
        refine ⟨_, m_0 hh, ?_⟩
        conv => whnf
        rw [h8]
        refine ⟨_, _, _, m_24 hh, rfl, hT80, ?_⟩
        conv => whnf
        rw [y3]
        refine ⟨⟨_, m_0 hh⟩, jcall (c_X12_because hh S I' (va_up L' 5 f) F (nI 3) (nI y.2.1)) ?_⟩
        rw [h8]
        rintro r' h' ⟨rfl, rfl⟩
        conv => whnf
        refine hbad _ _ _ _ _ (by rw [hj]) ?_ hEb
        by_cases hT0 : T = 0
        · exact Or.inr hT0
        · exact Or.inl (hT (by omega))
      have g195 : ¬ (6 < y.2.1 ∨ ¬ y.2.1 = n) → ∀ (x6 : Option Value) (p : (Nat → Int64) × jLs), p = jstp n y f → G 195 [some (.ref 20), some (.int x), some (.int (jbi (q.2 = true ∨ q.1 < (zP z).1))), some (.int (nI (ts.length - 1))), some (.int (nI n)), x6] [] (jR h (rS S p.2) (rI I' p.2) (va_up L' 5 p.1) F) 0 0 := by
        intro cc x6 p hp
        rw [if_neg cc, ← hp] at hj
        refine hG [195, 67] 300 _ _ _ _ _ _ ?_
        conv => whnf
        refine ⟨_, m_0 hh, ?_⟩
        conv => whnf
        rw [rS0 h0]
        refine ⟨fun c3 => ?_, fun c3 => ?_⟩ <;> rw [jbi_0] at c3
        · rw [if_neg c3] at hj
          rw [rS, if_neg c3, rI, if_neg c3]
          conv => whnf
          refine ⟨_, m_0 hh, ?_⟩
          conv => whnf
          rw [h8, nI_add]
          refine ⟨trivial, _, m_0 hh, ?_⟩
          conv => whnf
          erw [ms_0 (upd S 8 (nI (T + 1)))]
          refine ih (T + 1) (by omega) _ p.1 x6 ?_ rfl (fun k a b => ?_) hj (fun _ => by omega)
          · exact h0
          · unfold upd
            rw [if_neg b]
            exact hS k a b
        · have c3 := Decidable.not_not.mp c3
          rw [if_pos c3] at hj
          have hS2 : upd S 0 (nI 0) = S := by rw [← h0, upd_same]
          have hEo := e_over (L := va_up L' 5 p.1) (hEn S h0 hS p.1) c3
          rw [hS2] at hEo
          have hEb := e_bec hEo (nI 4) p.2.2
          have h8b : rS S p.2 8 = nI T := by rw [rS, if_pos c3]; exact h8
          have h2b : rI I' p.2 2 0 = p.2.2 := by rw [rI, if_pos c3]; rfl
          rw [h8b] at hEb
          conv => whnf
          refine ⟨_, m_0 hh, ?_⟩
          conv => whnf
          refine ⟨_, _, _, m_2 hh, rfl, (show 0 < 3 by decide), ?_⟩
          conv => whnf
          rw [h2b]
          refine ⟨⟨_, m_0 hh⟩, jcall (c_X12_because hh (rS S p.2) (rI I' p.2) (va_up L' 5 p.1) F (nI 4) p.2.2) ?_⟩
          rw [h8b]
          rintro r' h' ⟨rfl, rfl⟩
          conv => whnf
          exact hbad _ _ _ _ _ (by rw [hj]) (Or.inl (by omega)) hEb
      have g120 : ¬ (6 < y.2.1 ∨ ¬ y.2.1 = n) → G 120 [some (.ref 20), some (.int x), some (.int (jbi (q.2 = true ∨ q.1 < (zP z).1))), some (.int (nI (ts.length - 1))), some (.int (nI n)), x5] [] (jR h S I' (va_up L' 5 f) F) 0 0 := by
        intro cc
        have hn6 : n ≤ 6 := by omega
        have hm := jmany_le hn6
        obtain ⟨b1, b2⟩ := jbq_ok k2 (by omega)
        rw [show y.2.1 = n by omega] at b2
        obtain ⟨cb, hcb⟩ : ∃ cb, cb = jbq y := ⟨_, rfl⟩
        rw [← hcb] at b1 b2
        have gs := g195 cc
        rw [jstp, ← hcb] at gs
        have had := c_X12_addsF hh h0 I' (va_up L' 5 f) F (false, nI 0) hn6 cb y.1.1.toInt64
        rw [rSf, rIf, va_up_self, va_up_up] at had
        have hpl := c_X12_plus hh h0 I' (va_up L' 5 f) F (false, nI 0) (f cb) y.1.1.toInt64 (nI cb)
        rw [rSf, rIf] at hpl
        refine hG [195] 300 _ _ _ _ _ _ ?_
        conv => whnf
        refine ⟨_, m_0 hh, ?_⟩
        conv => whnf
        refine ⟨_, m_0 hh, ?_⟩
        conv => whnf
        rw [h8]
        refine ⟨_, _, _, m_25 hh, rfl, hT80, ?_⟩
        conv => whnf
        rw [show va_up L' 5 f 25 T = y.2.2 from y4, b1]
        refine ⟨_, m_0 hh, ?_⟩
        conv => whnf
        refine ⟨_, m_0 hh, ?_⟩
        conv => whnf
        rw [h8]
        refine ⟨_, _, _, m_23 hh, rfl, hT80, ?_⟩
        conv => whnf
        rw [y2]
        refine ⟨fun c3 => ?_, fun c3 => ?_⟩ <;> rw [jbi_0] at c3
        · rw [if_neg c3] at gs
          conv => whnf
          refine ⟨_, m_0 hh, ?_⟩
          conv => whnf
          refine ⟨_, m_0 hh, ?_⟩
          conv => whnf
          refine ⟨_, _, _, m_5 hh, rfl, (show cb < 32 by omega), ?_⟩
          conv => whnf
          rw [show va_up L' 5 f 5 cb = f cb from rfl]
          refine ⟨_, m_0 hh, ?_⟩
          conv => whnf
          refine ⟨_, m_0 hh, ?_⟩
          conv => whnf
          rw [h8]
          refine ⟨_, _, _, m_22 hh, rfl, hT80, ?_⟩
          conv => whnf
          rw [y1]
          refine ⟨⟨_, m_0 hh⟩, jcall (hpl) ?_⟩
          rintro r h' ⟨rfl, rfl⟩
          conv => whnf
          refine ⟨_, _, _, m_5 hh, rfl, (show cb < 32 by omega), ?_⟩
          conv => whnf
          erw [ms_5 (vp_updL f cb (f cb + y.1.1.toInt64))]
          rw [va_up_up]
          exact gs _ _ rfl
        · have c3 := Decidable.not_not.mp c3
          rw [if_pos c3] at gs
          conv => whnf
          refine ⟨_, m_0 hh, ?_⟩
          conv => whnf
          refine ⟨_, m_0 hh, ?_⟩
          conv => whnf
          rw [h8]
          refine ⟨_, _, _, m_22 hh, rfl, hT80, ?_⟩
          conv => whnf
          rw [y1]
          refine ⟨⟨_, m_0 hh⟩, jcall (had) ?_⟩
          rintro r h' ⟨rfl, rfl⟩
          conv => whnf
          exact gs _ _ rfl
      refine hG [67, 103, 120] 300 _ _ _ _ _ _ ?_
      conv => whnf
      refine ⟨_, m_0 hh, ?_⟩
      conv => whnf
      rw [h8]
      refine ⟨fun qb => ?_, fun qb => ?_⟩ <;> rw [nI_ltI (by omega) (by omega)] at qb
      · omega
      conv => whnf
      refine ⟨_, m_0 hh, ?_⟩
      conv => whnf
      refine ⟨_, m_0 hh, ?_⟩
      conv => whnf
      rw [h8]
      refine ⟨_, _, _, m_24 hh, rfl, hT80, ?_⟩
      conv => whnf
      rw [y3]
      refine ⟨fun qb => ?_, fun qb => ?_⟩ <;> rw [nI_ltI (by omega) (by omega)] at qb
      · exact g103 (Or.inl qb)
      conv => whnf
      refine ⟨_, m_0 hh, ?_⟩
      conv => whnf
      refine ⟨_, m_0 hh, ?_⟩
      conv => whnf
      rw [h8]
      refine ⟨_, _, _, m_24 hh, rfl, hT80, ?_⟩
      conv => whnf
      rw [y3]
      refine ⟨fun c3 => ?_, fun c3 => ?_⟩ <;> rw [nI_eq (by omega) (by omega)] at c3
      · exact g120 (fun w => w.elim qb (fun w => w c3))
      · exact g103 (Or.inr c3)
  conv => whnf
  refine ⟨_, m_0 hh, ?_⟩
  conv => whnf
  rw [hS8]
  refine ⟨_, m_0 hh, ?_⟩
  conv => whnf
  refine ⟨_, _, _, m_24 hh, rfl, (show 0 < 80 by decide), ?_⟩
  conv => whnf
  rw [hI24]
  refine ⟨Or.inl rfl, _, m_0 hh, ?_⟩
  conv => whnf
  erw [ms_0 (upd S0 0 (nI 0))]
  refine ⟨⟨_, m_0 hh⟩, jcall (c_X12_empties hh _ I' L' F) ?_⟩
  rintro r h' ⟨rfl, rfl⟩
  conv => whnf
  rw [← hg0]
  refine ⟨trivial, _, m_0 hh, ?_⟩
  conv => whnf
  erw [ms_0 (upd (upd S0 0 (nI 0)) 8 (nI 0))]
  refine loop ts.length 0 (by omega) _ g0 none rfl rfl (fun k a b => ?_) (by rw [List.drop_zero]; exact hw2) (fun w => absurd w (by decide))
  unfold upd
  rw [if_neg b, if_neg a]
