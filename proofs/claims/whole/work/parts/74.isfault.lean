/-! isFault() of the reference: the terms of a text -/
abbrev zTm : Type := (Int32 × Bool) × (Nat × Int64)
def jtm (t : zTap) (a : Nat) (x : Int32) : zTm := ((x * nI (jtrm t a).2.1, (jtrm t a).2.2), (jtrm t a).1.2)
abbrev jsgn (t : zTap) (a : Nat) : Int32 := if jhere t a = nI 43 then nI 1 else -1
abbrev jpm (t : zTap) (q : Nat × Bool) : Prop := q.2 = false ∧ (jhere t q.1 = nI 43 ∨ jhere t q.1 = nI 45)
def jtx (t : zTap) : Nat → Nat → Int32 → List zTm × (Nat × Bool)
  | 0, a, _ => ([], (a, true))
  | n + 1, a, x => if jpm t (jtrm t a).1.1 then (jtm t a x :: (jtx t n ((jtrm t a).1.1.1 + 1) (jsgn t (jtrm t a).1.1.1)).1, (jtx t n ((jtrm t a).1.1.1 + 1) (jsgn t (jtrm t a).1.1.1)).2) else ([jtm t a x], (jtrm t a).1.1)
def eTms (I : jIs) (L : jLss) (ts : List zTm) : Prop := ∀ i x, ts[i]? = some x → I 22 i = x.1.1 ∧ I 23 i = jbi (x.1.2 = true) ∧ I 24 i = nI x.2.1 ∧ L 25 i = x.2.2
theorem jtrm_go (t : zTap) (a : Nat) (h : (jtrm t a).1.1.2 = false) : a + 2 ≤ (jtrm t a).1.1.1 := by
  revert h
  unfold jtrm
  dsimp only
  generalize jdig t a 4 = d
  split
  · intro h
    cases h
  · have q2 : (jmust t (nI 40) (a + d.2 + 1, false)).2 = false → a + d.2 + 2 ≤ (jmust t (nI 40) (a + d.2 + 1, false)).1 := by
      unfold jmust
      rw [if_neg Bool.false_ne_true]
      split
      · intro _
        exact Nat.le_refl _
      · intro h
        cases h
    generalize jmust t (nI 40) (a + d.2 + 1, false) = q at *
    have g2 : ∀ (n : Nat) (p : Nat × Bool) (u : Nat × Int64), p.1 ≤ (jfgs t n p u).1.1 := by
      intro n
      induction n with
      | zero => intro p u; exact Nat.le_refl _
      | succ n ih =>
        intro p u
        rw [jfgs]
        split
        · have h1 := ih (jfig t (p.1 + 1, false) u).1 (jfig t (p.1 + 1, false) u).2
          have h2 := (jfig_le t (p.1 + 1, false) u).2.2
          dsimp only at h2
          omega
        · exact Nat.le_refl _
    intro h
    by_cases hq : q.2 = false
    · have h1 := q2 hq
      refine Nat.le_trans ?_ (jmust_ge t (nI 41) _)
      split
      · have g1 := (jfig_le t q (0, 0)).2.2
        have g3 := g2 81 (jfig t q (0, 0)).1 (jfig t q (0, 0)).2
        omega
      · dsimp only
        omega
    · rw [if_neg (fun w => hq w.1)] at h
      rw [jmust_ok t _ _ (by simpa using hq)] at h
      exact absurd h hq
theorem eTms_push {I : jIs} {L : jLss} {ts : List zTm} (h : eTms I L ts) {T : Nat} (hT : ts.length = T) (x : zTm) : eTms (va_up (va_up (va_up I 22 (upd (I 22) T x.1.1)) 23 (upd (I 23) T (jbi (x.1.2 = true)))) 24 (upd (I 24) T (nI x.2.1))) (va_up L 25 (vp_updL (L 25) T x.2.2)) (ts ++ [x]) := by
  intro i y hi
  show upd (I 22) T x.1.1 i = _ ∧ upd (I 23) T (jbi (x.1.2 = true)) i = _ ∧ upd (I 24) T (nI x.2.1) i = _ ∧ vp_updL (L 25) T x.2.2 i = _
  by_cases hl : i < ts.length
  · rw [List.getElem?_append_left hl] at hi
    unfold upd vp_updL
    rw [if_neg (by omega), if_neg (by omega), if_neg (by omega), if_neg (by omega)]
    exact h i y hi
  · rw [List.getElem?_append_right (by omega)] at hi
    have hz : i - ts.length < 1 := (List.getElem?_eq_some_iff.mp hi).1
    rw [show i - ts.length = 0 by omega] at hi
    cases hi
    unfold upd vp_updL
    rw [if_pos (by omega), if_pos (by omega), if_pos (by omega), if_pos (by omega)]
    exact ⟨rfl, rfl, rfl, rfl⟩
theorem jsR_8 (s : Nat → Int32) (q : Nat × Bool) (hq : q.2 = false) (T : Nat) (x : Int32) : upd (upd (jsR (upd s 8 x) q) 6 (nI (q.1 + 1))) 8 (nI T) = jsR (upd s 8 (nI T)) (q.1 + 1, false) := by
  funext i
  dsimp only [jsR]
  unfold upd
  by_cases h8 : i = 8
  · subst h8
    simp
  · by_cases h6 : i = 6
    · subst h6
      simp
    · by_cases h7 : i = 7
      · subst h7
        simp [hq]
      · simp [h8, h6, h7]
theorem jsR_0 (s : Nat → Int32) : upd (upd (upd s 6 (nI 0)) 7 (nI 0)) 8 (nI 0) = jsR (upd s 8 (nI 0)) (0, false) := by
  funext i
  dsimp only [jsR]
  rw [jbi_f (by decide)]
  unfold upd
  by_cases h8 : i = 8
  · subst h8
    simp
  · by_cases h6 : i = 6
    · subst h6
      simp
    · by_cases h7 : i = 7
      · subst h7
        simp
      · simp [h8, h6, h7]
theorem c_X12_isFault {h : List jC} (hh : 53 ≤ h.length) (s : Nat → Int32) (I : jIs) (L : jLss) (F : jFs) {t : zTap} (ht : eTap (s 5) (I 21) t) (ht80 : t.1 ≤ 80) : jCt jy_X12_isFault [.ref 20] (jR h s I L F) (fun r' h' => ∃ I' L', r' = some (.int (jbi ((jtx t 82 0 (nI 1)).2.2 = true ∨ (jtx t 82 0 (nI 1)).2.1 < t.1))) ∧ h' = jR h (jsR (upd s 8 (nI ((jtx t 82 0 (nI 1)).1.length - 1))) (jtx t 82 0 (nI 1)).2) I' L' F ∧ eTms I' L' (jtx t 82 0 (nI 1)).1 ∧ (∀ k, k ≠ 22 → k ≠ 23 → k ≠ 24 → I' k = I k) ∧ (∀ k, k ≠ 25 → L' k = L k)) := by
  generalize hres : jtx t 82 0 (nI 1) = res
  generalize hΦ : (fun (r' : Option Value) (h' : List jC) => ∃ I' L', r' = some (.int (jbi (res.2.2 = true ∨ res.2.1 < t.1))) ∧ h' = jR h (jsR (upd s 8 (nI (res.1.length - 1))) res.2) I' L' F ∧ eTms I' L' res.1 ∧ (∀ k, k ≠ 22 → k ≠ 23 → k ≠ 24 → I' k = I k) ∧ (∀ k, k ≠ 25 → L' k = L k)) = Φ
  refine jrun2 (js_X12_isFault _) rfl rfl rfl (fun G hG hWW hBB => ?_)
  have h5 : ∀ (T : Nat) (q : Nat × Bool), jsR (upd s 8 (nI T)) q 5 = s 5 := fun _ _ => rfl
  have h6 : ∀ (T : Nat) (q : Nat × Bool), jsR (upd s 8 (nI T)) q 6 = nI q.1 := fun _ _ => rfl
  have h7 : ∀ (T : Nat) (q : Nat × Bool), jsR (upd s 8 (nI T)) q 7 = jbi (q.2 = true) := fun _ _ => rfl
  have h8 : ∀ (T : Nat) (q : Nat × Bool), jsR (upd s 8 (nI T)) q 8 = nI T := fun _ _ => rfl
  have fin : ∀ (T : Nat) (q : Nat × Bool) (x1 : Option Value) (I' : jIs) (L' : jLss) (pre : List zTm), pre.length = T + 1 → eTms I' L' pre → (∀ k, k ≠ 22 → k ≠ 23 → k ≠ 24 → I' k = I k) → (∀ k, k ≠ 25 → L' k = L k) → q.1 ≤ t.1 → res = (pre, q) → G 88 [some (.ref 20), x1] [] (jR h (jsR (upd s 8 (nI T)) q) I' L' F) 0 0 := by
    intro T q x1 I' L' pre hl hts hI hL hqt hr
    have hd : ∀ v, v = jbi (res.2.2 = true ∨ res.2.1 < t.1) → Φ (some (.int v)) (jR h (jsR (upd s 8 (nI T)) q) I' L' F) := by
      intro v hv
      rw [← hΦ]
      refine ⟨I', L', by rw [hv], ?_, ?_, hI, hL⟩
      · rw [hr]
        dsimp only
        rw [hl, Nat.add_sub_cancel]
      · rw [hr]
        exact hts
    rw [hr] at hd
    dsimp only at hd
    refine hG [] 300 _ _ _ _ _ _ ?_
    conv => whnf
    refine ⟨_, m_0 hh, ?_⟩
    conv => whnf
    rw [h7]
    refine ⟨fun c => ?_, fun c => ?_⟩ <;> rw [jbi_0] at c
    · conv => whnf
      refine ⟨Or.inr rfl, hd _ ?_⟩
      rw [jbi_t (Or.inl (Decidable.not_not.mp c))]
    · conv => whnf
      refine ⟨_, m_0 hh, ?_⟩
      conv => whnf
      refine ⟨_, m_0 hh, ?_⟩
      conv => whnf
      rw [h6, h5, ht.1]
      refine ⟨fun qb => ?_, fun qb => ?_⟩ <;> rw [nI_leI (by omega) (by omega)] at qb
      · conv => whnf
        refine ⟨Or.inl rfl, hd _ ?_⟩
        rw [jbi_f (fun w => w.elim c (by omega))]
      · conv => whnf
        refine ⟨Or.inr rfl, hd _ ?_⟩
        rw [jbi_t (Or.inr (by omega))]
  have loop : ∀ (n T : Nat) (q : Nat × Bool) (x1 : Option Value) (I' : jIs) (L' : jLss) (pre : List zTm), pre.length = T + 1 → eTms I' L' pre → (∀ k, k ≠ 22 → k ≠ 23 → k ≠ 24 → I' k = I k) → (∀ k, k ≠ 25 → L' k = L k) → q.1 ≤ t.1 → (q.2 = false → 2 * (T + 1) ≤ q.1) → t.1 + 1 ≤ q.1 + n → res = (if jpm t q then (pre ++ (jtx t n (q.1 + 1) (jsgn t q.1)).1, (jtx t n (q.1 + 1) (jsgn t q.1)).2) else (pre, q)) → G 20 [some (.ref 20), x1] [] (jR h (jsR (upd s 8 (nI T)) q) I' L' F) 0 0 := by
    intro n
    induction n with
    | zero =>
      intro T q x1 I' L' pre hl hts hI hL hqt h2 hn hr
      omega
    | succ n ih =>
      intro T q x1 I' L' pre hl hts hI hL hqt h2 hn hr
      have ht2 : eTap (jsR (upd s 8 (nI T)) q 5) (I' 21) t := by rw [hI 21 (by decide) (by decide) (by decide)]; exact ht
      have f88 : ¬ jpm t q → G 88 [some (.ref 20), x1] [] (jR h (jsR (upd s 8 (nI T)) q) I' L' F) 0 0 := by
        intro hno
        rw [if_neg hno] at hr
        exact fin T q x1 I' L' pre hl hts hI hL hqt hr
      have g59 : jpm t q → ∀ v, v = jsgn t q.1 → G 59 [some (.ref 20), x1] [.int v] (jR h (jsR (upd s 8 (nI T)) q) I' L' F) 0 0 := by
        intro hyes v hv
        rw [if_pos hyes] at hr
        have hqt2 : q.1 < t.1 := by
          rcases hyes.2 with e | e
          · exact jhere_in e (by decide)
          · exact jhere_in e (by decide)
        have hT := h2 hyes.1
        rw [← hv] at hr
        refine hG [59, 20] 300 _ _ _ _ _ _ ?_
        conv => whnf
        refine ⟨_, m_0 hh, ?_⟩
        conv => whnf
        rw [h6, nI_add]
        refine ⟨trivial, _, m_0 hh, ?_⟩
        conv => whnf
        erw [ms_0 (upd (jsR (upd s 8 (nI T)) q) 6 (nI (q.1 + 1)))]
        refine ⟨_, m_0 hh, ?_⟩
        conv => whnf
        rw [show upd (jsR (upd s 8 (nI T)) q) 6 (nI (q.1 + 1)) 8 = nI T from rfl, nI_add]
        refine ⟨trivial, _, m_0 hh, ?_⟩
        conv => whnf
        erw [ms_0 (upd (upd (jsR (upd s 8 (nI T)) q) 6 (nI (q.1 + 1))) 8 (nI (T + 1)))]
        rw [jsR_8 s q hyes.1]
        have hti := jtrm_in t (a := q.1 + 1) (by omega)
        have htg := jtrm_go t (q.1 + 1)
        refine ⟨⟨_, m_0 hh⟩, jcall (c_X12_term hh (upd s 8 (nI (T + 1))) I' L' F (show eTap (upd s 8 (nI (T + 1)) 5) (I' 21) t from ht2) ht80 (a := q.1 + 1) (by omega) (T := T + 1) rfl (by omega) v) ?_⟩
        rintro r h' ⟨rfl, rfl⟩
        conv => whnf
        refine ih (T + 1) (jtrm t (q.1 + 1)).1.1 _ _ _ (pre ++ [jtm t (q.1 + 1) v]) (by rw [List.length_append, hl]; rfl) (eTms_push hts hl (jtm t (q.1 + 1) v)) (fun k a b c => ?_) (fun k a => ?_) hti.1 (fun w => ?_) (by omega) ?_
        · unfold va_up
          rw [if_neg c, if_neg b, if_neg a]
          exact hI k a b c
        · unfold va_up
          rw [if_neg a]
          exact hL k a
        · have := htg w
          omega
        · rw [hr, jtx]
          split
          · rw [List.append_assoc]
            rfl
          · rfl
      have g45 : jpm t q → G 45 [some (.ref 20), x1] [] (jR h (jsR (upd s 8 (nI T)) q) I' L' F) 0 0 := by
        intro hyes
        refine hG [45, 59] 300 _ _ _ _ _ _ ?_
        conv => whnf
        refine ⟨⟨_, m_0 hh⟩, jcall (c_X12_here hh _ I' L' F ht2 ht80 (h6 T q) (by omega)) ?_⟩
        rintro r h' ⟨rfl, rfl⟩
        conv => whnf
        refine ⟨fun c => ?_, fun c => ?_⟩
        · exact g59 hyes _ (by rw [jsgn, if_neg c])
        · exact g59 hyes _ (by rw [jsgn, if_pos c])
      refine hG [20, 88, 45] 300 _ _ _ _ _ _ ?_
      conv => whnf
      refine ⟨_, m_0 hh, ?_⟩
      conv => whnf
      rw [h7]
      refine ⟨fun c => ?_, fun c => ?_⟩ <;> rw [jbi_0] at c
      · exact f88 (fun w => absurd w.1 (by rw [Decidable.not_not.mp c]; decide))
      have c := Bool.not_eq_true _ |>.mp c
      conv => whnf
      refine ⟨⟨_, m_0 hh⟩, jcall (c_X12_here hh _ I' L' F ht2 ht80 (h6 T q) (by omega)) ?_⟩
      rintro r h' ⟨rfl, rfl⟩
      conv => whnf
      refine ⟨fun c2 => ?_, fun c2 => ?_⟩
      · exact g45 ⟨c, Or.inl c2⟩
      conv => whnf
      refine ⟨⟨_, m_0 hh⟩, jcall (c_X12_here hh _ I' L' F ht2 ht80 (h6 T q) (by omega)) ?_⟩
      rintro r h' ⟨rfl, rfl⟩
      conv => whnf
      refine ⟨fun c3 => ?_, fun c3 => ?_⟩
      · exact f88 (fun w => w.2.elim c2 c3)
      · exact g45 ⟨c, Or.inr c3⟩
  refine hG [20] 300 _ _ _ _ _ _ ?_
  conv => whnf
  refine ⟨trivial, _, m_0 hh, ?_⟩
  conv => whnf
  erw [ms_0 (upd s 6 (nI 0))]
  refine ⟨Or.inl rfl, _, m_0 hh, ?_⟩
  conv => whnf
  erw [ms_0 (upd (upd s 6 (nI 0)) 7 (nI 0))]
  refine ⟨trivial, _, m_0 hh, ?_⟩
  conv => whnf
  erw [ms_0 (upd (upd (upd s 6 (nI 0)) 7 (nI 0)) 8 (nI 0))]
  rw [jsR_0]
  have hti := jtrm_in t (a := 0) (by omega)
  have htg := jtrm_go t 0
  refine ⟨⟨_, m_0 hh⟩, jcall (c_X12_term hh (upd s 8 (nI 0)) I L F (show eTap (upd s 8 (nI 0) 5) (I 21) t from ht) ht80 (a := 0) (by omega) (T := 0) rfl (by decide) (nI 1)) ?_⟩
  rintro r h' ⟨rfl, rfl⟩
  conv => whnf
  refine loop 81 0 (jtrm t 0).1.1 _ _ _ ([] ++ [jtm t 0 (nI 1)]) rfl (eTms_push (fun i x hi => by cases hi) rfl (jtm t 0 (nI 1))) (fun k a b c => ?_) (fun k a => ?_) hti.1 (fun w => ?_) (by omega) ?_
  · unfold va_up
    rw [if_neg c, if_neg b, if_neg a]
  · unfold va_up
    rw [if_neg a]
  · have := htg w
    omega
  · rw [← hres, jtx]
    split
    · rfl
    · rfl
