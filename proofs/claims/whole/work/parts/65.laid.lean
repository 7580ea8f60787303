/-! gives(), laid of the reference against the state -/
def jokG (o : zOrd) (gv : Nat → Nat) (i v : Nat) : Nat → Bool
  | 0 => true
  | j + 1 => jokG o gv i v j && (decide (¬ zund o (j + 1) i ∨ gv (j + 1) ≤ v) && decide (¬ zund o i (j + 1) ∨ v < gv (j + 1)))
def jgvL (g : Nat → Nat) : Nat → Nat
  | 0 => 0
  | v + 1 => jgvL g v + g (v + 1)
def jgvS (o : zOrd) (k : Nat) : Nat → Nat → (Nat → Nat) → Nat
  | 0, _, _ => 1
  | f + 1, i, gv => jgvL (fun v => if jokG o gv i v (i - 1) = true then jgvS o k f (i + 1) (fun j => if j = i then v else gv j) else 0) k
theorem c_X12_gives {h : List jC} (hh : 53 ≤ h.length) (s : Nat → Int32) (L : jLss) (F : jFs) {o : zOrd} (hok : zordOk o) {k : Nat} (hk9 : k ≤ 9) {xk : Int32} (ek : xk = nI k) : ∀ (D f i : Nat) (gv : Nat → Nat) (I : jIs) (xi : Int32), f ≤ D → eOrd (s 3) (I 10) o → xi = nI i → 0 < i → o.1 + 1 = i + f → (∀ j, j < i → gv j ≤ 9 ∧ (0 < j → I 12 j = nI (gv j))) → jCt (jy_X12_gives (D + 1)) [.ref 20, .int xi, .int xk] (jR h s I L F) (fun r h' => r = some (.int (nI (jgvS o k f i gv))) ∧ ∃ w, h' = jR h s (va_up I 12 w) L F ∧ ∀ j, j < i → w j = I 12 j) := by
  have ho6 := hok.1
  have hv64 : ∀ k, k < 7 → o.2 k < 64 := by
    intro k hk
    have h2 : 2 ^ o.1 ≤ 2 ^ 6 := Nat.pow_le_pow_right (by decide) ho6
    have := (hok.2 k hk).1
    omega
  have base : ∀ (D i : Nat) (gv : Nat → Nat) (I : jIs) (xi : Int32), eOrd (s 3) (I 10) o → xi = nI i → o.1 + 1 = i → jCt (jy_X12_gives (D + 1)) [.ref 20, .int xi, .int xk] (jR h s I L F) (fun r h' => r = some (.int (nI (jgvS o k 0 i gv))) ∧ ∃ w, h' = jR h s (va_up I 12 w) L F ∧ ∀ j, j < i → w j = I 12 j) := by
    intro D i gv I xi ho ei hi
    refine jrun2 (js_X12_gives _ _) rfl rfl rfl (fun G hG hWW hBB => ?_)
    refine hG [] 300 _ _ _ _ _ _ ?_
    conv => whnf
    refine ⟨_, m_0 hh, ?_⟩
    conv => whnf
    rw [ho.1]
    refine ⟨fun qb => ?_, fun qb => ?_⟩ <;> rw [ei, nI_leI (by omega) (by omega)] at qb
    · omega
    conv => whnf
    exact ⟨rfl, I 12, by rw [va_up_same], fun _ _ => rfl⟩
  intro D
  induction D with
  | zero =>
    intro f i gv I xi hf ho ei hi0 hi hgv
    have hf0 : f = 0 := by omega
    subst hf0
    exact base 0 i gv I xi ho ei hi
  | succ D ih =>
    intro f i gv I xi hf ho ei hi0 hi hgv
    match f, hf, hi with
    | 0, hf, hi => exact base (D + 1) i gv I xi ho ei hi
    | f + 1, hf, hi =>
    rw [jgvS]
    obtain ⟨g, hg⟩ : ∃ g : Nat → Nat, g = fun v => if jokG o gv i v (i - 1) = true then jgvS o k f (i + 1) (fun j => if j = i then v else gv j) else 0 := ⟨_, rfl⟩
    rw [← hg]
    refine jrun2 (js_X12_gives _ _) rfl rfl rfl (fun G hG hWW hBB => ?_)
    have outer : ∀ u v, k = v + u → ∀ (w : Nat → Int32) (x5 x6 : Option Value), (∀ j, j < i → w j = I 12 j) → G 15 [some (.ref 20), some (.int xi), some (.int xk), some (.int (nI (jgvL g v))), some (.int (nI (v + 1))), x5, x6] [] (jR h s (va_up I 12 w) L F) 0 0 := by
      intro u
      induction u with
      | zero =>
        intro v hv w x5 x6 hw
        refine hG [15] 300 _ _ _ _ _ _ ?_
        conv => whnf
        refine ⟨fun qb => ?_, fun qb => ?_⟩ <;> rw [ek, nI_ltI (by omega) (by omega)] at qb
        case refine_2 => omega
        conv => whnf
        exact ⟨by rw [show k = v by omega], w, rfl, hw⟩
      | succ u ihu =>
        intro v hv w x5 x6 hw
        have i1 := ihu (v + 1) (by omega)
        rw [jgvL] at i1
        obtain ⟨w1, hw1⟩ : ∃ w1, w1 = upd w i (nI (v + 1)) := ⟨_, rfl⟩
        have hw1i : ∀ j, j < i → w1 j = I 12 j := fun j hj => by rw [hw1]; unfold upd; rw [if_neg (by omega)]; exact hw j hj
        have fin : G 103 [some (.ref 20), some (.int xi), some (.int xk), some (.int (nI (jgvL g v))), some (.int (nI (v + 1))), some (.int (jbi (jokG o gv i (v + 1) (i - 1) = true))), some (.int (nI i))] [] (jR h s (va_up I 12 w1) L F) 0 0 := by
          by_cases hq : jokG o gv i (v + 1) (i - 1) = true
          · have hgi : g (v + 1) = jgvS o k f (i + 1) (fun j => if j = i then v + 1 else gv j) := by rw [hg]; exact if_pos hq
            have hc := ih f (i + 1) (fun j => if j = i then v + 1 else gv j) (va_up I 12 w1) (xi + nI 1) (by omega) ho (by rw [ei, nI_add]) (by omega) (by omega) (fun j hj => by
              by_cases hji : j = i
              · subst hji
                rw [if_pos rfl]
                refine ⟨by omega, fun _ => ?_⟩
                rw [va_up_self, hw1]
                unfold upd
                rw [if_pos rfl]
              · rw [if_neg hji]
                refine ⟨(hgv j (by omega)).1, fun h0 => ?_⟩
                rw [va_up_self, hw1i j (by omega)]
                exact (hgv j (by omega)).2 h0)
            rw [jbi_t hq]
            refine hG [15] 300 _ _ _ _ _ _ ?_
            conv => whnf
            refine ⟨fun q => absurd q (by decide), fun _ => ?_⟩
            conv => whnf
            refine ⟨⟨_, m_0 hh⟩, jcall hc ?_⟩
            rintro r h' ⟨rfl, w2, rfl, hw2⟩
            rw [va_up_up, ← hgi]
            conv => whnf
            rw [nI_add, nI_add]
            refine i1 w2 _ _ (fun j hj => ?_)
            rw [hw2 j (by omega), va_up_self]
            exact hw1i j hj
          · have hgi : g (v + 1) = 0 := by rw [hg]; exact if_neg hq
            rw [jbi_f hq]
            rw [hgi] at i1
            refine hG [15] 300 _ _ _ _ _ _ ?_
            conv => whnf
            refine ⟨fun _ => ?_, fun q => absurd rfl q⟩
            conv => whnf
            rw [nI_add, nI_add]
            exact i1 w1 _ _ hw1i
        have inner : ∀ y j, i = j + 1 + y → G 35 [some (.ref 20), some (.int xi), some (.int xk), some (.int (nI (jgvL g v))), some (.int (nI (v + 1))), some (.int (jbi (jokG o gv i (v + 1) j = true))), some (.int (nI (j + 1)))] [] (jR h s (va_up I 12 w1) L F) 0 0 := by
          intro y
          induction y with
          | zero =>
            intro j hj
            refine hG [35, 103] 300 _ _ _ _ _ _ ?_
            conv => whnf
            refine ⟨fun qb => ?_, fun qb => ?_⟩ <;> rw [ei, nI_leI (by omega) (by omega)] at qb
            case refine_2 => omega
            rw [show i - 1 = j by omega, show i = j + 1 by omega] at fin
            rw [show i = j + 1 by omega]
            exact fin
          | succ y ihy =>
            intro j hj
            have i2 := ihy (j + 1) (by omega)
            rw [jokG] at i2
            obtain ⟨g1, g2⟩ := hgv (j + 1) (by omega)
            have hwj : va_up I 12 w1 12 (j + 1) = nI (gv (j + 1)) := by rw [va_up_self, hw1i _ (by omega)]; exact g2 (by omega)
            have toA : ∀ b : Bool, (jokG o gv i (v + 1) j && (decide (¬ zund o (j + 1) i ∨ gv (j + 1) ≤ v + 1) && decide (¬ zund o i (j + 1) ∨ v + 1 < gv (j + 1)))) = b → G 95 [some (.ref 20), some (.int xi), some (.int xk), some (.int (nI (jgvL g v))), some (.int (nI (v + 1))), some (.int (jbi (jokG o gv i (v + 1) j = true))), some (.int (nI (j + 1)))] [.int (jbi (b = true))] (jR h s (va_up I 12 w1) L F) 0 0 := by
              intro b hb
              rw [hb] at i2
              refine hG [35] 300 _ _ _ _ _ _ ?_
              conv => whnf
              rw [nI_add]
              exact i2
            have to94 : (jokG o gv i (v + 1) j && (decide (¬ zund o (j + 1) i ∨ gv (j + 1) ≤ v + 1) && decide (¬ zund o i (j + 1) ∨ v + 1 < gv (j + 1)))) = false → G 94 [some (.ref 20), some (.int xi), some (.int xk), some (.int (nI (jgvL g v))), some (.int (nI (v + 1))), some (.int (jbi (jokG o gv i (v + 1) j = true))), some (.int (nI (j + 1)))] [] (jR h s (va_up I 12 w1) L F) 0 0 := by
              intro hb
              refine hG [95] 300 _ _ _ _ _ _ ?_
              conv => whnf
              exact toA false hb
            have to90 : (jokG o gv i (v + 1) j && (decide (¬ zund o (j + 1) i ∨ gv (j + 1) ≤ v + 1) && decide (¬ zund o i (j + 1) ∨ v + 1 < gv (j + 1)))) = true → G 90 [some (.ref 20), some (.int xi), some (.int xk), some (.int (nI (jgvL g v))), some (.int (nI (v + 1))), some (.int (jbi (jokG o gv i (v + 1) j = true))), some (.int (nI (j + 1)))] [] (jR h s (va_up I 12 w1) L F) 0 0 := by
              intro hb
              refine hG [95] 300 _ _ _ _ _ _ ?_
              conv => whnf
              exact toA true hb
            have at68 : jokG o gv i (v + 1) j = true → (¬ zund o (j + 1) i ∨ gv (j + 1) ≤ v + 1) → G 68 [some (.ref 20), some (.int xi), some (.int xk), some (.int (nI (jgvL g v))), some (.int (nI (v + 1))), some (.int (jbi (jokG o gv i (v + 1) j = true))), some (.int (nI (j + 1)))] [] (jR h s (va_up I 12 w1) L F) 0 0 := by
              intro k1 k2
              refine hG [90, 94] 300 _ _ _ _ _ _ ?_
              conv => whnf
              refine ⟨⟨_, m_0 hh⟩, jcall (c_X12_isUnderB hh s (va_up I 12 w1) L F (a := i) (b := j + 1) (ho.2 (j + 1) (by omega)) (hv64 _ (by omega)) (by omega) (by omega) ei rfl) ?_⟩
              rintro r h' ⟨rfl, rfl⟩
              conv => whnf
              refine ⟨fun c => ?_, fun c => ?_⟩ <;> rw [jbi_0] at c
              · exact to90 (by rw [k1, decide_eq_true k2, decide_eq_true (Or.inl c)]; rfl)
              have c := Decidable.not_not.mp c
              conv => whnf
              refine ⟨_, m_0 hh, ?_⟩
              conv => whnf
              refine ⟨_, _, _, m_12 hh, rfl, (show j + 1 < 7 by omega), ?_⟩
              conv => whnf
              rw [hwj]
              refine ⟨fun c2 => ?_, fun c2 => ?_⟩ <;> rw [nI_leI (by omega) (by omega)] at c2
              · exact to94 (by rw [k1, decide_eq_true k2, decide_eq_false (fun q => q.elim (fun q => q c) (fun q => by omega))]; rfl)
              · exact to90 (by rw [k1, decide_eq_true k2, decide_eq_true (Or.inr (by omega))]; rfl)
            refine hG [35, 68, 94] 300 _ _ _ _ _ _ ?_
            conv => whnf
            refine ⟨fun qb => ?_, fun qb => ?_⟩ <;> rw [ei, nI_leI (by omega) (by omega)] at qb
            · omega
            conv => whnf
            refine ⟨fun c => ?_, fun c => ?_⟩ <;> rw [jbi_0] at c
            · exact to94 (by rw [Bool.not_eq_true _ |>.mp c]; rfl)
            have c := Decidable.not_not.mp c
            conv => whnf
            refine ⟨⟨_, m_0 hh⟩, jcall (c_X12_isUnderB hh s (va_up I 12 w1) L F (a := j + 1) (b := i) (ho.2 i (by omega)) (hv64 _ (by omega)) (by omega) (by omega) rfl ei) ?_⟩
            rintro r h' ⟨rfl, rfl⟩
            conv => whnf
            refine ⟨fun c1 => ?_, fun c1 => ?_⟩ <;> rw [jbi_0] at c1
            · exact at68 c (Or.inl c1)
            have c1 := Decidable.not_not.mp c1
            conv => whnf
            refine ⟨_, m_0 hh, ?_⟩
            conv => whnf
            refine ⟨_, _, _, m_12 hh, rfl, (show j + 1 < 7 by omega), ?_⟩
            conv => whnf
            rw [hwj]
            refine ⟨fun c2 => ?_, fun c2 => ?_⟩ <;> rw [nI_ltI (by omega) (by omega)] at c2
            · exact to94 (by rw [c, decide_eq_false (fun q => q.elim (fun q => q c1) (fun q => by omega))]; rfl)
            · exact at68 c (Or.inr (by omega))
        refine hG [15, 35] 300 _ _ _ _ _ _ ?_
        conv => whnf
        refine ⟨fun qb => ?_, fun qb => ?_⟩ <;> rw [ek, nI_ltI (by omega) (by omega)] at qb
        · omega
        conv => whnf
        refine ⟨_, m_0 hh, ?_⟩
        conv => whnf
        refine ⟨_, _, _, m_12 hh, ei, (show i < 7 by omega), ?_⟩
        conv => whnf
        erw [ms_12 (upd w i (nI (v + 1)))]
        rw [va_up_up, ← hw1]
        exact inner (i - 1) 0 (by omega)
    refine hG [15] 300 _ _ _ _ _ _ ?_
    conv => whnf
    refine ⟨_, m_0 hh, ?_⟩
    conv => whnf
    rw [ho.1]
    refine ⟨fun qb => ?_, fun qb => ?_⟩ <;> rw [ei, nI_leI (by omega) (by omega)] at qb
    case refine_2 => omega
    conv => whnf
    have l0 := outer k 0 (by omega) (I 12) none none (fun _ _ => rfl)
    rw [va_up_same] at l0
    exact l0
def zlaid (z : zS) (x : Int32) : Value := if 0 ≤ x.toInt ∧ x.toInt ≤ 9 then .int (nI (jgvS (zO z) (tn x) (zO z).1 1 (fun _ => 0))) else .int (-1)
theorem r_laid {h : List jC} (hh : 53 ≤ h.length) {s : Nat → Int32} {I : jIs} {L : jLss} {F : jFs} {z : zS} (hE : EncR s I L F z) (hz : zWF z) (x : Int32) : jCt jy_X12_laid [.ref 20, .int x] (jR h s I L F) (zPost h (zlaid z x) z) := by
  obtain ⟨e1, e2, e3, e4, e5, e6, e7, e8, e9, e10⟩ := id hE
  have hok := hz.2.2.1
  have ho6 := hok.1
  by_cases c : 0 ≤ x.toInt ∧ x.toInt ≤ 9
  · rw [zlaid, if_pos c]
    have hx := tn_eq c.1
    have hx9 : tn x ≤ 9 := by have := tn_lt (n := 10) c.1 (by have := c.2; omega); omega
    generalize tn x = k at *
    refine jrun2 (js_X12_laid _) rfl rfl rfl (fun G hG hW hB => ?_)
    refine hG [] 300 _ _ _ _ _ _ ?_
    conv => whnf
    refine jcall (c_X12_in x _ _ _) ?_
    rintro r h' ⟨rfl, rfl⟩
    conv => whnf
    refine ⟨fun c1 => absurd c (by rw [jbi_0, j0, j9] at c1; exact c1), fun _ => ?_⟩
    conv => whnf
    have hc := c_X12_gives hh s L F hok hx9 hx 7 (zO z).1 1 (fun _ => 0) I (nI 1) (by omega) e4 rfl (by decide) (by omega) (fun j hj => ⟨by decide, fun h0 => by omega⟩)
    refine ⟨⟨_, m_0 hh⟩, jcall hc ?_⟩
    rintro r h' ⟨rfl, w, rfl, -⟩
    conv => whnf
    exact ⟨rfl, s, _, L, F, rfl, hE⟩
  · rw [zlaid, if_neg c]
    refine jrun2 (js_X12_laid _) rfl rfl rfl (fun G hG hW hB => ?_)
    refine hG [] 300 _ _ _ _ _ _ ?_
    conv => whnf
    refine jcall (c_X12_in x _ _ _) ?_
    rintro r h' ⟨rfl, rfl⟩
    conv => whnf
    refine ⟨fun _ => ?_, fun c1 => absurd c1 (fun q => q (jbi_f (by rw [j0, j9]; exact c)))⟩
    conv => whnf
    exact ⟨rfl, s, I, L, F, rfl, hE⟩
